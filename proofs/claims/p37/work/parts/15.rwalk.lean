section
def wC_Rheap_2 (a1 : Int) (k : Int → gSt → Prop) (r2 : Int → gSt → Prop) (X2_34 : gSt → Prop) (v2 : Int) (M : gSt) : Prop :=

  (wrap (M 0 13) ≤ wrap v2 →
    X2_34  M) ∧
  (wrap v2 < wrap (M 0 13) →
    (0 ≤ v2 ∧ v2 < 64) ∧ (w_Rafter (M 8 v2) a1 2 M (fun r24c M24 => (0 ≤ v2 ∧ v2 < 64) ∧ (∀ M27 : gSt, M27 = wr M24 9 v2 r24c → (r2 (v2 + 1) M27)))))
def wL_Rheap_2 (a1 : Int) (k : Int → gSt → Prop)  (X2_34 : gSt → Prop) : Nat → Int → gSt → Prop
  | 0 => fun _ _ => False
  | n + 1 => fun v2 M => wC_Rheap_2 a1 k  (wL_Rheap_2 a1 k  X2_34 n) X2_34 v2 M
def wB_Rheap_84 (a1 : Int) (k : Int → gSt → Prop) (r38 : Int → Int → gSt → Prop) (X38_112 : Int → gSt → Prop) (r52 : Int → Int → Int → Int → gSt → Prop) (X52_93 : Int → Int → Int → gSt → Prop) (v2 : Int) (v3 : Int) (v5 : Int) (s0 : Int) (s1 : Int) (M : gSt) : Prop :=
∀ x4_85 : Int, x4_85 = s1 + s0 → (r52 v2 v3 x4_85 (v5 + 1) M)
def wC_Rheap_52 (a1 : Int) (k : Int → gSt → Prop) (r38 : Int → Int → gSt → Prop) (X38_112 : Int → gSt → Prop) (r52 : Int → Int → Int → Int → gSt → Prop) (X52_93 : Int → Int → Int → gSt → Prop) (v2 : Int) (v3 : Int) (v4 : Int) (v5 : Int) (M : gSt) : Prop :=

  (wrap (M 0 13) ≤ wrap v5 →
    X52_93 v2 v3 v4 M) ∧
  (wrap v5 < wrap (M 0 13) →
    (0 ≤ v5 ∧ v5 < 64) ∧ ((0 ≤ v3 ∧ v3 < 64) ∧ (
    (¬ wrap (M 9 v5) = wrap (M 9 v3) →
      wB_Rheap_84 a1 k r38 X38_112 r52 X52_93 v2 v3 v5 0 v4 M) ∧
    (wrap (M 9 v5) = wrap (M 9 v3) →
      wB_Rheap_84 a1 k r38 X38_112 r52 X52_93 v2 v3 v5 1 v4 M))))
def wL_Rheap_52 (a1 : Int) (k : Int → gSt → Prop) (r38 : Int → Int → gSt → Prop) (X38_112 : Int → gSt → Prop) (X52_93 : Int → Int → Int → gSt → Prop) : Nat → Int → Int → Int → Int → gSt → Prop
  | 0 => fun _ _ _ _ _ => False
  | n + 1 => fun v2 v3 v4 v5 M => wC_Rheap_52 a1 k r38 X38_112 (wL_Rheap_52 a1 k r38 X38_112 X52_93 n) X52_93 v2 v3 v4 v5 M
def wB_Rheap_105 (a1 : Int) (k : Int → gSt → Prop) (r38 : Int → Int → gSt → Prop) (X38_112 : Int → gSt → Prop) (v3 : Int) (s0 : Int) (M : gSt) : Prop :=
r38 s0 (v3 + 1) M
def wC_Rheap_38 (a1 : Int) (k : Int → gSt → Prop) (r38 : Int → Int → gSt → Prop) (X38_112 : Int → gSt → Prop) (v2 : Int) (v3 : Int) (M : gSt) : Prop :=

  (wrap (M 0 13) ≤ wrap v3 →
    X38_112 v2 M) ∧
  (wrap v3 < wrap (M 0 13) →
    ∃ n, wL_Rheap_52 a1 k r38 X38_112 (fun u2_52 u3_52 u4_52 M52 =>

      (wrap u4_52 ≤ wrap u2_52 →
        wB_Rheap_105 a1 k r38 X38_112 u3_52 u2_52 M52) ∧
      (wrap u2_52 < wrap u4_52 →
        wB_Rheap_105 a1 k r38 X38_112 u3_52 u4_52 M52)) n v2 v3 0 0 M)
def wL_Rheap_38 (a1 : Int) (k : Int → gSt → Prop)  (X38_112 : Int → gSt → Prop) : Nat → Int → Int → gSt → Prop
  | 0 => fun _ _ _ => False
  | n + 1 => fun v2 v3 M => wC_Rheap_38 a1 k  (wL_Rheap_38 a1 k  X38_112 n) X38_112 v2 v3 M
def w_Rheap (a1 : Int) (M : gSt) (k : Int → gSt → Prop) : Prop :=
∃ n, wL_Rheap_2 a1 k  (fun  M2 =>
    ∃ n, wL_Rheap_38 a1 k  (fun u2_38 M38 =>
      k u2_38 M38) n 0 0 M2) n 0 M
set_option maxHeartbeats 4000000 in
set_option maxRecDepth 100000 in
theorem m_Rheap {l : Launch} {D : va_G} {cl : List vw_C} {tys : List (ClassId × FieldType)} {ad : Nat → Nat} {cI : ClassId} {ci : Nat} {Z : (Nat → Prop) → State → Prop} (hci : cl[ci]? = some (RX9, TX9, 23)) {a1 : Int} {M : gSt} {k : Int → gSt → Prop} (h : w_Rheap a1 M k) : MOi l yX9_heap cX9_heap 6 .int (rmR 4 99) D cl ((cI, .int) :: tys) (wR ad cI ci) tR Z [.ref (ad 0), iv a1] M k := by
  refine moi_intro (by decide +kernel) (Nat.le_of_ble_eq_true rfl) wi_240 ?_
  intro p e s m args below meth c A Q C hR
  have pC2 : ∀ (r2 : Int → gSt → Prop) (X2_34 : gSt → Prop) (hr2 : ∀ (v2 : Int) (M : gSt), r2 v2 M → gG p l e (rmR 4 99) s m args below meth c Q D cl A (wR ad cI ci) 6 2 [(0, .ref (ad 0)), (1, iv a1), (2, iv v2)] [] M) (hX2_34 : ∀  (M : gSt), X2_34  M → gG p l e (rmR 4 99) s m args below meth c Q D cl A (wR ad cI ci) 6 34 [(0, .ref (ad 0))] [] M) (v2 : Int) (M : gSt), wC_Rheap_2 a1 k r2 X2_34 v2 M → gG p l e (rmR 4 99) s m args below meth c Q D cl A (wR ad cI ci) 6 2 [(0, .ref (ad 0)), (1, iv a1), (2, iv v2)] [] M := by
    intro r2 X2_34 hr2 hX2_34 v2 M h
    unfold wC_Rheap_2 at h
    refine g_iload_n C dR_heap_2 rfl ?_
    refine g_aload_n C dR_heap_3 rfl ?_
    refine rf_many C hci dR_heap_4 ?_
    refine g_icmp_ge C 34 dR_heap_7 (by decide) (fun hc => ?_) (fun hc => ?_)
    · replace h := h.1 hc
      refine g_locals (lv' := [(0, .ref (ad 0))]) rfl ?_
      exact hX2_34  _ h
    · replace h := h.2 hc
      refine g_aload_n C dR_heap_10 rfl ?_
      refine rf_seen C hci dR_heap_11 ?_
      refine g_iload_n C dR_heap_14 rfl ?_
      refine g_aload_n C dR_heap_15 rfl ?_
      refine g_aload_n C dR_heap_16 rfl ?_
      refine rf_fit C hci dR_heap_17 ?_
      refine g_iload_n C dR_heap_20 rfl ?_
      refine g_iald C (n := 64) dR_heap_21 rfl (by decide) h.1 ?_
      replace h := h.2
      refine g_iload_n C dR_heap_22 rfl ?_
      refine g_iconst C dR_heap_23 ?_
      refine g_callVi C (nargs := 3) (o := 0) (st := [iv v2, .ref (ad 9)]) (m_Rafter hci h) rfl (by decide) hci rfl gd_after (by decide +kernel) ⟨rfl, rfl⟩ dR_heap_24 ⟨by decide, by decide⟩ rfl rfl (Nat.le_of_ble_eq_true rfl) ?_
      intro r24c M24 hN
      replace h := hN
      clear hN
      refine g_iast C (n := 64) dR_heap_27 rfl (by decide) h.1 ?_
      replace h := h.2
      refine g_memname (fun M27 hM27 => ?_)
      replace h := h M27 hM27
      refine g_iinc C dR_heap_28 rfl (by decide) rfl ?_
      refine g_locals (lv' := [(0, .ref (ad 0)), (1, iv a1), (2, iv (v2 + 1))]) rfl ?_
      refine g_goto C 2 dR_heap_31 (by decide) ?_
      refine g_locals (lv' := [(0, .ref (ad 0)), (1, iv a1), (2, iv (v2 + 1))]) rfl ?_
      exact hr2 _  _ h
  have pL2 : ∀  (X2_34 : gSt → Prop) (hX2_34 : ∀  (M : gSt), X2_34  M → gG p l e (rmR 4 99) s m args below meth c Q D cl A (wR ad cI ci) 6 34 [(0, .ref (ad 0))] [] M) (n : Nat) (v2 : Int) (M : gSt), wL_Rheap_2 a1 k  X2_34 n v2 M → gG p l e (rmR 4 99) s m args below meth c Q D cl A (wR ad cI ci) 6 2 [(0, .ref (ad 0)), (1, iv a1), (2, iv v2)] [] M := by
    intro  X2_34 hX2_34 n
    induction n with
    | zero => intro v2 M h; exact h.elim
    | succ n ih =>
      intro v2 M h
      exact pC2  (wL_Rheap_2 a1 k  X2_34 n) X2_34 ih hX2_34 v2 M h
  have pB84 : ∀ (r38 : Int → Int → gSt → Prop) (X38_112 : Int → gSt → Prop) (r52 : Int → Int → Int → Int → gSt → Prop) (X52_93 : Int → Int → Int → gSt → Prop) (hr38 : ∀ (v2 : Int) (v3 : Int) (M : gSt), r38 v2 v3 M → gG p l e (rmR 4 99) s m args below meth c Q D cl A (wR ad cI ci) 6 38 [(0, .ref (ad 0)), (2, iv v2), (3, iv v3)] [] M) (hX38_112 : ∀ (v2 : Int) (M : gSt), X38_112 v2 M → gG p l e (rmR 4 99) s m args below meth c Q D cl A (wR ad cI ci) 6 112 [(2, iv v2)] [] M) (hr52 : ∀ (v2 : Int) (v3 : Int) (v4 : Int) (v5 : Int) (M : gSt), r52 v2 v3 v4 v5 M → gG p l e (rmR 4 99) s m args below meth c Q D cl A (wR ad cI ci) 6 52 [(0, .ref (ad 0)), (2, iv v2), (3, iv v3), (4, iv v4), (5, iv v5)] [] M) (hX52_93 : ∀ (v2 : Int) (v3 : Int) (v4 : Int) (M : gSt), X52_93 v2 v3 v4 M → gG p l e (rmR 4 99) s m args below meth c Q D cl A (wR ad cI ci) 6 93 [(0, .ref (ad 0)), (2, iv v2), (3, iv v3), (4, iv v4)] [] M) (v2 : Int) (v3 : Int) (v5 : Int) (s0 : Int) (s1 : Int) (M : gSt), wB_Rheap_84 a1 k r38 X38_112 r52 X52_93 v2 v3 v5 s0 s1 M → gG p l e (rmR 4 99) s m args below meth c Q D cl A (wR ad cI ci) 6 84 [(0, .ref (ad 0)), (2, iv v2), (3, iv v3), (5, iv v5)] [iv s0, iv s1] M := by
    intro r38 X38_112 r52 X52_93 hr38 hX38_112 hr52 hX52_93 v2 v3 v5 s0 s1 M h
    unfold wB_Rheap_84 at h
    refine g_iadd C dR_heap_84 ?_
    refine g_name (fun x4_85 hx4_85 => ?_)
    replace h := h x4_85 hx4_85
    refine g_istore C dR_heap_85 (by decide) rfl ?_
    refine g_locals (lv' := [(0, .ref (ad 0)), (2, iv v2), (3, iv v3), (4, iv x4_85), (5, iv v5)]) rfl ?_
    refine g_iinc C dR_heap_87 rfl (by decide) rfl ?_
    refine g_locals (lv' := [(0, .ref (ad 0)), (2, iv v2), (3, iv v3), (4, iv x4_85), (5, iv (v5 + 1))]) rfl ?_
    refine g_goto C 52 dR_heap_90 (by decide) ?_
    refine g_locals (lv' := [(0, .ref (ad 0)), (2, iv v2), (3, iv v3), (4, iv x4_85), (5, iv (v5 + 1))]) rfl ?_
    exact hr52 _ _ _ _  _ h
  have pC52 : ∀ (r38 : Int → Int → gSt → Prop) (X38_112 : Int → gSt → Prop) (r52 : Int → Int → Int → Int → gSt → Prop) (X52_93 : Int → Int → Int → gSt → Prop) (hr38 : ∀ (v2 : Int) (v3 : Int) (M : gSt), r38 v2 v3 M → gG p l e (rmR 4 99) s m args below meth c Q D cl A (wR ad cI ci) 6 38 [(0, .ref (ad 0)), (2, iv v2), (3, iv v3)] [] M) (hX38_112 : ∀ (v2 : Int) (M : gSt), X38_112 v2 M → gG p l e (rmR 4 99) s m args below meth c Q D cl A (wR ad cI ci) 6 112 [(2, iv v2)] [] M) (hr52 : ∀ (v2 : Int) (v3 : Int) (v4 : Int) (v5 : Int) (M : gSt), r52 v2 v3 v4 v5 M → gG p l e (rmR 4 99) s m args below meth c Q D cl A (wR ad cI ci) 6 52 [(0, .ref (ad 0)), (2, iv v2), (3, iv v3), (4, iv v4), (5, iv v5)] [] M) (hX52_93 : ∀ (v2 : Int) (v3 : Int) (v4 : Int) (M : gSt), X52_93 v2 v3 v4 M → gG p l e (rmR 4 99) s m args below meth c Q D cl A (wR ad cI ci) 6 93 [(0, .ref (ad 0)), (2, iv v2), (3, iv v3), (4, iv v4)] [] M) (v2 : Int) (v3 : Int) (v4 : Int) (v5 : Int) (M : gSt), wC_Rheap_52 a1 k r38 X38_112 r52 X52_93 v2 v3 v4 v5 M → gG p l e (rmR 4 99) s m args below meth c Q D cl A (wR ad cI ci) 6 52 [(0, .ref (ad 0)), (2, iv v2), (3, iv v3), (4, iv v4), (5, iv v5)] [] M := by
    intro r38 X38_112 r52 X52_93 hr38 hX38_112 hr52 hX52_93 v2 v3 v4 v5 M h
    unfold wC_Rheap_52 at h
    refine g_iload C dR_heap_52 rfl ?_
    refine g_aload_n C dR_heap_54 rfl ?_
    refine rf_many C hci dR_heap_55 ?_
    refine g_icmp_ge C 93 dR_heap_58 (by decide) (fun hc => ?_) (fun hc => ?_)
    · replace h := h.1 hc
      refine g_locals (lv' := [(0, .ref (ad 0)), (2, iv v2), (3, iv v3), (4, iv v4)]) rfl ?_
      exact hX52_93 _ _ _  _ h
    · replace h := h.2 hc
      refine g_iload C dR_heap_61 rfl ?_
      refine g_aload_n C dR_heap_63 rfl ?_
      refine rf_seen C hci dR_heap_64 ?_
      refine g_iload C dR_heap_67 rfl ?_
      refine g_iald C (n := 64) dR_heap_69 rfl (by decide) h.1 ?_
      replace h := h.2
      refine g_aload_n C dR_heap_70 rfl ?_
      refine rf_seen C hci dR_heap_71 ?_
      refine g_iload_n C dR_heap_74 rfl ?_
      refine g_iald C (n := 64) dR_heap_75 rfl (by decide) h.1 ?_
      replace h := h.2
      refine g_icmp_ne C 83 dR_heap_76 (by decide) (fun hc => ?_) (fun hc => ?_)
      · replace h := h.1 hc
        refine g_iconst C dR_heap_83 ?_
        refine g_locals (lv' := [(0, .ref (ad 0)), (2, iv v2), (3, iv v3), (5, iv v5)]) rfl ?_
        exact pB84 r38 X38_112 r52 X52_93 hr38 hX38_112 hr52 hX52_93 _ _ _ _ _ _ h
      · replace h := h.2 hc
        refine g_iconst C dR_heap_79 ?_
        refine g_goto C 84 dR_heap_80 (by decide) ?_
        refine g_locals (lv' := [(0, .ref (ad 0)), (2, iv v2), (3, iv v3), (5, iv v5)]) rfl ?_
        exact pB84 r38 X38_112 r52 X52_93 hr38 hX38_112 hr52 hX52_93 _ _ _ _ _ _ h
  have pL52 : ∀ (r38 : Int → Int → gSt → Prop) (X38_112 : Int → gSt → Prop) (X52_93 : Int → Int → Int → gSt → Prop) (hr38 : ∀ (v2 : Int) (v3 : Int) (M : gSt), r38 v2 v3 M → gG p l e (rmR 4 99) s m args below meth c Q D cl A (wR ad cI ci) 6 38 [(0, .ref (ad 0)), (2, iv v2), (3, iv v3)] [] M) (hX38_112 : ∀ (v2 : Int) (M : gSt), X38_112 v2 M → gG p l e (rmR 4 99) s m args below meth c Q D cl A (wR ad cI ci) 6 112 [(2, iv v2)] [] M) (hX52_93 : ∀ (v2 : Int) (v3 : Int) (v4 : Int) (M : gSt), X52_93 v2 v3 v4 M → gG p l e (rmR 4 99) s m args below meth c Q D cl A (wR ad cI ci) 6 93 [(0, .ref (ad 0)), (2, iv v2), (3, iv v3), (4, iv v4)] [] M) (n : Nat) (v2 : Int) (v3 : Int) (v4 : Int) (v5 : Int) (M : gSt), wL_Rheap_52 a1 k r38 X38_112 X52_93 n v2 v3 v4 v5 M → gG p l e (rmR 4 99) s m args below meth c Q D cl A (wR ad cI ci) 6 52 [(0, .ref (ad 0)), (2, iv v2), (3, iv v3), (4, iv v4), (5, iv v5)] [] M := by
    intro r38 X38_112 X52_93 hr38 hX38_112 hX52_93 n
    induction n with
    | zero => intro v2 v3 v4 v5 M h; exact h.elim
    | succ n ih =>
      intro v2 v3 v4 v5 M h
      exact pC52 r38 X38_112 (wL_Rheap_52 a1 k r38 X38_112 X52_93 n) X52_93 hr38 hX38_112 ih hX52_93 v2 v3 v4 v5 M h
  have pB105 : ∀ (r38 : Int → Int → gSt → Prop) (X38_112 : Int → gSt → Prop) (hr38 : ∀ (v2 : Int) (v3 : Int) (M : gSt), r38 v2 v3 M → gG p l e (rmR 4 99) s m args below meth c Q D cl A (wR ad cI ci) 6 38 [(0, .ref (ad 0)), (2, iv v2), (3, iv v3)] [] M) (hX38_112 : ∀ (v2 : Int) (M : gSt), X38_112 v2 M → gG p l e (rmR 4 99) s m args below meth c Q D cl A (wR ad cI ci) 6 112 [(2, iv v2)] [] M) (v3 : Int) (s0 : Int) (M : gSt), wB_Rheap_105 a1 k r38 X38_112 v3 s0 M → gG p l e (rmR 4 99) s m args below meth c Q D cl A (wR ad cI ci) 6 105 [(0, .ref (ad 0)), (3, iv v3)] [iv s0] M := by
    intro r38 X38_112 hr38 hX38_112 v3 s0 M h
    unfold wB_Rheap_105 at h
    refine g_istore_n C dR_heap_105 (by decide) rfl ?_
    refine g_locals (lv' := [(0, .ref (ad 0)), (2, iv s0), (3, iv v3)]) rfl ?_
    refine g_iinc C dR_heap_106 rfl (by decide) rfl ?_
    refine g_locals (lv' := [(0, .ref (ad 0)), (2, iv s0), (3, iv (v3 + 1))]) rfl ?_
    refine g_goto C 38 dR_heap_109 (by decide) ?_
    refine g_locals (lv' := [(0, .ref (ad 0)), (2, iv s0), (3, iv (v3 + 1))]) rfl ?_
    exact hr38 _ _  _ h
  have pC38 : ∀ (r38 : Int → Int → gSt → Prop) (X38_112 : Int → gSt → Prop) (hr38 : ∀ (v2 : Int) (v3 : Int) (M : gSt), r38 v2 v3 M → gG p l e (rmR 4 99) s m args below meth c Q D cl A (wR ad cI ci) 6 38 [(0, .ref (ad 0)), (2, iv v2), (3, iv v3)] [] M) (hX38_112 : ∀ (v2 : Int) (M : gSt), X38_112 v2 M → gG p l e (rmR 4 99) s m args below meth c Q D cl A (wR ad cI ci) 6 112 [(2, iv v2)] [] M) (v2 : Int) (v3 : Int) (M : gSt), wC_Rheap_38 a1 k r38 X38_112 v2 v3 M → gG p l e (rmR 4 99) s m args below meth c Q D cl A (wR ad cI ci) 6 38 [(0, .ref (ad 0)), (2, iv v2), (3, iv v3)] [] M := by
    intro r38 X38_112 hr38 hX38_112 v2 v3 M h
    unfold wC_Rheap_38 at h
    refine g_iload_n C dR_heap_38 rfl ?_
    refine g_aload_n C dR_heap_39 rfl ?_
    refine rf_many C hci dR_heap_40 ?_
    refine g_icmp_ge C 112 dR_heap_43 (by decide) (fun hc => ?_) (fun hc => ?_)
    · replace h := h.1 hc
      refine g_locals (lv' := [(2, iv v2)]) rfl ?_
      exact hX38_112 _  _ h
    · replace h := h.2 hc
      refine g_iconst C dR_heap_46 ?_
      refine g_istore C dR_heap_47 (by decide) rfl ?_
      refine g_locals (lv' := [(0, .ref (ad 0)), (2, iv v2), (3, iv v3), (4, iv 0)]) rfl ?_
      refine g_iconst C dR_heap_49 ?_
      refine g_istore C dR_heap_50 (by decide) rfl ?_
      refine g_locals (lv' := [(0, .ref (ad 0)), (2, iv v2), (3, iv v3), (4, iv 0), (5, iv 0)]) rfl ?_
      refine g_locals (lv' := [(0, .ref (ad 0)), (2, iv v2), (3, iv v3), (4, iv 0), (5, iv 0)]) rfl ?_
      obtain ⟨n, h⟩ := h
      refine pL52 r38 X38_112 _ hr38 hX38_112 ?_ n _ _ _ _ _ h
      · intro u2_52 u3_52 u4_52 M52 hN
        replace h := hN
        clear hN
        refine g_iload C dR_heap_93 rfl ?_
        refine g_iload_n C dR_heap_95 rfl ?_
        refine g_icmp_le C 104 dR_heap_96 (by decide) (fun hc => ?_) (fun hc => ?_)
        · replace h := h.1 hc
          refine g_iload_n C dR_heap_104 rfl ?_
          refine g_locals (lv' := [(0, .ref (ad 0)), (3, iv u3_52)]) rfl ?_
          exact pB105 r38 X38_112 hr38 hX38_112 _ _ _ h
        · replace h := h.2 hc
          refine g_iload C dR_heap_99 rfl ?_
          refine g_goto C 105 dR_heap_101 (by decide) ?_
          refine g_locals (lv' := [(0, .ref (ad 0)), (3, iv u3_52)]) rfl ?_
          exact pB105 r38 X38_112 hr38 hX38_112 _ _ _ h
  have pL38 : ∀  (X38_112 : Int → gSt → Prop) (hX38_112 : ∀ (v2 : Int) (M : gSt), X38_112 v2 M → gG p l e (rmR 4 99) s m args below meth c Q D cl A (wR ad cI ci) 6 112 [(2, iv v2)] [] M) (n : Nat) (v2 : Int) (v3 : Int) (M : gSt), wL_Rheap_38 a1 k  X38_112 n v2 v3 M → gG p l e (rmR 4 99) s m args below meth c Q D cl A (wR ad cI ci) 6 38 [(0, .ref (ad 0)), (2, iv v2), (3, iv v3)] [] M := by
    intro  X38_112 hX38_112 n
    induction n with
    | zero => intro v2 v3 M h; exact h.elim
    | succ n ih =>
      intro v2 v3 M h
      exact pC38  (wL_Rheap_38 a1 k  X38_112 n) X38_112 ih hX38_112 v2 v3 M h
  refine g_locals (lv' := [(0, .ref (ad 0)), (1, iv a1)]) rfl ?_
  unfold w_Rheap at h
  refine g_iconst C dR_heap_0 ?_
  refine g_istore_n C dR_heap_1 (by decide) rfl ?_
  refine g_locals (lv' := [(0, .ref (ad 0)), (1, iv a1), (2, iv 0)]) rfl ?_
  refine g_locals (lv' := [(0, .ref (ad 0)), (1, iv a1), (2, iv 0)]) rfl ?_
  obtain ⟨n, h⟩ := h
  refine pL2 _ ?_ n _ _ h
  · intro  M2 hN
    replace h := hN
    clear hN
    refine g_iconst C dR_heap_34 ?_
    refine g_istore_n C dR_heap_35 (by decide) rfl ?_
    refine g_locals (lv' := [(0, .ref (ad 0)), (2, iv 0)]) rfl ?_
    refine g_iconst C dR_heap_36 ?_
    refine g_istore_n C dR_heap_37 (by decide) rfl ?_
    refine g_locals (lv' := [(0, .ref (ad 0)), (2, iv 0), (3, iv 0)]) rfl ?_
    refine g_locals (lv' := [(0, .ref (ad 0)), (2, iv 0), (3, iv 0)]) rfl ?_
    obtain ⟨n, h⟩ := h
    refine pL38 _ ?_ n _ _ _ h
    · intro u2_38 M38 hN
      replace h := hN
      clear hN
      refine g_iload_n C dR_heap_112 rfl ?_
      exact hR _ _ _ _ dR_heap_113 rfl h
def wB_Rnext_20  (k : Int → gSt → Prop)   (M : gSt) : Prop :=
w_Rerror 2 M (fun r22c M22 => k r22c M22)
def wB_Rnext_58  (k : Int → gSt → Prop) (r30 : Int → Int → gSt → Prop) (X30_65 : Int → gSt → Prop) (v2 : Int) (s0 : Int) (M : gSt) : Prop :=
r30 s0 (v2 + 1) M
def wC_Rnext_30  (k : Int → gSt → Prop) (r30 : Int → Int → gSt → Prop) (X30_65 : Int → gSt → Prop) (v1 : Int) (v2 : Int) (M : gSt) : Prop :=

  (wrap (M 1 0) ≤ wrap v2 →
    X30_65 v1 M) ∧
  (wrap v2 < wrap (M 1 0) →
    w_Rheap v2 M (fun r42c M42 => w_Rheap v1 M42 (fun r47c M47 => 
    (wrap r47c ≤ wrap r42c →
      wB_Rnext_58  k r30 X30_65 v2 v1 M47) ∧
    (wrap r42c < wrap r47c →
      wB_Rnext_58  k r30 X30_65 v2 v2 M47))))
def wL_Rnext_30  (k : Int → gSt → Prop)  (X30_65 : Int → gSt → Prop) : Nat → Int → Int → gSt → Prop
  | 0 => fun _ _ _ => False
  | n + 1 => fun v1 v2 M => wC_Rnext_30  k  (wL_Rnext_30  k  X30_65 n) X30_65 v1 v2 M
def w_Rnext  (M : gSt) (k : Int → gSt → Prop) : Prop :=
w_RfindFits  M (fun M1 => 
  (wrap (M1 0 13) = 0 →
    wB_Rnext_20  k   M1) ∧
  (¬ wrap (M1 0 13) = 0 →

    (¬ wrap (M1 1 0) = 0 →
      ∃ n, wL_Rnext_30  k  (fun u1_30 M30 =>
        k u1_30 M30) n 0 1 M1) ∧
    (wrap (M1 1 0) = 0 →
      wB_Rnext_20  k   M1)))
set_option maxHeartbeats 4000000 in
set_option maxRecDepth 100000 in
theorem m_Rnext {l : Launch} {D : va_G} {cl : List vw_C} {tys : List (ClassId × FieldType)} {ad : Nat → Nat} {cI : ClassId} {ci : Nat} {Z : (Nat → Prop) → State → Prop} (hci : cl[ci]? = some (RX9, TX9, 23))  {M : gSt} {k : Int → gSt → Prop} (h : w_Rnext  M k) : MOi l yX9_next cX9_next 3 .int (rmR 5 124) D cl ((cI, .int) :: tys) (wR ad cI ci) tR Z [.ref (ad 0)] M k := by
  refine moi_intro (by decide +kernel) (Nat.le_of_ble_eq_true rfl) wi_244 ?_
  intro p e s m args below meth c A Q C hR
  have pB20 : ∀    (M : gSt), wB_Rnext_20  k   M → gG p l e (rmR 5 124) s m args below meth c Q D cl A (wR ad cI ci) 3 20 [(0, .ref (ad 0))] [] M := by
    intro    M h
    unfold wB_Rnext_20 at h
    refine g_aload_n C dR_next_20 rfl ?_
    refine g_iconst C dR_next_21 ?_
    refine g_callVi C (nargs := 1) (o := 0) (st := []) (m_Rerror hci h) rfl (by decide) hci rfl gd_error (by decide +kernel) ⟨rfl, rfl⟩ dR_next_22 ⟨by decide, by decide⟩ rfl rfl (Nat.le_of_ble_eq_true rfl) ?_
    intro r22c M22 hN
    replace h := hN
    clear hN
    exact hR _ _ _ _ dR_next_25 rfl h
  have pB58 : ∀ (r30 : Int → Int → gSt → Prop) (X30_65 : Int → gSt → Prop) (hr30 : ∀ (v1 : Int) (v2 : Int) (M : gSt), r30 v1 v2 M → gG p l e (rmR 5 124) s m args below meth c Q D cl A (wR ad cI ci) 3 30 [(0, .ref (ad 0)), (1, iv v1), (2, iv v2)] [] M) (hX30_65 : ∀ (v1 : Int) (M : gSt), X30_65 v1 M → gG p l e (rmR 5 124) s m args below meth c Q D cl A (wR ad cI ci) 3 65 [(1, iv v1)] [] M) (v2 : Int) (s0 : Int) (M : gSt), wB_Rnext_58  k r30 X30_65 v2 s0 M → gG p l e (rmR 5 124) s m args below meth c Q D cl A (wR ad cI ci) 3 58 [(0, .ref (ad 0)), (2, iv v2)] [iv s0] M := by
    intro r30 X30_65 hr30 hX30_65 v2 s0 M h
    unfold wB_Rnext_58 at h
    refine g_istore_n C dR_next_58 (by decide) rfl ?_
    refine g_locals (lv' := [(0, .ref (ad 0)), (1, iv s0), (2, iv v2)]) rfl ?_
    refine g_iinc C dR_next_59 rfl (by decide) rfl ?_
    refine g_locals (lv' := [(0, .ref (ad 0)), (1, iv s0), (2, iv (v2 + 1))]) rfl ?_
    refine g_goto C 30 dR_next_62 (by decide) ?_
    refine g_locals (lv' := [(0, .ref (ad 0)), (1, iv s0), (2, iv (v2 + 1))]) rfl ?_
    exact hr30 _ _  _ h
  have pC30 : ∀ (r30 : Int → Int → gSt → Prop) (X30_65 : Int → gSt → Prop) (hr30 : ∀ (v1 : Int) (v2 : Int) (M : gSt), r30 v1 v2 M → gG p l e (rmR 5 124) s m args below meth c Q D cl A (wR ad cI ci) 3 30 [(0, .ref (ad 0)), (1, iv v1), (2, iv v2)] [] M) (hX30_65 : ∀ (v1 : Int) (M : gSt), X30_65 v1 M → gG p l e (rmR 5 124) s m args below meth c Q D cl A (wR ad cI ci) 3 65 [(1, iv v1)] [] M) (v1 : Int) (v2 : Int) (M : gSt), wC_Rnext_30  k r30 X30_65 v1 v2 M → gG p l e (rmR 5 124) s m args below meth c Q D cl A (wR ad cI ci) 3 30 [(0, .ref (ad 0)), (1, iv v1), (2, iv v2)] [] M := by
    intro r30 X30_65 hr30 hX30_65 v1 v2 M h
    unfold wC_Rnext_30 at h
    refine g_iload_n C dR_next_30 rfl ?_
    refine g_aload_n C dR_next_31 rfl ?_
    refine rf_s C hci dR_next_32 ?_
    refine g_iconst C dR_next_35 ?_
    refine g_iald C (n := 536) dR_next_36 rfl (by decide) ⟨by decide, by decide⟩ ?_
    refine g_icmp_ge C 65 dR_next_37 (by decide) (fun hc => ?_) (fun hc => ?_)
    · replace h := h.1 hc
      refine g_locals (lv' := [(1, iv v1)]) rfl ?_
      exact hX30_65 _  _ h
    · replace h := h.2 hc
      refine g_aload_n C dR_next_40 rfl ?_
      refine g_iload_n C dR_next_41 rfl ?_
      refine g_callVi C (nargs := 1) (o := 0) (st := []) (m_Rheap hci h) rfl (by decide) hci rfl gd_heap (by decide +kernel) ⟨rfl, rfl⟩ dR_next_42 ⟨by decide, by decide⟩ rfl rfl (Nat.le_of_ble_eq_true rfl) ?_
      intro r42c M42 hN
      replace h := hN
      clear hN
      refine g_aload_n C dR_next_45 rfl ?_
      refine g_iload_n C dR_next_46 rfl ?_
      refine g_callVi C (nargs := 1) (o := 0) (st := [iv r42c]) (m_Rheap hci h) rfl (by decide) hci rfl gd_heap (by decide +kernel) ⟨rfl, rfl⟩ dR_next_47 ⟨by decide, by decide⟩ rfl rfl (Nat.le_of_ble_eq_true rfl) ?_
      intro r47c M47 hN
      replace h := hN
      clear hN
      refine g_icmp_ge C 57 dR_next_50 (by decide) (fun hc => ?_) (fun hc => ?_)
      · replace h := h.1 hc
        refine g_iload_n C dR_next_57 rfl ?_
        refine g_locals (lv' := [(0, .ref (ad 0)), (2, iv v2)]) rfl ?_
        exact pB58 r30 X30_65 hr30 hX30_65 _ _ _ h
      · replace h := h.2 hc
        refine g_iload_n C dR_next_53 rfl ?_
        refine g_goto C 58 dR_next_54 (by decide) ?_
        refine g_locals (lv' := [(0, .ref (ad 0)), (2, iv v2)]) rfl ?_
        exact pB58 r30 X30_65 hr30 hX30_65 _ _ _ h
  have pL30 : ∀  (X30_65 : Int → gSt → Prop) (hX30_65 : ∀ (v1 : Int) (M : gSt), X30_65 v1 M → gG p l e (rmR 5 124) s m args below meth c Q D cl A (wR ad cI ci) 3 65 [(1, iv v1)] [] M) (n : Nat) (v1 : Int) (v2 : Int) (M : gSt), wL_Rnext_30  k  X30_65 n v1 v2 M → gG p l e (rmR 5 124) s m args below meth c Q D cl A (wR ad cI ci) 3 30 [(0, .ref (ad 0)), (1, iv v1), (2, iv v2)] [] M := by
    intro  X30_65 hX30_65 n
    induction n with
    | zero => intro v1 v2 M h; exact h.elim
    | succ n ih =>
      intro v1 v2 M h
      exact pC30  (wL_Rnext_30  k  X30_65 n) X30_65 ih hX30_65 v1 v2 M h
  refine g_locals (lv' := [(0, .ref (ad 0))]) rfl ?_
  unfold w_Rnext at h
  refine g_aload_n C dR_next_0 rfl ?_
  refine g_callVv C (nargs := 0) (o := 0) (st := []) (m_RfindFits hci h) rfl (by decide) hci rfl gd_findFits (by decide +kernel) ⟨rfl, rfl⟩ dR_next_1 ⟨by decide, by decide⟩ rfl rfl (Nat.le_of_ble_eq_true rfl) ?_
  intro M1 hN
  replace h := hN
  clear hN
  refine g_aload_n C dR_next_4 rfl ?_
  refine rf_many C hci dR_next_5 ?_
  refine g_if_eq C 20 dR_next_8 (by decide) (fun hc => ?_) (fun hc => ?_)
  · replace h := h.1 hc
    refine g_locals (lv' := [(0, .ref (ad 0))]) rfl ?_
    exact pB20  _ h
  · replace h := h.2 hc
    refine g_aload_n C dR_next_11 rfl ?_
    refine rf_s C hci dR_next_12 ?_
    refine g_iconst C dR_next_15 ?_
    refine g_iald C (n := 536) dR_next_16 rfl (by decide) ⟨by decide, by decide⟩ ?_
    refine g_if_ne C 26 dR_next_17 (by decide) (fun hc => ?_) (fun hc => ?_)
    · replace h := h.1 hc
      refine g_iconst C dR_next_26 ?_
      refine g_istore_n C dR_next_27 (by decide) rfl ?_
      refine g_locals (lv' := [(0, .ref (ad 0)), (1, iv 0)]) rfl ?_
      refine g_iconst C dR_next_28 ?_
      refine g_istore_n C dR_next_29 (by decide) rfl ?_
      refine g_locals (lv' := [(0, .ref (ad 0)), (1, iv 0), (2, iv 1)]) rfl ?_
      refine g_locals (lv' := [(0, .ref (ad 0)), (1, iv 0), (2, iv 1)]) rfl ?_
      obtain ⟨n, h⟩ := h
      refine pL30 _ ?_ n _ _ _ h
      · intro u1_30 M30 hN
        replace h := hN
        clear hN
        refine g_iload_n C dR_next_65 rfl ?_
        exact hR _ _ _ _ dR_next_66 rfl h
    · replace h := h.2 hc
      refine g_locals (lv' := [(0, .ref (ad 0))]) rfl ?_
      exact pB20  _ h
def wB_Rtogether_65 (a1 : Int) (a2 : Int) (k : Int → gSt → Prop) (r8 : Int → Int → Int → gSt → Prop) (X8_71 : Int → Int → gSt → Prop) (v3 : Int) (v5 : Int) (v7 : Int) (M : gSt) : Prop :=
r8 v3 v5 (v7 + 1) M
def wC_Rtogether_8 (a1 : Int) (a2 : Int) (k : Int → gSt → Prop) (r8 : Int → Int → Int → gSt → Prop) (X8_71 : Int → Int → gSt → Prop) (v3 : Int) (v5 : Int) (v7 : Int) (M : gSt) : Prop :=

  (wrap (M 1 0) ≤ wrap v7 →
    X8_71 v3 v5 M) ∧
  (wrap v7 < wrap (M 1 0) →

    (¬ wrap (xand (xshr a2 v7) 1) = 1 →
      wB_Rtogether_65 a1 a2 k r8 X8_71 v3 v5 v7 M) ∧
    (wrap (xand (xshr a2 v7) 1) = 1 →
      w_Rits v7 2 M (fun r34c M34 => ∀ x3_39 : Int, x3_39 = v3 + (wrap r34c) → (w_Rits v7 2 M34 (fun r46c M46 => w_Rits v7 (6 + a1) M46 (fun r57c M57 => ∀ x5_63 : Int, x5_63 = v5 + ((wrap r46c) * (wrap r57c)) → (wB_Rtogether_65 a1 a2 k r8 X8_71 x3_39 x5_63 v7 M57)))))))
def wL_Rtogether_8 (a1 : Int) (a2 : Int) (k : Int → gSt → Prop)  (X8_71 : Int → Int → gSt → Prop) : Nat → Int → Int → Int → gSt → Prop
  | 0 => fun _ _ _ _ => False
  | n + 1 => fun v3 v5 v7 M => wC_Rtogether_8 a1 a2 k  (wL_Rtogether_8 a1 a2 k  X8_71 n) X8_71 v3 v5 v7 M
def w_Rtogether (a1 : Int) (a2 : Int) (M : gSt) (k : Int → gSt → Prop) : Prop :=
∃ n, wL_Rtogether_8 a1 a2 k  (fun u3_8 u5_8 M8 =>

    (¬ wrap (ycmp u3_8 0) = 0 →
      (wrapL u3_8 ≠ 0) ∧ (k (Int.tdiv (wrapL u5_8) (wrapL u3_8)) M8)) ∧
    (wrap (ycmp u3_8 0) = 0 →
      k 0 M8)) n 0 0 0 M
set_option maxHeartbeats 4000000 in
set_option maxRecDepth 100000 in
theorem m_Rtogether {l : Launch} {D : va_G} {cl : List vw_C} {tys : List (ClassId × FieldType)} {ad : Nat → Nat} {cI : ClassId} {ci : Nat} {Z : (Nat → Prop) → State → Prop} (hci : cl[ci]? = some (RX9, TX9, 23)) {a1 : Int} {a2 : Int} {M : gSt} {k : Int → gSt → Prop} (h : w_Rtogether a1 a2 M k) : MOi l yX9_together cX9_together 8 .int (rmR 1 22) D cl ((cI, .int) :: tys) (wR ad cI ci) tR Z [.ref (ad 0), iv a1, iv a2] M k := by
  refine moi_intro (by decide +kernel) (Nat.le_of_ble_eq_true rfl) wi_245 ?_
  intro p e s m args below meth c A Q C hR
  have pB65 : ∀ (r8 : Int → Int → Int → gSt → Prop) (X8_71 : Int → Int → gSt → Prop) (hr8 : ∀ (v3 : Int) (v5 : Int) (v7 : Int) (M : gSt), r8 v3 v5 v7 M → gG p l e (rmR 1 22) s m args below meth c Q D cl A (wR ad cI ci) 8 8 [(0, .ref (ad 0)), (1, iv a1), (2, iv a2), (3, jv v3), (5, jv v5), (7, iv v7)] [] M) (hX8_71 : ∀ (v3 : Int) (v5 : Int) (M : gSt), X8_71 v3 v5 M → gG p l e (rmR 1 22) s m args below meth c Q D cl A (wR ad cI ci) 8 71 [(3, jv v3), (5, jv v5)] [] M) (v3 : Int) (v5 : Int) (v7 : Int) (M : gSt), wB_Rtogether_65 a1 a2 k r8 X8_71 v3 v5 v7 M → gG p l e (rmR 1 22) s m args below meth c Q D cl A (wR ad cI ci) 8 65 [(0, .ref (ad 0)), (1, iv a1), (2, iv a2), (3, jv v3), (5, jv v5), (7, iv v7)] [] M := by
    intro r8 X8_71 hr8 hX8_71 v3 v5 v7 M h
    unfold wB_Rtogether_65 at h
    refine g_iinc C dR_together_65 rfl (by decide) rfl ?_
    refine g_locals (lv' := [(0, .ref (ad 0)), (1, iv a1), (2, iv a2), (3, jv v3), (5, jv v5), (7, iv (v7 + 1))]) rfl ?_
    refine g_goto C 8 dR_together_68 (by decide) ?_
    refine g_locals (lv' := [(0, .ref (ad 0)), (1, iv a1), (2, iv a2), (3, jv v3), (5, jv v5), (7, iv (v7 + 1))]) rfl ?_
    exact hr8 _ _ _  _ h
  have pC8 : ∀ (r8 : Int → Int → Int → gSt → Prop) (X8_71 : Int → Int → gSt → Prop) (hr8 : ∀ (v3 : Int) (v5 : Int) (v7 : Int) (M : gSt), r8 v3 v5 v7 M → gG p l e (rmR 1 22) s m args below meth c Q D cl A (wR ad cI ci) 8 8 [(0, .ref (ad 0)), (1, iv a1), (2, iv a2), (3, jv v3), (5, jv v5), (7, iv v7)] [] M) (hX8_71 : ∀ (v3 : Int) (v5 : Int) (M : gSt), X8_71 v3 v5 M → gG p l e (rmR 1 22) s m args below meth c Q D cl A (wR ad cI ci) 8 71 [(3, jv v3), (5, jv v5)] [] M) (v3 : Int) (v5 : Int) (v7 : Int) (M : gSt), wC_Rtogether_8 a1 a2 k r8 X8_71 v3 v5 v7 M → gG p l e (rmR 1 22) s m args below meth c Q D cl A (wR ad cI ci) 8 8 [(0, .ref (ad 0)), (1, iv a1), (2, iv a2), (3, jv v3), (5, jv v5), (7, iv v7)] [] M := by
    intro r8 X8_71 hr8 hX8_71 v3 v5 v7 M h
    unfold wC_Rtogether_8 at h
    refine g_iload C dR_together_8 rfl ?_
    refine g_aload_n C dR_together_10 rfl ?_
    refine rf_s C hci dR_together_11 ?_
    refine g_iconst C dR_together_14 ?_
    refine g_iald C (n := 536) dR_together_15 rfl (by decide) ⟨by decide, by decide⟩ ?_
    refine g_icmp_ge C 71 dR_together_16 (by decide) (fun hc => ?_) (fun hc => ?_)
    · replace h := h.1 hc
      refine g_locals (lv' := [(3, jv v3), (5, jv v5)]) rfl ?_
      exact hX8_71 _ _  _ h
    · replace h := h.2 hc
      refine g_iload_n C dR_together_19 rfl ?_
      refine g_iload C dR_together_20 rfl ?_
      refine g_ishr C dR_together_22 ?_
      refine g_iconst C dR_together_23 ?_
      refine g_iand C dR_together_24 ?_
      refine g_iconst C dR_together_25 ?_
      refine g_icmp_ne C 65 dR_together_26 (by decide) (fun hc => ?_) (fun hc => ?_)
      · replace h := h.1 hc
        refine g_locals (lv' := [(0, .ref (ad 0)), (1, iv a1), (2, iv a2), (3, jv v3), (5, jv v5), (7, iv v7)]) rfl ?_
        exact pB65 r8 X8_71 hr8 hX8_71 _ _ _ _ h
      · replace h := h.2 hc
        refine g_lload_n C dR_together_29 rfl ?_
        refine g_aload_n C dR_together_30 rfl ?_
        refine g_iload C dR_together_31 rfl ?_
        refine g_iconst C dR_together_33 ?_
        refine g_callVi C (nargs := 2) (o := 0) (st := [jv v3]) (m_Rits hci h) rfl (by decide) hci rfl gd_its (by decide +kernel) ⟨rfl, rfl⟩ dR_together_34 ⟨by decide, by decide⟩ rfl rfl (Nat.le_of_ble_eq_true rfl) ?_
        intro r34c M34 hN
        replace h := hN
        clear hN
        refine g_i2l C dR_together_37 ?_
        refine g_ladd C dR_together_38 ?_
        refine g_nameL (fun x3_39 hx3_39 => ?_)
        replace h := h x3_39 hx3_39
        refine g_lstore_n C dR_together_39 (by decide) rfl ?_
        refine g_locals (lv' := [(0, .ref (ad 0)), (1, iv a1), (2, iv a2), (3, jv x3_39), (5, jv v5), (7, iv v7)]) rfl ?_
        refine g_lload C dR_together_40 rfl ?_
        refine g_aload_n C dR_together_42 rfl ?_
        refine g_iload C dR_together_43 rfl ?_
        refine g_iconst C dR_together_45 ?_
        refine g_callVi C (nargs := 2) (o := 0) (st := [jv v5]) (m_Rits hci h) rfl (by decide) hci rfl gd_its (by decide +kernel) ⟨rfl, rfl⟩ dR_together_46 ⟨by decide, by decide⟩ rfl rfl (Nat.le_of_ble_eq_true rfl) ?_
        intro r46c M46 hN
        replace h := hN
        clear hN
        refine g_i2l C dR_together_49 ?_
        refine g_aload_n C dR_together_50 rfl ?_
        refine g_iload C dR_together_51 rfl ?_
        refine g_bipush C dR_together_53 rfl ?_
        refine g_iload_n C dR_together_55 rfl ?_
        refine g_iadd C dR_together_56 ?_
        refine g_callVi C (nargs := 2) (o := 0) (st := [jv (wrap r46c), jv v5]) (m_Rits hci h) rfl (by decide) hci rfl gd_its (by decide +kernel) ⟨rfl, rfl⟩ dR_together_57 ⟨by decide, by decide⟩ rfl rfl (Nat.le_of_ble_eq_true rfl) ?_
        intro r57c M57 hN
        replace h := hN
        clear hN
        refine g_i2l C dR_together_60 ?_
        refine g_lmul C dR_together_61 ?_
        refine g_ladd C dR_together_62 ?_
        refine g_nameL (fun x5_63 hx5_63 => ?_)
        replace h := h x5_63 hx5_63
        refine g_lstore C dR_together_63 (by decide) rfl ?_
        refine g_locals (lv' := [(0, .ref (ad 0)), (1, iv a1), (2, iv a2), (3, jv x3_39), (5, jv x5_63), (7, iv v7)]) rfl ?_
        refine g_locals (lv' := [(0, .ref (ad 0)), (1, iv a1), (2, iv a2), (3, jv x3_39), (5, jv x5_63), (7, iv v7)]) rfl ?_
        exact pB65 r8 X8_71 hr8 hX8_71 _ _ _ _ h
  have pL8 : ∀  (X8_71 : Int → Int → gSt → Prop) (hX8_71 : ∀ (v3 : Int) (v5 : Int) (M : gSt), X8_71 v3 v5 M → gG p l e (rmR 1 22) s m args below meth c Q D cl A (wR ad cI ci) 8 71 [(3, jv v3), (5, jv v5)] [] M) (n : Nat) (v3 : Int) (v5 : Int) (v7 : Int) (M : gSt), wL_Rtogether_8 a1 a2 k  X8_71 n v3 v5 v7 M → gG p l e (rmR 1 22) s m args below meth c Q D cl A (wR ad cI ci) 8 8 [(0, .ref (ad 0)), (1, iv a1), (2, iv a2), (3, jv v3), (5, jv v5), (7, iv v7)] [] M := by
    intro  X8_71 hX8_71 n
    induction n with
    | zero => intro v3 v5 v7 M h; exact h.elim
    | succ n ih =>
      intro v3 v5 v7 M h
      exact pC8  (wL_Rtogether_8 a1 a2 k  X8_71 n) X8_71 ih hX8_71 v3 v5 v7 M h
  refine g_locals (lv' := [(0, .ref (ad 0)), (1, iv a1), (2, iv a2)]) rfl ?_
  unfold w_Rtogether at h
  refine g_lconst C 0 rfl dR_together_0 ?_
  refine g_lstore_n C dR_together_1 (by decide) rfl ?_
  refine g_locals (lv' := [(0, .ref (ad 0)), (1, iv a1), (2, iv a2), (3, jv 0)]) rfl ?_
  refine g_lconst C 0 rfl dR_together_2 ?_
  refine g_lstore C dR_together_3 (by decide) rfl ?_
  refine g_locals (lv' := [(0, .ref (ad 0)), (1, iv a1), (2, iv a2), (3, jv 0), (5, jv 0)]) rfl ?_
  refine g_iconst C dR_together_5 ?_
  refine g_istore C dR_together_6 (by decide) rfl ?_
  refine g_locals (lv' := [(0, .ref (ad 0)), (1, iv a1), (2, iv a2), (3, jv 0), (5, jv 0), (7, iv 0)]) rfl ?_
  refine g_locals (lv' := [(0, .ref (ad 0)), (1, iv a1), (2, iv a2), (3, jv 0), (5, jv 0), (7, iv 0)]) rfl ?_
  obtain ⟨n, h⟩ := h
  refine pL8 _ ?_ n _ _ _ _ h
  · intro u3_8 u5_8 M8 hN
    replace h := hN
    clear hN
    refine g_lload_n C dR_together_71 rfl ?_
    refine g_lconst C 0 rfl dR_together_72 ?_
    refine g_lcmp C dR_together_73 ?_
    refine g_if_ne C 81 dR_together_74 (by decide) (fun hc => ?_) (fun hc => ?_)
    · replace h := h.1 hc
      refine g_lload C dR_together_81 rfl ?_
      refine g_lload_n C dR_together_83 rfl ?_
      refine g_ldiv C dR_together_84 h.1 ?_
      replace h := h.2
      refine g_topL (y := Int.tdiv (wrapL u5_8) (wrapL u3_8)) rfl ?_
      refine g_l2i C dR_together_85 ?_
      exact hR _ _ _ _ dR_together_86 rfl h
    · replace h := h.2 hc
      refine g_iconst C dR_together_77 ?_
      refine g_goto C 86 dR_together_78 (by decide) ?_
      exact hR _ _ _ _ dR_together_86 rfl h
def wB_RhaveGrams_40 (a1 : Int) (k : Int → gSt → Prop) (r4 : Int → Int → gSt → Prop) (X4_47 : Int → gSt → Prop) (v3 : Int) (s0 : Int) (M : gSt) : Prop :=
r4 s0 (v3 + 1) M
def wB_RhaveGrams_39 (a1 : Int) (k : Int → gSt → Prop) (r4 : Int → Int → gSt → Prop) (X4_47 : Int → gSt → Prop) (v3 : Int) (M : gSt) : Prop :=
wB_RhaveGrams_40 a1 k r4 X4_47 v3 0 M
def wB_RhaveGrams_35 (a1 : Int) (k : Int → gSt → Prop) (r4 : Int → Int → gSt → Prop) (X4_47 : Int → gSt → Prop) (v3 : Int) (M : gSt) : Prop :=
wB_RhaveGrams_40 a1 k r4 X4_47 v3 1 M
def wC_RhaveGrams_4 (a1 : Int) (k : Int → gSt → Prop) (r4 : Int → Int → gSt → Prop) (X4_47 : Int → gSt → Prop) (v2 : Int) (v3 : Int) (M : gSt) : Prop :=

  (wrap (M 1 0) ≤ wrap v3 →
    X4_47 v2 M) ∧
  (wrap v3 < wrap (M 1 0) →

    (wrap v2 = 0 →
      wB_RhaveGrams_39 a1 k r4 X4_47 v3 M) ∧
    (¬ wrap v2 = 0 →

      (wrap (xand (xshr a1 v3) 1) = 0 →
        wB_RhaveGrams_35 a1 k r4 X4_47 v3 M) ∧
      (¬ wrap (xand (xshr a1 v3) 1) = 0 →
        w_Rits v3 2 M (fun r29c M29 => 
        (wrap r29c ≤ 0 →
          wB_RhaveGrams_39 a1 k r4 X4_47 v3 M29) ∧
        (0 < wrap r29c →
          wB_RhaveGrams_35 a1 k r4 X4_47 v3 M29)))))
def wL_RhaveGrams_4 (a1 : Int) (k : Int → gSt → Prop)  (X4_47 : Int → gSt → Prop) : Nat → Int → Int → gSt → Prop
  | 0 => fun _ _ _ => False
  | n + 1 => fun v2 v3 M => wC_RhaveGrams_4 a1 k  (wL_RhaveGrams_4 a1 k  X4_47 n) X4_47 v2 v3 M
def w_RhaveGrams (a1 : Int) (M : gSt) (k : Int → gSt → Prop) : Prop :=
∃ n, wL_RhaveGrams_4 a1 k  (fun u2_4 M4 =>
    (u2_4 = 0 ∨ u2_4 = 1) ∧ (k u2_4 M4)) n 1 0 M
set_option maxHeartbeats 4000000 in
set_option maxRecDepth 100000 in
theorem m_RhaveGrams {l : Launch} {D : va_G} {cl : List vw_C} {tys : List (ClassId × FieldType)} {ad : Nat → Nat} {cI : ClassId} {ci : Nat} {Z : (Nat → Prop) → State → Prop} (hci : cl[ci]? = some (RX9, TX9, 23)) {a1 : Int} {M : gSt} {k : Int → gSt → Prop} (h : w_RhaveGrams a1 M k) : MOi l yX9_haveGrams cX9_haveGrams 4 .boolean (rmR 1 22) D cl ((cI, .int) :: tys) (wR ad cI ci) tR Z [.ref (ad 0), iv a1] M k := by
  refine moi_intro (by decide +kernel) (Nat.le_of_ble_eq_true rfl) wi_246 ?_
  intro p e s m args below meth c A Q C hR
  have pB40 : ∀ (r4 : Int → Int → gSt → Prop) (X4_47 : Int → gSt → Prop) (hr4 : ∀ (v2 : Int) (v3 : Int) (M : gSt), r4 v2 v3 M → gG p l e (rmR 1 22) s m args below meth c Q D cl A (wR ad cI ci) 4 4 [(0, .ref (ad 0)), (1, iv a1), (2, iv v2), (3, iv v3)] [] M) (hX4_47 : ∀ (v2 : Int) (M : gSt), X4_47 v2 M → gG p l e (rmR 1 22) s m args below meth c Q D cl A (wR ad cI ci) 4 47 [(2, iv v2)] [] M) (v3 : Int) (s0 : Int) (M : gSt), wB_RhaveGrams_40 a1 k r4 X4_47 v3 s0 M → gG p l e (rmR 1 22) s m args below meth c Q D cl A (wR ad cI ci) 4 40 [(0, .ref (ad 0)), (1, iv a1), (3, iv v3)] [iv s0] M := by
    intro r4 X4_47 hr4 hX4_47 v3 s0 M h
    unfold wB_RhaveGrams_40 at h
    refine g_istore_n C dR_haveGrams_40 (by decide) rfl ?_
    refine g_locals (lv' := [(0, .ref (ad 0)), (1, iv a1), (2, iv s0), (3, iv v3)]) rfl ?_
    refine g_iinc C dR_haveGrams_41 rfl (by decide) rfl ?_
    refine g_locals (lv' := [(0, .ref (ad 0)), (1, iv a1), (2, iv s0), (3, iv (v3 + 1))]) rfl ?_
    refine g_goto C 4 dR_haveGrams_44 (by decide) ?_
    refine g_locals (lv' := [(0, .ref (ad 0)), (1, iv a1), (2, iv s0), (3, iv (v3 + 1))]) rfl ?_
    exact hr4 _ _  _ h
  have pB39 : ∀ (r4 : Int → Int → gSt → Prop) (X4_47 : Int → gSt → Prop) (hr4 : ∀ (v2 : Int) (v3 : Int) (M : gSt), r4 v2 v3 M → gG p l e (rmR 1 22) s m args below meth c Q D cl A (wR ad cI ci) 4 4 [(0, .ref (ad 0)), (1, iv a1), (2, iv v2), (3, iv v3)] [] M) (hX4_47 : ∀ (v2 : Int) (M : gSt), X4_47 v2 M → gG p l e (rmR 1 22) s m args below meth c Q D cl A (wR ad cI ci) 4 47 [(2, iv v2)] [] M) (v3 : Int) (M : gSt), wB_RhaveGrams_39 a1 k r4 X4_47 v3 M → gG p l e (rmR 1 22) s m args below meth c Q D cl A (wR ad cI ci) 4 39 [(0, .ref (ad 0)), (1, iv a1), (3, iv v3)] [] M := by
    intro r4 X4_47 hr4 hX4_47 v3 M h
    unfold wB_RhaveGrams_39 at h
    refine g_iconst C dR_haveGrams_39 ?_
    refine g_locals (lv' := [(0, .ref (ad 0)), (1, iv a1), (3, iv v3)]) rfl ?_
    exact pB40 r4 X4_47 hr4 hX4_47 _ _ _ h
  have pB35 : ∀ (r4 : Int → Int → gSt → Prop) (X4_47 : Int → gSt → Prop) (hr4 : ∀ (v2 : Int) (v3 : Int) (M : gSt), r4 v2 v3 M → gG p l e (rmR 1 22) s m args below meth c Q D cl A (wR ad cI ci) 4 4 [(0, .ref (ad 0)), (1, iv a1), (2, iv v2), (3, iv v3)] [] M) (hX4_47 : ∀ (v2 : Int) (M : gSt), X4_47 v2 M → gG p l e (rmR 1 22) s m args below meth c Q D cl A (wR ad cI ci) 4 47 [(2, iv v2)] [] M) (v3 : Int) (M : gSt), wB_RhaveGrams_35 a1 k r4 X4_47 v3 M → gG p l e (rmR 1 22) s m args below meth c Q D cl A (wR ad cI ci) 4 35 [(0, .ref (ad 0)), (1, iv a1), (3, iv v3)] [] M := by
    intro r4 X4_47 hr4 hX4_47 v3 M h
    unfold wB_RhaveGrams_35 at h
    refine g_iconst C dR_haveGrams_35 ?_
    refine g_goto C 40 dR_haveGrams_36 (by decide) ?_
    refine g_locals (lv' := [(0, .ref (ad 0)), (1, iv a1), (3, iv v3)]) rfl ?_
    exact pB40 r4 X4_47 hr4 hX4_47 _ _ _ h
  have pC4 : ∀ (r4 : Int → Int → gSt → Prop) (X4_47 : Int → gSt → Prop) (hr4 : ∀ (v2 : Int) (v3 : Int) (M : gSt), r4 v2 v3 M → gG p l e (rmR 1 22) s m args below meth c Q D cl A (wR ad cI ci) 4 4 [(0, .ref (ad 0)), (1, iv a1), (2, iv v2), (3, iv v3)] [] M) (hX4_47 : ∀ (v2 : Int) (M : gSt), X4_47 v2 M → gG p l e (rmR 1 22) s m args below meth c Q D cl A (wR ad cI ci) 4 47 [(2, iv v2)] [] M) (v2 : Int) (v3 : Int) (M : gSt), wC_RhaveGrams_4 a1 k r4 X4_47 v2 v3 M → gG p l e (rmR 1 22) s m args below meth c Q D cl A (wR ad cI ci) 4 4 [(0, .ref (ad 0)), (1, iv a1), (2, iv v2), (3, iv v3)] [] M := by
    intro r4 X4_47 hr4 hX4_47 v2 v3 M h
    unfold wC_RhaveGrams_4 at h
    refine g_iload_n C dR_haveGrams_4 rfl ?_
    refine g_aload_n C dR_haveGrams_5 rfl ?_
    refine rf_s C hci dR_haveGrams_6 ?_
    refine g_iconst C dR_haveGrams_9 ?_
    refine g_iald C (n := 536) dR_haveGrams_10 rfl (by decide) ⟨by decide, by decide⟩ ?_
    refine g_icmp_ge C 47 dR_haveGrams_11 (by decide) (fun hc => ?_) (fun hc => ?_)
    · replace h := h.1 hc
      refine g_locals (lv' := [(2, iv v2)]) rfl ?_
      exact hX4_47 _  _ h
    · replace h := h.2 hc
      refine g_iload_n C dR_haveGrams_14 rfl ?_
      refine g_if_eq C 39 dR_haveGrams_15 (by decide) (fun hc => ?_) (fun hc => ?_)
      · replace h := h.1 hc
        refine g_locals (lv' := [(0, .ref (ad 0)), (1, iv a1), (3, iv v3)]) rfl ?_
        exact pB39 r4 X4_47 hr4 hX4_47 _ _ h
      · replace h := h.2 hc
        refine g_iload_n C dR_haveGrams_18 rfl ?_
        refine g_iload_n C dR_haveGrams_19 rfl ?_
        refine g_ishr C dR_haveGrams_20 ?_
        refine g_iconst C dR_haveGrams_21 ?_
        refine g_iand C dR_haveGrams_22 ?_
        refine g_if_eq C 35 dR_haveGrams_23 (by decide) (fun hc => ?_) (fun hc => ?_)
        · replace h := h.1 hc
          refine g_locals (lv' := [(0, .ref (ad 0)), (1, iv a1), (3, iv v3)]) rfl ?_
          exact pB35 r4 X4_47 hr4 hX4_47 _ _ h
        · replace h := h.2 hc
          refine g_aload_n C dR_haveGrams_26 rfl ?_
          refine g_iload_n C dR_haveGrams_27 rfl ?_
          refine g_iconst C dR_haveGrams_28 ?_
          refine g_callVi C (nargs := 2) (o := 0) (st := []) (m_Rits hci h) rfl (by decide) hci rfl gd_its (by decide +kernel) ⟨rfl, rfl⟩ dR_haveGrams_29 ⟨by decide, by decide⟩ rfl rfl (Nat.le_of_ble_eq_true rfl) ?_
          intro r29c M29 hN
          replace h := hN
          clear hN
          refine g_if_le C 39 dR_haveGrams_32 (by decide) (fun hc => ?_) (fun hc => ?_)
          · replace h := h.1 hc
            refine g_locals (lv' := [(0, .ref (ad 0)), (1, iv a1), (3, iv v3)]) rfl ?_
            exact pB39 r4 X4_47 hr4 hX4_47 _ _ h
          · replace h := h.2 hc
            refine g_locals (lv' := [(0, .ref (ad 0)), (1, iv a1), (3, iv v3)]) rfl ?_
            exact pB35 r4 X4_47 hr4 hX4_47 _ _ h
  have pL4 : ∀  (X4_47 : Int → gSt → Prop) (hX4_47 : ∀ (v2 : Int) (M : gSt), X4_47 v2 M → gG p l e (rmR 1 22) s m args below meth c Q D cl A (wR ad cI ci) 4 47 [(2, iv v2)] [] M) (n : Nat) (v2 : Int) (v3 : Int) (M : gSt), wL_RhaveGrams_4 a1 k  X4_47 n v2 v3 M → gG p l e (rmR 1 22) s m args below meth c Q D cl A (wR ad cI ci) 4 4 [(0, .ref (ad 0)), (1, iv a1), (2, iv v2), (3, iv v3)] [] M := by
    intro  X4_47 hX4_47 n
    induction n with
    | zero => intro v2 v3 M h; exact h.elim
    | succ n ih =>
      intro v2 v3 M h
      exact pC4  (wL_RhaveGrams_4 a1 k  X4_47 n) X4_47 ih hX4_47 v2 v3 M h
  refine g_locals (lv' := [(0, .ref (ad 0)), (1, iv a1)]) rfl ?_
  unfold w_RhaveGrams at h
  refine g_iconst C dR_haveGrams_0 ?_
  refine g_istore_n C dR_haveGrams_1 (by decide) rfl ?_
  refine g_locals (lv' := [(0, .ref (ad 0)), (1, iv a1), (2, iv 1)]) rfl ?_
  refine g_iconst C dR_haveGrams_2 ?_
  refine g_istore_n C dR_haveGrams_3 (by decide) rfl ?_
  refine g_locals (lv' := [(0, .ref (ad 0)), (1, iv a1), (2, iv 1), (3, iv 0)]) rfl ?_
  refine g_locals (lv' := [(0, .ref (ad 0)), (1, iv a1), (2, iv 1), (3, iv 0)]) rfl ?_
  obtain ⟨n, h⟩ := h
  refine pL4 _ ?_ n _ _ _ h
  · intro u2_4 M4 hN
    replace h := hN
    clear hN
    refine g_iload_n C dR_haveGrams_47 rfl ?_
    exact hR _ _ _ _ dR_haveGrams_48 (zn_bool h.1).1 h.2
def wB_Rmost_27 (a1 : Int) (a2 : Int) (a3 : Int) (k : Int → gSt → Prop)   (M : gSt) : Prop :=
w_Rerror 1 M (fun r29c M29 => k r29c M29)
def wB_Rmost_119 (a1 : Int) (a2 : Int) (a3 : Int) (k : Int → gSt → Prop) (r39 : Int → Int → gSt → Prop) (X39_125 : Int → gSt → Prop) (v4 : Int) (v5 : Int) (M : gSt) : Prop :=
r39 v4 (v5 + 1) M
def wB_Rmost_117 (a1 : Int) (a2 : Int) (a3 : Int) (k : Int → gSt → Prop) (r39 : Int → Int → gSt → Prop) (X39_125 : Int → gSt → Prop) (v5 : Int) (s0 : Int) (M : gSt) : Prop :=
wB_Rmost_119 a1 a2 a3 k r39 X39_125 s0 v5 M
def wB_Rmost_110 (a1 : Int) (a2 : Int) (a3 : Int) (k : Int → gSt → Prop) (r39 : Int → Int → gSt → Prop) (X39_125 : Int → gSt → Prop) (v5 : Int) (M : gSt) : Prop :=
wB_Rmost_117 a1 a2 a3 k r39 X39_125 v5 v5 M
def wB_Rmost_115 (a1 : Int) (a2 : Int) (a3 : Int) (k : Int → gSt → Prop) (r39 : Int → Int → gSt → Prop) (X39_125 : Int → gSt → Prop) (v4 : Int) (v5 : Int) (M : gSt) : Prop :=
wB_Rmost_117 a1 a2 a3 k r39 X39_125 v5 v4 M
def wC_Rmost_39 (a1 : Int) (a2 : Int) (a3 : Int) (k : Int → gSt → Prop) (r39 : Int → Int → gSt → Prop) (X39_125 : Int → gSt → Prop) (v4 : Int) (v5 : Int) (M : gSt) : Prop :=

  (wrap (xshl 1 (M 1 0)) ≤ wrap v5 →
    X39_125 v4 M) ∧
  (wrap v5 < wrap (xshl 1 (M 1 0)) →
    w_RbitsOf v5 M (fun r54c M54 => 
    (wrap a2 < wrap r54c →
      wB_Rmost_119 a1 a2 a3 k r39 X39_125 v4 v5 M54) ∧
    (wrap r54c ≤ wrap a2 →
      w_RhaveGrams v5 M54 (fun r64c M64 => 
      (wrap r64c = 0 →
        wB_Rmost_119 a1 a2 a3 k r39 X39_125 v4 v5 M64) ∧
      (¬ wrap r64c = 0 →
        w_Rtogether a1 v5 M64 (fun r74c M74 => w_Rtogether a1 v4 M74 (fun r81c M81 => ∀ x6_85 : Int, x6_85 = r74c - r81c → (
        (0 < wrap x6_85 →
          wB_Rmost_110 a1 a2 a3 k r39 X39_125 v5 M81) ∧
        (wrap x6_85 ≤ 0 →

          (¬ wrap x6_85 = 0 →
            wB_Rmost_115 a1 a2 a3 k r39 X39_125 v4 v5 M81) ∧
          (wrap x6_85 = 0 →
            w_RbitsOf v5 M81 (fun r99c M99 => w_RbitsOf v4 M99 (fun r104c M104 => 
            (wrap r104c ≤ wrap r99c →
              wB_Rmost_115 a1 a2 a3 k r39 X39_125 v4 v5 M104) ∧
            (wrap r99c < wrap r104c →
              wB_Rmost_110 a1 a2 a3 k r39 X39_125 v5 M104)))))))))))))
def wL_Rmost_39 (a1 : Int) (a2 : Int) (a3 : Int) (k : Int → gSt → Prop)  (X39_125 : Int → gSt → Prop) : Nat → Int → Int → gSt → Prop
  | 0 => fun _ _ _ => False
  | n + 1 => fun v4 v5 M => wC_Rmost_39 a1 a2 a3 k  (wL_Rmost_39 a1 a2 a3 k  X39_125 n) X39_125 v4 v5 M
def w_Rmost (a1 : Int) (a2 : Int) (a3 : Int) (M : gSt) (k : Int → gSt → Prop) : Prop :=
w_Rin a1 0 3 M (fun r3c M3 => 
  (wrap r3c = 0 →
    wB_Rmost_27 a1 a2 a3 k   M3) ∧
  (¬ wrap r3c = 0 →
    w_Rin a2 0 3 M3 (fun r12c M12 => 
    (wrap r12c = 0 →
      wB_Rmost_27 a1 a2 a3 k   M12) ∧
    (¬ wrap r12c = 0 →
      w_Rin a3 0 1 M12 (fun r21c M21 => 
      (¬ wrap r21c = 0 →
        ∃ n, wL_Rmost_39 a1 a2 a3 k  (fun u4_39 M39 =>

          (¬ wrap a3 = 0 →
            w_Rtogether a1 u4_39 M39 (fun r138c M138 => k r138c M138)) ∧
          (wrap a3 = 0 →
            k u4_39 M39)) n 0 1 M21) ∧
      (wrap r21c = 0 →
        wB_Rmost_27 a1 a2 a3 k   M21))))))
set_option maxHeartbeats 4000000 in
set_option maxRecDepth 100000 in
theorem m_Rmost {l : Launch} {D : va_G} {cl : List vw_C} {tys : List (ClassId × FieldType)} {ad : Nat → Nat} {cI : ClassId} {ci : Nat} {Z : (Nat → Prop) → State → Prop} (hci : cl[ci]? = some (RX9, TX9, 23)) {a1 : Int} {a2 : Int} {a3 : Int} {M : gSt} {k : Int → gSt → Prop} (h : w_Rmost a1 a2 a3 M k) : MOi l yX9_most cX9_most 7 .int (rmR 2 49) D cl ((cI, .int) :: tys) (wR ad cI ci) tR Z [.ref (ad 0), iv a1, iv a2, iv a3] M k := by
  refine moi_intro (by decide +kernel) (Nat.le_of_ble_eq_true rfl) wi_253 ?_
  intro p e s m args below meth c A Q C hR
  have pB27 : ∀    (M : gSt), wB_Rmost_27 a1 a2 a3 k   M → gG p l e (rmR 2 49) s m args below meth c Q D cl A (wR ad cI ci) 7 27 [(0, .ref (ad 0))] [] M := by
    intro    M h
    unfold wB_Rmost_27 at h
    refine g_aload_n C dR_most_27 rfl ?_
    refine g_iconst C dR_most_28 ?_
    refine g_callVi C (nargs := 1) (o := 0) (st := []) (m_Rerror hci h) rfl (by decide) hci rfl gd_error (by decide +kernel) ⟨rfl, rfl⟩ dR_most_29 ⟨by decide, by decide⟩ rfl rfl (Nat.le_of_ble_eq_true rfl) ?_
    intro r29c M29 hN
    replace h := hN
    clear hN
    exact hR _ _ _ _ dR_most_32 rfl h
  have pB119 : ∀ (r39 : Int → Int → gSt → Prop) (X39_125 : Int → gSt → Prop) (hr39 : ∀ (v4 : Int) (v5 : Int) (M : gSt), r39 v4 v5 M → gG p l e (rmR 2 49) s m args below meth c Q D cl A (wR ad cI ci) 7 39 [(0, .ref (ad 0)), (1, iv a1), (2, iv a2), (3, iv a3), (4, iv v4), (5, iv v5)] [] M) (hX39_125 : ∀ (v4 : Int) (M : gSt), X39_125 v4 M → gG p l e (rmR 2 49) s m args below meth c Q D cl A (wR ad cI ci) 7 125 [(0, .ref (ad 0)), (1, iv a1), (3, iv a3), (4, iv v4)] [] M) (v4 : Int) (v5 : Int) (M : gSt), wB_Rmost_119 a1 a2 a3 k r39 X39_125 v4 v5 M → gG p l e (rmR 2 49) s m args below meth c Q D cl A (wR ad cI ci) 7 119 [(0, .ref (ad 0)), (1, iv a1), (2, iv a2), (3, iv a3), (4, iv v4), (5, iv v5)] [] M := by
    intro r39 X39_125 hr39 hX39_125 v4 v5 M h
    unfold wB_Rmost_119 at h
    refine g_iinc C dR_most_119 rfl (by decide) rfl ?_
    refine g_locals (lv' := [(0, .ref (ad 0)), (1, iv a1), (2, iv a2), (3, iv a3), (4, iv v4), (5, iv (v5 + 1))]) rfl ?_
    refine g_goto C 39 dR_most_122 (by decide) ?_
    refine g_locals (lv' := [(0, .ref (ad 0)), (1, iv a1), (2, iv a2), (3, iv a3), (4, iv v4), (5, iv (v5 + 1))]) rfl ?_
    exact hr39 _ _  _ h
  have pB117 : ∀ (r39 : Int → Int → gSt → Prop) (X39_125 : Int → gSt → Prop) (hr39 : ∀ (v4 : Int) (v5 : Int) (M : gSt), r39 v4 v5 M → gG p l e (rmR 2 49) s m args below meth c Q D cl A (wR ad cI ci) 7 39 [(0, .ref (ad 0)), (1, iv a1), (2, iv a2), (3, iv a3), (4, iv v4), (5, iv v5)] [] M) (hX39_125 : ∀ (v4 : Int) (M : gSt), X39_125 v4 M → gG p l e (rmR 2 49) s m args below meth c Q D cl A (wR ad cI ci) 7 125 [(0, .ref (ad 0)), (1, iv a1), (3, iv a3), (4, iv v4)] [] M) (v5 : Int) (s0 : Int) (M : gSt), wB_Rmost_117 a1 a2 a3 k r39 X39_125 v5 s0 M → gG p l e (rmR 2 49) s m args below meth c Q D cl A (wR ad cI ci) 7 117 [(0, .ref (ad 0)), (1, iv a1), (2, iv a2), (3, iv a3), (5, iv v5)] [iv s0] M := by
    intro r39 X39_125 hr39 hX39_125 v5 s0 M h
    unfold wB_Rmost_117 at h
    refine g_istore C dR_most_117 (by decide) rfl ?_
    refine g_locals (lv' := [(0, .ref (ad 0)), (1, iv a1), (2, iv a2), (3, iv a3), (4, iv s0), (5, iv v5)]) rfl ?_
    refine g_locals (lv' := [(0, .ref (ad 0)), (1, iv a1), (2, iv a2), (3, iv a3), (4, iv s0), (5, iv v5)]) rfl ?_
    exact pB119 r39 X39_125 hr39 hX39_125 _ _ _ h
  have pB110 : ∀ (r39 : Int → Int → gSt → Prop) (X39_125 : Int → gSt → Prop) (hr39 : ∀ (v4 : Int) (v5 : Int) (M : gSt), r39 v4 v5 M → gG p l e (rmR 2 49) s m args below meth c Q D cl A (wR ad cI ci) 7 39 [(0, .ref (ad 0)), (1, iv a1), (2, iv a2), (3, iv a3), (4, iv v4), (5, iv v5)] [] M) (hX39_125 : ∀ (v4 : Int) (M : gSt), X39_125 v4 M → gG p l e (rmR 2 49) s m args below meth c Q D cl A (wR ad cI ci) 7 125 [(0, .ref (ad 0)), (1, iv a1), (3, iv a3), (4, iv v4)] [] M) (v5 : Int) (M : gSt), wB_Rmost_110 a1 a2 a3 k r39 X39_125 v5 M → gG p l e (rmR 2 49) s m args below meth c Q D cl A (wR ad cI ci) 7 110 [(0, .ref (ad 0)), (1, iv a1), (2, iv a2), (3, iv a3), (5, iv v5)] [] M := by
    intro r39 X39_125 hr39 hX39_125 v5 M h
    unfold wB_Rmost_110 at h
    refine g_iload C dR_most_110 rfl ?_
    refine g_goto C 117 dR_most_112 (by decide) ?_
    refine g_locals (lv' := [(0, .ref (ad 0)), (1, iv a1), (2, iv a2), (3, iv a3), (5, iv v5)]) rfl ?_
    exact pB117 r39 X39_125 hr39 hX39_125 _ _ _ h
  have pB115 : ∀ (r39 : Int → Int → gSt → Prop) (X39_125 : Int → gSt → Prop) (hr39 : ∀ (v4 : Int) (v5 : Int) (M : gSt), r39 v4 v5 M → gG p l e (rmR 2 49) s m args below meth c Q D cl A (wR ad cI ci) 7 39 [(0, .ref (ad 0)), (1, iv a1), (2, iv a2), (3, iv a3), (4, iv v4), (5, iv v5)] [] M) (hX39_125 : ∀ (v4 : Int) (M : gSt), X39_125 v4 M → gG p l e (rmR 2 49) s m args below meth c Q D cl A (wR ad cI ci) 7 125 [(0, .ref (ad 0)), (1, iv a1), (3, iv a3), (4, iv v4)] [] M) (v4 : Int) (v5 : Int) (M : gSt), wB_Rmost_115 a1 a2 a3 k r39 X39_125 v4 v5 M → gG p l e (rmR 2 49) s m args below meth c Q D cl A (wR ad cI ci) 7 115 [(0, .ref (ad 0)), (1, iv a1), (2, iv a2), (3, iv a3), (4, iv v4), (5, iv v5)] [] M := by
    intro r39 X39_125 hr39 hX39_125 v4 v5 M h
    unfold wB_Rmost_115 at h
    refine g_iload C dR_most_115 rfl ?_
    refine g_locals (lv' := [(0, .ref (ad 0)), (1, iv a1), (2, iv a2), (3, iv a3), (5, iv v5)]) rfl ?_
    exact pB117 r39 X39_125 hr39 hX39_125 _ _ _ h
  have pC39 : ∀ (r39 : Int → Int → gSt → Prop) (X39_125 : Int → gSt → Prop) (hr39 : ∀ (v4 : Int) (v5 : Int) (M : gSt), r39 v4 v5 M → gG p l e (rmR 2 49) s m args below meth c Q D cl A (wR ad cI ci) 7 39 [(0, .ref (ad 0)), (1, iv a1), (2, iv a2), (3, iv a3), (4, iv v4), (5, iv v5)] [] M) (hX39_125 : ∀ (v4 : Int) (M : gSt), X39_125 v4 M → gG p l e (rmR 2 49) s m args below meth c Q D cl A (wR ad cI ci) 7 125 [(0, .ref (ad 0)), (1, iv a1), (3, iv a3), (4, iv v4)] [] M) (v4 : Int) (v5 : Int) (M : gSt), wC_Rmost_39 a1 a2 a3 k r39 X39_125 v4 v5 M → gG p l e (rmR 2 49) s m args below meth c Q D cl A (wR ad cI ci) 7 39 [(0, .ref (ad 0)), (1, iv a1), (2, iv a2), (3, iv a3), (4, iv v4), (5, iv v5)] [] M := by
    intro r39 X39_125 hr39 hX39_125 v4 v5 M h
    unfold wC_Rmost_39 at h
    refine g_iload C dR_most_39 rfl ?_
    refine g_iconst C dR_most_41 ?_
    refine g_aload_n C dR_most_42 rfl ?_
    refine rf_s C hci dR_most_43 ?_
    refine g_iconst C dR_most_46 ?_
    refine g_iald C (n := 536) dR_most_47 rfl (by decide) ⟨by decide, by decide⟩ ?_
    refine g_ishl C dR_most_48 ?_
    refine g_icmp_ge C 125 dR_most_49 (by decide) (fun hc => ?_) (fun hc => ?_)
    · replace h := h.1 hc
      refine g_locals (lv' := [(0, .ref (ad 0)), (1, iv a1), (3, iv a3), (4, iv v4)]) rfl ?_
      exact hX39_125 _  _ h
    · replace h := h.2 hc
      refine g_iload C dR_most_52 rfl ?_
      refine g_callSi C (nargs := 1) (st := []) (m_RbitsOf hci h) gd_bitsOf (by decide +kernel) ⟨rfl, rfl⟩ dR_most_54 ⟨by decide, by decide⟩ rfl rfl (Nat.le_of_ble_eq_true rfl) ?_
      intro r54c M54 hN
      replace h := hN
      clear hN
      refine g_iload_n C dR_most_57 rfl ?_
      refine g_icmp_gt C 119 dR_most_58 (by decide) (fun hc => ?_) (fun hc => ?_)
      · replace h := h.1 hc
        refine g_locals (lv' := [(0, .ref (ad 0)), (1, iv a1), (2, iv a2), (3, iv a3), (4, iv v4), (5, iv v5)]) rfl ?_
        exact pB119 r39 X39_125 hr39 hX39_125 _ _ _ h
      · replace h := h.2 hc
        refine g_aload_n C dR_most_61 rfl ?_
        refine g_iload C dR_most_62 rfl ?_
        refine g_callVi C (nargs := 1) (o := 0) (st := []) (m_RhaveGrams hci h) rfl (by decide) hci rfl gd_haveGrams (by decide +kernel) ⟨rfl, rfl⟩ dR_most_64 ⟨by decide, by decide⟩ rfl rfl (Nat.le_of_ble_eq_true rfl) ?_
        intro r64c M64 hN
        replace h := hN
        clear hN
        refine g_if_eq C 119 dR_most_67 (by decide) (fun hc => ?_) (fun hc => ?_)
        · replace h := h.1 hc
          refine g_locals (lv' := [(0, .ref (ad 0)), (1, iv a1), (2, iv a2), (3, iv a3), (4, iv v4), (5, iv v5)]) rfl ?_
          exact pB119 r39 X39_125 hr39 hX39_125 _ _ _ h
        · replace h := h.2 hc
          refine g_aload_n C dR_most_70 rfl ?_
          refine g_iload_n C dR_most_71 rfl ?_
          refine g_iload C dR_most_72 rfl ?_
          refine g_callVi C (nargs := 2) (o := 0) (st := []) (m_Rtogether hci h) rfl (by decide) hci rfl gd_together (by decide +kernel) ⟨rfl, rfl⟩ dR_most_74 ⟨by decide, by decide⟩ rfl rfl (Nat.le_of_ble_eq_true rfl) ?_
          intro r74c M74 hN
          replace h := hN
          clear hN
          refine g_aload_n C dR_most_77 rfl ?_
          refine g_iload_n C dR_most_78 rfl ?_
          refine g_iload C dR_most_79 rfl ?_
          refine g_callVi C (nargs := 2) (o := 0) (st := [iv r74c]) (m_Rtogether hci h) rfl (by decide) hci rfl gd_together (by decide +kernel) ⟨rfl, rfl⟩ dR_most_81 ⟨by decide, by decide⟩ rfl rfl (Nat.le_of_ble_eq_true rfl) ?_
          intro r81c M81 hN
          replace h := hN
          clear hN
          refine g_isub C dR_most_84 ?_
          refine g_name (fun x6_85 hx6_85 => ?_)
          replace h := h x6_85 hx6_85
          refine g_istore C dR_most_85 (by decide) rfl ?_
          refine g_locals (lv' := [(0, .ref (ad 0)), (1, iv a1), (2, iv a2), (3, iv a3), (4, iv v4), (5, iv v5), (6, iv x6_85)]) rfl ?_
          refine g_iload C dR_most_87 rfl ?_
          refine g_if_gt C 110 dR_most_89 (by decide) (fun hc => ?_) (fun hc => ?_)
          · replace h := h.1 hc
            refine g_locals (lv' := [(0, .ref (ad 0)), (1, iv a1), (2, iv a2), (3, iv a3), (5, iv v5)]) rfl ?_
            exact pB110 r39 X39_125 hr39 hX39_125 _ _ h
          · replace h := h.2 hc
            refine g_iload C dR_most_92 rfl ?_
            refine g_if_ne C 115 dR_most_94 (by decide) (fun hc => ?_) (fun hc => ?_)
            · replace h := h.1 hc
              refine g_locals (lv' := [(0, .ref (ad 0)), (1, iv a1), (2, iv a2), (3, iv a3), (4, iv v4), (5, iv v5)]) rfl ?_
              exact pB115 r39 X39_125 hr39 hX39_125 _ _ _ h
            · replace h := h.2 hc
              refine g_iload C dR_most_97 rfl ?_
              refine g_callSi C (nargs := 1) (st := []) (m_RbitsOf hci h) gd_bitsOf (by decide +kernel) ⟨rfl, rfl⟩ dR_most_99 ⟨by decide, by decide⟩ rfl rfl (Nat.le_of_ble_eq_true rfl) ?_
              intro r99c M99 hN
              replace h := hN
              clear hN
              refine g_iload C dR_most_102 rfl ?_
              refine g_callSi C (nargs := 1) (st := [iv r99c]) (m_RbitsOf hci h) gd_bitsOf (by decide +kernel) ⟨rfl, rfl⟩ dR_most_104 ⟨by decide, by decide⟩ rfl rfl (Nat.le_of_ble_eq_true rfl) ?_
              intro r104c M104 hN
              replace h := hN
              clear hN
              refine g_icmp_ge C 115 dR_most_107 (by decide) (fun hc => ?_) (fun hc => ?_)
              · replace h := h.1 hc
                refine g_locals (lv' := [(0, .ref (ad 0)), (1, iv a1), (2, iv a2), (3, iv a3), (4, iv v4), (5, iv v5)]) rfl ?_
                exact pB115 r39 X39_125 hr39 hX39_125 _ _ _ h
              · replace h := h.2 hc
                refine g_locals (lv' := [(0, .ref (ad 0)), (1, iv a1), (2, iv a2), (3, iv a3), (5, iv v5)]) rfl ?_
                exact pB110 r39 X39_125 hr39 hX39_125 _ _ h
  have pL39 : ∀  (X39_125 : Int → gSt → Prop) (hX39_125 : ∀ (v4 : Int) (M : gSt), X39_125 v4 M → gG p l e (rmR 2 49) s m args below meth c Q D cl A (wR ad cI ci) 7 125 [(0, .ref (ad 0)), (1, iv a1), (3, iv a3), (4, iv v4)] [] M) (n : Nat) (v4 : Int) (v5 : Int) (M : gSt), wL_Rmost_39 a1 a2 a3 k  X39_125 n v4 v5 M → gG p l e (rmR 2 49) s m args below meth c Q D cl A (wR ad cI ci) 7 39 [(0, .ref (ad 0)), (1, iv a1), (2, iv a2), (3, iv a3), (4, iv v4), (5, iv v5)] [] M := by
    intro  X39_125 hX39_125 n
    induction n with
    | zero => intro v4 v5 M h; exact h.elim
    | succ n ih =>
      intro v4 v5 M h
      exact pC39  (wL_Rmost_39 a1 a2 a3 k  X39_125 n) X39_125 ih hX39_125 v4 v5 M h
  refine g_locals (lv' := [(0, .ref (ad 0)), (1, iv a1), (2, iv a2), (3, iv a3)]) rfl ?_
  unfold w_Rmost at h
  refine g_iload_n C dR_most_0 rfl ?_
  refine g_iconst C dR_most_1 ?_
  refine g_iconst C dR_most_2 ?_
  refine g_callSi C (nargs := 3) (st := []) (m_Rin hci h) gd_in (by decide +kernel) ⟨rfl, rfl⟩ dR_most_3 ⟨by decide, by decide⟩ rfl rfl (Nat.le_of_ble_eq_true rfl) ?_
  intro r3c M3 hN
  replace h := hN
  clear hN
  refine g_if_eq C 27 dR_most_6 (by decide) (fun hc => ?_) (fun hc => ?_)
  · replace h := h.1 hc
    refine g_locals (lv' := [(0, .ref (ad 0))]) rfl ?_
    exact pB27  _ h
  · replace h := h.2 hc
    refine g_iload_n C dR_most_9 rfl ?_
    refine g_iconst C dR_most_10 ?_
    refine g_iconst C dR_most_11 ?_
    refine g_callSi C (nargs := 3) (st := []) (m_Rin hci h) gd_in (by decide +kernel) ⟨rfl, rfl⟩ dR_most_12 ⟨by decide, by decide⟩ rfl rfl (Nat.le_of_ble_eq_true rfl) ?_
    intro r12c M12 hN
    replace h := hN
    clear hN
    refine g_if_eq C 27 dR_most_15 (by decide) (fun hc => ?_) (fun hc => ?_)
    · replace h := h.1 hc
      refine g_locals (lv' := [(0, .ref (ad 0))]) rfl ?_
      exact pB27  _ h
    · replace h := h.2 hc
      refine g_iload_n C dR_most_18 rfl ?_
      refine g_iconst C dR_most_19 ?_
      refine g_iconst C dR_most_20 ?_
      refine g_callSi C (nargs := 3) (st := []) (m_Rin hci h) gd_in (by decide +kernel) ⟨rfl, rfl⟩ dR_most_21 ⟨by decide, by decide⟩ rfl rfl (Nat.le_of_ble_eq_true rfl) ?_
      intro r21c M21 hN
      replace h := hN
      clear hN
      refine g_if_ne C 33 dR_most_24 (by decide) (fun hc => ?_) (fun hc => ?_)
      · replace h := h.1 hc
        refine g_iconst C dR_most_33 ?_
        refine g_istore C dR_most_34 (by decide) rfl ?_
        refine g_locals (lv' := [(0, .ref (ad 0)), (1, iv a1), (2, iv a2), (3, iv a3), (4, iv 0)]) rfl ?_
        refine g_iconst C dR_most_36 ?_
        refine g_istore C dR_most_37 (by decide) rfl ?_
        refine g_locals (lv' := [(0, .ref (ad 0)), (1, iv a1), (2, iv a2), (3, iv a3), (4, iv 0), (5, iv 1)]) rfl ?_
        refine g_locals (lv' := [(0, .ref (ad 0)), (1, iv a1), (2, iv a2), (3, iv a3), (4, iv 0), (5, iv 1)]) rfl ?_
        obtain ⟨n, h⟩ := h
        refine pL39 _ ?_ n _ _ _ h
        · intro u4_39 M39 hN
          replace h := hN
          clear hN
          refine g_iload_n C dR_most_125 rfl ?_
          refine g_if_ne C 134 dR_most_126 (by decide) (fun hc => ?_) (fun hc => ?_)
          · replace h := h.1 hc
            refine g_aload_n C dR_most_134 rfl ?_
            refine g_iload_n C dR_most_135 rfl ?_
            refine g_iload C dR_most_136 rfl ?_
            refine g_callVi C (nargs := 2) (o := 0) (st := []) (m_Rtogether hci h) rfl (by decide) hci rfl gd_together (by decide +kernel) ⟨rfl, rfl⟩ dR_most_138 ⟨by decide, by decide⟩ rfl rfl (Nat.le_of_ble_eq_true rfl) ?_
            intro r138c M138 hN
            replace h := hN
            clear hN
            exact hR _ _ _ _ dR_most_141 rfl h
          · replace h := h.2 hc
            refine g_iload C dR_most_129 rfl ?_
            refine g_goto C 141 dR_most_131 (by decide) ?_
            exact hR _ _ _ _ dR_most_141 rfl h
      · replace h := h.2 hc
        refine g_locals (lv' := [(0, .ref (ad 0))]) rfl ?_
        exact pB27  _ h
def w_Rbegins (a1 : Int) (M : gSt) (k : gSt → Prop) : Prop :=

  (30 ≤ wrap (M 0 16) →
    k M) ∧
  (wrap (M 0 16) < 30 →
    (0 ≤ M 0 16 ∧ M 0 16 < 30) ∧ (∀ M18 : gSt, M18 = wr M 10 (M 0 16) a1 → (∀ M26 : gSt, M26 = wr M18 0 16 ((M18 0 16) + 1) → (k M26))))
set_option maxHeartbeats 4000000 in
set_option maxRecDepth 100000 in
theorem m_Rbegins {l : Launch} {D : va_G} {cl : List vw_C} {tys : List (ClassId × FieldType)} {ad : Nat → Nat} {cI : ClassId} {ci : Nat} {Z : (Nat → Prop) → State → Prop} (hci : cl[ci]? = some (RX9, TX9, 23)) {a1 : Int} {M : gSt} {k : gSt → Prop} (h : w_Rbegins a1 M k) : MOv l yX9_begins cX9_begins 2 (rmR 0 0) D cl ((cI, .int) :: tys) (wR ad cI ci) tR Z [.ref (ad 0), iv a1] M k := by
  refine mov_intro (by decide +kernel) (Nat.le_of_ble_eq_true rfl) wi_255 ?_
  intro p e s m args below meth c A Q C hR
  refine g_locals (lv' := [(0, .ref (ad 0)), (1, iv a1)]) rfl ?_
  unfold w_Rbegins at h
  refine g_aload_n C dR_begins_0 rfl ?_
  refine rf_traced C hci dR_begins_1 ?_
  refine g_bipush C dR_begins_4 rfl ?_
  refine g_icmp_ge C 29 dR_begins_6 (by decide) (fun hc => ?_) (fun hc => ?_)
  · replace h := h.1 hc
    exact hR _ _ _ dR_begins_29 h
  · replace h := h.2 hc
    refine g_aload_n C dR_begins_9 rfl ?_
    refine rf_trace C hci dR_begins_10 ?_
    refine g_aload_n C dR_begins_13 rfl ?_
    refine rf_traced C hci dR_begins_14 ?_
    refine g_iload_n C dR_begins_17 rfl ?_
    refine g_iast C (n := 30) dR_begins_18 rfl (by decide) h.1 ?_
    replace h := h.2
    refine g_memname (fun M18 hM18 => ?_)
    replace h := h M18 hM18
    refine g_aload_n C dR_begins_19 rfl ?_
    refine g_dup C dR_begins_20 rfl ?_
    refine rf_traced C hci dR_begins_21 ?_
    refine g_iconst C dR_begins_24 ?_
    refine g_iadd C dR_begins_25 ?_
    refine rp_traced C hci dR_begins_26 ?_
    refine g_memname (fun M26 hM26 => ?_)
    replace h := h M26 hM26
    exact hR _ _ _ dR_begins_29 h
end
section
def w_Rabove (a1 : Int) (M : gSt) (k : Int → gSt → Prop) : Prop :=

  (¬ wrap a1 = 4 →

    (¬ wrap a1 = 5 →

      (¬ wrap a1 = 6 →
        k 0 M) ∧
      (wrap a1 = 6 →
        k 3 M)) ∧
    (wrap a1 = 5 →
      k 2 M)) ∧
  (wrap a1 = 4 →
    k 1 M)
set_option maxHeartbeats 4000000 in
set_option maxRecDepth 100000 in
theorem m_Rabove {l : Launch} {D : va_G} {cl : List vw_C} {tys : List (ClassId × FieldType)} {ad : Nat → Nat} {cI : ClassId} {ci : Nat} {Z : (Nat → Prop) → State → Prop} (hci : cl[ci]? = some (RX9, TX9, 23)) {a1 : Int} {M : gSt} {k : Int → gSt → Prop} (h : w_Rabove a1 M k) : MOi l yX9_above cX9_above 1 .int (rmR 0 0) D cl ((cI, .int) :: tys) (wR ad cI ci) tR Z [iv a1] M k := by
  refine moi_intro (by decide +kernel) (Nat.le_of_ble_eq_true rfl) wi_256 ?_
  intro p e s m args below meth c A Q C hR
  refine g_locals (lv' := [(0, iv a1)]) rfl ?_
  unfold w_Rabove at h
  refine g_iload_n C dR_above_0 rfl ?_
  refine g_iconst C dR_above_1 ?_
  refine g_icmp_ne C 9 dR_above_2 (by decide) (fun hc => ?_) (fun hc => ?_)
  · replace h := h.1 hc
    refine g_iload_n C dR_above_9 rfl ?_
    refine g_iconst C dR_above_10 ?_
    refine g_icmp_ne C 18 dR_above_11 (by decide) (fun hc => ?_) (fun hc => ?_)
    · replace h := h.1 hc
      refine g_iload_n C dR_above_18 rfl ?_
      refine g_bipush C dR_above_19 rfl ?_
      refine g_icmp_ne C 28 dR_above_21 (by decide) (fun hc => ?_) (fun hc => ?_)
      · replace h := h.1 hc
        refine g_iconst C dR_above_28 ?_
        exact hR _ _ _ _ dR_above_29 rfl h
      · replace h := h.2 hc
        refine g_iconst C dR_above_24 ?_
        refine g_goto C 29 dR_above_25 (by decide) ?_
        exact hR _ _ _ _ dR_above_29 rfl h
    · replace h := h.2 hc
      refine g_iconst C dR_above_14 ?_
      refine g_goto C 29 dR_above_15 (by decide) ?_
      exact hR _ _ _ _ dR_above_29 rfl h
  · replace h := h.2 hc
    refine g_iconst C dR_above_5 ?_
    refine g_goto C 29 dR_above_6 (by decide) ?_
    exact hR _ _ _ _ dR_above_29 rfl h
def w_RkindNow  (M : gSt) (k : Int → gSt → Prop) : Prop :=
w_Rits (M 0 17) 0 M (fun r6c M6 => k r6c M6)
set_option maxHeartbeats 4000000 in
set_option maxRecDepth 100000 in
theorem m_RkindNow {l : Launch} {D : va_G} {cl : List vw_C} {tys : List (ClassId × FieldType)} {ad : Nat → Nat} {cI : ClassId} {ci : Nat} {Z : (Nat → Prop) → State → Prop} (hci : cl[ci]? = some (RX9, TX9, 23))  {M : gSt} {k : Int → gSt → Prop} (h : w_RkindNow  M k) : MOi l yX9_kindNow cX9_kindNow 1 .int (rmR 1 22) D cl ((cI, .int) :: tys) (wR ad cI ci) tR Z [.ref (ad 0)] M k := by
  refine moi_intro (by decide +kernel) (Nat.le_of_ble_eq_true rfl) wi_258 ?_
  intro p e s m args below meth c A Q C hR
  refine g_locals (lv' := [(0, .ref (ad 0))]) rfl ?_
  unfold w_RkindNow at h
  refine g_aload_n C dR_kindNow_0 rfl ?_
  refine g_aload_n C dR_kindNow_1 rfl ?_
  refine rf_speaks C hci dR_kindNow_2 ?_
  refine g_iconst C dR_kindNow_5 ?_
  refine g_callVi C (nargs := 2) (o := 0) (st := []) (m_Rits hci h) rfl (by decide) hci rfl gd_its (by decide +kernel) ⟨rfl, rfl⟩ dR_kindNow_6 ⟨by decide, by decide⟩ rfl rfl (Nat.le_of_ble_eq_true rfl) ?_
  intro r6c M6 hN
  replace h := hN
  clear hN
  exact hR _ _ _ _ dR_kindNow_9 rfl h
def w_RmNow  (M : gSt) (k : Int → gSt → Prop) : Prop :=
w_Rits (M 0 17) 1 M (fun r6c M6 => k r6c M6)
set_option maxHeartbeats 4000000 in
set_option maxRecDepth 100000 in
theorem m_RmNow {l : Launch} {D : va_G} {cl : List vw_C} {tys : List (ClassId × FieldType)} {ad : Nat → Nat} {cI : ClassId} {ci : Nat} {Z : (Nat → Prop) → State → Prop} (hci : cl[ci]? = some (RX9, TX9, 23))  {M : gSt} {k : Int → gSt → Prop} (h : w_RmNow  M k) : MOi l yX9_mNow cX9_mNow 1 .int (rmR 1 22) D cl ((cI, .int) :: tys) (wR ad cI ci) tR Z [.ref (ad 0)] M k := by
  refine moi_intro (by decide +kernel) (Nat.le_of_ble_eq_true rfl) wi_259 ?_
  intro p e s m args below meth c A Q C hR
  refine g_locals (lv' := [(0, .ref (ad 0))]) rfl ?_
  unfold w_RmNow at h
  refine g_aload_n C dR_mNow_0 rfl ?_
  refine g_aload_n C dR_mNow_1 rfl ?_
  refine rf_speaks C hci dR_mNow_2 ?_
  refine g_iconst C dR_mNow_5 ?_
  refine g_callVi C (nargs := 2) (o := 0) (st := []) (m_Rits hci h) rfl (by decide) hci rfl gd_its (by decide +kernel) ⟨rfl, rfl⟩ dR_mNow_6 ⟨by decide, by decide⟩ rfl rfl (Nat.le_of_ble_eq_true rfl) ?_
  intro r6c M6 hN
  replace h := hN
  clear hN
  exact hR _ _ _ _ dR_mNow_9 rfl h
def w_Rbody (a1 : Int) (M : gSt) (k : Int → gSt → Prop) : Prop :=
w_Rin a1 0 ((M 0 16) - 1) M (fun r8c M8 => 
  (wrap r8c = 0 →
    w_Rerror 2 M8 (fun r25c M25 => k r25c M25)) ∧
  (¬ wrap r8c = 0 →
    (0 ≤ a1 ∧ a1 < 30) ∧ (k (M8 10 a1) M8)))
set_option maxHeartbeats 4000000 in
set_option maxRecDepth 100000 in
theorem m_Rbody {l : Launch} {D : va_G} {cl : List vw_C} {tys : List (ClassId × FieldType)} {ad : Nat → Nat} {cI : ClassId} {ci : Nat} {Z : (Nat → Prop) → State → Prop} (hci : cl[ci]? = some (RX9, TX9, 23)) {a1 : Int} {M : gSt} {k : Int → gSt → Prop} (h : w_Rbody a1 M k) : MOi l yX9_body cX9_body 2 .int (rmR 1 22) D cl ((cI, .int) :: tys) (wR ad cI ci) tR Z [.ref (ad 0), iv a1] M k := by
  refine moi_intro (by decide +kernel) (Nat.le_of_ble_eq_true rfl) wi_289 ?_
  intro p e s m args below meth c A Q C hR
  refine g_locals (lv' := [(0, .ref (ad 0)), (1, iv a1)]) rfl ?_
  unfold w_Rbody at h
  refine g_iload_n C dR_body_0 rfl ?_
  refine g_iconst C dR_body_1 ?_
  refine g_aload_n C dR_body_2 rfl ?_
  refine rf_traced C hci dR_body_3 ?_
  refine g_iconst C dR_body_6 ?_
  refine g_isub C dR_body_7 ?_
  refine g_callSi C (nargs := 3) (st := []) (m_Rin hci h) gd_in (by decide +kernel) ⟨rfl, rfl⟩ dR_body_8 ⟨by decide, by decide⟩ rfl rfl (Nat.le_of_ble_eq_true rfl) ?_
  intro r8c M8 hN
  replace h := hN
  clear hN
  refine g_if_eq C 23 dR_body_11 (by decide) (fun hc => ?_) (fun hc => ?_)
  · replace h := h.1 hc
    refine g_aload_n C dR_body_23 rfl ?_
    refine g_iconst C dR_body_24 ?_
    refine g_callVi C (nargs := 1) (o := 0) (st := []) (m_Rerror hci h) rfl (by decide) hci rfl gd_error (by decide +kernel) ⟨rfl, rfl⟩ dR_body_25 ⟨by decide, by decide⟩ rfl rfl (Nat.le_of_ble_eq_true rfl) ?_
    intro r25c M25 hN
    replace h := hN
    clear hN
    exact hR _ _ _ _ dR_body_28 rfl h
  · replace h := h.2 hc
    refine g_aload_n C dR_body_14 rfl ?_
    refine rf_trace C hci dR_body_15 ?_
    refine g_iload_n C dR_body_18 rfl ?_
    refine g_iald C (n := 30) dR_body_19 rfl (by decide) h.1 ?_
    replace h := h.2
    refine g_goto C 28 dR_body_20 (by decide) ?_
    exact hR _ _ _ _ dR_body_28 rfl h
def w_RisSheet (a1 : Int) (M : gSt) (k : Int → gSt → Prop) : Prop :=
w_Rin a1 0 3 M (fun r3c M3 => (r3c = 0 ∨ r3c = 1) ∧ (k r3c M3))
set_option maxHeartbeats 4000000 in
set_option maxRecDepth 100000 in
theorem m_RisSheet {l : Launch} {D : va_G} {cl : List vw_C} {tys : List (ClassId × FieldType)} {ad : Nat → Nat} {cI : ClassId} {ci : Nat} {Z : (Nat → Prop) → State → Prop} (hci : cl[ci]? = some (RX9, TX9, 23)) {a1 : Int} {M : gSt} {k : Int → gSt → Prop} (h : w_RisSheet a1 M k) : MOi l yX9_isSheet cX9_isSheet 1 .boolean (rmR 1 22) D cl ((cI, .int) :: tys) (wR ad cI ci) tR Z [iv a1] M k := by
  refine moi_intro (by decide +kernel) (Nat.le_of_ble_eq_true rfl) wi_290 ?_
  intro p e s m args below meth c A Q C hR
  refine g_locals (lv' := [(0, iv a1)]) rfl ?_
  unfold w_RisSheet at h
  refine g_iload_n C dR_isSheet_0 rfl ?_
  refine g_iconst C dR_isSheet_1 ?_
  refine g_iconst C dR_isSheet_2 ?_
  refine g_callSi C (nargs := 3) (st := []) (m_Rin hci h) gd_in (by decide +kernel) ⟨rfl, rfl⟩ dR_isSheet_3 ⟨by decide, by decide⟩ rfl rfl (Nat.le_of_ble_eq_true rfl) ?_
  intro r3c M3 hN
  replace h := hN
  clear hN
  exact hR _ _ _ _ dR_isSheet_6 (zn_bool h.1).1 h.2
def wB_Rsheet_29 (a1 : Int) (a2 : Int) (a3 : Int) (k : Int → gSt → Prop)   (M : gSt) : Prop :=
w_Rerror 1 M (fun r31c M31 => k r31c M31)
def wC_Rsheet_90 (a1 : Int) (a2 : Int) (a3 : Int) (k : Int → gSt → Prop) (r90 : Int → gSt → Prop) (X90_116 : gSt → Prop) (v4 : Int) (M : gSt) : Prop :=

  (24 ≤ wrap v4 →
    X90_116  M) ∧
  (wrap v4 < 24 →
    (0 ≤ (24 * a1) + v4 ∧ (24 * a1) + v4 < 96) ∧ (∀ M109 : gSt, M109 = wr M 13 ((24 * a1) + v4) 0 → (r90 (v4 + 1) M109)))
def wL_Rsheet_90 (a1 : Int) (a2 : Int) (a3 : Int) (k : Int → gSt → Prop)  (X90_116 : gSt → Prop) : Nat → Int → gSt → Prop
  | 0 => fun _ _ => False
  | n + 1 => fun v4 M => wC_Rsheet_90 a1 a2 a3 k  (wL_Rsheet_90 a1 a2 a3 k  X90_116 n) X90_116 v4 M
def wB_Rsheet_86 (a1 : Int) (a2 : Int) (a3 : Int) (k : Int → gSt → Prop)  (s0 : Int) (s1 : Int) (M : gSt) : Prop :=
(0 ≤ s1 ∧ s1 < 4) ∧ (∀ M86 : gSt, M86 = wr M 12 s1 s0 → (∃ n, wL_Rsheet_90 a1 a2 a3 k  (fun  M90 =>
    k 1 M90) n 0 M86))
def wB_Rsheet_65 (a1 : Int) (a2 : Int) (a3 : Int) (k : Int → gSt → Prop)   (M : gSt) : Prop :=
(0 ≤ a1 ∧ a1 < 4) ∧ (∀ M71 : gSt, M71 = wr M 11 a1 a2 → (
  (¬ wrap a2 = 0 →
    wB_Rsheet_86 a1 a2 a3 k  a3 a1 M71) ∧
  (wrap a2 = 0 →
    wB_Rsheet_86 a1 a2 a3 k  0 a1 M71)))
def wB_Rsheet_49 (a1 : Int) (a2 : Int) (a3 : Int) (k : Int → gSt → Prop)   (M : gSt) : Prop :=

  (wrap a2 = 0 →
    wB_Rsheet_65 a1 a2 a3 k   M) ∧
  (¬ wrap a2 = 0 →

    (wrap a3 ≤ 24 →
      wB_Rsheet_65 a1 a2 a3 k   M) ∧
    (24 < wrap a3 →
      w_Rerror 1 M (fun r61c M61 => k r61c M61)))
def wB_Rsheet_35 (a1 : Int) (a2 : Int) (a3 : Int) (k : Int → gSt → Prop)   (M : gSt) : Prop :=

  (wrap a2 = 0 →
    wB_Rsheet_49 a1 a2 a3 k   M) ∧
  (¬ wrap a2 = 0 →

    (0 ≤ wrap a3 →
      wB_Rsheet_49 a1 a2 a3 k   M) ∧
    (wrap a3 < 0 →
      w_Rerror 3 M (fun r45c M45 => k r45c M45)))
def w_Rsheet (a1 : Int) (a2 : Int) (a3 : Int) (M : gSt) (k : Int → gSt → Prop) : Prop :=
w_RisSheet a1 M (fun r1c M1 => 
  (wrap r1c = 0 →
    wB_Rsheet_29 a1 a2 a3 k   M1) ∧
  (¬ wrap r1c = 0 →

    (wrap a2 = 0 →
      wB_Rsheet_35 a1 a2 a3 k   M1) ∧
    (¬ wrap a2 = 0 →

      (wrap a2 = 8 →
        wB_Rsheet_35 a1 a2 a3 k   M1) ∧
      (¬ wrap a2 = 8 →

        (wrap a2 = 16 →
          wB_Rsheet_35 a1 a2 a3 k   M1) ∧
        (¬ wrap a2 = 16 →

          (wrap a2 = 32 →
            wB_Rsheet_35 a1 a2 a3 k   M1) ∧
          (¬ wrap a2 = 32 →
            wB_Rsheet_29 a1 a2 a3 k   M1))))))
set_option maxHeartbeats 4000000 in
set_option maxRecDepth 100000 in
theorem m_Rsheet {l : Launch} {D : va_G} {cl : List vw_C} {tys : List (ClassId × FieldType)} {ad : Nat → Nat} {cI : ClassId} {ci : Nat} {Z : (Nat → Prop) → State → Prop} (hci : cl[ci]? = some (RX9, TX9, 23)) {a1 : Int} {a2 : Int} {a3 : Int} {M : gSt} {k : Int → gSt → Prop} (h : w_Rsheet a1 a2 a3 M k) : MOi l yX9_sheet cX9_sheet 5 .int (rmR 2 42) D cl ((cI, .int) :: tys) (wR ad cI ci) tR Z [.ref (ad 0), iv a1, iv a2, iv a3] M k := by
  refine moi_intro (by decide +kernel) (Nat.le_of_ble_eq_true rfl) wi_293 ?_
  intro p e s m args below meth c A Q C hR
  have pB29 : ∀    (M : gSt), wB_Rsheet_29 a1 a2 a3 k   M → gG p l e (rmR 2 42) s m args below meth c Q D cl A (wR ad cI ci) 5 29 [(0, .ref (ad 0))] [] M := by
    intro    M h
    unfold wB_Rsheet_29 at h
    refine g_aload_n C dR_sheet_29 rfl ?_
    refine g_iconst C dR_sheet_30 ?_
    refine g_callVi C (nargs := 1) (o := 0) (st := []) (m_Rerror hci h) rfl (by decide) hci rfl gd_error (by decide +kernel) ⟨rfl, rfl⟩ dR_sheet_31 ⟨by decide, by decide⟩ rfl rfl (Nat.le_of_ble_eq_true rfl) ?_
    intro r31c M31 hN
    replace h := hN
    clear hN
    exact hR _ _ _ _ dR_sheet_34 rfl h
  have pC90 : ∀ (r90 : Int → gSt → Prop) (X90_116 : gSt → Prop) (hr90 : ∀ (v4 : Int) (M : gSt), r90 v4 M → gG p l e (rmR 2 42) s m args below meth c Q D cl A (wR ad cI ci) 5 90 [(0, .ref (ad 0)), (1, iv a1), (4, iv v4)] [] M) (hX90_116 : ∀  (M : gSt), X90_116  M → gG p l e (rmR 2 42) s m args below meth c Q D cl A (wR ad cI ci) 5 116 [] [] M) (v4 : Int) (M : gSt), wC_Rsheet_90 a1 a2 a3 k r90 X90_116 v4 M → gG p l e (rmR 2 42) s m args below meth c Q D cl A (wR ad cI ci) 5 90 [(0, .ref (ad 0)), (1, iv a1), (4, iv v4)] [] M := by
    intro r90 X90_116 hr90 hX90_116 v4 M h
    unfold wC_Rsheet_90 at h
    refine g_iload C dR_sheet_90 rfl ?_
    refine g_bipush C dR_sheet_92 rfl ?_
    refine g_icmp_ge C 116 dR_sheet_94 (by decide) (fun hc => ?_) (fun hc => ?_)
    · replace h := h.1 hc
      refine g_locals (lv' := []) rfl ?_
      exact hX90_116  _ h
    · replace h := h.2 hc
      refine g_aload_n C dR_sheet_97 rfl ?_
      refine rf_number C hci dR_sheet_98 ?_
      refine g_bipush C dR_sheet_101 rfl ?_
      refine g_iload_n C dR_sheet_103 rfl ?_
      refine g_imul C dR_sheet_104 ?_
      refine g_iload C dR_sheet_105 rfl ?_
      refine g_iadd C dR_sheet_107 ?_
      refine g_iconst C dR_sheet_108 ?_
      refine g_iast C (n := 96) dR_sheet_109 rfl (by decide) h.1 ?_
      replace h := h.2
      refine g_memname (fun M109 hM109 => ?_)
      replace h := h M109 hM109
      refine g_iinc C dR_sheet_110 rfl (by decide) rfl ?_
      refine g_locals (lv' := [(0, .ref (ad 0)), (1, iv a1), (4, iv (v4 + 1))]) rfl ?_
      refine g_goto C 90 dR_sheet_113 (by decide) ?_
      refine g_locals (lv' := [(0, .ref (ad 0)), (1, iv a1), (4, iv (v4 + 1))]) rfl ?_
      exact hr90 _  _ h
  have pL90 : ∀  (X90_116 : gSt → Prop) (hX90_116 : ∀  (M : gSt), X90_116  M → gG p l e (rmR 2 42) s m args below meth c Q D cl A (wR ad cI ci) 5 116 [] [] M) (n : Nat) (v4 : Int) (M : gSt), wL_Rsheet_90 a1 a2 a3 k  X90_116 n v4 M → gG p l e (rmR 2 42) s m args below meth c Q D cl A (wR ad cI ci) 5 90 [(0, .ref (ad 0)), (1, iv a1), (4, iv v4)] [] M := by
    intro  X90_116 hX90_116 n
    induction n with
    | zero => intro v4 M h; exact h.elim
    | succ n ih =>
      intro v4 M h
      exact pC90  (wL_Rsheet_90 a1 a2 a3 k  X90_116 n) X90_116 ih hX90_116 v4 M h
  have pB86 : ∀   (s0 : Int) (s1 : Int) (M : gSt), wB_Rsheet_86 a1 a2 a3 k  s0 s1 M → gG p l e (rmR 2 42) s m args below meth c Q D cl A (wR ad cI ci) 5 86 [(0, .ref (ad 0)), (1, iv a1)] [iv s0, iv s1, .ref (ad 12)] M := by
    intro   s0 s1 M h
    unfold wB_Rsheet_86 at h
    refine g_iast C (n := 4) dR_sheet_86 rfl (by decide) h.1 ?_
    replace h := h.2
    refine g_memname (fun M86 hM86 => ?_)
    replace h := h M86 hM86
    refine g_iconst C dR_sheet_87 ?_
    refine g_istore C dR_sheet_88 (by decide) rfl ?_
    refine g_locals (lv' := [(0, .ref (ad 0)), (1, iv a1), (4, iv 0)]) rfl ?_
    refine g_locals (lv' := [(0, .ref (ad 0)), (1, iv a1), (4, iv 0)]) rfl ?_
    obtain ⟨n, h⟩ := h
    refine pL90 _ ?_ n _ _ h
    · intro  M90 hN
      replace h := hN
      clear hN
      refine g_iconst C dR_sheet_116 ?_
      exact hR _ _ _ _ dR_sheet_117 rfl h
  have pB65 : ∀    (M : gSt), wB_Rsheet_65 a1 a2 a3 k   M → gG p l e (rmR 2 42) s m args below meth c Q D cl A (wR ad cI ci) 5 65 [(0, .ref (ad 0)), (1, iv a1), (2, iv a2), (3, iv a3)] [] M := by
    intro    M h
    unfold wB_Rsheet_65 at h
    refine g_aload_n C dR_sheet_65 rfl ?_
    refine rf_bits C hci dR_sheet_66 ?_
    refine g_iload_n C dR_sheet_69 rfl ?_
    refine g_iload_n C dR_sheet_70 rfl ?_
    refine g_iast C (n := 4) dR_sheet_71 rfl (by decide) h.1 ?_
    replace h := h.2
    refine g_memname (fun M71 hM71 => ?_)
    replace h := h M71 hM71
    refine g_aload_n C dR_sheet_72 rfl ?_
    refine rf_sizes C hci dR_sheet_73 ?_
    refine g_iload_n C dR_sheet_76 rfl ?_
    refine g_iload_n C dR_sheet_77 rfl ?_
    refine g_if_ne C 85 dR_sheet_78 (by decide) (fun hc => ?_) (fun hc => ?_)
    · replace h := h.1 hc
      refine g_iload_n C dR_sheet_85 rfl ?_
      refine g_locals (lv' := [(0, .ref (ad 0)), (1, iv a1)]) rfl ?_
      exact pB86 _ _ _ h
    · replace h := h.2 hc
      refine g_iconst C dR_sheet_81 ?_
      refine g_goto C 86 dR_sheet_82 (by decide) ?_
      refine g_locals (lv' := [(0, .ref (ad 0)), (1, iv a1)]) rfl ?_
      exact pB86 _ _ _ h
  have pB49 : ∀    (M : gSt), wB_Rsheet_49 a1 a2 a3 k   M → gG p l e (rmR 2 42) s m args below meth c Q D cl A (wR ad cI ci) 5 49 [(0, .ref (ad 0)), (1, iv a1), (2, iv a2), (3, iv a3)] [] M := by
    intro    M h
    unfold wB_Rsheet_49 at h
    refine g_iload_n C dR_sheet_49 rfl ?_
    refine g_if_eq C 65 dR_sheet_50 (by decide) (fun hc => ?_) (fun hc => ?_)
    · replace h := h.1 hc
      refine g_locals (lv' := [(0, .ref (ad 0)), (1, iv a1), (2, iv a2), (3, iv a3)]) rfl ?_
      exact pB65  _ h
    · replace h := h.2 hc
      refine g_iload_n C dR_sheet_53 rfl ?_
      refine g_bipush C dR_sheet_54 rfl ?_
      refine g_icmp_le C 65 dR_sheet_56 (by decide) (fun hc => ?_) (fun hc => ?_)
      · replace h := h.1 hc
        refine g_locals (lv' := [(0, .ref (ad 0)), (1, iv a1), (2, iv a2), (3, iv a3)]) rfl ?_
        exact pB65  _ h
      · replace h := h.2 hc
        refine g_aload_n C dR_sheet_59 rfl ?_
        refine g_iconst C dR_sheet_60 ?_
        refine g_callVi C (nargs := 1) (o := 0) (st := []) (m_Rerror hci h) rfl (by decide) hci rfl gd_error (by decide +kernel) ⟨rfl, rfl⟩ dR_sheet_61 ⟨by decide, by decide⟩ rfl rfl (Nat.le_of_ble_eq_true rfl) ?_
        intro r61c M61 hN
        replace h := hN
        clear hN
        exact hR _ _ _ _ dR_sheet_64 rfl h
  have pB35 : ∀    (M : gSt), wB_Rsheet_35 a1 a2 a3 k   M → gG p l e (rmR 2 42) s m args below meth c Q D cl A (wR ad cI ci) 5 35 [(0, .ref (ad 0)), (1, iv a1), (2, iv a2), (3, iv a3)] [] M := by
    intro    M h
    unfold wB_Rsheet_35 at h
    refine g_iload_n C dR_sheet_35 rfl ?_
    refine g_if_eq C 49 dR_sheet_36 (by decide) (fun hc => ?_) (fun hc => ?_)
    · replace h := h.1 hc
      refine g_locals (lv' := [(0, .ref (ad 0)), (1, iv a1), (2, iv a2), (3, iv a3)]) rfl ?_
      exact pB49  _ h
    · replace h := h.2 hc
      refine g_iload_n C dR_sheet_39 rfl ?_
      refine g_if_ge C 49 dR_sheet_40 (by decide) (fun hc => ?_) (fun hc => ?_)
      · replace h := h.1 hc
        refine g_locals (lv' := [(0, .ref (ad 0)), (1, iv a1), (2, iv a2), (3, iv a3)]) rfl ?_
        exact pB49  _ h
      · replace h := h.2 hc
        refine g_aload_n C dR_sheet_43 rfl ?_
        refine g_iconst C dR_sheet_44 ?_
        refine g_callVi C (nargs := 1) (o := 0) (st := []) (m_Rerror hci h) rfl (by decide) hci rfl gd_error (by decide +kernel) ⟨rfl, rfl⟩ dR_sheet_45 ⟨by decide, by decide⟩ rfl rfl (Nat.le_of_ble_eq_true rfl) ?_
        intro r45c M45 hN
        replace h := hN
        clear hN
        exact hR _ _ _ _ dR_sheet_48 rfl h
  refine g_locals (lv' := [(0, .ref (ad 0)), (1, iv a1), (2, iv a2), (3, iv a3)]) rfl ?_
  unfold w_Rsheet at h
  refine g_iload_n C dR_sheet_0 rfl ?_
  refine g_callSi C (nargs := 1) (st := []) (m_RisSheet hci h) gd_isSheet (by decide +kernel) ⟨rfl, rfl⟩ dR_sheet_1 ⟨by decide, by decide⟩ rfl rfl (Nat.le_of_ble_eq_true rfl) ?_
  intro r1c M1 hN
  replace h := hN
  clear hN
  refine g_if_eq C 29 dR_sheet_4 (by decide) (fun hc => ?_) (fun hc => ?_)
  · replace h := h.1 hc
    refine g_locals (lv' := [(0, .ref (ad 0))]) rfl ?_
    exact pB29  _ h
  · replace h := h.2 hc
    refine g_iload_n C dR_sheet_7 rfl ?_
    refine g_if_eq C 35 dR_sheet_8 (by decide) (fun hc => ?_) (fun hc => ?_)
    · replace h := h.1 hc
      refine g_locals (lv' := [(0, .ref (ad 0)), (1, iv a1), (2, iv a2), (3, iv a3)]) rfl ?_
      exact pB35  _ h
    · replace h := h.2 hc
      refine g_iload_n C dR_sheet_11 rfl ?_
      refine g_bipush C dR_sheet_12 rfl ?_
      refine g_icmp_eq C 35 dR_sheet_14 (by decide) (fun hc => ?_) (fun hc => ?_)
      · replace h := h.1 hc
        refine g_locals (lv' := [(0, .ref (ad 0)), (1, iv a1), (2, iv a2), (3, iv a3)]) rfl ?_
        exact pB35  _ h
      · replace h := h.2 hc
        refine g_iload_n C dR_sheet_17 rfl ?_
        refine g_bipush C dR_sheet_18 rfl ?_
        refine g_icmp_eq C 35 dR_sheet_20 (by decide) (fun hc => ?_) (fun hc => ?_)
        · replace h := h.1 hc
          refine g_locals (lv' := [(0, .ref (ad 0)), (1, iv a1), (2, iv a2), (3, iv a3)]) rfl ?_
          exact pB35  _ h
        · replace h := h.2 hc
          refine g_iload_n C dR_sheet_23 rfl ?_
          refine g_bipush C dR_sheet_24 rfl ?_
          refine g_icmp_eq C 35 dR_sheet_26 (by decide) (fun hc => ?_) (fun hc => ?_)
          · replace h := h.1 hc
            refine g_locals (lv' := [(0, .ref (ad 0)), (1, iv a1), (2, iv a2), (3, iv a3)]) rfl ?_
            exact pB35  _ h
          · replace h := h.2 hc
            refine g_locals (lv' := [(0, .ref (ad 0))]) rfl ?_
            exact pB29  _ h
def w_Rput (a1 : Int) (a2 : Int) (a3 : Int) (M : gSt) (k : Int → gSt → Prop) : Prop :=
w_RisSheet a1 M (fun r1c M1 => 
  (¬ wrap r1c = 0 →
    (0 ≤ a1 ∧ a1 < 4) ∧ (
    (¬ wrap (M1 11 a1) = 0 →
      (0 ≤ a1 ∧ a1 < 4) ∧ (w_Rin a2 0 ((M1 12 a1) - 1) M1 (fun r38c M38 => 
      (¬ wrap r38c = 0 →
        (0 ≤ a1 ∧ a1 < 4) ∧ (∀ x4_59 : Int, x4_59 = 32 - (M38 11 a1) → ((0 ≤ (24 * a1) + a2 ∧ (24 * a1) + a2 < 96) ∧ (∀ M78 : gSt, M78 = wr M38 13 ((24 * a1) + a2) (xshr (xshl a3 x4_59) x4_59) → (k 1 M78))))) ∧
      (wrap r38c = 0 →
        w_Rerror 1 M38 (fun r46c M46 => k r46c M46))))) ∧
    (wrap (M1 11 a1) = 0 →
      w_Rerror 2 M1 (fun r24c M24 => k r24c M24)))) ∧
  (wrap r1c = 0 →
    w_Rerror 1 M1 (fun r9c M9 => k r9c M9)))
set_option maxHeartbeats 4000000 in
set_option maxRecDepth 100000 in
theorem m_Rput {l : Launch} {D : va_G} {cl : List vw_C} {tys : List (ClassId × FieldType)} {ad : Nat → Nat} {cI : ClassId} {ci : Nat} {Z : (Nat → Prop) → State → Prop} (hci : cl[ci]? = some (RX9, TX9, 23)) {a1 : Int} {a2 : Int} {a3 : Int} {M : gSt} {k : Int → gSt → Prop} (h : w_Rput a1 a2 a3 M k) : MOi l yX9_put cX9_put 5 .int (rmR 2 42) D cl ((cI, .int) :: tys) (wR ad cI ci) tR Z [.ref (ad 0), iv a1, iv a2, iv a3] M k := by
  refine moi_intro (by decide +kernel) (Nat.le_of_ble_eq_true rfl) wi_294 ?_
  intro p e s m args below meth c A Q C hR
  refine g_locals (lv' := [(0, .ref (ad 0)), (1, iv a1), (2, iv a2), (3, iv a3)]) rfl ?_
  unfold w_Rput at h
  refine g_iload_n C dR_put_0 rfl ?_
  refine g_callSi C (nargs := 1) (st := []) (m_RisSheet hci h) gd_isSheet (by decide +kernel) ⟨rfl, rfl⟩ dR_put_1 ⟨by decide, by decide⟩ rfl rfl (Nat.le_of_ble_eq_true rfl) ?_
  intro r1c M1 hN
  replace h := hN
  clear hN
  refine g_if_ne C 13 dR_put_4 (by decide) (fun hc => ?_) (fun hc => ?_)
  · replace h := h.1 hc
    refine g_aload_n C dR_put_13 rfl ?_
    refine rf_bits C hci dR_put_14 ?_
    refine g_iload_n C dR_put_17 rfl ?_
    refine g_iald C (n := 4) dR_put_18 rfl (by decide) h.1 ?_
    replace h := h.2
    refine g_if_ne C 28 dR_put_19 (by decide) (fun hc => ?_) (fun hc => ?_)
    · replace h := h.1 hc
      refine g_iload_n C dR_put_28 rfl ?_
      refine g_iconst C dR_put_29 ?_
      refine g_aload_n C dR_put_30 rfl ?_
      refine rf_sizes C hci dR_put_31 ?_
      refine g_iload_n C dR_put_34 rfl ?_
      refine g_iald C (n := 4) dR_put_35 rfl (by decide) h.1 ?_
      replace h := h.2
      refine g_iconst C dR_put_36 ?_
      refine g_isub C dR_put_37 ?_
      refine g_callSi C (nargs := 3) (st := []) (m_Rin hci h) gd_in (by decide +kernel) ⟨rfl, rfl⟩ dR_put_38 ⟨by decide, by decide⟩ rfl rfl (Nat.le_of_ble_eq_true rfl) ?_
      intro r38c M38 hN
      replace h := hN
      clear hN
      refine g_if_ne C 50 dR_put_41 (by decide) (fun hc => ?_) (fun hc => ?_)
      · replace h := h.1 hc
        refine g_bipush C dR_put_50 rfl ?_
        refine g_aload_n C dR_put_52 rfl ?_
        refine rf_bits C hci dR_put_53 ?_
        refine g_iload_n C dR_put_56 rfl ?_
        refine g_iald C (n := 4) dR_put_57 rfl (by decide) h.1 ?_
        replace h := h.2
        refine g_isub C dR_put_58 ?_
        refine g_name (fun x4_59 hx4_59 => ?_)
        replace h := h x4_59 hx4_59
        refine g_istore C dR_put_59 (by decide) rfl ?_
        refine g_locals (lv' := [(0, .ref (ad 0)), (1, iv a1), (2, iv a2), (3, iv a3), (4, iv x4_59)]) rfl ?_
        refine g_aload_n C dR_put_61 rfl ?_
        refine rf_number C hci dR_put_62 ?_
        refine g_bipush C dR_put_65 rfl ?_
        refine g_iload_n C dR_put_67 rfl ?_
        refine g_imul C dR_put_68 ?_
        refine g_iload_n C dR_put_69 rfl ?_
        refine g_iadd C dR_put_70 ?_
        refine g_iload_n C dR_put_71 rfl ?_
        refine g_iload C dR_put_72 rfl ?_
        refine g_ishl C dR_put_74 ?_
        refine g_iload C dR_put_75 rfl ?_
        refine g_ishr C dR_put_77 ?_
        refine g_iast C (n := 96) dR_put_78 rfl (by decide) h.1 ?_
        replace h := h.2
        refine g_memname (fun M78 hM78 => ?_)
        replace h := h M78 hM78
        refine g_iconst C dR_put_79 ?_
        exact hR _ _ _ _ dR_put_80 rfl h
      · replace h := h.2 hc
        refine g_aload_n C dR_put_44 rfl ?_
        refine g_iconst C dR_put_45 ?_
        refine g_callVi C (nargs := 1) (o := 0) (st := []) (m_Rerror hci h) rfl (by decide) hci rfl gd_error (by decide +kernel) ⟨rfl, rfl⟩ dR_put_46 ⟨by decide, by decide⟩ rfl rfl (Nat.le_of_ble_eq_true rfl) ?_
        intro r46c M46 hN
        replace h := hN
        clear hN
        exact hR _ _ _ _ dR_put_49 rfl h
    · replace h := h.2 hc
      refine g_aload_n C dR_put_22 rfl ?_
      refine g_iconst C dR_put_23 ?_
      refine g_callVi C (nargs := 1) (o := 0) (st := []) (m_Rerror hci h) rfl (by decide) hci rfl gd_error (by decide +kernel) ⟨rfl, rfl⟩ dR_put_24 ⟨by decide, by decide⟩ rfl rfl (Nat.le_of_ble_eq_true rfl) ?_
      intro r24c M24 hN
      replace h := hN
      clear hN
      exact hR _ _ _ _ dR_put_27 rfl h
  · replace h := h.2 hc
    refine g_aload_n C dR_put_7 rfl ?_
    refine g_iconst C dR_put_8 ?_
    refine g_callVi C (nargs := 1) (o := 0) (st := []) (m_Rerror hci h) rfl (by decide) hci rfl gd_error (by decide +kernel) ⟨rfl, rfl⟩ dR_put_9 ⟨by decide, by decide⟩ rfl rfl (Nat.le_of_ble_eq_true rfl) ?_
    intro r9c M9 hN
    replace h := hN
    clear hN
    exact hR _ _ _ _ dR_put_12 rfl h
def wB_Rmove_14 (a1 : Int) (a2 : Int) (a3 : Int) (a4 : Int) (a5 : Int) (k : Int → gSt → Prop)   (M : gSt) : Prop :=
w_Rerror 1 M (fun r16c M16 => k r16c M16)
def wB_Rmove_38 (a1 : Int) (a2 : Int) (a3 : Int) (a4 : Int) (a5 : Int) (k : Int → gSt → Prop)   (M : gSt) : Prop :=
w_Rerror 2 M (fun r40c M40 => k r40c M40)
def wB_Rmove_106 (a1 : Int) (a2 : Int) (a3 : Int) (a4 : Int) (a5 : Int) (k : Int → gSt → Prop)   (M : gSt) : Prop :=
w_Rerror 1 M (fun r108c M108 => k r108c M108)
def wC_Rmove_115 (a1 : Int) (a2 : Int) (a3 : Int) (a4 : Int) (a5 : Int) (k : Int → gSt → Prop) (r115 : Int → gSt → Prop) (X115_149 : gSt → Prop) (v6 : Int) (M : gSt) : Prop :=

  (wrap a5 ≤ wrap v6 →
    X115_149  M) ∧
  (wrap v6 < wrap a5 →
    (0 ≤ ((24 * a1) + a2) + v6 ∧ ((24 * a1) + a2) + v6 < 96) ∧ ((0 ≤ v6 ∧ v6 < 24) ∧ (∀ M142 : gSt, M142 = wr M 14 v6 (M 13 (((24 * a1) + a2) + v6)) → (r115 (v6 + 1) M142))))
def wL_Rmove_115 (a1 : Int) (a2 : Int) (a3 : Int) (a4 : Int) (a5 : Int) (k : Int → gSt → Prop)  (X115_149 : gSt → Prop) : Nat → Int → gSt → Prop
  | 0 => fun _ _ => False
  | n + 1 => fun v6 M => wC_Rmove_115 a1 a2 a3 a4 a5 k  (wL_Rmove_115 a1 a2 a3 a4 a5 k  X115_149 n) X115_149 v6 M
def wC_Rmove_152 (a1 : Int) (a2 : Int) (a3 : Int) (a4 : Int) (a5 : Int) (k : Int → gSt → Prop) (r152 : Int → gSt → Prop) (X152_187 : gSt → Prop) (v6 : Int) (M : gSt) : Prop :=

  (wrap a5 ≤ wrap v6 →
    X152_187  M) ∧
  (wrap v6 < wrap a5 →
    (0 ≤ v6 ∧ v6 < 24) ∧ ((0 ≤ ((24 * a3) + a4) + v6 ∧ ((24 * a3) + a4) + v6 < 96) ∧ (∀ M180 : gSt, M180 = wr M 13 (((24 * a3) + a4) + v6) (M 14 v6) → (r152 (v6 + 1) M180))))
def wL_Rmove_152 (a1 : Int) (a2 : Int) (a3 : Int) (a4 : Int) (a5 : Int) (k : Int → gSt → Prop)  (X152_187 : gSt → Prop) : Nat → Int → gSt → Prop
  | 0 => fun _ _ => False
  | n + 1 => fun v6 M => wC_Rmove_152 a1 a2 a3 a4 a5 k  (wL_Rmove_152 a1 a2 a3 a4 a5 k  X152_187 n) X152_187 v6 M
def w_Rmove (a1 : Int) (a2 : Int) (a3 : Int) (a4 : Int) (a5 : Int) (M : gSt) (k : Int → gSt → Prop) : Prop :=
w_RisSheet a1 M (fun r1c M1 => 
  (wrap r1c = 0 →
    wB_Rmove_14 a1 a2 a3 a4 a5 k   M1) ∧
  (¬ wrap r1c = 0 →
    w_RisSheet a3 M1 (fun r8c M8 => 
    (¬ wrap r8c = 0 →
      (0 ≤ a1 ∧ a1 < 4) ∧ (
      (wrap (M8 11 a1) = 0 →
        wB_Rmove_38 a1 a2 a3 a4 a5 k   M8) ∧
      (¬ wrap (M8 11 a1) = 0 →
        (0 ≤ a3 ∧ a3 < 4) ∧ (
        (¬ wrap (M8 11 a3) = 0 →
          (0 ≤ a1 ∧ a1 < 4) ∧ ((0 ≤ a3 ∧ a3 < 4) ∧ (
          (wrap (M8 11 a1) = wrap (M8 11 a3) →

            (wrap a5 < 0 →
              wB_Rmove_106 a1 a2 a3 a4 a5 k   M8) ∧
            (0 ≤ wrap a5 →

              (wrap a2 < 0 →
                wB_Rmove_106 a1 a2 a3 a4 a5 k   M8) ∧
              (0 ≤ wrap a2 →

                (wrap a4 < 0 →
                  wB_Rmove_106 a1 a2 a3 a4 a5 k   M8) ∧
                (0 ≤ wrap a4 →
                  (0 ≤ a1 ∧ a1 < 4) ∧ (
                  (wrap ((M8 12 a1) - a5) < wrap a2 →
                    wB_Rmove_106 a1 a2 a3 a4 a5 k   M8) ∧
                  (wrap a2 ≤ wrap ((M8 12 a1) - a5) →
                    (0 ≤ a3 ∧ a3 < 4) ∧ (
                    (wrap a4 ≤ wrap ((M8 12 a3) - a5) →
                      ∃ n, wL_Rmove_115 a1 a2 a3 a4 a5 k  (fun  M115 =>
                        ∃ n, wL_Rmove_152 a1 a2 a3 a4 a5 k  (fun  M152 =>
                          k a5 M152) n 0 M115) n 0 M8) ∧
                    (wrap ((M8 12 a3) - a5) < wrap a4 →
                      wB_Rmove_106 a1 a2 a3 a4 a5 k   M8)))))))) ∧
          (¬ wrap (M8 11 a1) = wrap (M8 11 a3) →
            w_Rerror 5 M8 (fun r61c M61 => k r61c M61))))) ∧
        (wrap (M8 11 a3) = 0 →
          wB_Rmove_38 a1 a2 a3 a4 a5 k   M8))))) ∧
    (wrap r8c = 0 →
      wB_Rmove_14 a1 a2 a3 a4 a5 k   M8))))
set_option maxHeartbeats 4000000 in
set_option maxRecDepth 100000 in
theorem m_Rmove {l : Launch} {D : va_G} {cl : List vw_C} {tys : List (ClassId × FieldType)} {ad : Nat → Nat} {cI : ClassId} {ci : Nat} {Z : (Nat → Prop) → State → Prop} (hci : cl[ci]? = some (RX9, TX9, 23)) {a1 : Int} {a2 : Int} {a3 : Int} {a4 : Int} {a5 : Int} {M : gSt} {k : Int → gSt → Prop} (h : w_Rmove a1 a2 a3 a4 a5 M k) : MOi l yX9_move cX9_move 7 .int (rmR 2 42) D cl ((cI, .int) :: tys) (wR ad cI ci) tR Z [.ref (ad 0), iv a1, iv a2, iv a3, iv a4, iv a5] M k := by
  refine moi_intro (by decide +kernel) (Nat.le_of_ble_eq_true rfl) wi_295 ?_
  intro p e s m args below meth c A Q C hR
  have pB14 : ∀    (M : gSt), wB_Rmove_14 a1 a2 a3 a4 a5 k   M → gG p l e (rmR 2 42) s m args below meth c Q D cl A (wR ad cI ci) 7 14 [(0, .ref (ad 0))] [] M := by
    intro    M h
    unfold wB_Rmove_14 at h
    refine g_aload_n C dR_move_14 rfl ?_
    refine g_iconst C dR_move_15 ?_
    refine g_callVi C (nargs := 1) (o := 0) (st := []) (m_Rerror hci h) rfl (by decide) hci rfl gd_error (by decide +kernel) ⟨rfl, rfl⟩ dR_move_16 ⟨by decide, by decide⟩ rfl rfl (Nat.le_of_ble_eq_true rfl) ?_
    intro r16c M16 hN
    replace h := hN
    clear hN
    exact hR _ _ _ _ dR_move_19 rfl h
  have pB38 : ∀    (M : gSt), wB_Rmove_38 a1 a2 a3 a4 a5 k   M → gG p l e (rmR 2 42) s m args below meth c Q D cl A (wR ad cI ci) 7 38 [(0, .ref (ad 0))] [] M := by
    intro    M h
    unfold wB_Rmove_38 at h
    refine g_aload_n C dR_move_38 rfl ?_
    refine g_iconst C dR_move_39 ?_
    refine g_callVi C (nargs := 1) (o := 0) (st := []) (m_Rerror hci h) rfl (by decide) hci rfl gd_error (by decide +kernel) ⟨rfl, rfl⟩ dR_move_40 ⟨by decide, by decide⟩ rfl rfl (Nat.le_of_ble_eq_true rfl) ?_
    intro r40c M40 hN
    replace h := hN
    clear hN
    exact hR _ _ _ _ dR_move_43 rfl h
  have pB106 : ∀    (M : gSt), wB_Rmove_106 a1 a2 a3 a4 a5 k   M → gG p l e (rmR 2 42) s m args below meth c Q D cl A (wR ad cI ci) 7 106 [(0, .ref (ad 0))] [] M := by
    intro    M h
    unfold wB_Rmove_106 at h
    refine g_aload_n C dR_move_106 rfl ?_
    refine g_iconst C dR_move_107 ?_
    refine g_callVi C (nargs := 1) (o := 0) (st := []) (m_Rerror hci h) rfl (by decide) hci rfl gd_error (by decide +kernel) ⟨rfl, rfl⟩ dR_move_108 ⟨by decide, by decide⟩ rfl rfl (Nat.le_of_ble_eq_true rfl) ?_
    intro r108c M108 hN
    replace h := hN
    clear hN
    exact hR _ _ _ _ dR_move_111 rfl h
  have pC115 : ∀ (r115 : Int → gSt → Prop) (X115_149 : gSt → Prop) (hr115 : ∀ (v6 : Int) (M : gSt), r115 v6 M → gG p l e (rmR 2 42) s m args below meth c Q D cl A (wR ad cI ci) 7 115 [(0, .ref (ad 0)), (1, iv a1), (2, iv a2), (3, iv a3), (4, iv a4), (5, iv a5), (6, iv v6)] [] M) (hX115_149 : ∀  (M : gSt), X115_149  M → gG p l e (rmR 2 42) s m args below meth c Q D cl A (wR ad cI ci) 7 149 [(0, .ref (ad 0)), (3, iv a3), (4, iv a4), (5, iv a5)] [] M) (v6 : Int) (M : gSt), wC_Rmove_115 a1 a2 a3 a4 a5 k r115 X115_149 v6 M → gG p l e (rmR 2 42) s m args below meth c Q D cl A (wR ad cI ci) 7 115 [(0, .ref (ad 0)), (1, iv a1), (2, iv a2), (3, iv a3), (4, iv a4), (5, iv a5), (6, iv v6)] [] M := by
    intro r115 X115_149 hr115 hX115_149 v6 M h
    unfold wC_Rmove_115 at h
    refine g_iload C dR_move_115 rfl ?_
    refine g_iload C dR_move_117 rfl ?_
    refine g_icmp_ge C 149 dR_move_119 (by decide) (fun hc => ?_) (fun hc => ?_)
    · replace h := h.1 hc
      refine g_locals (lv' := [(0, .ref (ad 0)), (3, iv a3), (4, iv a4), (5, iv a5)]) rfl ?_
      exact hX115_149  _ h
    · replace h := h.2 hc
      refine g_aload_n C dR_move_122 rfl ?_
      refine rf_aside C hci dR_move_123 ?_
      refine g_iload C dR_move_126 rfl ?_
      refine g_aload_n C dR_move_128 rfl ?_
      refine rf_number C hci dR_move_129 ?_
      refine g_bipush C dR_move_132 rfl ?_
      refine g_iload_n C dR_move_134 rfl ?_
      refine g_imul C dR_move_135 ?_
      refine g_iload_n C dR_move_136 rfl ?_
      refine g_iadd C dR_move_137 ?_
      refine g_iload C dR_move_138 rfl ?_
      refine g_iadd C dR_move_140 ?_
      refine g_iald C (n := 96) dR_move_141 rfl (by decide) h.1 ?_
      replace h := h.2
      refine g_iast C (n := 24) dR_move_142 rfl (by decide) h.1 ?_
      replace h := h.2
      refine g_memname (fun M142 hM142 => ?_)
      replace h := h M142 hM142
      refine g_iinc C dR_move_143 rfl (by decide) rfl ?_
      refine g_locals (lv' := [(0, .ref (ad 0)), (1, iv a1), (2, iv a2), (3, iv a3), (4, iv a4), (5, iv a5), (6, iv (v6 + 1))]) rfl ?_
      refine g_goto C 115 dR_move_146 (by decide) ?_
      refine g_locals (lv' := [(0, .ref (ad 0)), (1, iv a1), (2, iv a2), (3, iv a3), (4, iv a4), (5, iv a5), (6, iv (v6 + 1))]) rfl ?_
      exact hr115 _  _ h
  have pL115 : ∀  (X115_149 : gSt → Prop) (hX115_149 : ∀  (M : gSt), X115_149  M → gG p l e (rmR 2 42) s m args below meth c Q D cl A (wR ad cI ci) 7 149 [(0, .ref (ad 0)), (3, iv a3), (4, iv a4), (5, iv a5)] [] M) (n : Nat) (v6 : Int) (M : gSt), wL_Rmove_115 a1 a2 a3 a4 a5 k  X115_149 n v6 M → gG p l e (rmR 2 42) s m args below meth c Q D cl A (wR ad cI ci) 7 115 [(0, .ref (ad 0)), (1, iv a1), (2, iv a2), (3, iv a3), (4, iv a4), (5, iv a5), (6, iv v6)] [] M := by
    intro  X115_149 hX115_149 n
    induction n with
    | zero => intro v6 M h; exact h.elim
    | succ n ih =>
      intro v6 M h
      exact pC115  (wL_Rmove_115 a1 a2 a3 a4 a5 k  X115_149 n) X115_149 ih hX115_149 v6 M h
  have pC152 : ∀ (r152 : Int → gSt → Prop) (X152_187 : gSt → Prop) (hr152 : ∀ (v6 : Int) (M : gSt), r152 v6 M → gG p l e (rmR 2 42) s m args below meth c Q D cl A (wR ad cI ci) 7 152 [(0, .ref (ad 0)), (3, iv a3), (4, iv a4), (5, iv a5), (6, iv v6)] [] M) (hX152_187 : ∀  (M : gSt), X152_187  M → gG p l e (rmR 2 42) s m args below meth c Q D cl A (wR ad cI ci) 7 187 [(5, iv a5)] [] M) (v6 : Int) (M : gSt), wC_Rmove_152 a1 a2 a3 a4 a5 k r152 X152_187 v6 M → gG p l e (rmR 2 42) s m args below meth c Q D cl A (wR ad cI ci) 7 152 [(0, .ref (ad 0)), (3, iv a3), (4, iv a4), (5, iv a5), (6, iv v6)] [] M := by
    intro r152 X152_187 hr152 hX152_187 v6 M h
    unfold wC_Rmove_152 at h
    refine g_iload C dR_move_152 rfl ?_
    refine g_iload C dR_move_154 rfl ?_
    refine g_icmp_ge C 187 dR_move_156 (by decide) (fun hc => ?_) (fun hc => ?_)
    · replace h := h.1 hc
      refine g_locals (lv' := [(5, iv a5)]) rfl ?_
      exact hX152_187  _ h
    · replace h := h.2 hc
      refine g_aload_n C dR_move_159 rfl ?_
      refine rf_number C hci dR_move_160 ?_
      refine g_bipush C dR_move_163 rfl ?_
      refine g_iload_n C dR_move_165 rfl ?_
      refine g_imul C dR_move_166 ?_
      refine g_iload C dR_move_167 rfl ?_
      refine g_iadd C dR_move_169 ?_
      refine g_iload C dR_move_170 rfl ?_
      refine g_iadd C dR_move_172 ?_
      refine g_aload_n C dR_move_173 rfl ?_
      refine rf_aside C hci dR_move_174 ?_
      refine g_iload C dR_move_177 rfl ?_
      refine g_iald C (n := 24) dR_move_179 rfl (by decide) h.1 ?_
      replace h := h.2
      refine g_iast C (n := 96) dR_move_180 rfl (by decide) h.1 ?_
      replace h := h.2
      refine g_memname (fun M180 hM180 => ?_)
      replace h := h M180 hM180
      refine g_iinc C dR_move_181 rfl (by decide) rfl ?_
      refine g_locals (lv' := [(0, .ref (ad 0)), (3, iv a3), (4, iv a4), (5, iv a5), (6, iv (v6 + 1))]) rfl ?_
      refine g_goto C 152 dR_move_184 (by decide) ?_
      refine g_locals (lv' := [(0, .ref (ad 0)), (3, iv a3), (4, iv a4), (5, iv a5), (6, iv (v6 + 1))]) rfl ?_
      exact hr152 _  _ h
  have pL152 : ∀  (X152_187 : gSt → Prop) (hX152_187 : ∀  (M : gSt), X152_187  M → gG p l e (rmR 2 42) s m args below meth c Q D cl A (wR ad cI ci) 7 187 [(5, iv a5)] [] M) (n : Nat) (v6 : Int) (M : gSt), wL_Rmove_152 a1 a2 a3 a4 a5 k  X152_187 n v6 M → gG p l e (rmR 2 42) s m args below meth c Q D cl A (wR ad cI ci) 7 152 [(0, .ref (ad 0)), (3, iv a3), (4, iv a4), (5, iv a5), (6, iv v6)] [] M := by
    intro  X152_187 hX152_187 n
    induction n with
    | zero => intro v6 M h; exact h.elim
    | succ n ih =>
      intro v6 M h
      exact pC152  (wL_Rmove_152 a1 a2 a3 a4 a5 k  X152_187 n) X152_187 ih hX152_187 v6 M h
  refine g_locals (lv' := [(0, .ref (ad 0)), (1, iv a1), (2, iv a2), (3, iv a3), (4, iv a4), (5, iv a5)]) rfl ?_
  unfold w_Rmove at h
  refine g_iload_n C dR_move_0 rfl ?_
  refine g_callSi C (nargs := 1) (st := []) (m_RisSheet hci h) gd_isSheet (by decide +kernel) ⟨rfl, rfl⟩ dR_move_1 ⟨by decide, by decide⟩ rfl rfl (Nat.le_of_ble_eq_true rfl) ?_
  intro r1c M1 hN
  replace h := hN
  clear hN
  refine g_if_eq C 14 dR_move_4 (by decide) (fun hc => ?_) (fun hc => ?_)
  · replace h := h.1 hc
    refine g_locals (lv' := [(0, .ref (ad 0))]) rfl ?_
    exact pB14  _ h
  · replace h := h.2 hc
    refine g_iload_n C dR_move_7 rfl ?_
    refine g_callSi C (nargs := 1) (st := []) (m_RisSheet hci h) gd_isSheet (by decide +kernel) ⟨rfl, rfl⟩ dR_move_8 ⟨by decide, by decide⟩ rfl rfl (Nat.le_of_ble_eq_true rfl) ?_
    intro r8c M8 hN
    replace h := hN
    clear hN
    refine g_if_ne C 20 dR_move_11 (by decide) (fun hc => ?_) (fun hc => ?_)
    · replace h := h.1 hc
      refine g_aload_n C dR_move_20 rfl ?_
      refine rf_bits C hci dR_move_21 ?_
      refine g_iload_n C dR_move_24 rfl ?_
      refine g_iald C (n := 4) dR_move_25 rfl (by decide) h.1 ?_
      replace h := h.2
      refine g_if_eq C 38 dR_move_26 (by decide) (fun hc => ?_) (fun hc => ?_)
      · replace h := h.1 hc
        refine g_locals (lv' := [(0, .ref (ad 0))]) rfl ?_
        exact pB38  _ h
      · replace h := h.2 hc
        refine g_aload_n C dR_move_29 rfl ?_
        refine rf_bits C hci dR_move_30 ?_
        refine g_iload_n C dR_move_33 rfl ?_
        refine g_iald C (n := 4) dR_move_34 rfl (by decide) h.1 ?_
        replace h := h.2
        refine g_if_ne C 44 dR_move_35 (by decide) (fun hc => ?_) (fun hc => ?_)
        · replace h := h.1 hc
          refine g_aload_n C dR_move_44 rfl ?_
          refine rf_bits C hci dR_move_45 ?_
          refine g_iload_n C dR_move_48 rfl ?_
          refine g_iald C (n := 4) dR_move_49 rfl (by decide) h.1 ?_
          replace h := h.2
          refine g_aload_n C dR_move_50 rfl ?_
          refine rf_bits C hci dR_move_51 ?_
          refine g_iload_n C dR_move_54 rfl ?_
          refine g_iald C (n := 4) dR_move_55 rfl (by decide) h.1 ?_
          replace h := h.2
          refine g_icmp_eq C 65 dR_move_56 (by decide) (fun hc => ?_) (fun hc => ?_)
          · replace h := h.1 hc
            refine g_iload C dR_move_65 rfl ?_
            refine g_if_lt C 106 dR_move_67 (by decide) (fun hc => ?_) (fun hc => ?_)
            · replace h := h.1 hc
              refine g_locals (lv' := [(0, .ref (ad 0))]) rfl ?_
              exact pB106  _ h
            · replace h := h.2 hc
              refine g_iload_n C dR_move_70 rfl ?_
              refine g_if_lt C 106 dR_move_71 (by decide) (fun hc => ?_) (fun hc => ?_)
              · replace h := h.1 hc
                refine g_locals (lv' := [(0, .ref (ad 0))]) rfl ?_
                exact pB106  _ h
              · replace h := h.2 hc
                refine g_iload C dR_move_74 rfl ?_
                refine g_if_lt C 106 dR_move_76 (by decide) (fun hc => ?_) (fun hc => ?_)
                · replace h := h.1 hc
                  refine g_locals (lv' := [(0, .ref (ad 0))]) rfl ?_
                  exact pB106  _ h
                · replace h := h.2 hc
                  refine g_iload_n C dR_move_79 rfl ?_
                  refine g_aload_n C dR_move_80 rfl ?_
                  refine rf_sizes C hci dR_move_81 ?_
                  refine g_iload_n C dR_move_84 rfl ?_
                  refine g_iald C (n := 4) dR_move_85 rfl (by decide) h.1 ?_
                  replace h := h.2
                  refine g_iload C dR_move_86 rfl ?_
                  refine g_isub C dR_move_88 ?_
                  refine g_icmp_gt C 106 dR_move_89 (by decide) (fun hc => ?_) (fun hc => ?_)
                  · replace h := h.1 hc
                    refine g_locals (lv' := [(0, .ref (ad 0))]) rfl ?_
                    exact pB106  _ h
                  · replace h := h.2 hc
                    refine g_iload C dR_move_92 rfl ?_
                    refine g_aload_n C dR_move_94 rfl ?_
                    refine rf_sizes C hci dR_move_95 ?_
                    refine g_iload_n C dR_move_98 rfl ?_
                    refine g_iald C (n := 4) dR_move_99 rfl (by decide) h.1 ?_
                    replace h := h.2
                    refine g_iload C dR_move_100 rfl ?_
                    refine g_isub C dR_move_102 ?_
                    refine g_icmp_le C 112 dR_move_103 (by decide) (fun hc => ?_) (fun hc => ?_)
                    · replace h := h.1 hc
                      refine g_iconst C dR_move_112 ?_
                      refine g_istore C dR_move_113 (by decide) rfl ?_
                      refine g_locals (lv' := [(0, .ref (ad 0)), (1, iv a1), (2, iv a2), (3, iv a3), (4, iv a4), (5, iv a5), (6, iv 0)]) rfl ?_
                      refine g_locals (lv' := [(0, .ref (ad 0)), (1, iv a1), (2, iv a2), (3, iv a3), (4, iv a4), (5, iv a5), (6, iv 0)]) rfl ?_
                      obtain ⟨n, h⟩ := h
                      refine pL115 _ ?_ n _ _ h
                      · intro  M115 hN
                        replace h := hN
                        clear hN
                        refine g_iconst C dR_move_149 ?_
                        refine g_istore C dR_move_150 (by decide) rfl ?_
                        refine g_locals (lv' := [(0, .ref (ad 0)), (3, iv a3), (4, iv a4), (5, iv a5), (6, iv 0)]) rfl ?_
                        refine g_locals (lv' := [(0, .ref (ad 0)), (3, iv a3), (4, iv a4), (5, iv a5), (6, iv 0)]) rfl ?_
                        obtain ⟨n, h⟩ := h
                        refine pL152 _ ?_ n _ _ h
                        · intro  M152 hN
                          replace h := hN
                          clear hN
                          refine g_iload C dR_move_187 rfl ?_
                          exact hR _ _ _ _ dR_move_189 rfl h
                    · replace h := h.2 hc
                      refine g_locals (lv' := [(0, .ref (ad 0))]) rfl ?_
                      exact pB106  _ h
          · replace h := h.2 hc
            refine g_aload_n C dR_move_59 rfl ?_
            refine g_iconst C dR_move_60 ?_
            refine g_callVi C (nargs := 1) (o := 0) (st := []) (m_Rerror hci h) rfl (by decide) hci rfl gd_error (by decide +kernel) ⟨rfl, rfl⟩ dR_move_61 ⟨by decide, by decide⟩ rfl rfl (Nat.le_of_ble_eq_true rfl) ?_
            intro r61c M61 hN
            replace h := hN
            clear hN
            exact hR _ _ _ _ dR_move_64 rfl h
        · replace h := h.2 hc
          refine g_locals (lv' := [(0, .ref (ad 0))]) rfl ?_
          exact pB38  _ h
    · replace h := h.2 hc
      refine g_locals (lv' := [(0, .ref (ad 0))]) rfl ?_
      exact pB14  _ h
def w_Rlacks (a1 : Int) (M : gSt) (k : Int → gSt → Prop) : Prop :=
w_RisSheet a1 M (fun r1c M1 => 
  (¬ wrap r1c = 0 →
    (0 ≤ a1 ∧ a1 < 4) ∧ (
    (¬ wrap (M1 11 a1) = 0 →
      k 0 M1) ∧
    (wrap (M1 11 a1) = 0 →
      k 2 M1))) ∧
  (wrap r1c = 0 →
    k 1 M1))
set_option maxHeartbeats 4000000 in
set_option maxRecDepth 100000 in
theorem m_Rlacks {l : Launch} {D : va_G} {cl : List vw_C} {tys : List (ClassId × FieldType)} {ad : Nat → Nat} {cI : ClassId} {ci : Nat} {Z : (Nat → Prop) → State → Prop} (hci : cl[ci]? = some (RX9, TX9, 23)) {a1 : Int} {M : gSt} {k : Int → gSt → Prop} (h : w_Rlacks a1 M k) : MOi l yX9_lacks cX9_lacks 2 .int (rmR 2 42) D cl ((cI, .int) :: tys) (wR ad cI ci) tR Z [.ref (ad 0), iv a1] M k := by
  refine moi_intro (by decide +kernel) (Nat.le_of_ble_eq_true rfl) wi_296 ?_
  intro p e s m args below meth c A Q C hR
  refine g_locals (lv' := [(0, .ref (ad 0)), (1, iv a1)]) rfl ?_
  unfold w_Rlacks at h
  refine g_iload_n C dR_lacks_0 rfl ?_
  refine g_callSi C (nargs := 1) (st := []) (m_RisSheet hci h) gd_isSheet (by decide +kernel) ⟨rfl, rfl⟩ dR_lacks_1 ⟨by decide, by decide⟩ rfl rfl (Nat.le_of_ble_eq_true rfl) ?_
  intro r1c M1 hN
  replace h := hN
  clear hN
  refine g_if_ne C 11 dR_lacks_4 (by decide) (fun hc => ?_) (fun hc => ?_)
  · replace h := h.1 hc
    refine g_aload_n C dR_lacks_11 rfl ?_
    refine rf_bits C hci dR_lacks_12 ?_
    refine g_iload_n C dR_lacks_15 rfl ?_
    refine g_iald C (n := 4) dR_lacks_16 rfl (by decide) h.1 ?_
    replace h := h.2
    refine g_if_ne C 24 dR_lacks_17 (by decide) (fun hc => ?_) (fun hc => ?_)
    · replace h := h.1 hc
      refine g_iconst C dR_lacks_24 ?_
      exact hR _ _ _ _ dR_lacks_25 rfl h
    · replace h := h.2 hc
      refine g_iconst C dR_lacks_20 ?_
      refine g_goto C 25 dR_lacks_21 (by decide) ?_
      exact hR _ _ _ _ dR_lacks_25 rfl h
  · replace h := h.2 hc
    refine g_iconst C dR_lacks_7 ?_
    refine g_goto C 25 dR_lacks_8 (by decide) ?_
    exact hR _ _ _ _ dR_lacks_25 rfl h
def wC_Rpapers_24 (a1 : Int) (k : Int → gSt → Prop) (r24 : Int → Int → gSt → Prop) (X24_140 : Int → gSt → Prop) (v3 : Int) (v4 : Int) (M : gSt) : Prop :=
(0 ≤ a1 ∧ a1 < 4) ∧ (
  (wrap (M 12 a1) ≤ wrap ((3 * v3) + 2) →
    X24_140 v3 M) ∧
  (wrap ((3 * v3) + 2) < wrap (M 12 a1) →

    (6 ≤ wrap (M 1 3) →
      X24_140 v3 M) ∧
    (wrap (M 1 3) < 6 →
      (0 ≤ v4 + (3 * v3) ∧ v4 + (3 * v3) < 96) ∧ ((0 ≤ (v4 + (3 * v3)) + 1 ∧ (v4 + (3 * v3)) + 1 < 96) ∧ ((0 ≤ (v4 + (3 * v3)) + 2 ∧ (v4 + (3 * v3)) + 2 < 96) ∧ (w_RisPaper (M 13 (v4 + (3 * v3))) (M 13 ((v4 + (3 * v3)) + 1)) (M 13 ((v4 + (3 * v3)) + 2)) M (fun r87c M87 => 
      (wrap r87c = 0 →
        X24_140 v3 M87) ∧
      (¬ wrap r87c = 0 →
        (0 ≤ v4 + (3 * v3) ∧ v4 + (3 * v3) < 96) ∧ ((0 ≤ (v4 + (3 * v3)) + 1 ∧ (v4 + (3 * v3)) + 1 < 96) ∧ ((0 ≤ (v4 + (3 * v3)) + 2 ∧ (v4 + (3 * v3)) + 2 < 96) ∧ (w_RaddPaper (M87 13 (v4 + (3 * v3))) (M87 13 ((v4 + (3 * v3)) + 1)) (M87 13 ((v4 + (3 * v3)) + 2)) M87 (fun M131 => r24 (v3 + 1) v4 M131))))))))))))
def wL_Rpapers_24 (a1 : Int) (k : Int → gSt → Prop)  (X24_140 : Int → gSt → Prop) : Nat → Int → Int → gSt → Prop
  | 0 => fun _ _ _ => False
  | n + 1 => fun v3 v4 M => wC_Rpapers_24 a1 k  (wL_Rpapers_24 a1 k  X24_140 n) X24_140 v3 v4 M
def w_Rpapers (a1 : Int) (M : gSt) (k : Int → gSt → Prop) : Prop :=
w_Rlacks a1 M (fun r2c M2 => 
  (wrap r2c ≤ 0 →
    ∀ x4_22 : Int, x4_22 = 24 * a1 → (∃ n, wL_Rpapers_24 a1 k  (fun u3_24 M24 =>
      k u3_24 M24) n 0 x4_22 M2)) ∧
  (0 < wrap r2c →
    w_Rerror r2c M2 (fun r12c M12 => k r12c M12)))
set_option maxHeartbeats 4000000 in
set_option maxRecDepth 100000 in
theorem m_Rpapers {l : Launch} {D : va_G} {cl : List vw_C} {tys : List (ClassId × FieldType)} {ad : Nat → Nat} {cI : ClassId} {ci : Nat} {Z : (Nat → Prop) → State → Prop} (hci : cl[ci]? = some (RX9, TX9, 23)) {a1 : Int} {M : gSt} {k : Int → gSt → Prop} (h : w_Rpapers a1 M k) : MOi l yX9_papers cX9_papers 5 .int (rmR 3 66) D cl ((cI, .int) :: tys) (wR ad cI ci) tR Z [.ref (ad 0), iv a1] M k := by
  refine moi_intro (by decide +kernel) (Nat.le_of_ble_eq_true rfl) wi_300 ?_
  intro p e s m args below meth c A Q C hR
  have pC24 : ∀ (r24 : Int → Int → gSt → Prop) (X24_140 : Int → gSt → Prop) (hr24 : ∀ (v3 : Int) (v4 : Int) (M : gSt), r24 v3 v4 M → gG p l e (rmR 3 66) s m args below meth c Q D cl A (wR ad cI ci) 5 24 [(0, .ref (ad 0)), (1, iv a1), (3, iv v3), (4, iv v4)] [] M) (hX24_140 : ∀ (v3 : Int) (M : gSt), X24_140 v3 M → gG p l e (rmR 3 66) s m args below meth c Q D cl A (wR ad cI ci) 5 140 [(3, iv v3)] [] M) (v3 : Int) (v4 : Int) (M : gSt), wC_Rpapers_24 a1 k r24 X24_140 v3 v4 M → gG p l e (rmR 3 66) s m args below meth c Q D cl A (wR ad cI ci) 5 24 [(0, .ref (ad 0)), (1, iv a1), (3, iv v3), (4, iv v4)] [] M := by
    intro r24 X24_140 hr24 hX24_140 v3 v4 M h
    unfold wC_Rpapers_24 at h
    refine g_iconst C dR_papers_24 ?_
    refine g_iload_n C dR_papers_25 rfl ?_
    refine g_imul C dR_papers_26 ?_
    refine g_iconst C dR_papers_27 ?_
    refine g_iadd C dR_papers_28 ?_
    refine g_aload_n C dR_papers_29 rfl ?_
    refine rf_sizes C hci dR_papers_30 ?_
    refine g_iload_n C dR_papers_33 rfl ?_
    refine g_iald C (n := 4) dR_papers_34 rfl (by decide) h.1 ?_
    replace h := h.2
    refine g_icmp_ge C 140 dR_papers_35 (by decide) (fun hc => ?_) (fun hc => ?_)
    · replace h := h.1 hc
      refine g_locals (lv' := [(3, iv v3)]) rfl ?_
      exact hX24_140 _  _ h
    · replace h := h.2 hc
      refine g_aload_n C dR_papers_38 rfl ?_
      refine rf_s C hci dR_papers_39 ?_
      refine g_iconst C dR_papers_42 ?_
      refine g_iald C (n := 536) dR_papers_43 rfl (by decide) ⟨by decide, by decide⟩ ?_
      refine g_bipush C dR_papers_44 rfl ?_
      refine g_icmp_ge C 140 dR_papers_46 (by decide) (fun hc => ?_) (fun hc => ?_)
      · replace h := h.1 hc
        refine g_locals (lv' := [(3, iv v3)]) rfl ?_
        exact hX24_140 _  _ h
      · replace h := h.2 hc
        refine g_aload_n C dR_papers_49 rfl ?_
        refine g_aload_n C dR_papers_50 rfl ?_
        refine rf_number C hci dR_papers_51 ?_
        refine g_iload C dR_papers_54 rfl ?_
        refine g_iconst C dR_papers_56 ?_
        refine g_iload_n C dR_papers_57 rfl ?_
        refine g_imul C dR_papers_58 ?_
        refine g_iadd C dR_papers_59 ?_
        refine g_iald C (n := 96) dR_papers_60 rfl (by decide) h.1 ?_
        replace h := h.2
        refine g_aload_n C dR_papers_61 rfl ?_
        refine rf_number C hci dR_papers_62 ?_
        refine g_iload C dR_papers_65 rfl ?_
        refine g_iconst C dR_papers_67 ?_
        refine g_iload_n C dR_papers_68 rfl ?_
        refine g_imul C dR_papers_69 ?_
        refine g_iadd C dR_papers_70 ?_
        refine g_iconst C dR_papers_71 ?_
        refine g_iadd C dR_papers_72 ?_
        refine g_iald C (n := 96) dR_papers_73 rfl (by decide) h.1 ?_
        replace h := h.2
        refine g_aload_n C dR_papers_74 rfl ?_
        refine rf_number C hci dR_papers_75 ?_
        refine g_iload C dR_papers_78 rfl ?_
        refine g_iconst C dR_papers_80 ?_
        refine g_iload_n C dR_papers_81 rfl ?_
        refine g_imul C dR_papers_82 ?_
        refine g_iadd C dR_papers_83 ?_
        refine g_iconst C dR_papers_84 ?_
        refine g_iadd C dR_papers_85 ?_
        refine g_iald C (n := 96) dR_papers_86 rfl (by decide) h.1 ?_
        replace h := h.2
        refine g_callVi C (nargs := 3) (o := 0) (st := []) (m_RisPaper hci h) rfl (by decide) hci rfl gd_isPaper (by decide +kernel) ⟨rfl, rfl⟩ dR_papers_87 ⟨by decide, by decide⟩ rfl rfl (Nat.le_of_ble_eq_true rfl) ?_
        intro r87c M87 hN
        replace h := hN
        clear hN
        refine g_if_eq C 140 dR_papers_90 (by decide) (fun hc => ?_) (fun hc => ?_)
        · replace h := h.1 hc
          refine g_locals (lv' := [(3, iv v3)]) rfl ?_
          exact hX24_140 _  _ h
        · replace h := h.2 hc
          refine g_aload_n C dR_papers_93 rfl ?_
          refine g_aload_n C dR_papers_94 rfl ?_
          refine rf_number C hci dR_papers_95 ?_
          refine g_iload C dR_papers_98 rfl ?_
          refine g_iconst C dR_papers_100 ?_
          refine g_iload_n C dR_papers_101 rfl ?_
          refine g_imul C dR_papers_102 ?_
          refine g_iadd C dR_papers_103 ?_
          refine g_iald C (n := 96) dR_papers_104 rfl (by decide) h.1 ?_
          replace h := h.2
          refine g_aload_n C dR_papers_105 rfl ?_
          refine rf_number C hci dR_papers_106 ?_
          refine g_iload C dR_papers_109 rfl ?_
          refine g_iconst C dR_papers_111 ?_
          refine g_iload_n C dR_papers_112 rfl ?_
          refine g_imul C dR_papers_113 ?_
          refine g_iadd C dR_papers_114 ?_
          refine g_iconst C dR_papers_115 ?_
          refine g_iadd C dR_papers_116 ?_
          refine g_iald C (n := 96) dR_papers_117 rfl (by decide) h.1 ?_
          replace h := h.2
          refine g_aload_n C dR_papers_118 rfl ?_
          refine rf_number C hci dR_papers_119 ?_
          refine g_iload C dR_papers_122 rfl ?_
          refine g_iconst C dR_papers_124 ?_
          refine g_iload_n C dR_papers_125 rfl ?_
          refine g_imul C dR_papers_126 ?_
          refine g_iadd C dR_papers_127 ?_
          refine g_iconst C dR_papers_128 ?_
          refine g_iadd C dR_papers_129 ?_
          refine g_iald C (n := 96) dR_papers_130 rfl (by decide) h.1 ?_
          replace h := h.2
          refine g_callVv C (nargs := 3) (o := 0) (st := []) (m_RaddPaper hci h) rfl (by decide) hci rfl gd_addPaper (by decide +kernel) ⟨rfl, rfl⟩ dR_papers_131 ⟨by decide, by decide⟩ rfl rfl (Nat.le_of_ble_eq_true rfl) ?_
          intro M131 hN
          replace h := hN
          clear hN
          refine g_iinc C dR_papers_134 rfl (by decide) rfl ?_
          refine g_locals (lv' := [(0, .ref (ad 0)), (1, iv a1), (3, iv (v3 + 1)), (4, iv v4)]) rfl ?_
          refine g_goto C 24 dR_papers_137 (by decide) ?_
          refine g_locals (lv' := [(0, .ref (ad 0)), (1, iv a1), (3, iv (v3 + 1)), (4, iv v4)]) rfl ?_
          exact hr24 _ _  _ h
  have pL24 : ∀  (X24_140 : Int → gSt → Prop) (hX24_140 : ∀ (v3 : Int) (M : gSt), X24_140 v3 M → gG p l e (rmR 3 66) s m args below meth c Q D cl A (wR ad cI ci) 5 140 [(3, iv v3)] [] M) (n : Nat) (v3 : Int) (v4 : Int) (M : gSt), wL_Rpapers_24 a1 k  X24_140 n v3 v4 M → gG p l e (rmR 3 66) s m args below meth c Q D cl A (wR ad cI ci) 5 24 [(0, .ref (ad 0)), (1, iv a1), (3, iv v3), (4, iv v4)] [] M := by
    intro  X24_140 hX24_140 n
    induction n with
    | zero => intro v3 v4 M h; exact h.elim
    | succ n ih =>
      intro v3 v4 M h
      exact pC24  (wL_Rpapers_24 a1 k  X24_140 n) X24_140 ih hX24_140 v3 v4 M h
  refine g_locals (lv' := [(0, .ref (ad 0)), (1, iv a1)]) rfl ?_
  unfold w_Rpapers at h
  refine g_aload_n C dR_papers_0 rfl ?_
  refine g_iload_n C dR_papers_1 rfl ?_
  refine g_callVi C (nargs := 1) (o := 0) (st := []) (m_Rlacks hci h) rfl (by decide) hci rfl gd_lacks (by decide +kernel) ⟨rfl, rfl⟩ dR_papers_2 ⟨by decide, by decide⟩ rfl rfl (Nat.le_of_ble_eq_true rfl) ?_
  intro r2c M2 hN
  replace h := hN
  clear hN
  refine g_istore_n C dR_papers_5 (by decide) rfl ?_
  refine g_locals (lv' := [(0, .ref (ad 0)), (1, iv a1), (2, iv r2c)]) rfl ?_
  refine g_iload_n C dR_papers_6 rfl ?_
  refine g_if_le C 16 dR_papers_7 (by decide) (fun hc => ?_) (fun hc => ?_)
  · replace h := h.1 hc
    refine g_iconst C dR_papers_16 ?_
    refine g_istore_n C dR_papers_17 (by decide) rfl ?_
    refine g_locals (lv' := [(0, .ref (ad 0)), (1, iv a1), (2, iv r2c), (3, iv 0)]) rfl ?_
    refine g_bipush C dR_papers_18 rfl ?_
    refine g_iload_n C dR_papers_20 rfl ?_
    refine g_imul C dR_papers_21 ?_
    refine g_name (fun x4_22 hx4_22 => ?_)
    replace h := h x4_22 hx4_22
    refine g_istore C dR_papers_22 (by decide) rfl ?_
    refine g_locals (lv' := [(0, .ref (ad 0)), (1, iv a1), (2, iv r2c), (3, iv 0), (4, iv x4_22)]) rfl ?_
    refine g_locals (lv' := [(0, .ref (ad 0)), (1, iv a1), (3, iv 0), (4, iv x4_22)]) rfl ?_
    obtain ⟨n, h⟩ := h
    refine pL24 _ ?_ n _ _ _ h
    · intro u3_24 M24 hN
      replace h := hN
      clear hN
      refine g_iload_n C dR_papers_140 rfl ?_
      exact hR _ _ _ _ dR_papers_141 rfl h
  · replace h := h.2 hc
    refine g_aload_n C dR_papers_10 rfl ?_
    refine g_iload_n C dR_papers_11 rfl ?_
    refine g_callVi C (nargs := 1) (o := 0) (st := []) (m_Rerror hci h) rfl (by decide) hci rfl gd_error (by decide +kernel) ⟨rfl, rfl⟩ dR_papers_12 ⟨by decide, by decide⟩ rfl rfl (Nat.le_of_ble_eq_true rfl) ?_
    intro r12c M12 hN
    replace h := hN
    clear hN
    exact hR _ _ _ _ dR_papers_15 rfl h
end
section
def wC_Rjudge_47 (a1 : Int) (a2 : Int) (k : Int → gSt → Prop) (r47 : Int → gSt → Prop) (X47_97 : Int → gSt → Prop) (v4 : Int) (M : gSt) : Prop :=

  (wrap (M 1 0) ≤ wrap v4 →
    X47_97 v4 M) ∧
  (wrap v4 < wrap (M 1 0) →
    (0 ≤ a1 ∧ a1 < 4) ∧ (
    (wrap (M 12 a1) ≤ wrap v4 →
      X47_97 v4 M) ∧
    (wrap v4 < wrap (M 12 a1) →
      (0 ≤ (24 * a1) + v4 ∧ (24 * a1) + v4 < 96) ∧ (w_Rits v4 2 M (fun r85c M85 => 
      (¬ wrap (M 13 ((24 * a1) + v4)) = wrap r85c →
        X47_97 v4 M85) ∧
      (wrap (M 13 ((24 * a1) + v4)) = wrap r85c →
        r47 (v4 + 1) M85))))))
def wL_Rjudge_47 (a1 : Int) (a2 : Int) (k : Int → gSt → Prop)  (X47_97 : Int → gSt → Prop) : Nat → Int → gSt → Prop
  | 0 => fun _ _ => False
  | n + 1 => fun v4 M => wC_Rjudge_47 a1 a2 k  (wL_Rjudge_47 a1 a2 k  X47_97 n) X47_97 v4 M
def wB_Rjudge_97 (a1 : Int) (a2 : Int) (k : Int → gSt → Prop)  (v4 : Int) (M : gSt) : Prop :=
w_Rcarry 3 1 M (fun M105 => k v4 M105)
def wB_Rjudge_17 (a1 : Int) (a2 : Int) (k : Int → gSt → Prop)  (s0 : Int) (M : gSt) : Prop :=

  (wrap s0 ≤ 0 →
    w_Rcarry 1 3 M (fun M36 => w_RgoesBy a2 M36 (fun M41 => ∃ n, wL_Rjudge_47 a1 a2 k  (fun u4_47 M47 =>
      wB_Rjudge_97 a1 a2 k  u4_47 M47) n 0 M41))) ∧
  (0 < wrap s0 →
    w_Rerror s0 M (fun r24c M24 => k r24c M24))
def w_Rjudge (a1 : Int) (a2 : Int) (M : gSt) (k : Int → gSt → Prop) : Prop :=
w_RisHistory a2 M (fun r2c M2 => 
  (wrap r2c = 0 →
    wB_Rjudge_17 a1 a2 k  1 M2) ∧
  (¬ wrap r2c = 0 →
    w_Rlacks a1 M2 (fun r10c M10 => wB_Rjudge_17 a1 a2 k  r10c M10)))
set_option maxHeartbeats 4000000 in
set_option maxRecDepth 100000 in
theorem m_Rjudge {l : Launch} {D : va_G} {cl : List vw_C} {tys : List (ClassId × FieldType)} {ad : Nat → Nat} {cI : ClassId} {ci : Nat} {Z : (Nat → Prop) → State → Prop} (hci : cl[ci]? = some (RX9, TX9, 23)) {a1 : Int} {a2 : Int} {M : gSt} {k : Int → gSt → Prop} (h : w_Rjudge a1 a2 M k) : MOi l yX9_judge cX9_judge 5 .int (rmR 3 75) D cl ((cI, .int) :: tys) (wR ad cI ci) tR Z [.ref (ad 0), iv a1, iv a2] M k := by
  refine moi_intro (by decide +kernel) (Nat.le_of_ble_eq_true rfl) wi_301 ?_
  intro p e s m args below meth c A Q C hR
  have pC47 : ∀ (r47 : Int → gSt → Prop) (X47_97 : Int → gSt → Prop) (hr47 : ∀ (v4 : Int) (M : gSt), r47 v4 M → gG p l e (rmR 3 75) s m args below meth c Q D cl A (wR ad cI ci) 5 47 [(0, .ref (ad 0)), (1, iv a1), (4, iv v4)] [] M) (hX47_97 : ∀ (v4 : Int) (M : gSt), X47_97 v4 M → gG p l e (rmR 3 75) s m args below meth c Q D cl A (wR ad cI ci) 5 97 [(0, .ref (ad 0)), (4, iv v4)] [] M) (v4 : Int) (M : gSt), wC_Rjudge_47 a1 a2 k r47 X47_97 v4 M → gG p l e (rmR 3 75) s m args below meth c Q D cl A (wR ad cI ci) 5 47 [(0, .ref (ad 0)), (1, iv a1), (4, iv v4)] [] M := by
    intro r47 X47_97 hr47 hX47_97 v4 M h
    unfold wC_Rjudge_47 at h
    refine g_iload C dR_judge_47 rfl ?_
    refine g_aload_n C dR_judge_49 rfl ?_
    refine rf_s C hci dR_judge_50 ?_
    refine g_iconst C dR_judge_53 ?_
    refine g_iald C (n := 536) dR_judge_54 rfl (by decide) ⟨by decide, by decide⟩ ?_
    refine g_icmp_ge C 97 dR_judge_55 (by decide) (fun hc => ?_) (fun hc => ?_)
    · replace h := h.1 hc
      refine g_locals (lv' := [(0, .ref (ad 0)), (4, iv v4)]) rfl ?_
      exact hX47_97 _  _ h
    · replace h := h.2 hc
      refine g_iload C dR_judge_58 rfl ?_
      refine g_aload_n C dR_judge_60 rfl ?_
      refine rf_sizes C hci dR_judge_61 ?_
      refine g_iload_n C dR_judge_64 rfl ?_
      refine g_iald C (n := 4) dR_judge_65 rfl (by decide) h.1 ?_
      replace h := h.2
      refine g_icmp_ge C 97 dR_judge_66 (by decide) (fun hc => ?_) (fun hc => ?_)
      · replace h := h.1 hc
        refine g_locals (lv' := [(0, .ref (ad 0)), (4, iv v4)]) rfl ?_
        exact hX47_97 _  _ h
      · replace h := h.2 hc
        refine g_aload_n C dR_judge_69 rfl ?_
        refine rf_number C hci dR_judge_70 ?_
        refine g_bipush C dR_judge_73 rfl ?_
        refine g_iload_n C dR_judge_75 rfl ?_
        refine g_imul C dR_judge_76 ?_
        refine g_iload C dR_judge_77 rfl ?_
        refine g_iadd C dR_judge_79 ?_
        refine g_iald C (n := 96) dR_judge_80 rfl (by decide) h.1 ?_
        replace h := h.2
        refine g_aload_n C dR_judge_81 rfl ?_
        refine g_iload C dR_judge_82 rfl ?_
        refine g_iconst C dR_judge_84 ?_
        refine g_callVi C (nargs := 2) (o := 0) (st := [iv (M 13 ((24 * a1) + v4))]) (m_Rits hci h) rfl (by decide) hci rfl gd_its (by decide +kernel) ⟨rfl, rfl⟩ dR_judge_85 ⟨by decide, by decide⟩ rfl rfl (Nat.le_of_ble_eq_true rfl) ?_
        intro r85c M85 hN
        replace h := hN
        clear hN
        refine g_icmp_ne C 97 dR_judge_88 (by decide) (fun hc => ?_) (fun hc => ?_)
        · replace h := h.1 hc
          refine g_locals (lv' := [(0, .ref (ad 0)), (4, iv v4)]) rfl ?_
          exact hX47_97 _  _ h
        · replace h := h.2 hc
          refine g_iinc C dR_judge_91 rfl (by decide) rfl ?_
          refine g_locals (lv' := [(0, .ref (ad 0)), (1, iv a1), (4, iv (v4 + 1))]) rfl ?_
          refine g_goto C 47 dR_judge_94 (by decide) ?_
          refine g_locals (lv' := [(0, .ref (ad 0)), (1, iv a1), (4, iv (v4 + 1))]) rfl ?_
          exact hr47 _  _ h
  have pL47 : ∀  (X47_97 : Int → gSt → Prop) (hX47_97 : ∀ (v4 : Int) (M : gSt), X47_97 v4 M → gG p l e (rmR 3 75) s m args below meth c Q D cl A (wR ad cI ci) 5 97 [(0, .ref (ad 0)), (4, iv v4)] [] M) (n : Nat) (v4 : Int) (M : gSt), wL_Rjudge_47 a1 a2 k  X47_97 n v4 M → gG p l e (rmR 3 75) s m args below meth c Q D cl A (wR ad cI ci) 5 47 [(0, .ref (ad 0)), (1, iv a1), (4, iv v4)] [] M := by
    intro  X47_97 hX47_97 n
    induction n with
    | zero => intro v4 M h; exact h.elim
    | succ n ih =>
      intro v4 M h
      exact pC47  (wL_Rjudge_47 a1 a2 k  X47_97 n) X47_97 ih hX47_97 v4 M h
  have pB97 : ∀   (v4 : Int) (M : gSt), wB_Rjudge_97 a1 a2 k  v4 M → gG p l e (rmR 3 75) s m args below meth c Q D cl A (wR ad cI ci) 5 97 [(0, .ref (ad 0)), (4, iv v4)] [] M := by
    intro   v4 M h
    unfold wB_Rjudge_97 at h
    refine g_aload_n C dR_judge_97 rfl ?_
    refine rf_put C hci dR_judge_98 ?_
    refine g_aload_n C dR_judge_101 rfl ?_
    refine rf_s C hci dR_judge_102 ?_
    refine g_callSv C (nargs := 2) (st := []) (m_Rcarry hci h) gd_carry (by decide +kernel) ⟨rfl, rfl⟩ dR_judge_105 ⟨by decide, by decide⟩ rfl rfl (Nat.le_of_ble_eq_true rfl) ?_
    intro M105 hN
    replace h := hN
    clear hN
    refine g_iload C dR_judge_108 rfl ?_
    exact hR _ _ _ _ dR_judge_110 rfl h
  have pB17 : ∀   (s0 : Int) (M : gSt), wB_Rjudge_17 a1 a2 k  s0 M → gG p l e (rmR 3 75) s m args below meth c Q D cl A (wR ad cI ci) 5 17 [(0, .ref (ad 0)), (1, iv a1), (2, iv a2)] [iv s0] M := by
    intro   s0 M h
    unfold wB_Rjudge_17 at h
    refine g_istore_n C dR_judge_17 (by decide) rfl ?_
    refine g_locals (lv' := [(0, .ref (ad 0)), (1, iv a1), (2, iv a2), (3, iv s0)]) rfl ?_
    refine g_iload_n C dR_judge_18 rfl ?_
    refine g_if_le C 28 dR_judge_19 (by decide) (fun hc => ?_) (fun hc => ?_)
    · replace h := h.1 hc
      refine g_aload_n C dR_judge_28 rfl ?_
      refine rf_s C hci dR_judge_29 ?_
      refine g_aload_n C dR_judge_32 rfl ?_
      refine rf_put C hci dR_judge_33 ?_
      refine g_callSv C (nargs := 2) (st := []) (m_Rcarry hci h) gd_carry (by decide +kernel) ⟨rfl, rfl⟩ dR_judge_36 ⟨by decide, by decide⟩ rfl rfl (Nat.le_of_ble_eq_true rfl) ?_
      intro M36 hN
      replace h := hN
      clear hN
      refine g_aload_n C dR_judge_39 rfl ?_
      refine g_iload_n C dR_judge_40 rfl ?_
      refine g_callVv C (nargs := 1) (o := 0) (st := []) (m_RgoesBy hci h) rfl (by decide) hci rfl gd_goesBy (by decide +kernel) ⟨rfl, rfl⟩ dR_judge_41 ⟨by decide, by decide⟩ rfl rfl (Nat.le_of_ble_eq_true rfl) ?_
      intro M41 hN
      replace h := hN
      clear hN
      refine g_iconst C dR_judge_44 ?_
      refine g_istore C dR_judge_45 (by decide) rfl ?_
      refine g_locals (lv' := [(0, .ref (ad 0)), (1, iv a1), (2, iv a2), (3, iv s0), (4, iv 0)]) rfl ?_
      refine g_locals (lv' := [(0, .ref (ad 0)), (1, iv a1), (4, iv 0)]) rfl ?_
      obtain ⟨n, h⟩ := h
      refine pL47 _ ?_ n _ _ h
      · intro u4_47 M47 hN
        replace h := hN
        clear hN
        refine g_locals (lv' := [(0, .ref (ad 0)), (4, iv u4_47)]) rfl ?_
        exact pB97 _ _ h
    · replace h := h.2 hc
      refine g_aload_n C dR_judge_22 rfl ?_
      refine g_iload_n C dR_judge_23 rfl ?_
      refine g_callVi C (nargs := 1) (o := 0) (st := []) (m_Rerror hci h) rfl (by decide) hci rfl gd_error (by decide +kernel) ⟨rfl, rfl⟩ dR_judge_24 ⟨by decide, by decide⟩ rfl rfl (Nat.le_of_ble_eq_true rfl) ?_
      intro r24c M24 hN
      replace h := hN
      clear hN
      exact hR _ _ _ _ dR_judge_27 rfl h
  refine g_locals (lv' := [(0, .ref (ad 0)), (1, iv a1), (2, iv a2)]) rfl ?_
  unfold w_Rjudge at h
  refine g_aload_n C dR_judge_0 rfl ?_
  refine g_iload_n C dR_judge_1 rfl ?_
  refine g_callVi C (nargs := 1) (o := 0) (st := []) (m_RisHistory hci h) rfl (by decide) hci rfl gd_isHistory (by decide +kernel) ⟨rfl, rfl⟩ dR_judge_2 ⟨by decide, by decide⟩ rfl rfl (Nat.le_of_ble_eq_true rfl) ?_
  intro r2c M2 hN
  replace h := hN
  clear hN
  refine g_if_eq C 16 dR_judge_5 (by decide) (fun hc => ?_) (fun hc => ?_)
  · replace h := h.1 hc
    refine g_iconst C dR_judge_16 ?_
    refine g_locals (lv' := [(0, .ref (ad 0)), (1, iv a1), (2, iv a2)]) rfl ?_
    exact pB17 _ _ h
  · replace h := h.2 hc
    refine g_aload_n C dR_judge_8 rfl ?_
    refine g_iload_n C dR_judge_9 rfl ?_
    refine g_callVi C (nargs := 1) (o := 0) (st := []) (m_Rlacks hci h) rfl (by decide) hci rfl gd_lacks (by decide +kernel) ⟨rfl, rfl⟩ dR_judge_10 ⟨by decide, by decide⟩ rfl rfl (Nat.le_of_ble_eq_true rfl) ?_
    intro r10c M10 hN
    replace h := hN
    clear hN
    refine g_goto C 17 dR_judge_13 (by decide) ?_
    refine g_locals (lv' := [(0, .ref (ad 0)), (1, iv a1), (2, iv a2)]) rfl ?_
    exact pB17 _ _ h
def w_Rimage  (M : gSt) (k : Int → gSt → Prop) : Prop :=
w_Rcarry 1 2 M (fun M8 => ∀ M18 : gSt, M18 = wr M8 0 3 ((M8 0 3) + 1) → (k (M18 0 3) M18))
set_option maxHeartbeats 4000000 in
set_option maxRecDepth 100000 in
theorem m_Rimage {l : Launch} {D : va_G} {cl : List vw_C} {tys : List (ClassId × FieldType)} {ad : Nat → Nat} {cI : ClassId} {ci : Nat} {Z : (Nat → Prop) → State → Prop} (hci : cl[ci]? = some (RX9, TX9, 23))  {M : gSt} {k : Int → gSt → Prop} (h : w_Rimage  M k) : MOi l yX9_image cX9_image 1 .int (rmR 1 22) D cl ((cI, .int) :: tys) (wR ad cI ci) tR Z [.ref (ad 0)] M k := by
  refine moi_intro (by decide +kernel) (Nat.le_of_ble_eq_true rfl) wi_303 ?_
  intro p e s m args below meth c A Q C hR
  refine g_locals (lv' := [(0, .ref (ad 0))]) rfl ?_
  unfold w_Rimage at h
  refine g_aload_n C dR_image_0 rfl ?_
  refine rf_s C hci dR_image_1 ?_
  refine g_aload_n C dR_image_4 rfl ?_
  refine rf_kept C hci dR_image_5 ?_
  refine g_callSv C (nargs := 2) (st := []) (m_Rcarry hci h) gd_carry (by decide +kernel) ⟨rfl, rfl⟩ dR_image_8 ⟨by decide, by decide⟩ rfl rfl (Nat.le_of_ble_eq_true rfl) ?_
  intro M8 hN
  replace h := hN
  clear hN
  refine g_aload_n C dR_image_11 rfl ?_
  refine g_dup C dR_image_12 rfl ?_
  refine rf_images C hci dR_image_13 ?_
  refine g_iconst C dR_image_16 ?_
  refine g_iadd C dR_image_17 ?_
  refine rp_images C hci dR_image_18 ?_
  refine g_memname (fun M18 hM18 => ?_)
  replace h := h M18 hM18
  refine g_aload_n C dR_image_21 rfl ?_
  refine rf_images C hci dR_image_22 ?_
  exact hR _ _ _ _ dR_image_25 rfl h
def w_Rrestore  (M : gSt) (k : Int → gSt → Prop) : Prop :=

  (¬ wrap (M 0 3) = 0 →
    w_Rcarry 2 1 M (fun M21 => k (M21 1 5) M21)) ∧
  (wrap (M 0 3) = 0 →
    w_Rerror 2 M (fun r9c M9 => k r9c M9))
set_option maxHeartbeats 4000000 in
set_option maxRecDepth 100000 in
theorem m_Rrestore {l : Launch} {D : va_G} {cl : List vw_C} {tys : List (ClassId × FieldType)} {ad : Nat → Nat} {cI : ClassId} {ci : Nat} {Z : (Nat → Prop) → State → Prop} (hci : cl[ci]? = some (RX9, TX9, 23))  {M : gSt} {k : Int → gSt → Prop} (h : w_Rrestore  M k) : MOi l yX9_restore cX9_restore 1 .int (rmR 1 22) D cl ((cI, .int) :: tys) (wR ad cI ci) tR Z [.ref (ad 0)] M k := by
  refine moi_intro (by decide +kernel) (Nat.le_of_ble_eq_true rfl) wi_304 ?_
  intro p e s m args below meth c A Q C hR
  refine g_locals (lv' := [(0, .ref (ad 0))]) rfl ?_
  unfold w_Rrestore at h
  refine g_aload_n C dR_restore_0 rfl ?_
  refine rf_images C hci dR_restore_1 ?_
  refine g_if_ne C 13 dR_restore_4 (by decide) (fun hc => ?_) (fun hc => ?_)
  · replace h := h.1 hc
    refine g_aload_n C dR_restore_13 rfl ?_
    refine rf_kept C hci dR_restore_14 ?_
    refine g_aload_n C dR_restore_17 rfl ?_
    refine rf_s C hci dR_restore_18 ?_
    refine g_callSv C (nargs := 2) (st := []) (m_Rcarry hci h) gd_carry (by decide +kernel) ⟨rfl, rfl⟩ dR_restore_21 ⟨by decide, by decide⟩ rfl rfl (Nat.le_of_ble_eq_true rfl) ?_
    intro M21 hN
    replace h := hN
    clear hN
    refine g_aload_n C dR_restore_24 rfl ?_
    refine rf_s C hci dR_restore_25 ?_
    refine g_iconst C dR_restore_28 ?_
    refine g_iald C (n := 536) dR_restore_29 rfl (by decide) ⟨by decide, by decide⟩ ?_
    exact hR _ _ _ _ dR_restore_30 rfl h
  · replace h := h.2 hc
    refine g_aload_n C dR_restore_7 rfl ?_
    refine g_iconst C dR_restore_8 ?_
    refine g_callVi C (nargs := 1) (o := 0) (st := []) (m_Rerror hci h) rfl (by decide) hci rfl gd_error (by decide +kernel) ⟨rfl, rfl⟩ dR_restore_9 ⟨by decide, by decide⟩ rfl rfl (Nat.le_of_ble_eq_true rfl) ?_
    intro r9c M9 hN
    replace h := hN
    clear hN
    exact hR _ _ _ _ dR_restore_12 rfl h
def w_Rtell (a1 : Int) (M : gSt) (k : Int → gSt → Prop) : Prop :=

  (¬ wrap (M 1 7) = 24 →
    (0 ≤ 512 + (M 1 7) ∧ 512 + (M 1 7) < 536) ∧ (∀ M34 : gSt, M34 = wr M 1 (512 + (M 1 7)) a1 → (∀ M45 : gSt, M45 = wr M34 1 7 ((M34 1 7) + 1) → (k (M45 1 7) M45)))) ∧
  (wrap (M 1 7) = 24 →
    w_Rerror 4 M (fun r14c M14 => k r14c M14))
set_option maxHeartbeats 4000000 in
set_option maxRecDepth 100000 in
theorem m_Rtell {l : Launch} {D : va_G} {cl : List vw_C} {tys : List (ClassId × FieldType)} {ad : Nat → Nat} {cI : ClassId} {ci : Nat} {Z : (Nat → Prop) → State → Prop} (hci : cl[ci]? = some (RX9, TX9, 23)) {a1 : Int} {M : gSt} {k : Int → gSt → Prop} (h : w_Rtell a1 M k) : MOi l yX9_tell cX9_tell 2 .int (rmR 1 21) D cl ((cI, .int) :: tys) (wR ad cI ci) tR Z [.ref (ad 0), iv a1] M k := by
  refine moi_intro (by decide +kernel) (Nat.le_of_ble_eq_true rfl) wi_305 ?_
  intro p e s m args below meth c A Q C hR
  refine g_locals (lv' := [(0, .ref (ad 0)), (1, iv a1)]) rfl ?_
  unfold w_Rtell at h
  refine g_aload_n C dR_tell_0 rfl ?_
  refine rf_s C hci dR_tell_1 ?_
  refine g_bipush C dR_tell_4 rfl ?_
  refine g_iald C (n := 536) dR_tell_6 rfl (by decide) ⟨by decide, by decide⟩ ?_
  refine g_bipush C dR_tell_7 rfl ?_
  refine g_icmp_ne C 18 dR_tell_9 (by decide) (fun hc => ?_) (fun hc => ?_)
  · replace h := h.1 hc
    refine g_aload_n C dR_tell_18 rfl ?_
    refine rf_s C hci dR_tell_19 ?_
    refine g_sipush C dR_tell_22 rfl ?_
    refine g_aload_n C dR_tell_25 rfl ?_
    refine rf_s C hci dR_tell_26 ?_
    refine g_bipush C dR_tell_29 rfl ?_
    refine g_iald C (n := 536) dR_tell_31 rfl (by decide) ⟨by decide, by decide⟩ ?_
    refine g_iadd C dR_tell_32 ?_
    refine g_iload_n C dR_tell_33 rfl ?_
    refine g_iast C (n := 536) dR_tell_34 rfl (by decide) h.1 ?_
    replace h := h.2
    refine g_memname (fun M34 hM34 => ?_)
    replace h := h M34 hM34
    refine g_aload_n C dR_tell_35 rfl ?_
    refine rf_s C hci dR_tell_36 ?_
    refine g_bipush C dR_tell_39 rfl ?_
    refine g_dup2 C dR_tell_41 rfl rfl ?_
    refine g_iald C (n := 536) dR_tell_42 rfl (by decide) ⟨by decide, by decide⟩ ?_
    refine g_iconst C dR_tell_43 ?_
    refine g_iadd C dR_tell_44 ?_
    refine g_iast C (n := 536) dR_tell_45 rfl (by decide) ⟨by decide, by decide⟩ ?_
    refine g_memname (fun M45 hM45 => ?_)
    replace h := h M45 hM45
    refine g_aload_n C dR_tell_46 rfl ?_
    refine rf_s C hci dR_tell_47 ?_
    refine g_bipush C dR_tell_50 rfl ?_
    refine g_iald C (n := 536) dR_tell_52 rfl (by decide) ⟨by decide, by decide⟩ ?_
    exact hR _ _ _ _ dR_tell_53 rfl h
  · replace h := h.2 hc
    refine g_aload_n C dR_tell_12 rfl ?_
    refine g_iconst C dR_tell_13 ?_
    refine g_callVi C (nargs := 1) (o := 0) (st := []) (m_Rerror hci h) rfl (by decide) hci rfl gd_error (by decide +kernel) ⟨rfl, rfl⟩ dR_tell_14 ⟨by decide, by decide⟩ rfl rfl (Nat.le_of_ble_eq_true rfl) ?_
    intro r14c M14 hN
    replace h := hN
    clear hN
    exact hR _ _ _ _ dR_tell_17 rfl h
def wC_Rcheck_22  (k : Int → gSt → Prop) (r22 : Int → Int → gSt → Prop) (X22_60 : Int → Int → gSt → Prop) (v1 : Int) (v2 : Int) (M : gSt) : Prop :=

  (wrap v1 ≤ wrap v2 →
    X22_60 v1 v2 M) ∧
  (wrap v2 < wrap v1 →

    (wrap (M 0 13) ≤ wrap v2 →
      X22_60 v1 v2 M) ∧
    (wrap v2 < wrap (M 0 13) →
      (0 ≤ 512 + v2 ∧ 512 + v2 < 536) ∧ ((0 ≤ v2 ∧ v2 < 64) ∧ (
      (¬ wrap (M 1 (512 + v2)) = wrap (M 8 v2) →
        X22_60 v1 v2 M) ∧
      (wrap (M 1 (512 + v2)) = wrap (M 8 v2) →
        r22 v1 (v2 + 1) M)))))
def wL_Rcheck_22  (k : Int → gSt → Prop)  (X22_60 : Int → Int → gSt → Prop) : Nat → Int → Int → gSt → Prop
  | 0 => fun _ _ _ => False
  | n + 1 => fun v1 v2 M => wC_Rcheck_22  k  (wL_Rcheck_22  k  X22_60 n) X22_60 v1 v2 M
def wB_Rcheck_60  (k : Int → gSt → Prop)  (v1 : Int) (v2 : Int) (M : gSt) : Prop :=

  (¬ wrap v2 = wrap v1 →
    k (1 + v2) M) ∧
  (wrap v2 = wrap v1 →

    (¬ wrap v2 = wrap (M 0 13) →
      k (1 + v2) M) ∧
    (wrap v2 = wrap (M 0 13) →
      k 0 M))
def w_Rcheck  (M : gSt) (k : Int → gSt → Prop) : Prop :=
∀ x1_7 : Int, x1_7 = M 1 7 → (∀ M15 : gSt, M15 = wr M 1 7 0 → (w_RfindFits  M15 (fun M17 => ∃ n, wL_Rcheck_22  k  (fun u1_22 u2_22 M22 =>
    wB_Rcheck_60  k  u1_22 u2_22 M22) n x1_7 0 M17)))
set_option maxHeartbeats 4000000 in
set_option maxRecDepth 100000 in
theorem m_Rcheck {l : Launch} {D : va_G} {cl : List vw_C} {tys : List (ClassId × FieldType)} {ad : Nat → Nat} {cI : ClassId} {ci : Nat} {Z : (Nat → Prop) → State → Prop} (hci : cl[ci]? = some (RX9, TX9, 23))  {M : gSt} {k : Int → gSt → Prop} (h : w_Rcheck  M k) : MOi l yX9_check cX9_check 3 .int (rmR 5 121) D cl ((cI, .int) :: tys) (wR ad cI ci) tR Z [.ref (ad 0)] M k := by
  refine moi_intro (by decide +kernel) (Nat.le_of_ble_eq_true rfl) wi_306 ?_
  intro p e s m args below meth c A Q C hR
  have pC22 : ∀ (r22 : Int → Int → gSt → Prop) (X22_60 : Int → Int → gSt → Prop) (hr22 : ∀ (v1 : Int) (v2 : Int) (M : gSt), r22 v1 v2 M → gG p l e (rmR 5 121) s m args below meth c Q D cl A (wR ad cI ci) 3 22 [(0, .ref (ad 0)), (1, iv v1), (2, iv v2)] [] M) (hX22_60 : ∀ (v1 : Int) (v2 : Int) (M : gSt), X22_60 v1 v2 M → gG p l e (rmR 5 121) s m args below meth c Q D cl A (wR ad cI ci) 3 60 [(0, .ref (ad 0)), (1, iv v1), (2, iv v2)] [] M) (v1 : Int) (v2 : Int) (M : gSt), wC_Rcheck_22  k r22 X22_60 v1 v2 M → gG p l e (rmR 5 121) s m args below meth c Q D cl A (wR ad cI ci) 3 22 [(0, .ref (ad 0)), (1, iv v1), (2, iv v2)] [] M := by
    intro r22 X22_60 hr22 hX22_60 v1 v2 M h
    unfold wC_Rcheck_22 at h
    refine g_iload_n C dR_check_22 rfl ?_
    refine g_iload_n C dR_check_23 rfl ?_
    refine g_icmp_ge C 60 dR_check_24 (by decide) (fun hc => ?_) (fun hc => ?_)
    · replace h := h.1 hc
      refine g_locals (lv' := [(0, .ref (ad 0)), (1, iv v1), (2, iv v2)]) rfl ?_
      exact hX22_60 _ _  _ h
    · replace h := h.2 hc
      refine g_iload_n C dR_check_27 rfl ?_
      refine g_aload_n C dR_check_28 rfl ?_
      refine rf_many C hci dR_check_29 ?_
      refine g_icmp_ge C 60 dR_check_32 (by decide) (fun hc => ?_) (fun hc => ?_)
      · replace h := h.1 hc
        refine g_locals (lv' := [(0, .ref (ad 0)), (1, iv v1), (2, iv v2)]) rfl ?_
        exact hX22_60 _ _  _ h
      · replace h := h.2 hc
        refine g_aload_n C dR_check_35 rfl ?_
        refine rf_s C hci dR_check_36 ?_
        refine g_sipush C dR_check_39 rfl ?_
        refine g_iload_n C dR_check_42 rfl ?_
        refine g_iadd C dR_check_43 ?_
        refine g_iald C (n := 536) dR_check_44 rfl (by decide) h.1 ?_
        replace h := h.2
        refine g_aload_n C dR_check_45 rfl ?_
        refine rf_fit C hci dR_check_46 ?_
        refine g_iload_n C dR_check_49 rfl ?_
        refine g_iald C (n := 64) dR_check_50 rfl (by decide) h.1 ?_
        replace h := h.2
        refine g_icmp_ne C 60 dR_check_51 (by decide) (fun hc => ?_) (fun hc => ?_)
        · replace h := h.1 hc
          refine g_locals (lv' := [(0, .ref (ad 0)), (1, iv v1), (2, iv v2)]) rfl ?_
          exact hX22_60 _ _  _ h
        · replace h := h.2 hc
          refine g_iinc C dR_check_54 rfl (by decide) rfl ?_
          refine g_locals (lv' := [(0, .ref (ad 0)), (1, iv v1), (2, iv (v2 + 1))]) rfl ?_
          refine g_goto C 22 dR_check_57 (by decide) ?_
          refine g_locals (lv' := [(0, .ref (ad 0)), (1, iv v1), (2, iv (v2 + 1))]) rfl ?_
          exact hr22 _ _  _ h
  have pL22 : ∀  (X22_60 : Int → Int → gSt → Prop) (hX22_60 : ∀ (v1 : Int) (v2 : Int) (M : gSt), X22_60 v1 v2 M → gG p l e (rmR 5 121) s m args below meth c Q D cl A (wR ad cI ci) 3 60 [(0, .ref (ad 0)), (1, iv v1), (2, iv v2)] [] M) (n : Nat) (v1 : Int) (v2 : Int) (M : gSt), wL_Rcheck_22  k  X22_60 n v1 v2 M → gG p l e (rmR 5 121) s m args below meth c Q D cl A (wR ad cI ci) 3 22 [(0, .ref (ad 0)), (1, iv v1), (2, iv v2)] [] M := by
    intro  X22_60 hX22_60 n
    induction n with
    | zero => intro v1 v2 M h; exact h.elim
    | succ n ih =>
      intro v1 v2 M h
      exact pC22  (wL_Rcheck_22  k  X22_60 n) X22_60 ih hX22_60 v1 v2 M h
  have pB60 : ∀   (v1 : Int) (v2 : Int) (M : gSt), wB_Rcheck_60  k  v1 v2 M → gG p l e (rmR 5 121) s m args below meth c Q D cl A (wR ad cI ci) 3 60 [(0, .ref (ad 0)), (1, iv v1), (2, iv v2)] [] M := by
    intro   v1 v2 M h
    unfold wB_Rcheck_60 at h
    refine g_iload_n C dR_check_60 rfl ?_
    refine g_iload_n C dR_check_61 rfl ?_
    refine g_icmp_ne C 77 dR_check_62 (by decide) (fun hc => ?_) (fun hc => ?_)
    · replace h := h.1 hc
      refine g_iconst C dR_check_77 ?_
      refine g_iload_n C dR_check_78 rfl ?_
      refine g_iadd C dR_check_79 ?_
      exact hR _ _ _ _ dR_check_80 rfl h
    · replace h := h.2 hc
      refine g_iload_n C dR_check_65 rfl ?_
      refine g_aload_n C dR_check_66 rfl ?_
      refine rf_many C hci dR_check_67 ?_
      refine g_icmp_ne C 77 dR_check_70 (by decide) (fun hc => ?_) (fun hc => ?_)
      · replace h := h.1 hc
        refine g_iconst C dR_check_77 ?_
        refine g_iload_n C dR_check_78 rfl ?_
        refine g_iadd C dR_check_79 ?_
        exact hR _ _ _ _ dR_check_80 rfl h
      · replace h := h.2 hc
        refine g_iconst C dR_check_73 ?_
        refine g_goto C 80 dR_check_74 (by decide) ?_
        exact hR _ _ _ _ dR_check_80 rfl h
  refine g_locals (lv' := [(0, .ref (ad 0))]) rfl ?_
  unfold w_Rcheck at h
  refine g_aload_n C dR_check_0 rfl ?_
  refine rf_s C hci dR_check_1 ?_
  refine g_bipush C dR_check_4 rfl ?_
  refine g_iald C (n := 536) dR_check_6 rfl (by decide) ⟨by decide, by decide⟩ ?_
  refine g_name (fun x1_7 hx1_7 => ?_)
  replace h := h x1_7 hx1_7
  refine g_istore_n C dR_check_7 (by decide) rfl ?_
  refine g_locals (lv' := [(0, .ref (ad 0)), (1, iv x1_7)]) rfl ?_
  refine g_aload_n C dR_check_8 rfl ?_
  refine rf_s C hci dR_check_9 ?_
  refine g_bipush C dR_check_12 rfl ?_
  refine g_iconst C dR_check_14 ?_
  refine g_iast C (n := 536) dR_check_15 rfl (by decide) ⟨by decide, by decide⟩ ?_
  refine g_memname (fun M15 hM15 => ?_)
  replace h := h M15 hM15
  refine g_aload_n C dR_check_16 rfl ?_
  refine g_callVv C (nargs := 0) (o := 0) (st := []) (m_RfindFits hci h) rfl (by decide) hci rfl gd_findFits (by decide +kernel) ⟨rfl, rfl⟩ dR_check_17 ⟨by decide, by decide⟩ rfl rfl (Nat.le_of_ble_eq_true rfl) ?_
  intro M17 hN
  replace h := hN
  clear hN
  refine g_iconst C dR_check_20 ?_
  refine g_istore_n C dR_check_21 (by decide) rfl ?_
  refine g_locals (lv' := [(0, .ref (ad 0)), (1, iv x1_7), (2, iv 0)]) rfl ?_
  refine g_locals (lv' := [(0, .ref (ad 0)), (1, iv x1_7), (2, iv 0)]) rfl ?_
  obtain ⟨n, h⟩ := h
  refine pL22 _ ?_ n _ _ _ h
  · intro u1_22 u2_22 M22 hN
    replace h := hN
    clear hN
    refine g_locals (lv' := [(0, .ref (ad 0)), (1, iv u1_22), (2, iv u2_22)]) rfl ?_
    exact pB60 _ _ _ h
def w_Rcount (a1 : Int) (M : gSt) (k : Int → gSt → Prop) : Prop :=

  (wrap a1 = 0 →
    k (M 1 0) M) ∧
  (wrap a1 = 1 →
    k (M 1 1) M) ∧
  (wrap a1 = 2 →
    k (M 1 2) M) ∧
  (wrap a1 = 3 →
    k (M 1 3) M) ∧
  (wrap a1 = 4 →
    k (M 1 4) M) ∧
  (wrap a1 = 5 →
    w_RallGrams  M (fun r96c M96 => k r96c M96)) ∧
  (wrap a1 = 6 →
    k (M 1 5) M) ∧
  (wrap a1 = 7 →
    k (M 1 6) M) ∧
  (wrap a1 = 8 →
    k (M 1 7) M) ∧
  (wrap a1 = 9 →
    k (M 0 16) M) ∧
  (wrap a1 = 10 →
    k (M 1 8) M) ∧
  (¬ wrap a1 = 0 ∧ ¬ wrap a1 = 1 ∧ ¬ wrap a1 = 2 ∧ ¬ wrap a1 = 3 ∧ ¬ wrap a1 = 4 ∧ ¬ wrap a1 = 5 ∧ ¬ wrap a1 = 6 ∧ ¬ wrap a1 = 7 ∧ ¬ wrap a1 = 8 ∧ ¬ wrap a1 = 9 ∧ ¬ wrap a1 = 10 →
    w_Rerror 1 M (fun r138c M138 => k r138c M138))
set_option maxHeartbeats 4000000 in
set_option maxRecDepth 100000 in
theorem m_Rcount {l : Launch} {D : va_G} {cl : List vw_C} {tys : List (ClassId × FieldType)} {ad : Nat → Nat} {cI : ClassId} {ci : Nat} {Z : (Nat → Prop) → State → Prop} (hci : cl[ci]? = some (RX9, TX9, 23)) {a1 : Int} {M : gSt} {k : Int → gSt → Prop} (h : w_Rcount a1 M k) : MOi l yX9_count cX9_count 2 .int (rmR 2 44) D cl ((cI, .int) :: tys) (wR ad cI ci) tR Z [.ref (ad 0), iv a1] M k := by
  refine moi_intro (by decide +kernel) (Nat.le_of_ble_eq_true rfl) wi_307 ?_
  intro p e s m args below meth c A Q C hR
  refine g_locals (lv' := [(0, .ref (ad 0)), (1, iv a1)]) rfl ?_
  unfold w_Rcount at h
  refine g_iload_n C dR_count_0 rfl ?_
  by_cases hc0 : wrap a1 = 0
  · refine g_tableIn C 60 dR_count_1 (by omega) (by omega) (by rw [hc0] <;> rfl) (by decide) ?_
    replace h := h.1 hc0
    refine g_aload_n C dR_count_60 rfl ?_
    refine rf_s C hci dR_count_61 ?_
    refine g_iconst C dR_count_64 ?_
    refine g_iald C (n := 536) dR_count_65 rfl (by decide) ⟨by decide, by decide⟩ ?_
    exact hR _ _ _ _ dR_count_66 rfl h
  · by_cases hc1 : wrap a1 = 1
    · refine g_tableIn C 67 dR_count_1 (by omega) (by omega) (by rw [hc1] <;> rfl) (by decide) ?_
      replace h := h.2.1 hc1
      refine g_aload_n C dR_count_67 rfl ?_
      refine rf_s C hci dR_count_68 ?_
      refine g_iconst C dR_count_71 ?_
      refine g_iald C (n := 536) dR_count_72 rfl (by decide) ⟨by decide, by decide⟩ ?_
      exact hR _ _ _ _ dR_count_73 rfl h
    · by_cases hc2 : wrap a1 = 2
      · refine g_tableIn C 74 dR_count_1 (by omega) (by omega) (by rw [hc2] <;> rfl) (by decide) ?_
        replace h := h.2.2.1 hc2
        refine g_aload_n C dR_count_74 rfl ?_
        refine rf_s C hci dR_count_75 ?_
        refine g_iconst C dR_count_78 ?_
        refine g_iald C (n := 536) dR_count_79 rfl (by decide) ⟨by decide, by decide⟩ ?_
        exact hR _ _ _ _ dR_count_80 rfl h
      · by_cases hc3 : wrap a1 = 3
        · refine g_tableIn C 81 dR_count_1 (by omega) (by omega) (by rw [hc3] <;> rfl) (by decide) ?_
          replace h := h.2.2.2.1 hc3
          refine g_aload_n C dR_count_81 rfl ?_
          refine rf_s C hci dR_count_82 ?_
          refine g_iconst C dR_count_85 ?_
          refine g_iald C (n := 536) dR_count_86 rfl (by decide) ⟨by decide, by decide⟩ ?_
          exact hR _ _ _ _ dR_count_87 rfl h
        · by_cases hc4 : wrap a1 = 4
          · refine g_tableIn C 88 dR_count_1 (by omega) (by omega) (by rw [hc4] <;> rfl) (by decide) ?_
            replace h := h.2.2.2.2.1 hc4
            refine g_aload_n C dR_count_88 rfl ?_
            refine rf_s C hci dR_count_89 ?_
            refine g_iconst C dR_count_92 ?_
            refine g_iald C (n := 536) dR_count_93 rfl (by decide) ⟨by decide, by decide⟩ ?_
            exact hR _ _ _ _ dR_count_94 rfl h
          · by_cases hc5 : wrap a1 = 5
            · refine g_tableIn C 95 dR_count_1 (by omega) (by omega) (by rw [hc5] <;> rfl) (by decide) ?_
              replace h := h.2.2.2.2.2.1 hc5
              refine g_aload_n C dR_count_95 rfl ?_
              refine g_callVi C (nargs := 0) (o := 0) (st := []) (m_RallGrams hci h) rfl (by decide) hci rfl gd_allGrams (by decide +kernel) ⟨rfl, rfl⟩ dR_count_96 ⟨by decide, by decide⟩ rfl rfl (Nat.le_of_ble_eq_true rfl) ?_
              intro r96c M96 hN
              replace h := hN
              clear hN
              exact hR _ _ _ _ dR_count_99 rfl h
            · by_cases hc6 : wrap a1 = 6
              · refine g_tableIn C 100 dR_count_1 (by omega) (by omega) (by rw [hc6] <;> rfl) (by decide) ?_
                replace h := h.2.2.2.2.2.2.1 hc6
                refine g_aload_n C dR_count_100 rfl ?_
                refine rf_s C hci dR_count_101 ?_
                refine g_iconst C dR_count_104 ?_
                refine g_iald C (n := 536) dR_count_105 rfl (by decide) ⟨by decide, by decide⟩ ?_
                exact hR _ _ _ _ dR_count_106 rfl h
              · by_cases hc7 : wrap a1 = 7
                · refine g_tableIn C 107 dR_count_1 (by omega) (by omega) (by rw [hc7] <;> rfl) (by decide) ?_
                  replace h := h.2.2.2.2.2.2.2.1 hc7
                  refine g_aload_n C dR_count_107 rfl ?_
                  refine rf_s C hci dR_count_108 ?_
                  refine g_bipush C dR_count_111 rfl ?_
                  refine g_iald C (n := 536) dR_count_113 rfl (by decide) ⟨by decide, by decide⟩ ?_
                  exact hR _ _ _ _ dR_count_114 rfl h
                · by_cases hc8 : wrap a1 = 8
                  · refine g_tableIn C 115 dR_count_1 (by omega) (by omega) (by rw [hc8] <;> rfl) (by decide) ?_
                    replace h := h.2.2.2.2.2.2.2.2.1 hc8
                    refine g_aload_n C dR_count_115 rfl ?_
                    refine rf_s C hci dR_count_116 ?_
                    refine g_bipush C dR_count_119 rfl ?_
                    refine g_iald C (n := 536) dR_count_121 rfl (by decide) ⟨by decide, by decide⟩ ?_
                    exact hR _ _ _ _ dR_count_122 rfl h
                  · by_cases hc9 : wrap a1 = 9
                    · refine g_tableIn C 123 dR_count_1 (by omega) (by omega) (by rw [hc9] <;> rfl) (by decide) ?_
                      replace h := h.2.2.2.2.2.2.2.2.2.1 hc9
                      refine g_aload_n C dR_count_123 rfl ?_
                      refine rf_traced C hci dR_count_124 ?_
                      exact hR _ _ _ _ dR_count_127 rfl h
                    · by_cases hc10 : wrap a1 = 10
                      · refine g_tableIn C 128 dR_count_1 (by omega) (by omega) (by rw [hc10] <;> rfl) (by decide) ?_
                        replace h := h.2.2.2.2.2.2.2.2.2.2.1 hc10
                        refine g_aload_n C dR_count_128 rfl ?_
                        refine rf_s C hci dR_count_129 ?_
                        refine g_bipush C dR_count_132 rfl ?_
                        refine g_iald C (n := 536) dR_count_134 rfl (by decide) ⟨by decide, by decide⟩ ?_
                        exact hR _ _ _ _ dR_count_135 rfl h
                      · refine g_tableOut C 136 dR_count_1 (by omega) (by decide) ?_
                        replace h := h.2.2.2.2.2.2.2.2.2.2.2 ⟨hc0, hc1, hc2, hc3, hc4, hc5, hc6, hc7, hc8, hc9, hc10⟩
                        refine g_aload_n C dR_count_136 rfl ?_
                        refine g_iconst C dR_count_137 ?_
                        refine g_callVi C (nargs := 1) (o := 0) (st := []) (m_Rerror hci h) rfl (by decide) hci rfl gd_error (by decide +kernel) ⟨rfl, rfl⟩ dR_count_138 ⟨by decide, by decide⟩ rfl rfl (Nat.le_of_ble_eq_true rfl) ?_
                        intro r138c M138 hN
                        replace h := hN
                        clear hN
                        exact hR _ _ _ _ dR_count_141 rfl h
def w_Rtold (a1 : Int) (M : gSt) (k : Int → gSt → Prop) : Prop :=
w_Rin a1 1 6 M (fun r4c M4 => 
  (wrap r4c = 0 →
    w_Rerror 1 M4 (fun r21c M21 => k r21c M21)) ∧
  (¬ wrap r4c = 0 →
    (0 ≤ a1 ∧ a1 < 7) ∧ (k (M4 4 a1) M4)))
set_option maxHeartbeats 4000000 in
set_option maxRecDepth 100000 in
theorem m_Rtold {l : Launch} {D : va_G} {cl : List vw_C} {tys : List (ClassId × FieldType)} {ad : Nat → Nat} {cI : ClassId} {ci : Nat} {Z : (Nat → Prop) → State → Prop} (hci : cl[ci]? = some (RX9, TX9, 23)) {a1 : Int} {M : gSt} {k : Int → gSt → Prop} (h : w_Rtold a1 M k) : MOi l yX9_told cX9_told 2 .int (rmR 1 22) D cl ((cI, .int) :: tys) (wR ad cI ci) tR Z [.ref (ad 0), iv a1] M k := by
  refine moi_intro (by decide +kernel) (Nat.le_of_ble_eq_true rfl) wi_308 ?_
  intro p e s m args below meth c A Q C hR
  refine g_locals (lv' := [(0, .ref (ad 0)), (1, iv a1)]) rfl ?_
  unfold w_Rtold at h
  refine g_iload_n C dR_told_0 rfl ?_
  refine g_iconst C dR_told_1 ?_
  refine g_bipush C dR_told_2 rfl ?_
  refine g_callSi C (nargs := 3) (st := []) (m_Rin hci h) gd_in (by decide +kernel) ⟨rfl, rfl⟩ dR_told_4 ⟨by decide, by decide⟩ rfl rfl (Nat.le_of_ble_eq_true rfl) ?_
  intro r4c M4 hN
  replace h := hN
  clear hN
  refine g_if_eq C 19 dR_told_7 (by decide) (fun hc => ?_) (fun hc => ?_)
  · replace h := h.1 hc
    refine g_aload_n C dR_told_19 rfl ?_
    refine g_iconst C dR_told_20 ?_
    refine g_callVi C (nargs := 1) (o := 0) (st := []) (m_Rerror hci h) rfl (by decide) hci rfl gd_error (by decide +kernel) ⟨rfl, rfl⟩ dR_told_21 ⟨by decide, by decide⟩ rfl rfl (Nat.le_of_ble_eq_true rfl) ?_
    intro r21c M21 hN
    replace h := hN
    clear hN
    exact hR _ _ _ _ dR_told_24 rfl h
  · replace h := h.2 hc
    refine g_aload_n C dR_told_10 rfl ?_
    refine rf_errors C hci dR_told_11 ?_
    refine g_iload_n C dR_told_14 rfl ?_
    refine g_iald C (n := 7) dR_told_15 rfl (by decide) h.1 ?_
    replace h := h.2
    refine g_goto C 24 dR_told_16 (by decide) ?_
    exact hR _ _ _ _ dR_told_24 rfl h
def wb_RringsBy (rc : Nat → List Int → gSt → (Int → gSt → Prop) → Prop) (a1 : Int) (a2 : Int) (M : gSt) (k : Int → gSt → Prop) : Prop :=

  (wrap a1 = 0 →
    w_Rbegins 10 M (fun M47 => k (a2 + (M47 0 17)) M47)) ∧
  (wrap a1 = 1 →
    w_Rbegins 20 M (fun M60 => w_Rabove 1 M60 (fun r65c M65 => rc 0 [r65c, a2] M65 (fun r69c M69 => k (r69c - 4) M69)))) ∧
  (wrap a1 = 4 →
    w_Rbegins 50 M (fun M78 => w_Rabove 4 M78 (fun r83c M83 => rc 0 [r83c, a2] M83 (fun r87c M87 => k (r87c * 3) M87)))) ∧
  (wrap a1 = 6 →
    w_Rbegins 70 M (fun M96 => k 6 M96)) ∧
  (¬ wrap a1 = 0 ∧ ¬ wrap a1 = 1 ∧ ¬ wrap a1 = 4 ∧ ¬ wrap a1 = 6 →
    w_Rabove a1 M (fun r104c M104 => rc 0 [r104c, a2] M104 (fun r108c M108 => k r108c M108)))
set_option maxHeartbeats 4000000 in
set_option maxRecDepth 100000 in
theorem mb_RringsBy {l : Launch} {D : va_G} {cl : List vw_C} {tys : List (ClassId × FieldType)} {ad : Nat → Nat} {cI : ClassId} {ci : Nat} {Z : (Nat → Prop) → State → Prop} (hci : cl[ci]? = some (RX9, TX9, 23)) {rc : Nat → List Int → gSt → (Int → gSt → Prop) → Prop} {a1 : Int} {a2 : Int} {d : Nat} (hrc0 : ∀ {a1 a2 : Int} {M : gSt} {k : Int → gSt → Prop}, rc 0 [a1, a2] M k → MOi l yX9_ringsBy cX9_ringsBy 3 .int (rmR (d + 1) (d * 22 + 21)) D cl ((cI, .int) :: tys) (wR ad cI ci) tR Z [.ref (ad 0), iv a1, iv a2] M k) {M : gSt} {k : Int → gSt → Prop} (h : wb_RringsBy rc a1 a2 M k) : MOi l yX9_ringsBy cX9_ringsBy 3 .int (rmR (d + 1 + 1) ((d + 1) * 22 + 21)) D cl ((cI, .int) :: tys) (wR ad cI ci) tR Z [.ref (ad 0), iv a1, iv a2] M k := by
  refine moi_intro (by decide +kernel) (Nat.le_of_ble_eq_true rfl) wi_268 ?_
  intro p e s m args below meth c A Q C hR
  refine g_locals (lv' := [(0, .ref (ad 0)), (1, iv a1), (2, iv a2)]) rfl ?_
  unfold wb_RringsBy at h
  refine g_iload_n C dR_ringsBy_0 rfl ?_
  by_cases hc0 : wrap a1 = 0
  · refine g_tableIn C 44 dR_ringsBy_1 (by omega) (by omega) (by rw [hc0] <;> rfl) (by decide) ?_
    replace h := h.1 hc0
    refine g_aload_n C dR_ringsBy_44 rfl ?_
    refine g_bipush C dR_ringsBy_45 rfl ?_
    refine g_callVv C (nargs := 1) (o := 0) (st := []) (m_Rbegins hci h) rfl (by decide) hci rfl gd_begins (by decide +kernel) ⟨rfl, rfl⟩ dR_ringsBy_47 ⟨by simp only [rmR]; omega, by simp only [rmR]; omega⟩ rfl rfl (Nat.le_of_ble_eq_true rfl) ?_
    intro M47 hN
    replace h := hN
    clear hN
    refine g_iload_n C dR_ringsBy_50 rfl ?_
    refine g_aload_n C dR_ringsBy_51 rfl ?_
    refine rf_speaks C hci dR_ringsBy_52 ?_
    refine g_iadd C dR_ringsBy_55 ?_
    exact hR _ _ _ _ dR_ringsBy_56 rfl h
  · by_cases hc1 : wrap a1 = 1
    · refine g_tableIn C 57 dR_ringsBy_1 (by omega) (by omega) (by rw [hc1] <;> rfl) (by decide) ?_
      replace h := h.2.1 hc1
      refine g_aload_n C dR_ringsBy_57 rfl ?_
      refine g_bipush C dR_ringsBy_58 rfl ?_
      refine g_callVv C (nargs := 1) (o := 0) (st := []) (m_Rbegins hci h) rfl (by decide) hci rfl gd_begins (by decide +kernel) ⟨rfl, rfl⟩ dR_ringsBy_60 ⟨by simp only [rmR]; omega, by simp only [rmR]; omega⟩ rfl rfl (Nat.le_of_ble_eq_true rfl) ?_
      intro M60 hN
      replace h := hN
      clear hN
      refine g_aload_n C dR_ringsBy_63 rfl ?_
      refine g_iconst C dR_ringsBy_64 ?_
      refine g_callSi C (nargs := 1) (st := [.ref (ad 0)]) (m_Rabove hci h) gd_above (by decide +kernel) ⟨rfl, rfl⟩ dR_ringsBy_65 ⟨by simp only [rmR]; omega, by simp only [rmR]; omega⟩ rfl rfl (Nat.le_of_ble_eq_true rfl) ?_
      intro r65c M65 hN
      replace h := hN
      clear hN
      refine g_iload_n C dR_ringsBy_68 rfl ?_
      refine g_callVi C (nargs := 2) (o := 0) (st := []) (hrc0 h) rfl (by decide) hci rfl gd_ringsBy (by decide +kernel) ⟨rfl, rfl⟩ dR_ringsBy_69 ⟨by simp only [rmR]; omega, by simp only [rmR]; omega⟩ rfl rfl (Nat.le_of_ble_eq_true rfl) ?_
      intro r69c M69 hN
      replace h := hN
      clear hN
      refine g_iconst C dR_ringsBy_72 ?_
      refine g_isub C dR_ringsBy_73 ?_
      exact hR _ _ _ _ dR_ringsBy_74 rfl h
    · by_cases hc4 : wrap a1 = 4
      · refine g_tableIn C 75 dR_ringsBy_1 (by omega) (by omega) (by rw [hc4] <;> rfl) (by decide) ?_
        replace h := h.2.2.1 hc4
        refine g_aload_n C dR_ringsBy_75 rfl ?_
        refine g_bipush C dR_ringsBy_76 rfl ?_
        refine g_callVv C (nargs := 1) (o := 0) (st := []) (m_Rbegins hci h) rfl (by decide) hci rfl gd_begins (by decide +kernel) ⟨rfl, rfl⟩ dR_ringsBy_78 ⟨by simp only [rmR]; omega, by simp only [rmR]; omega⟩ rfl rfl (Nat.le_of_ble_eq_true rfl) ?_
        intro M78 hN
        replace h := hN
        clear hN
        refine g_aload_n C dR_ringsBy_81 rfl ?_
        refine g_iconst C dR_ringsBy_82 ?_
        refine g_callSi C (nargs := 1) (st := [.ref (ad 0)]) (m_Rabove hci h) gd_above (by decide +kernel) ⟨rfl, rfl⟩ dR_ringsBy_83 ⟨by simp only [rmR]; omega, by simp only [rmR]; omega⟩ rfl rfl (Nat.le_of_ble_eq_true rfl) ?_
        intro r83c M83 hN
        replace h := hN
        clear hN
        refine g_iload_n C dR_ringsBy_86 rfl ?_
        refine g_callVi C (nargs := 2) (o := 0) (st := []) (hrc0 h) rfl (by decide) hci rfl gd_ringsBy (by decide +kernel) ⟨rfl, rfl⟩ dR_ringsBy_87 ⟨by simp only [rmR]; omega, by simp only [rmR]; omega⟩ rfl rfl (Nat.le_of_ble_eq_true rfl) ?_
        intro r87c M87 hN
        replace h := hN
        clear hN
        refine g_iconst C dR_ringsBy_90 ?_
        refine g_imul C dR_ringsBy_91 ?_
        exact hR _ _ _ _ dR_ringsBy_92 rfl h
      · by_cases hc6 : wrap a1 = 6
        · refine g_tableIn C 93 dR_ringsBy_1 (by omega) (by omega) (by rw [hc6] <;> rfl) (by decide) ?_
          replace h := h.2.2.2.1 hc6
          refine g_aload_n C dR_ringsBy_93 rfl ?_
          refine g_bipush C dR_ringsBy_94 rfl ?_
          refine g_callVv C (nargs := 1) (o := 0) (st := []) (m_Rbegins hci h) rfl (by decide) hci rfl gd_begins (by decide +kernel) ⟨rfl, rfl⟩ dR_ringsBy_96 ⟨by simp only [rmR]; omega, by simp only [rmR]; omega⟩ rfl rfl (Nat.le_of_ble_eq_true rfl) ?_
          intro M96 hN
          replace h := hN
          clear hN
          refine g_bipush C dR_ringsBy_99 rfl ?_
          exact hR _ _ _ _ dR_ringsBy_101 rfl h
        · by_cases hin : 0 ≤ wrap a1 ∧ wrap a1 ≤ 6
          · refine g_tableIn C (off := 101) 102 dR_ringsBy_1 hin.1 hin.2 ?_ (by decide) ?_
            · have hj : (wrap a1 - 0).toNat < 7 := by omega
              have hq0 : ¬ (wrap a1 - 0).toNat = 0 := by omega
              have hq1 : ¬ (wrap a1 - 0).toNat = 1 := by omega
              have hq4 : ¬ (wrap a1 - 0).toNat = 4 := by omega
              have hq6 : ¬ (wrap a1 - 0).toNat = 6 := by omega
              generalize (wrap a1 - 0).toNat = j at *
              have key : ∀ j : Nat, j < 7 → (¬ j = 0 ∧ ¬ j = 1 ∧ ¬ j = 4 ∧ ¬ j = 6) → (#[43, 56, 101, 101, 74, 101, 92] : Array Int)[j]? = some 101 := by decide
              exact key j hj ⟨hq0, hq1, hq4, hq6⟩
            · replace h := h.2.2.2.2 ⟨hc0, hc1, hc4, hc6⟩
              refine g_aload_n C dR_ringsBy_102 rfl ?_
              refine g_iload_n C dR_ringsBy_103 rfl ?_
              refine g_callSi C (nargs := 1) (st := [.ref (ad 0)]) (m_Rabove hci h) gd_above (by decide +kernel) ⟨rfl, rfl⟩ dR_ringsBy_104 ⟨by simp only [rmR]; omega, by simp only [rmR]; omega⟩ rfl rfl (Nat.le_of_ble_eq_true rfl) ?_
              intro r104c M104 hN
              replace h := hN
              clear hN
              refine g_iload_n C dR_ringsBy_107 rfl ?_
              refine g_callVi C (nargs := 2) (o := 0) (st := []) (hrc0 h) rfl (by decide) hci rfl gd_ringsBy (by decide +kernel) ⟨rfl, rfl⟩ dR_ringsBy_108 ⟨by simp only [rmR]; omega, by simp only [rmR]; omega⟩ rfl rfl (Nat.le_of_ble_eq_true rfl) ?_
              intro r108c M108 hN
              replace h := hN
              clear hN
              exact hR _ _ _ _ dR_ringsBy_111 rfl h
          · refine g_tableOut C 102 dR_ringsBy_1 (by omega) (by decide) ?_
            replace h := h.2.2.2.2 ⟨hc0, hc1, hc4, hc6⟩
            refine g_aload_n C dR_ringsBy_102 rfl ?_
            refine g_iload_n C dR_ringsBy_103 rfl ?_
            refine g_callSi C (nargs := 1) (st := [.ref (ad 0)]) (m_Rabove hci h) gd_above (by decide +kernel) ⟨rfl, rfl⟩ dR_ringsBy_104 ⟨by simp only [rmR]; omega, by simp only [rmR]; omega⟩ rfl rfl (Nat.le_of_ble_eq_true rfl) ?_
            intro r104c M104 hN
            replace h := hN
            clear hN
            refine g_iload_n C dR_ringsBy_107 rfl ?_
            refine g_callVi C (nargs := 2) (o := 0) (st := []) (hrc0 h) rfl (by decide) hci rfl gd_ringsBy (by decide +kernel) ⟨rfl, rfl⟩ dR_ringsBy_108 ⟨by simp only [rmR]; omega, by simp only [rmR]; omega⟩ rfl rfl (Nat.le_of_ble_eq_true rfl) ?_
            intro r108c M108 hN
            replace h := hN
            clear hN
            exact hR _ _ _ _ dR_ringsBy_111 rfl h
def wg_RringsBy : Nat → Nat → List Int → gSt → (Int → gSt → Prop) → Prop
  | 0 => fun _ _ _ _ => False
  | d + 1 => fun i xs M k => match i, xs with
    | 0, [a1, a2] => wb_RringsBy (wg_RringsBy d) a1 a2 M k
    | _, _ => False
theorem mg_RringsBy {l : Launch} {D : va_G} {cl : List vw_C} {tys : List (ClassId × FieldType)} {ad : Nat → Nat} {cI : ClassId} {ci : Nat} {Z : (Nat → Prop) → State → Prop} (hci : cl[ci]? = some (RX9, TX9, 23)) (d : Nat) : (∀ {a1 a2 : Int} {M : gSt} {k : Int → gSt → Prop}, wg_RringsBy d 0 [a1, a2] M k → MOi l yX9_ringsBy cX9_ringsBy 3 .int (rmR (d + 1) (d * 22 + 21)) D cl ((cI, .int) :: tys) (wR ad cI ci) tR Z [.ref (ad 0), iv a1, iv a2] M k) := by
  induction d with
  | zero => exact fun h => False.elim h
  | succ d ih => exact fun h => mb_RringsBy hci (rc := wg_RringsBy d) ih h
def w_RringsBy (a1 a2 : Int) (M : gSt) (k : Int → gSt → Prop) : Prop := wg_RringsBy 8 0 [a1, a2] M k
theorem m_RringsBy {l : Launch} {D : va_G} {cl : List vw_C} {tys : List (ClassId × FieldType)} {ad : Nat → Nat} {cI : ClassId} {ci : Nat} {Z : (Nat → Prop) → State → Prop} (hci : cl[ci]? = some (RX9, TX9, 23)) {a1 a2 : Int} {M : gSt} {k : Int → gSt → Prop} (h : w_RringsBy a1 a2 M k) : MOi l yX9_ringsBy cX9_ringsBy 3 .int (rmR 9 197) D cl ((cI, .int) :: tys) (wR ad cI ci) tR Z [.ref (ad 0), iv a1, iv a2] M k := (mg_RringsBy hci 8) h
def wb_RweighsBy (rc : Nat → List Int → gSt → (Int → gSt → Prop) → Prop) (a1 : Int) (a2 : Int) (M : gSt) (k : Int → gSt → Prop) : Prop :=

  (wrap a1 = 0 →
    w_Rbegins 11 M (fun M47 => w_RkindNow  M47 (fun r52c M52 => w_RringsBy r52c a2 M52 (fun r56c M56 => k (r56c * 2) M56)))) ∧
  (wrap a1 = 2 →
    w_Rbegins 30 M (fun M65 => w_Rabove 2 M65 (fun r71c M71 => rc 0 [r71c, a2] M71 (fun r75c M75 => k (0 - r75c) M75)))) ∧
  (wrap a1 = 5 →
    w_Rbegins 60 M (fun M83 => w_Rabove 5 M83 (fun r88c M88 => rc 0 [r88c, a2 + 1] M88 (fun r94c M94 => k r94c M94)))) ∧
  (wrap a1 = 6 →
    w_Rbegins 71 M (fun M101 => w_Rabove 6 M101 (fun r107c M107 => rc 0 [r107c, a2] M107 (fun r111c M111 => w_RmNow  M111 (fun r115c M115 => k (r111c + r115c) M115))))) ∧
  (¬ wrap a1 = 0 ∧ ¬ wrap a1 = 2 ∧ ¬ wrap a1 = 5 ∧ ¬ wrap a1 = 6 →
    w_Rabove a1 M (fun r122c M122 => rc 0 [r122c, a2] M122 (fun r126c M126 => k r126c M126)))
set_option maxHeartbeats 4000000 in
set_option maxRecDepth 100000 in
theorem mb_RweighsBy {l : Launch} {D : va_G} {cl : List vw_C} {tys : List (ClassId × FieldType)} {ad : Nat → Nat} {cI : ClassId} {ci : Nat} {Z : (Nat → Prop) → State → Prop} (hci : cl[ci]? = some (RX9, TX9, 23)) {rc : Nat → List Int → gSt → (Int → gSt → Prop) → Prop} {a1 : Int} {a2 : Int} {d : Nat} (hrc0 : ∀ {a1 a2 : Int} {M : gSt} {k : Int → gSt → Prop}, rc 0 [a1, a2] M k → MOi l yX9_weighsBy cX9_weighsBy 3 .int (rmR (d + 10) (d * 22 + 219)) D cl ((cI, .int) :: tys) (wR ad cI ci) tR Z [.ref (ad 0), iv a1, iv a2] M k) {M : gSt} {k : Int → gSt → Prop} (h : wb_RweighsBy rc a1 a2 M k) : MOi l yX9_weighsBy cX9_weighsBy 3 .int (rmR (d + 1 + 10) ((d + 1) * 22 + 219)) D cl ((cI, .int) :: tys) (wR ad cI ci) tR Z [.ref (ad 0), iv a1, iv a2] M k := by
  refine moi_intro (by decide +kernel) (Nat.le_of_ble_eq_true rfl) wi_278 ?_
  intro p e s m args below meth c A Q C hR
  refine g_locals (lv' := [(0, .ref (ad 0)), (1, iv a1), (2, iv a2)]) rfl ?_
  unfold wb_RweighsBy at h
  refine g_iload_n C dR_weighsBy_0 rfl ?_
  by_cases hc0 : wrap a1 = 0
  · refine g_tableIn C 44 dR_weighsBy_1 (by omega) (by omega) (by rw [hc0] <;> rfl) (by decide) ?_
    replace h := h.1 hc0
    refine g_aload_n C dR_weighsBy_44 rfl ?_
    refine g_bipush C dR_weighsBy_45 rfl ?_
    refine g_callVv C (nargs := 1) (o := 0) (st := []) (m_Rbegins hci h) rfl (by decide) hci rfl gd_begins (by decide +kernel) ⟨rfl, rfl⟩ dR_weighsBy_47 ⟨by simp only [rmR]; omega, by simp only [rmR]; omega⟩ rfl rfl (Nat.le_of_ble_eq_true rfl) ?_
    intro M47 hN
    replace h := hN
    clear hN
    refine g_aload_n C dR_weighsBy_50 rfl ?_
    refine g_aload_n C dR_weighsBy_51 rfl ?_
    refine g_callVi C (nargs := 0) (o := 0) (st := [.ref (ad 0)]) (m_RkindNow hci h) rfl (by decide) hci rfl gd_kindNow (by decide +kernel) ⟨rfl, rfl⟩ dR_weighsBy_52 ⟨by simp only [rmR]; omega, by simp only [rmR]; omega⟩ rfl rfl (Nat.le_of_ble_eq_true rfl) ?_
    intro r52c M52 hN
    replace h := hN
    clear hN
    refine g_iload_n C dR_weighsBy_55 rfl ?_
    refine g_callVi C (nargs := 2) (o := 0) (st := []) (m_RringsBy hci h) rfl (by decide) hci rfl gd_ringsBy (by decide +kernel) ⟨rfl, rfl⟩ dR_weighsBy_56 ⟨by simp only [rmR]; omega, by simp only [rmR]; omega⟩ rfl rfl (Nat.le_of_ble_eq_true rfl) ?_
    intro r56c M56 hN
    replace h := hN
    clear hN
    refine g_iconst C dR_weighsBy_59 ?_
    refine g_imul C dR_weighsBy_60 ?_
    exact hR _ _ _ _ dR_weighsBy_61 rfl h
  · by_cases hc2 : wrap a1 = 2
    · refine g_tableIn C 62 dR_weighsBy_1 (by omega) (by omega) (by rw [hc2] <;> rfl) (by decide) ?_
      replace h := h.2.1 hc2
      refine g_aload_n C dR_weighsBy_62 rfl ?_
      refine g_bipush C dR_weighsBy_63 rfl ?_
      refine g_callVv C (nargs := 1) (o := 0) (st := []) (m_Rbegins hci h) rfl (by decide) hci rfl gd_begins (by decide +kernel) ⟨rfl, rfl⟩ dR_weighsBy_65 ⟨by simp only [rmR]; omega, by simp only [rmR]; omega⟩ rfl rfl (Nat.le_of_ble_eq_true rfl) ?_
      intro M65 hN
      replace h := hN
      clear hN
      refine g_iconst C dR_weighsBy_68 ?_
      refine g_aload_n C dR_weighsBy_69 rfl ?_
      refine g_iconst C dR_weighsBy_70 ?_
      refine g_callSi C (nargs := 1) (st := [.ref (ad 0), iv 0]) (m_Rabove hci h) gd_above (by decide +kernel) ⟨rfl, rfl⟩ dR_weighsBy_71 ⟨by simp only [rmR]; omega, by simp only [rmR]; omega⟩ rfl rfl (Nat.le_of_ble_eq_true rfl) ?_
      intro r71c M71 hN
      replace h := hN
      clear hN
      refine g_iload_n C dR_weighsBy_74 rfl ?_
      refine g_callVi C (nargs := 2) (o := 0) (st := [iv 0]) (hrc0 h) rfl (by decide) hci rfl gd_weighsBy (by decide +kernel) ⟨rfl, rfl⟩ dR_weighsBy_75 ⟨by simp only [rmR]; omega, by simp only [rmR]; omega⟩ rfl rfl (Nat.le_of_ble_eq_true rfl) ?_
      intro r75c M75 hN
      replace h := hN
      clear hN
      refine g_isub C dR_weighsBy_78 ?_
      exact hR _ _ _ _ dR_weighsBy_79 rfl h
    · by_cases hc5 : wrap a1 = 5
      · refine g_tableIn C 80 dR_weighsBy_1 (by omega) (by omega) (by rw [hc5] <;> rfl) (by decide) ?_
        replace h := h.2.2.1 hc5
        refine g_aload_n C dR_weighsBy_80 rfl ?_
        refine g_bipush C dR_weighsBy_81 rfl ?_
        refine g_callVv C (nargs := 1) (o := 0) (st := []) (m_Rbegins hci h) rfl (by decide) hci rfl gd_begins (by decide +kernel) ⟨rfl, rfl⟩ dR_weighsBy_83 ⟨by simp only [rmR]; omega, by simp only [rmR]; omega⟩ rfl rfl (Nat.le_of_ble_eq_true rfl) ?_
        intro M83 hN
        replace h := hN
        clear hN
        refine g_aload_n C dR_weighsBy_86 rfl ?_
        refine g_iconst C dR_weighsBy_87 ?_
        refine g_callSi C (nargs := 1) (st := [.ref (ad 0)]) (m_Rabove hci h) gd_above (by decide +kernel) ⟨rfl, rfl⟩ dR_weighsBy_88 ⟨by simp only [rmR]; omega, by simp only [rmR]; omega⟩ rfl rfl (Nat.le_of_ble_eq_true rfl) ?_
        intro r88c M88 hN
        replace h := hN
        clear hN
        refine g_iload_n C dR_weighsBy_91 rfl ?_
        refine g_iconst C dR_weighsBy_92 ?_
        refine g_iadd C dR_weighsBy_93 ?_
        refine g_callVi C (nargs := 2) (o := 0) (st := []) (hrc0 h) rfl (by decide) hci rfl gd_weighsBy (by decide +kernel) ⟨rfl, rfl⟩ dR_weighsBy_94 ⟨by simp only [rmR]; omega, by simp only [rmR]; omega⟩ rfl rfl (Nat.le_of_ble_eq_true rfl) ?_
        intro r94c M94 hN
        replace h := hN
        clear hN
        exact hR _ _ _ _ dR_weighsBy_97 rfl h
      · by_cases hc6 : wrap a1 = 6
        · refine g_tableIn C 98 dR_weighsBy_1 (by omega) (by omega) (by rw [hc6] <;> rfl) (by decide) ?_
          replace h := h.2.2.2.1 hc6
          refine g_aload_n C dR_weighsBy_98 rfl ?_
          refine g_bipush C dR_weighsBy_99 rfl ?_
          refine g_callVv C (nargs := 1) (o := 0) (st := []) (m_Rbegins hci h) rfl (by decide) hci rfl gd_begins (by decide +kernel) ⟨rfl, rfl⟩ dR_weighsBy_101 ⟨by simp only [rmR]; omega, by simp only [rmR]; omega⟩ rfl rfl (Nat.le_of_ble_eq_true rfl) ?_
          intro M101 hN
          replace h := hN
          clear hN
          refine g_aload_n C dR_weighsBy_104 rfl ?_
          refine g_bipush C dR_weighsBy_105 rfl ?_
          refine g_callSi C (nargs := 1) (st := [.ref (ad 0)]) (m_Rabove hci h) gd_above (by decide +kernel) ⟨rfl, rfl⟩ dR_weighsBy_107 ⟨by simp only [rmR]; omega, by simp only [rmR]; omega⟩ rfl rfl (Nat.le_of_ble_eq_true rfl) ?_
          intro r107c M107 hN
          replace h := hN
          clear hN
          refine g_iload_n C dR_weighsBy_110 rfl ?_
          refine g_callVi C (nargs := 2) (o := 0) (st := []) (hrc0 h) rfl (by decide) hci rfl gd_weighsBy (by decide +kernel) ⟨rfl, rfl⟩ dR_weighsBy_111 ⟨by simp only [rmR]; omega, by simp only [rmR]; omega⟩ rfl rfl (Nat.le_of_ble_eq_true rfl) ?_
          intro r111c M111 hN
          replace h := hN
          clear hN
          refine g_aload_n C dR_weighsBy_114 rfl ?_
          refine g_callVi C (nargs := 0) (o := 0) (st := [iv r111c]) (m_RmNow hci h) rfl (by decide) hci rfl gd_mNow (by decide +kernel) ⟨rfl, rfl⟩ dR_weighsBy_115 ⟨by simp only [rmR]; omega, by simp only [rmR]; omega⟩ rfl rfl (Nat.le_of_ble_eq_true rfl) ?_
          intro r115c M115 hN
          replace h := hN
          clear hN
          refine g_iadd C dR_weighsBy_118 ?_
          exact hR _ _ _ _ dR_weighsBy_119 rfl h
        · by_cases hin : 0 ≤ wrap a1 ∧ wrap a1 ≤ 6
          · refine g_tableIn C (off := 119) 120 dR_weighsBy_1 hin.1 hin.2 ?_ (by decide) ?_
            · have hj : (wrap a1 - 0).toNat < 7 := by omega
              have hq0 : ¬ (wrap a1 - 0).toNat = 0 := by omega
              have hq2 : ¬ (wrap a1 - 0).toNat = 2 := by omega
              have hq5 : ¬ (wrap a1 - 0).toNat = 5 := by omega
              have hq6 : ¬ (wrap a1 - 0).toNat = 6 := by omega
              generalize (wrap a1 - 0).toNat = j at *
              have key : ∀ j : Nat, j < 7 → (¬ j = 0 ∧ ¬ j = 2 ∧ ¬ j = 5 ∧ ¬ j = 6) → (#[43, 119, 61, 119, 119, 79, 97] : Array Int)[j]? = some 119 := by decide
              exact key j hj ⟨hq0, hq2, hq5, hq6⟩
            · replace h := h.2.2.2.2 ⟨hc0, hc2, hc5, hc6⟩
              refine g_aload_n C dR_weighsBy_120 rfl ?_
              refine g_iload_n C dR_weighsBy_121 rfl ?_
              refine g_callSi C (nargs := 1) (st := [.ref (ad 0)]) (m_Rabove hci h) gd_above (by decide +kernel) ⟨rfl, rfl⟩ dR_weighsBy_122 ⟨by simp only [rmR]; omega, by simp only [rmR]; omega⟩ rfl rfl (Nat.le_of_ble_eq_true rfl) ?_
              intro r122c M122 hN
              replace h := hN
              clear hN
              refine g_iload_n C dR_weighsBy_125 rfl ?_
              refine g_callVi C (nargs := 2) (o := 0) (st := []) (hrc0 h) rfl (by decide) hci rfl gd_weighsBy (by decide +kernel) ⟨rfl, rfl⟩ dR_weighsBy_126 ⟨by simp only [rmR]; omega, by simp only [rmR]; omega⟩ rfl rfl (Nat.le_of_ble_eq_true rfl) ?_
              intro r126c M126 hN
              replace h := hN
              clear hN
              exact hR _ _ _ _ dR_weighsBy_129 rfl h
          · refine g_tableOut C 120 dR_weighsBy_1 (by omega) (by decide) ?_
            replace h := h.2.2.2.2 ⟨hc0, hc2, hc5, hc6⟩
            refine g_aload_n C dR_weighsBy_120 rfl ?_
            refine g_iload_n C dR_weighsBy_121 rfl ?_
            refine g_callSi C (nargs := 1) (st := [.ref (ad 0)]) (m_Rabove hci h) gd_above (by decide +kernel) ⟨rfl, rfl⟩ dR_weighsBy_122 ⟨by simp only [rmR]; omega, by simp only [rmR]; omega⟩ rfl rfl (Nat.le_of_ble_eq_true rfl) ?_
            intro r122c M122 hN
            replace h := hN
            clear hN
            refine g_iload_n C dR_weighsBy_125 rfl ?_
            refine g_callVi C (nargs := 2) (o := 0) (st := []) (hrc0 h) rfl (by decide) hci rfl gd_weighsBy (by decide +kernel) ⟨rfl, rfl⟩ dR_weighsBy_126 ⟨by simp only [rmR]; omega, by simp only [rmR]; omega⟩ rfl rfl (Nat.le_of_ble_eq_true rfl) ?_
            intro r126c M126 hN
            replace h := hN
            clear hN
            exact hR _ _ _ _ dR_weighsBy_129 rfl h
def wg_RweighsBy : Nat → Nat → List Int → gSt → (Int → gSt → Prop) → Prop
  | 0 => fun _ _ _ _ => False
  | d + 1 => fun i xs M k => match i, xs with
    | 0, [a1, a2] => wb_RweighsBy (wg_RweighsBy d) a1 a2 M k
    | _, _ => False
theorem mg_RweighsBy {l : Launch} {D : va_G} {cl : List vw_C} {tys : List (ClassId × FieldType)} {ad : Nat → Nat} {cI : ClassId} {ci : Nat} {Z : (Nat → Prop) → State → Prop} (hci : cl[ci]? = some (RX9, TX9, 23)) (d : Nat) : (∀ {a1 a2 : Int} {M : gSt} {k : Int → gSt → Prop}, wg_RweighsBy d 0 [a1, a2] M k → MOi l yX9_weighsBy cX9_weighsBy 3 .int (rmR (d + 10) (d * 22 + 219)) D cl ((cI, .int) :: tys) (wR ad cI ci) tR Z [.ref (ad 0), iv a1, iv a2] M k) := by
  induction d with
  | zero => exact fun h => False.elim h
  | succ d ih => exact fun h => mb_RweighsBy hci (rc := wg_RweighsBy d) ih h
def w_RweighsBy (a1 a2 : Int) (M : gSt) (k : Int → gSt → Prop) : Prop := wg_RweighsBy 8 0 [a1, a2] M k
theorem m_RweighsBy {l : Launch} {D : va_G} {cl : List vw_C} {tys : List (ClassId × FieldType)} {ad : Nat → Nat} {cI : ClassId} {ci : Nat} {Z : (Nat → Prop) → State → Prop} (hci : cl[ci]? = some (RX9, TX9, 23)) {a1 a2 : Int} {M : gSt} {k : Int → gSt → Prop} (h : w_RweighsBy a1 a2 M k) : MOi l yX9_weighsBy cX9_weighsBy 3 .int (rmR 18 395) D cl ((cI, .int) :: tys) (wR ad cI ci) tR Z [.ref (ad 0), iv a1, iv a2] M k := (mg_RweighsBy hci 8) h
end
section
def wb_RmeltsBy (rc : Nat → List Int → gSt → (Int → gSt → Prop) → Prop) (a1 : Int) (a2 : Int) (M : gSt) (k : Int → gSt → Prop) : Prop :=

  (wrap a1 = 0 →
    w_Rbegins 12 M (fun M39 => w_RkindNow  M39 (fun r44c M44 => w_RweighsBy r44c a2 M44 (fun r48c M48 => w_RmNow  M48 (fun r52c M52 => k (r48c - r52c) M52))))) ∧
  (wrap a1 = 3 →
    w_Rbegins 40 M (fun M60 => w_Rabove 3 M60 (fun r65c M65 => rc 0 [r65c, Int.tdiv (wrap a2) 2] M65 (fun r71c M71 => k r71c M71)))) ∧
  (wrap a1 = 4 →
    w_Rbegins 51 M (fun M78 => w_Rabove 4 M78 (fun r83c M83 => rc 0 [r83c, a2] M83 (fun r87c M87 => k (xxor r87c (M87 0 17)) M87)))) ∧
  (¬ wrap a1 = 0 ∧ ¬ wrap a1 = 3 ∧ ¬ wrap a1 = 4 →
    w_Rabove a1 M (fun r98c M98 => rc 0 [r98c, a2] M98 (fun r102c M102 => k r102c M102)))
set_option maxHeartbeats 4000000 in
set_option maxRecDepth 100000 in
theorem mb_RmeltsBy {l : Launch} {D : va_G} {cl : List vw_C} {tys : List (ClassId × FieldType)} {ad : Nat → Nat} {cI : ClassId} {ci : Nat} {Z : (Nat → Prop) → State → Prop} (hci : cl[ci]? = some (RX9, TX9, 23)) {rc : Nat → List Int → gSt → (Int → gSt → Prop) → Prop} {a1 : Int} {a2 : Int} {d : Nat} (hrc0 : ∀ {a1 a2 : Int} {M : gSt} {k : Int → gSt → Prop}, rc 0 [a1, a2] M k → MOi l yX9_meltsBy cX9_meltsBy 3 .int (rmR (d + 19) (d * 22 + 417)) D cl ((cI, .int) :: tys) (wR ad cI ci) tR Z [.ref (ad 0), iv a1, iv a2] M k) {M : gSt} {k : Int → gSt → Prop} (h : wb_RmeltsBy rc a1 a2 M k) : MOi l yX9_meltsBy cX9_meltsBy 3 .int (rmR (d + 1 + 19) ((d + 1) * 22 + 417)) D cl ((cI, .int) :: tys) (wR ad cI ci) tR Z [.ref (ad 0), iv a1, iv a2] M k := by
  refine moi_intro (by decide +kernel) (Nat.le_of_ble_eq_true rfl) wi_282 ?_
  intro p e s m args below meth c A Q C hR
  refine g_locals (lv' := [(0, .ref (ad 0)), (1, iv a1), (2, iv a2)]) rfl ?_
  unfold wb_RmeltsBy at h
  refine g_iload_n C dR_meltsBy_0 rfl ?_
  by_cases hc0 : wrap a1 = 0
  · refine g_tableIn C 36 dR_meltsBy_1 (by omega) (by omega) (by rw [hc0] <;> rfl) (by decide) ?_
    replace h := h.1 hc0
    refine g_aload_n C dR_meltsBy_36 rfl ?_
    refine g_bipush C dR_meltsBy_37 rfl ?_
    refine g_callVv C (nargs := 1) (o := 0) (st := []) (m_Rbegins hci h) rfl (by decide) hci rfl gd_begins (by decide +kernel) ⟨rfl, rfl⟩ dR_meltsBy_39 ⟨by simp only [rmR]; omega, by simp only [rmR]; omega⟩ rfl rfl (Nat.le_of_ble_eq_true rfl) ?_
    intro M39 hN
    replace h := hN
    clear hN
    refine g_aload_n C dR_meltsBy_42 rfl ?_
    refine g_aload_n C dR_meltsBy_43 rfl ?_
    refine g_callVi C (nargs := 0) (o := 0) (st := [.ref (ad 0)]) (m_RkindNow hci h) rfl (by decide) hci rfl gd_kindNow (by decide +kernel) ⟨rfl, rfl⟩ dR_meltsBy_44 ⟨by simp only [rmR]; omega, by simp only [rmR]; omega⟩ rfl rfl (Nat.le_of_ble_eq_true rfl) ?_
    intro r44c M44 hN
    replace h := hN
    clear hN
    refine g_iload_n C dR_meltsBy_47 rfl ?_
    refine g_callVi C (nargs := 2) (o := 0) (st := []) (m_RweighsBy hci h) rfl (by decide) hci rfl gd_weighsBy (by decide +kernel) ⟨rfl, rfl⟩ dR_meltsBy_48 ⟨by simp only [rmR]; omega, by simp only [rmR]; omega⟩ rfl rfl (Nat.le_of_ble_eq_true rfl) ?_
    intro r48c M48 hN
    replace h := hN
    clear hN
    refine g_aload_n C dR_meltsBy_51 rfl ?_
    refine g_callVi C (nargs := 0) (o := 0) (st := [iv r48c]) (m_RmNow hci h) rfl (by decide) hci rfl gd_mNow (by decide +kernel) ⟨rfl, rfl⟩ dR_meltsBy_52 ⟨by simp only [rmR]; omega, by simp only [rmR]; omega⟩ rfl rfl (Nat.le_of_ble_eq_true rfl) ?_
    intro r52c M52 hN
    replace h := hN
    clear hN
    refine g_isub C dR_meltsBy_55 ?_
    exact hR _ _ _ _ dR_meltsBy_56 rfl h
  · by_cases hc3 : wrap a1 = 3
    · refine g_tableIn C 57 dR_meltsBy_1 (by omega) (by omega) (by rw [hc3] <;> rfl) (by decide) ?_
      replace h := h.2.1 hc3
      refine g_aload_n C dR_meltsBy_57 rfl ?_
      refine g_bipush C dR_meltsBy_58 rfl ?_
      refine g_callVv C (nargs := 1) (o := 0) (st := []) (m_Rbegins hci h) rfl (by decide) hci rfl gd_begins (by decide +kernel) ⟨rfl, rfl⟩ dR_meltsBy_60 ⟨by simp only [rmR]; omega, by simp only [rmR]; omega⟩ rfl rfl (Nat.le_of_ble_eq_true rfl) ?_
      intro M60 hN
      replace h := hN
      clear hN
      refine g_aload_n C dR_meltsBy_63 rfl ?_
      refine g_iconst C dR_meltsBy_64 ?_
      refine g_callSi C (nargs := 1) (st := [.ref (ad 0)]) (m_Rabove hci h) gd_above (by decide +kernel) ⟨rfl, rfl⟩ dR_meltsBy_65 ⟨by simp only [rmR]; omega, by simp only [rmR]; omega⟩ rfl rfl (Nat.le_of_ble_eq_true rfl) ?_
      intro r65c M65 hN
      replace h := hN
      clear hN
      refine g_iload_n C dR_meltsBy_68 rfl ?_
      refine g_iconst C dR_meltsBy_69 ?_
      refine g_idiv C dR_meltsBy_70 (by decide) ?_
      refine g_top (y := Int.tdiv (wrap a2) 2) rfl ?_
      refine g_callVi C (nargs := 2) (o := 0) (st := []) (hrc0 h) rfl (by decide) hci rfl gd_meltsBy (by decide +kernel) ⟨rfl, rfl⟩ dR_meltsBy_71 ⟨by simp only [rmR]; omega, by simp only [rmR]; omega⟩ rfl rfl (Nat.le_of_ble_eq_true rfl) ?_
      intro r71c M71 hN
      replace h := hN
      clear hN
      exact hR _ _ _ _ dR_meltsBy_74 rfl h
    · by_cases hc4 : wrap a1 = 4
      · refine g_tableIn C 75 dR_meltsBy_1 (by omega) (by omega) (by rw [hc4] <;> rfl) (by decide) ?_
        replace h := h.2.2.1 hc4
        refine g_aload_n C dR_meltsBy_75 rfl ?_
        refine g_bipush C dR_meltsBy_76 rfl ?_
        refine g_callVv C (nargs := 1) (o := 0) (st := []) (m_Rbegins hci h) rfl (by decide) hci rfl gd_begins (by decide +kernel) ⟨rfl, rfl⟩ dR_meltsBy_78 ⟨by simp only [rmR]; omega, by simp only [rmR]; omega⟩ rfl rfl (Nat.le_of_ble_eq_true rfl) ?_
        intro M78 hN
        replace h := hN
        clear hN
        refine g_aload_n C dR_meltsBy_81 rfl ?_
        refine g_iconst C dR_meltsBy_82 ?_
        refine g_callSi C (nargs := 1) (st := [.ref (ad 0)]) (m_Rabove hci h) gd_above (by decide +kernel) ⟨rfl, rfl⟩ dR_meltsBy_83 ⟨by simp only [rmR]; omega, by simp only [rmR]; omega⟩ rfl rfl (Nat.le_of_ble_eq_true rfl) ?_
        intro r83c M83 hN
        replace h := hN
        clear hN
        refine g_iload_n C dR_meltsBy_86 rfl ?_
        refine g_callVi C (nargs := 2) (o := 0) (st := []) (hrc0 h) rfl (by decide) hci rfl gd_meltsBy (by decide +kernel) ⟨rfl, rfl⟩ dR_meltsBy_87 ⟨by simp only [rmR]; omega, by simp only [rmR]; omega⟩ rfl rfl (Nat.le_of_ble_eq_true rfl) ?_
        intro r87c M87 hN
        replace h := hN
        clear hN
        refine g_aload_n C dR_meltsBy_90 rfl ?_
        refine rf_speaks C hci dR_meltsBy_91 ?_
        refine g_ixor C dR_meltsBy_94 ?_
        exact hR _ _ _ _ dR_meltsBy_95 rfl h
      · by_cases hin : 0 ≤ wrap a1 ∧ wrap a1 ≤ 4
        · refine g_tableIn C (off := 95) 96 dR_meltsBy_1 hin.1 hin.2 ?_ (by decide) ?_
          · have hj : (wrap a1 - 0).toNat < 5 := by omega
            have hq0 : ¬ (wrap a1 - 0).toNat = 0 := by omega
            have hq3 : ¬ (wrap a1 - 0).toNat = 3 := by omega
            have hq4 : ¬ (wrap a1 - 0).toNat = 4 := by omega
            generalize (wrap a1 - 0).toNat = j at *
            have key : ∀ j : Nat, j < 5 → (¬ j = 0 ∧ ¬ j = 3 ∧ ¬ j = 4) → (#[35, 95, 95, 56, 74] : Array Int)[j]? = some 95 := by decide
            exact key j hj ⟨hq0, hq3, hq4⟩
          · replace h := h.2.2.2 ⟨hc0, hc3, hc4⟩
            refine g_aload_n C dR_meltsBy_96 rfl ?_
            refine g_iload_n C dR_meltsBy_97 rfl ?_
            refine g_callSi C (nargs := 1) (st := [.ref (ad 0)]) (m_Rabove hci h) gd_above (by decide +kernel) ⟨rfl, rfl⟩ dR_meltsBy_98 ⟨by simp only [rmR]; omega, by simp only [rmR]; omega⟩ rfl rfl (Nat.le_of_ble_eq_true rfl) ?_
            intro r98c M98 hN
            replace h := hN
            clear hN
            refine g_iload_n C dR_meltsBy_101 rfl ?_
            refine g_callVi C (nargs := 2) (o := 0) (st := []) (hrc0 h) rfl (by decide) hci rfl gd_meltsBy (by decide +kernel) ⟨rfl, rfl⟩ dR_meltsBy_102 ⟨by simp only [rmR]; omega, by simp only [rmR]; omega⟩ rfl rfl (Nat.le_of_ble_eq_true rfl) ?_
            intro r102c M102 hN
            replace h := hN
            clear hN
            exact hR _ _ _ _ dR_meltsBy_105 rfl h
        · refine g_tableOut C 96 dR_meltsBy_1 (by omega) (by decide) ?_
          replace h := h.2.2.2 ⟨hc0, hc3, hc4⟩
          refine g_aload_n C dR_meltsBy_96 rfl ?_
          refine g_iload_n C dR_meltsBy_97 rfl ?_
          refine g_callSi C (nargs := 1) (st := [.ref (ad 0)]) (m_Rabove hci h) gd_above (by decide +kernel) ⟨rfl, rfl⟩ dR_meltsBy_98 ⟨by simp only [rmR]; omega, by simp only [rmR]; omega⟩ rfl rfl (Nat.le_of_ble_eq_true rfl) ?_
          intro r98c M98 hN
          replace h := hN
          clear hN
          refine g_iload_n C dR_meltsBy_101 rfl ?_
          refine g_callVi C (nargs := 2) (o := 0) (st := []) (hrc0 h) rfl (by decide) hci rfl gd_meltsBy (by decide +kernel) ⟨rfl, rfl⟩ dR_meltsBy_102 ⟨by simp only [rmR]; omega, by simp only [rmR]; omega⟩ rfl rfl (Nat.le_of_ble_eq_true rfl) ?_
          intro r102c M102 hN
          replace h := hN
          clear hN
          exact hR _ _ _ _ dR_meltsBy_105 rfl h
def wg_RmeltsBy : Nat → Nat → List Int → gSt → (Int → gSt → Prop) → Prop
  | 0 => fun _ _ _ _ => False
  | d + 1 => fun i xs M k => match i, xs with
    | 0, [a1, a2] => wb_RmeltsBy (wg_RmeltsBy d) a1 a2 M k
    | _, _ => False
theorem mg_RmeltsBy {l : Launch} {D : va_G} {cl : List vw_C} {tys : List (ClassId × FieldType)} {ad : Nat → Nat} {cI : ClassId} {ci : Nat} {Z : (Nat → Prop) → State → Prop} (hci : cl[ci]? = some (RX9, TX9, 23)) (d : Nat) : (∀ {a1 a2 : Int} {M : gSt} {k : Int → gSt → Prop}, wg_RmeltsBy d 0 [a1, a2] M k → MOi l yX9_meltsBy cX9_meltsBy 3 .int (rmR (d + 19) (d * 22 + 417)) D cl ((cI, .int) :: tys) (wR ad cI ci) tR Z [.ref (ad 0), iv a1, iv a2] M k) := by
  induction d with
  | zero => exact fun h => False.elim h
  | succ d ih => exact fun h => mb_RmeltsBy hci (rc := wg_RmeltsBy d) ih h
def w_RmeltsBy (a1 a2 : Int) (M : gSt) (k : Int → gSt → Prop) : Prop := wg_RmeltsBy 8 0 [a1, a2] M k
theorem m_RmeltsBy {l : Launch} {D : va_G} {cl : List vw_C} {tys : List (ClassId × FieldType)} {ad : Nat → Nat} {cI : ClassId} {ci : Nat} {Z : (Nat → Prop) → State → Prop} (hci : cl[ci]? = some (RX9, TX9, 23)) {a1 a2 : Int} {M : gSt} {k : Int → gSt → Prop} (h : w_RmeltsBy a1 a2 M k) : MOi l yX9_meltsBy cX9_meltsBy 3 .int (rmR 27 593) D cl ((cI, .int) :: tys) (wR ad cI ci) tR Z [.ref (ad 0), iv a1, iv a2] M k := (mg_RmeltsBy hci 8) h
def wB_RpartsBy_54 (rc : Nat → List Int → gSt → (Int → gSt → Prop) → Prop) (a1 : Int) (a2 : Int) (k : Int → gSt → Prop)  (v3 : Int) (s0 : Int) (M : gSt) : Prop :=
(s0 = 0 ∨ s0 = 1) ∧ (∀ M54 : gSt, M54 = wr M 0 18 s0 → (
  (¬ wrap v3 = 0 →

    (¬ wrap v3 = (-1) →
      (wrap v3 ≠ 0) ∧ (k (Int.tdiv (wrap a2) (wrap v3)) M54)) ∧
    (wrap v3 = (-1) →
      k (-a2) M54)) ∧
  (wrap v3 = 0 →
    k 0 M54)))
def wb_RpartsBy (rc : Nat → List Int → gSt → (Int → gSt → Prop) → Prop) (a1 : Int) (a2 : Int) (M : gSt) (k : Int → gSt → Prop) : Prop :=

  (wrap a1 = 0 →
    w_Rbegins 13 M (fun M31 => w_RmNow  M31 (fun r35c M35 => ∀ x3_43 : Int, x3_43 = r35c - (M35 0 17) → (
    (¬ wrap x3_43 = 0 →
      wB_RpartsBy_54 rc a1 a2 k  x3_43 0 M35) ∧
    (wrap x3_43 = 0 →
      wB_RpartsBy_54 rc a1 a2 k  x3_43 1 M35))))) ∧
  (wrap a1 = 1 →
    w_Rbegins 21 M (fun M82 => w_Rabove 1 M82 (fun r87c M87 => rc 0 [r87c, a2] M87 (fun r91c M91 => 
    (wrap (M91 0 18) = 0 →
      w_RkindNow  M91 (fun r111c M111 => w_RweighsBy r111c 1 M111 (fun r115c M115 => k (r91c + r115c) M115))) ∧
    (¬ wrap (M91 0 18) = 0 →
      k 0 M91))))) ∧
  (¬ wrap a1 = 0 ∧ ¬ wrap a1 = 1 →
    w_Rabove a1 M (fun r122c M122 => rc 0 [r122c, a2] M122 (fun r126c M126 => k r126c M126)))
set_option maxHeartbeats 4000000 in
set_option maxRecDepth 100000 in
theorem mb_RpartsBy {l : Launch} {D : va_G} {cl : List vw_C} {tys : List (ClassId × FieldType)} {ad : Nat → Nat} {cI : ClassId} {ci : Nat} {Z : (Nat → Prop) → State → Prop} (hci : cl[ci]? = some (RX9, TX9, 23)) {rc : Nat → List Int → gSt → (Int → gSt → Prop) → Prop} {a1 : Int} {a2 : Int} {d : Nat} (hrc0 : ∀ {a1 a2 : Int} {M : gSt} {k : Int → gSt → Prop}, rc 0 [a1, a2] M k → MOi l yX9_partsBy cX9_partsBy 5 .int (rmR (d + 19) (d * 24 + 417)) D cl ((cI, .int) :: tys) (wR ad cI ci) tR Z [.ref (ad 0), iv a1, iv a2] M k) {M : gSt} {k : Int → gSt → Prop} (h : wb_RpartsBy rc a1 a2 M k) : MOi l yX9_partsBy cX9_partsBy 5 .int (rmR (d + 1 + 19) ((d + 1) * 24 + 417)) D cl ((cI, .int) :: tys) (wR ad cI ci) tR Z [.ref (ad 0), iv a1, iv a2] M k := by
  refine moi_intro (by decide +kernel) (Nat.le_of_ble_eq_true rfl) wi_287 ?_
  intro p e s m args below meth c A Q C hR
  have pB54 : ∀   (v3 : Int) (s0 : Int) (M : gSt), wB_RpartsBy_54 rc a1 a2 k  v3 s0 M → gG p l e (rmR (d + 1 + 19) ((d + 1) * 24 + 417)) s m args below meth c Q D cl A (wR ad cI ci) 5 54 [(2, iv a2), (3, iv v3)] [iv s0, .ref (ad 0)] M := by
    intro   v3 s0 M h
    unfold wB_RpartsBy_54 at h
    refine rp_isParted C hci dR_partsBy_54 (zn_bool h.1) ?_
    replace h := h.2
    refine g_memname (fun M54 hM54 => ?_)
    replace h := h M54 hM54
    refine g_iload_n C dR_partsBy_57 rfl ?_
    refine g_if_ne C 65 dR_partsBy_58 (by decide) (fun hc => ?_) (fun hc => ?_)
    · replace h := h.1 hc
      refine g_iload_n C dR_partsBy_65 rfl ?_
      refine g_iconst C dR_partsBy_66 ?_
      refine g_icmp_ne C 75 dR_partsBy_67 (by decide) (fun hc => ?_) (fun hc => ?_)
      · replace h := h.1 hc
        refine g_iload_n C dR_partsBy_75 rfl ?_
        refine g_iload_n C dR_partsBy_76 rfl ?_
        refine g_idiv C dR_partsBy_77 h.1 ?_
        replace h := h.2
        refine g_top (y := Int.tdiv (wrap a2) (wrap v3)) rfl ?_
        exact hR _ _ _ _ dR_partsBy_78 rfl h
      · replace h := h.2 hc
        refine g_iload_n C dR_partsBy_70 rfl ?_
        refine g_ineg C dR_partsBy_71 ?_
        refine g_goto C 78 dR_partsBy_72 (by decide) ?_
        exact hR _ _ _ _ dR_partsBy_78 rfl h
    · replace h := h.2 hc
      refine g_iconst C dR_partsBy_61 ?_
      refine g_goto C 78 dR_partsBy_62 (by decide) ?_
      exact hR _ _ _ _ dR_partsBy_78 rfl h
  refine g_locals (lv' := [(0, .ref (ad 0)), (1, iv a1), (2, iv a2)]) rfl ?_
  unfold wb_RpartsBy at h
  refine g_iload_n C dR_partsBy_0 rfl ?_
  by_cases hc0 : wrap a1 = 0
  · refine g_lookup C 28 dR_partsBy_1 (by decide) (by rw [hc0] <;> rfl) (by decide) ?_
    replace h := h.1 hc0
    refine g_aload_n C dR_partsBy_28 rfl ?_
    refine g_bipush C dR_partsBy_29 rfl ?_
    refine g_callVv C (nargs := 1) (o := 0) (st := []) (m_Rbegins hci h) rfl (by decide) hci rfl gd_begins (by decide +kernel) ⟨rfl, rfl⟩ dR_partsBy_31 ⟨by simp only [rmR]; omega, by simp only [rmR]; omega⟩ rfl rfl (Nat.le_of_ble_eq_true rfl) ?_
    intro M31 hN
    replace h := hN
    clear hN
    refine g_aload_n C dR_partsBy_34 rfl ?_
    refine g_callVi C (nargs := 0) (o := 0) (st := []) (m_RmNow hci h) rfl (by decide) hci rfl gd_mNow (by decide +kernel) ⟨rfl, rfl⟩ dR_partsBy_35 ⟨by simp only [rmR]; omega, by simp only [rmR]; omega⟩ rfl rfl (Nat.le_of_ble_eq_true rfl) ?_
    intro r35c M35 hN
    replace h := hN
    clear hN
    refine g_aload_n C dR_partsBy_38 rfl ?_
    refine rf_speaks C hci dR_partsBy_39 ?_
    refine g_isub C dR_partsBy_42 ?_
    refine g_name (fun x3_43 hx3_43 => ?_)
    replace h := h x3_43 hx3_43
    refine g_istore_n C dR_partsBy_43 (by decide) rfl ?_
    refine g_locals (lv' := [(0, .ref (ad 0)), (1, iv a1), (2, iv a2), (3, iv x3_43)]) rfl ?_
    refine g_aload_n C dR_partsBy_44 rfl ?_
    refine g_iload_n C dR_partsBy_45 rfl ?_
    refine g_if_ne C 53 dR_partsBy_46 (by decide) (fun hc => ?_) (fun hc => ?_)
    · replace h := h.1 hc
      refine g_iconst C dR_partsBy_53 ?_
      refine g_locals (lv' := [(2, iv a2), (3, iv x3_43)]) rfl ?_
      exact pB54 _ _ _ h
    · replace h := h.2 hc
      refine g_iconst C dR_partsBy_49 ?_
      refine g_goto C 54 dR_partsBy_50 (by decide) ?_
      refine g_locals (lv' := [(2, iv a2), (3, iv x3_43)]) rfl ?_
      exact pB54 _ _ _ h
  · by_cases hc1 : wrap a1 = 1
    · refine g_lookup C 79 dR_partsBy_1 (by decide) (by rw [hc1] <;> rfl) (by decide) ?_
      replace h := h.2.1 hc1
      refine g_aload_n C dR_partsBy_79 rfl ?_
      refine g_bipush C dR_partsBy_80 rfl ?_
      refine g_callVv C (nargs := 1) (o := 0) (st := []) (m_Rbegins hci h) rfl (by decide) hci rfl gd_begins (by decide +kernel) ⟨rfl, rfl⟩ dR_partsBy_82 ⟨by simp only [rmR]; omega, by simp only [rmR]; omega⟩ rfl rfl (Nat.le_of_ble_eq_true rfl) ?_
      intro M82 hN
      replace h := hN
      clear hN
      refine g_aload_n C dR_partsBy_85 rfl ?_
      refine g_iconst C dR_partsBy_86 ?_
      refine g_callSi C (nargs := 1) (st := [.ref (ad 0)]) (m_Rabove hci h) gd_above (by decide +kernel) ⟨rfl, rfl⟩ dR_partsBy_87 ⟨by simp only [rmR]; omega, by simp only [rmR]; omega⟩ rfl rfl (Nat.le_of_ble_eq_true rfl) ?_
      intro r87c M87 hN
      replace h := hN
      clear hN
      refine g_iload_n C dR_partsBy_90 rfl ?_
      refine g_callVi C (nargs := 2) (o := 0) (st := []) (hrc0 h) rfl (by decide) hci rfl gd_partsBy (by decide +kernel) ⟨rfl, rfl⟩ dR_partsBy_91 ⟨by simp only [rmR]; omega, by simp only [rmR]; omega⟩ rfl rfl (Nat.le_of_ble_eq_true rfl) ?_
      intro r91c M91 hN
      replace h := hN
      clear hN
      refine g_istore C dR_partsBy_94 (by decide) rfl ?_
      refine g_locals (lv' := [(0, .ref (ad 0)), (1, iv a1), (2, iv a2), (4, iv r91c)]) rfl ?_
      refine g_aload_n C dR_partsBy_96 rfl ?_
      refine rf_isParted C hci dR_partsBy_97 ?_
      refine g_if_eq C 107 dR_partsBy_100 (by decide) (fun hc => ?_) (fun hc => ?_)
      · replace h := h.1 hc
        refine g_iload C dR_partsBy_107 rfl ?_
        refine g_aload_n C dR_partsBy_109 rfl ?_
        refine g_aload_n C dR_partsBy_110 rfl ?_
        refine g_callVi C (nargs := 0) (o := 0) (st := [.ref (ad 0), iv r91c]) (m_RkindNow hci h) rfl (by decide) hci rfl gd_kindNow (by decide +kernel) ⟨rfl, rfl⟩ dR_partsBy_111 ⟨by simp only [rmR]; omega, by simp only [rmR]; omega⟩ rfl rfl (Nat.le_of_ble_eq_true rfl) ?_
        intro r111c M111 hN
        replace h := hN
        clear hN
        refine g_iconst C dR_partsBy_114 ?_
        refine g_callVi C (nargs := 2) (o := 0) (st := [iv r91c]) (m_RweighsBy hci h) rfl (by decide) hci rfl gd_weighsBy (by decide +kernel) ⟨rfl, rfl⟩ dR_partsBy_115 ⟨by simp only [rmR]; omega, by simp only [rmR]; omega⟩ rfl rfl (Nat.le_of_ble_eq_true rfl) ?_
        intro r115c M115 hN
        replace h := hN
        clear hN
        refine g_iadd C dR_partsBy_118 ?_
        exact hR _ _ _ _ dR_partsBy_119 rfl h
      · replace h := h.2 hc
        refine g_iconst C dR_partsBy_103 ?_
        refine g_goto C 119 dR_partsBy_104 (by decide) ?_
        exact hR _ _ _ _ dR_partsBy_119 rfl h
    · refine g_lookup C (off := 119) 120 dR_partsBy_1 (by decide) (by simp [Op.lookupswitch.offset, Ne.symm hc0, Ne.symm hc1]) (by decide) ?_
      replace h := h.2.2 ⟨hc0, hc1⟩
      refine g_aload_n C dR_partsBy_120 rfl ?_
      refine g_iload_n C dR_partsBy_121 rfl ?_
      refine g_callSi C (nargs := 1) (st := [.ref (ad 0)]) (m_Rabove hci h) gd_above (by decide +kernel) ⟨rfl, rfl⟩ dR_partsBy_122 ⟨by simp only [rmR]; omega, by simp only [rmR]; omega⟩ rfl rfl (Nat.le_of_ble_eq_true rfl) ?_
      intro r122c M122 hN
      replace h := hN
      clear hN
      refine g_iload_n C dR_partsBy_125 rfl ?_
      refine g_callVi C (nargs := 2) (o := 0) (st := []) (hrc0 h) rfl (by decide) hci rfl gd_partsBy (by decide +kernel) ⟨rfl, rfl⟩ dR_partsBy_126 ⟨by simp only [rmR]; omega, by simp only [rmR]; omega⟩ rfl rfl (Nat.le_of_ble_eq_true rfl) ?_
      intro r126c M126 hN
      replace h := hN
      clear hN
      exact hR _ _ _ _ dR_partsBy_129 rfl h
def wg_RpartsBy : Nat → Nat → List Int → gSt → (Int → gSt → Prop) → Prop
  | 0 => fun _ _ _ _ => False
  | d + 1 => fun i xs M k => match i, xs with
    | 0, [a1, a2] => wb_RpartsBy (wg_RpartsBy d) a1 a2 M k
    | _, _ => False
theorem mg_RpartsBy {l : Launch} {D : va_G} {cl : List vw_C} {tys : List (ClassId × FieldType)} {ad : Nat → Nat} {cI : ClassId} {ci : Nat} {Z : (Nat → Prop) → State → Prop} (hci : cl[ci]? = some (RX9, TX9, 23)) (d : Nat) : (∀ {a1 a2 : Int} {M : gSt} {k : Int → gSt → Prop}, wg_RpartsBy d 0 [a1, a2] M k → MOi l yX9_partsBy cX9_partsBy 5 .int (rmR (d + 19) (d * 24 + 417)) D cl ((cI, .int) :: tys) (wR ad cI ci) tR Z [.ref (ad 0), iv a1, iv a2] M k) := by
  induction d with
  | zero => exact fun h => False.elim h
  | succ d ih => exact fun h => mb_RpartsBy hci (rc := wg_RpartsBy d) ih h
def w_RpartsBy (a1 a2 : Int) (M : gSt) (k : Int → gSt → Prop) : Prop := wg_RpartsBy 8 0 [a1, a2] M k
theorem m_RpartsBy {l : Launch} {D : va_G} {cl : List vw_C} {tys : List (ClassId × FieldType)} {ad : Nat → Nat} {cI : ClassId} {ci : Nat} {Z : (Nat → Prop) → State → Prop} (hci : cl[ci]? = some (RX9, TX9, 23)) {a1 a2 : Int} {M : gSt} {k : Int → gSt → Prop} (h : w_RpartsBy a1 a2 M k) : MOi l yX9_partsBy cX9_partsBy 5 .int (rmR 27 609) D cl ((cI, .int) :: tys) (wR ad cI ci) tR Z [.ref (ad 0), iv a1, iv a2] M k := (mg_RpartsBy hci 8) h
def wB_Rvoice_17 (a1 : Int) (a2 : Int) (a3 : Int) (k : Int → gSt → Prop)   (M : gSt) : Prop :=
w_Rerror 1 M (fun r19c M19 => k r19c M19)
def wB_Rvoice_95 (a1 : Int) (a2 : Int) (a3 : Int) (k : Int → gSt → Prop)  (s0 : Int) (M : gSt) : Prop :=

  (wrap (M 0 18) = 0 →
    k s0 M) ∧
  (¬ wrap (M 0 18) = 0 →
    w_Rerror 6 M (fun r107c M107 => k r107c M107))
def w_Rvoice (a1 : Int) (a2 : Int) (a3 : Int) (M : gSt) (k : Int → gSt → Prop) : Prop :=
w_RisThing a1 M (fun r2c M2 => 
  (wrap r2c = 0 →
    wB_Rvoice_17 a1 a2 a3 k   M2) ∧
  (¬ wrap r2c = 0 →
    w_Rin a2 0 3 M2 (fun r11c M11 => 
    (¬ wrap r11c = 0 →
      ∀ M25 : gSt, M25 = wr M11 0 16 0 → (∀ M30 : gSt, M30 = wr M25 0 17 a1 → (∀ M35 : gSt, M35 = wr M30 0 18 0 → (w_RkindNow  M35 (fun r39c M39 => 
      (¬ wrap a2 = 0 →

        (¬ wrap a2 = 1 →

          (¬ wrap a2 = 2 →
            w_RpartsBy r39c a3 M39 (fun r92c M92 => wB_Rvoice_95 a1 a2 a3 k  r92c M92)) ∧
          (wrap a2 = 2 →
            w_RmeltsBy r39c a3 M39 (fun r82c M82 => wB_Rvoice_95 a1 a2 a3 k  r82c M82))) ∧
        (wrap a2 = 1 →
          w_RweighsBy r39c a3 M39 (fun r67c M67 => wB_Rvoice_95 a1 a2 a3 k  r67c M67))) ∧
      (wrap a2 = 0 →
        w_RringsBy r39c a3 M39 (fun r52c M52 => wB_Rvoice_95 a1 a2 a3 k  r52c M52))))))) ∧
    (wrap r11c = 0 →
      wB_Rvoice_17 a1 a2 a3 k   M11))))
set_option maxHeartbeats 4000000 in
set_option maxRecDepth 100000 in
theorem m_Rvoice {l : Launch} {D : va_G} {cl : List vw_C} {tys : List (ClassId × FieldType)} {ad : Nat → Nat} {cI : ClassId} {ci : Nat} {Z : (Nat → Prop) → State → Prop} (hci : cl[ci]? = some (RX9, TX9, 23)) {a1 : Int} {a2 : Int} {a3 : Int} {M : gSt} {k : Int → gSt → Prop} (h : w_Rvoice a1 a2 a3 M k) : MOi l yX9_voice cX9_voice 6 .int (rmR 28 633) D cl ((cI, .int) :: tys) (wR ad cI ci) tR Z [.ref (ad 0), iv a1, iv a2, iv a3] M k := by
  refine moi_intro (by decide +kernel) (Nat.le_of_ble_eq_true rfl) wi_288 ?_
  intro p e s m args below meth c A Q C hR
  have pB17 : ∀    (M : gSt), wB_Rvoice_17 a1 a2 a3 k   M → gG p l e (rmR 28 633) s m args below meth c Q D cl A (wR ad cI ci) 6 17 [(0, .ref (ad 0))] [] M := by
    intro    M h
    unfold wB_Rvoice_17 at h
    refine g_aload_n C dR_voice_17 rfl ?_
    refine g_iconst C dR_voice_18 ?_
    refine g_callVi C (nargs := 1) (o := 0) (st := []) (m_Rerror hci h) rfl (by decide) hci rfl gd_error (by decide +kernel) ⟨rfl, rfl⟩ dR_voice_19 ⟨by decide, by decide⟩ rfl rfl (Nat.le_of_ble_eq_true rfl) ?_
    intro r19c M19 hN
    replace h := hN
    clear hN
    exact hR _ _ _ _ dR_voice_22 rfl h
  have pB95 : ∀   (s0 : Int) (M : gSt), wB_Rvoice_95 a1 a2 a3 k  s0 M → gG p l e (rmR 28 633) s m args below meth c Q D cl A (wR ad cI ci) 6 95 [(0, .ref (ad 0))] [iv s0] M := by
    intro   s0 M h
    unfold wB_Rvoice_95 at h
    refine g_istore C dR_voice_95 (by decide) rfl ?_
    refine g_locals (lv' := [(0, .ref (ad 0)), (5, iv s0)]) rfl ?_
    refine g_aload_n C dR_voice_97 rfl ?_
    refine rf_isParted C hci dR_voice_98 ?_
    refine g_if_eq C 113 dR_voice_101 (by decide) (fun hc => ?_) (fun hc => ?_)
    · replace h := h.1 hc
      refine g_iload C dR_voice_113 rfl ?_
      exact hR _ _ _ _ dR_voice_115 rfl h
    · replace h := h.2 hc
      refine g_aload_n C dR_voice_104 rfl ?_
      refine g_bipush C dR_voice_105 rfl ?_
      refine g_callVi C (nargs := 1) (o := 0) (st := []) (m_Rerror hci h) rfl (by decide) hci rfl gd_error (by decide +kernel) ⟨rfl, rfl⟩ dR_voice_107 ⟨by decide, by decide⟩ rfl rfl (Nat.le_of_ble_eq_true rfl) ?_
      intro r107c M107 hN
      replace h := hN
      clear hN
      refine g_goto C 115 dR_voice_110 (by decide) ?_
      exact hR _ _ _ _ dR_voice_115 rfl h
  refine g_locals (lv' := [(0, .ref (ad 0)), (1, iv a1), (2, iv a2), (3, iv a3)]) rfl ?_
  unfold w_Rvoice at h
  refine g_aload_n C dR_voice_0 rfl ?_
  refine g_iload_n C dR_voice_1 rfl ?_
  refine g_callVi C (nargs := 1) (o := 0) (st := []) (m_RisThing hci h) rfl (by decide) hci rfl gd_isThing (by decide +kernel) ⟨rfl, rfl⟩ dR_voice_2 ⟨by decide, by decide⟩ rfl rfl (Nat.le_of_ble_eq_true rfl) ?_
  intro r2c M2 hN
  replace h := hN
  clear hN
  refine g_if_eq C 17 dR_voice_5 (by decide) (fun hc => ?_) (fun hc => ?_)
  · replace h := h.1 hc
    refine g_locals (lv' := [(0, .ref (ad 0))]) rfl ?_
    exact pB17  _ h
  · replace h := h.2 hc
    refine g_iload_n C dR_voice_8 rfl ?_
    refine g_iconst C dR_voice_9 ?_
    refine g_iconst C dR_voice_10 ?_
    refine g_callSi C (nargs := 3) (st := []) (m_Rin hci h) gd_in (by decide +kernel) ⟨rfl, rfl⟩ dR_voice_11 ⟨by decide, by decide⟩ rfl rfl (Nat.le_of_ble_eq_true rfl) ?_
    intro r11c M11 hN
    replace h := hN
    clear hN
    refine g_if_ne C 23 dR_voice_14 (by decide) (fun hc => ?_) (fun hc => ?_)
    · replace h := h.1 hc
      refine g_aload_n C dR_voice_23 rfl ?_
      refine g_iconst C dR_voice_24 ?_
      refine rp_traced C hci dR_voice_25 ?_
      refine g_memname (fun M25 hM25 => ?_)
      replace h := h M25 hM25
      refine g_aload_n C dR_voice_28 rfl ?_
      refine g_iload_n C dR_voice_29 rfl ?_
      refine rp_speaks C hci dR_voice_30 ?_
      refine g_memname (fun M30 hM30 => ?_)
      replace h := h M30 hM30
      refine g_aload_n C dR_voice_33 rfl ?_
      refine g_iconst C dR_voice_34 ?_
      refine rp_isParted C hci dR_voice_35 ⟨rfl, rfl⟩ ?_
      refine g_memname (fun M35 hM35 => ?_)
      replace h := h M35 hM35
      refine g_aload_n C dR_voice_38 rfl ?_
      refine g_callVi C (nargs := 0) (o := 0) (st := []) (m_RkindNow hci h) rfl (by decide) hci rfl gd_kindNow (by decide +kernel) ⟨rfl, rfl⟩ dR_voice_39 ⟨by decide, by decide⟩ rfl rfl (Nat.le_of_ble_eq_true rfl) ?_
      intro r39c M39 hN
      replace h := hN
      clear hN
      refine g_istore C dR_voice_42 (by decide) rfl ?_
      refine g_locals (lv' := [(0, .ref (ad 0)), (1, iv a1), (2, iv a2), (3, iv a3), (4, iv r39c)]) rfl ?_
      refine g_iload_n C dR_voice_44 rfl ?_
      refine g_if_ne C 58 dR_voice_45 (by decide) (fun hc => ?_) (fun hc => ?_)
      · replace h := h.1 hc
        refine g_iload_n C dR_voice_58 rfl ?_
        refine g_iconst C dR_voice_59 ?_
        refine g_icmp_ne C 73 dR_voice_60 (by decide) (fun hc => ?_) (fun hc => ?_)
        · replace h := h.1 hc
          refine g_iload_n C dR_voice_73 rfl ?_
          refine g_iconst C dR_voice_74 ?_
          refine g_icmp_ne C 88 dR_voice_75 (by decide) (fun hc => ?_) (fun hc => ?_)
          · replace h := h.1 hc
            refine g_aload_n C dR_voice_88 rfl ?_
            refine g_iload C dR_voice_89 rfl ?_
            refine g_iload_n C dR_voice_91 rfl ?_
            refine g_callVi C (nargs := 2) (o := 0) (st := []) (m_RpartsBy hci h) rfl (by decide) hci rfl gd_partsBy (by decide +kernel) ⟨rfl, rfl⟩ dR_voice_92 ⟨by decide, by decide⟩ rfl rfl (Nat.le_of_ble_eq_true rfl) ?_
            intro r92c M92 hN
            replace h := hN
            clear hN
            refine g_locals (lv' := [(0, .ref (ad 0))]) rfl ?_
            exact pB95 _ _ h
          · replace h := h.2 hc
            refine g_aload_n C dR_voice_78 rfl ?_
            refine g_iload C dR_voice_79 rfl ?_
            refine g_iload_n C dR_voice_81 rfl ?_
            refine g_callVi C (nargs := 2) (o := 0) (st := []) (m_RmeltsBy hci h) rfl (by decide) hci rfl gd_meltsBy (by decide +kernel) ⟨rfl, rfl⟩ dR_voice_82 ⟨by decide, by decide⟩ rfl rfl (Nat.le_of_ble_eq_true rfl) ?_
            intro r82c M82 hN
            replace h := hN
            clear hN
            refine g_goto C 95 dR_voice_85 (by decide) ?_
            refine g_locals (lv' := [(0, .ref (ad 0))]) rfl ?_
            exact pB95 _ _ h
        · replace h := h.2 hc
          refine g_aload_n C dR_voice_63 rfl ?_
          refine g_iload C dR_voice_64 rfl ?_
          refine g_iload_n C dR_voice_66 rfl ?_
          refine g_callVi C (nargs := 2) (o := 0) (st := []) (m_RweighsBy hci h) rfl (by decide) hci rfl gd_weighsBy (by decide +kernel) ⟨rfl, rfl⟩ dR_voice_67 ⟨by decide, by decide⟩ rfl rfl (Nat.le_of_ble_eq_true rfl) ?_
          intro r67c M67 hN
          replace h := hN
          clear hN
          refine g_goto C 95 dR_voice_70 (by decide) ?_
          refine g_locals (lv' := [(0, .ref (ad 0))]) rfl ?_
          exact pB95 _ _ h
      · replace h := h.2 hc
        refine g_aload_n C dR_voice_48 rfl ?_
        refine g_iload C dR_voice_49 rfl ?_
        refine g_iload_n C dR_voice_51 rfl ?_
        refine g_callVi C (nargs := 2) (o := 0) (st := []) (m_RringsBy hci h) rfl (by decide) hci rfl gd_ringsBy (by decide +kernel) ⟨rfl, rfl⟩ dR_voice_52 ⟨by decide, by decide⟩ rfl rfl (Nat.le_of_ble_eq_true rfl) ?_
        intro r52c M52 hN
        replace h := hN
        clear hN
        refine g_goto C 95 dR_voice_55 (by decide) ?_
        refine g_locals (lv' := [(0, .ref (ad 0))]) rfl ?_
        exact pB95 _ _ h
    · replace h := h.2 hc
      refine g_locals (lv' := [(0, .ref (ad 0))]) rfl ?_
      exact pB17  _ h
def wC_Rwhole_9 (rc : Nat → List Int → gSt → (Int → gSt → Prop) → Prop)  (k : Int → gSt → Prop) (r9 : gSt → Prop) (X9_35 : gSt → Prop) (X9_47 : gSt → Prop)  (M : gSt) : Prop :=
w_Rlook  M (fun r10c M10 => 
  (¬ wrap r10c = 124 →
    X9_47  M10) ∧
  (wrap r10c = 124 →
    ∀ M25 : gSt, M25 = wr M10 0 5 ((M10 0 5) + 1) → (rc 1 [] M25 (fun r29c M29 => 
    (¬ wrap r29c = 0 →
      w_Rlays 3 124 M29 (fun M41 => r9  M41)) ∧
    (wrap r29c = 0 →
      X9_35  M29)))))
def wL_Rwhole_9 (rc : Nat → List Int → gSt → (Int → gSt → Prop) → Prop)  (k : Int → gSt → Prop)  (X9_35 : gSt → Prop) (X9_47 : gSt → Prop) : Nat → gSt → Prop
  | 0 => fun  _ => False
  | n + 1 => fun  M => wC_Rwhole_9 rc  k  (wL_Rwhole_9 rc  k  X9_35 X9_47 n) X9_35 X9_47  M
def wb_Rwhole (rc : Nat → List Int → gSt → (Int → gSt → Prop) → Prop)  (M : gSt) (k : Int → gSt → Prop) : Prop :=
rc 1 [] M (fun r1c M1 => 
  (¬ wrap r1c = 0 →
    ∃ n, wL_Rwhole_9 rc  k  (fun  M9 =>
      k 0 M9) (fun  M9 =>
      k 1 M9) n  M1) ∧
  (wrap r1c = 0 →
    k 0 M1))
set_option maxHeartbeats 4000000 in
set_option maxRecDepth 100000 in
theorem mb_Rwhole {l : Launch} {D : va_G} {cl : List vw_C} {tys : List (ClassId × FieldType)} {ad : Nat → Nat} {cI : ClassId} {ci : Nat} {Z : (Nat → Prop) → State → Prop} (hci : cl[ci]? = some (RX9, TX9, 23)) {rc : Nat → List Int → gSt → (Int → gSt → Prop) → Prop}  {d : Nat} (hrc0 : ∀ {M : gSt} {k : Int → gSt → Prop}, rc 0 [] M k → MOi l yX9_whole cX9_whole 1 .boolean (rmR (d + 1) (d * 23 + 22)) D cl ((cI, .int) :: tys) (wR ad cI ci) tR Z [.ref (ad 0)] M k) (hrc1 : ∀ {M : gSt} {k : Int → gSt → Prop}, rc 1 [] M k → MOi l yX9_both cX9_both 1 .boolean (rmR (d + 1) (d * 23 + 22)) D cl ((cI, .int) :: tys) (wR ad cI ci) tR Z [.ref (ad 0)] M k) (hrc2 : ∀ {M : gSt} {k : Int → gSt → Prop}, rc 2 [] M k → MOi l yX9_compared cX9_compared 2 .boolean (rmR (d + 1) (d * 23 + 22)) D cl ((cI, .int) :: tys) (wR ad cI ci) tR Z [.ref (ad 0)] M k) (hrc3 : ∀ {M : gSt} {k : Int → gSt → Prop}, rc 3 [] M k → MOi l yX9_sum cX9_sum 2 .boolean (rmR (d + 1) (d * 23 + 22)) D cl ((cI, .int) :: tys) (wR ad cI ci) tR Z [.ref (ad 0)] M k) (hrc4 : ∀ {M : gSt} {k : Int → gSt → Prop}, rc 4 [] M k → MOi l yX9_product cX9_product 2 .boolean (rmR (d + 1) (d * 23 + 22)) D cl ((cI, .int) :: tys) (wR ad cI ci) tR Z [.ref (ad 0)] M k) (hrc5 : ∀ {M : gSt} {k : Int → gSt → Prop}, rc 5 [] M k → MOi l yX9_one cX9_one 4 .boolean (rmR (d + 1) (d * 23 + 22)) D cl ((cI, .int) :: tys) (wR ad cI ci) tR Z [.ref (ad 0)] M k) {M : gSt} {k : Int → gSt → Prop} (h : wb_Rwhole rc  M k) : MOi l yX9_whole cX9_whole 1 .boolean (rmR (d + 1 + 1) ((d + 1) * 23 + 22)) D cl ((cI, .int) :: tys) (wR ad cI ci) tR Z [.ref (ad 0)] M k := by
  refine moi_intro (by decide +kernel) (Nat.le_of_ble_eq_true rfl) wi_159 ?_
  intro p e s m args below meth c A Q C hR
  have pC9 : ∀ (r9 : gSt → Prop) (X9_35 : gSt → Prop) (X9_47 : gSt → Prop) (hr9 : ∀  (M : gSt), r9  M → gG p l e (rmR (d + 1 + 1) ((d + 1) * 23 + 22)) s m args below meth c Q D cl A (wR ad cI ci) 1 9 [(0, .ref (ad 0))] [] M) (hX9_35 : ∀  (M : gSt), X9_35  M → gG p l e (rmR (d + 1 + 1) ((d + 1) * 23 + 22)) s m args below meth c Q D cl A (wR ad cI ci) 1 35 [] [] M) (hX9_47 : ∀  (M : gSt), X9_47  M → gG p l e (rmR (d + 1 + 1) ((d + 1) * 23 + 22)) s m args below meth c Q D cl A (wR ad cI ci) 1 47 [] [] M)  (M : gSt), wC_Rwhole_9 rc  k r9 X9_35 X9_47  M → gG p l e (rmR (d + 1 + 1) ((d + 1) * 23 + 22)) s m args below meth c Q D cl A (wR ad cI ci) 1 9 [(0, .ref (ad 0))] [] M := by
    intro r9 X9_35 X9_47 hr9 hX9_35 hX9_47  M h
    unfold wC_Rwhole_9 at h
    refine g_aload_n C dR_whole_9 rfl ?_
    refine g_callVi C (nargs := 0) (o := 0) (st := []) (m_Rlook hci h) rfl (by decide) hci rfl gd_look (by decide +kernel) ⟨rfl, rfl⟩ dR_whole_10 ⟨by simp only [rmR]; omega, by simp only [rmR]; omega⟩ rfl rfl (Nat.le_of_ble_eq_true rfl) ?_
    intro r10c M10 hN
    replace h := hN
    clear hN
    refine g_bipush C dR_whole_13 rfl ?_
    refine g_icmp_ne C 47 dR_whole_15 (by decide) (fun hc => ?_) (fun hc => ?_)
    · replace h := h.1 hc
      refine g_locals (lv' := []) rfl ?_
      exact hX9_47  _ h
    · replace h := h.2 hc
      refine g_aload_n C dR_whole_18 rfl ?_
      refine g_dup C dR_whole_19 rfl ?_
      refine rf_at C hci dR_whole_20 ?_
      refine g_iconst C dR_whole_23 ?_
      refine g_iadd C dR_whole_24 ?_
      refine rp_at C hci dR_whole_25 ?_
      refine g_memname (fun M25 hM25 => ?_)
      replace h := h M25 hM25
      refine g_aload_n C dR_whole_28 rfl ?_
      refine g_callVi C (nargs := 0) (o := 0) (st := []) (hrc1 h) rfl (by decide) hci rfl gd_both (by decide +kernel) ⟨rfl, rfl⟩ dR_whole_29 ⟨by simp only [rmR]; omega, by simp only [rmR]; omega⟩ rfl rfl (Nat.le_of_ble_eq_true rfl) ?_
      intro r29c M29 hN
      replace h := hN
      clear hN
      refine g_if_ne C 37 dR_whole_32 (by decide) (fun hc => ?_) (fun hc => ?_)
      · replace h := h.1 hc
        refine g_aload_n C dR_whole_37 rfl ?_
        refine g_iconst C dR_whole_38 ?_
        refine g_bipush C dR_whole_39 rfl ?_
        refine g_callVv C (nargs := 2) (o := 0) (st := []) (m_Rlays hci h) rfl (by decide) hci rfl gd_lays (by decide +kernel) ⟨rfl, rfl⟩ dR_whole_41 ⟨by simp only [rmR]; omega, by simp only [rmR]; omega⟩ rfl rfl (Nat.le_of_ble_eq_true rfl) ?_
        intro M41 hN
        replace h := hN
        clear hN
        refine g_goto C 9 dR_whole_44 (by decide) ?_
        refine g_locals (lv' := [(0, .ref (ad 0))]) rfl ?_
        exact hr9  _ h
      · replace h := h.2 hc
        refine g_locals (lv' := []) rfl ?_
        exact hX9_35  _ h
  have pL9 : ∀  (X9_35 : gSt → Prop) (X9_47 : gSt → Prop) (hX9_35 : ∀  (M : gSt), X9_35  M → gG p l e (rmR (d + 1 + 1) ((d + 1) * 23 + 22)) s m args below meth c Q D cl A (wR ad cI ci) 1 35 [] [] M) (hX9_47 : ∀  (M : gSt), X9_47  M → gG p l e (rmR (d + 1 + 1) ((d + 1) * 23 + 22)) s m args below meth c Q D cl A (wR ad cI ci) 1 47 [] [] M) (n : Nat)  (M : gSt), wL_Rwhole_9 rc  k  X9_35 X9_47 n  M → gG p l e (rmR (d + 1 + 1) ((d + 1) * 23 + 22)) s m args below meth c Q D cl A (wR ad cI ci) 1 9 [(0, .ref (ad 0))] [] M := by
    intro  X9_35 X9_47 hX9_35 hX9_47 n
    induction n with
    | zero => intro  M h; exact h.elim
    | succ n ih =>
      intro  M h
      exact pC9  (wL_Rwhole_9 rc  k  X9_35 X9_47 n) X9_35 X9_47 ih hX9_35 hX9_47  M h
  refine g_locals (lv' := [(0, .ref (ad 0))]) rfl ?_
  unfold wb_Rwhole at h
  refine g_aload_n C dR_whole_0 rfl ?_
  refine g_callVi C (nargs := 0) (o := 0) (st := []) (hrc1 h) rfl (by decide) hci rfl gd_both (by decide +kernel) ⟨rfl, rfl⟩ dR_whole_1 ⟨by simp only [rmR]; omega, by simp only [rmR]; omega⟩ rfl rfl (Nat.le_of_ble_eq_true rfl) ?_
  intro r1c M1 hN
  replace h := hN
  clear hN
  refine g_if_ne C 9 dR_whole_4 (by decide) (fun hc => ?_) (fun hc => ?_)
  · replace h := h.1 hc
    refine g_locals (lv' := [(0, .ref (ad 0))]) rfl ?_
    obtain ⟨n, h⟩ := h
    refine pL9 _ _ ?_ ?_ n  _ h
    · intro  M9 hN
      replace h := hN
      clear hN
      refine g_iconst C dR_whole_35 ?_
      exact hR _ _ _ _ dR_whole_36 rfl h
    · intro  M9 hN
      replace h := hN
      clear hN
      refine g_iconst C dR_whole_47 ?_
      exact hR _ _ _ _ dR_whole_48 rfl h
  · replace h := h.2 hc
    refine g_iconst C dR_whole_7 ?_
    exact hR _ _ _ _ dR_whole_8 rfl h
def wC_Rboth_9 (rc : Nat → List Int → gSt → (Int → gSt → Prop) → Prop)  (k : Int → gSt → Prop) (r9 : gSt → Prop) (X9_35 : gSt → Prop) (X9_47 : gSt → Prop)  (M : gSt) : Prop :=
w_Rlook  M (fun r10c M10 => 
  (¬ wrap r10c = 38 →
    X9_47  M10) ∧
  (wrap r10c = 38 →
    ∀ M25 : gSt, M25 = wr M10 0 5 ((M10 0 5) + 1) → (rc 2 [] M25 (fun r29c M29 => 
    (¬ wrap r29c = 0 →
      w_Rlays 3 38 M29 (fun M41 => r9  M41)) ∧
    (wrap r29c = 0 →
      X9_35  M29)))))
def wL_Rboth_9 (rc : Nat → List Int → gSt → (Int → gSt → Prop) → Prop)  (k : Int → gSt → Prop)  (X9_35 : gSt → Prop) (X9_47 : gSt → Prop) : Nat → gSt → Prop
  | 0 => fun  _ => False
  | n + 1 => fun  M => wC_Rboth_9 rc  k  (wL_Rboth_9 rc  k  X9_35 X9_47 n) X9_35 X9_47  M
def wb_Rboth (rc : Nat → List Int → gSt → (Int → gSt → Prop) → Prop)  (M : gSt) (k : Int → gSt → Prop) : Prop :=
rc 2 [] M (fun r1c M1 => 
  (¬ wrap r1c = 0 →
    ∃ n, wL_Rboth_9 rc  k  (fun  M9 =>
      k 0 M9) (fun  M9 =>
      k 1 M9) n  M1) ∧
  (wrap r1c = 0 →
    k 0 M1))
set_option maxHeartbeats 4000000 in
set_option maxRecDepth 100000 in
theorem mb_Rboth {l : Launch} {D : va_G} {cl : List vw_C} {tys : List (ClassId × FieldType)} {ad : Nat → Nat} {cI : ClassId} {ci : Nat} {Z : (Nat → Prop) → State → Prop} (hci : cl[ci]? = some (RX9, TX9, 23)) {rc : Nat → List Int → gSt → (Int → gSt → Prop) → Prop}  {d : Nat} (hrc0 : ∀ {M : gSt} {k : Int → gSt → Prop}, rc 0 [] M k → MOi l yX9_whole cX9_whole 1 .boolean (rmR (d + 1) (d * 23 + 22)) D cl ((cI, .int) :: tys) (wR ad cI ci) tR Z [.ref (ad 0)] M k) (hrc1 : ∀ {M : gSt} {k : Int → gSt → Prop}, rc 1 [] M k → MOi l yX9_both cX9_both 1 .boolean (rmR (d + 1) (d * 23 + 22)) D cl ((cI, .int) :: tys) (wR ad cI ci) tR Z [.ref (ad 0)] M k) (hrc2 : ∀ {M : gSt} {k : Int → gSt → Prop}, rc 2 [] M k → MOi l yX9_compared cX9_compared 2 .boolean (rmR (d + 1) (d * 23 + 22)) D cl ((cI, .int) :: tys) (wR ad cI ci) tR Z [.ref (ad 0)] M k) (hrc3 : ∀ {M : gSt} {k : Int → gSt → Prop}, rc 3 [] M k → MOi l yX9_sum cX9_sum 2 .boolean (rmR (d + 1) (d * 23 + 22)) D cl ((cI, .int) :: tys) (wR ad cI ci) tR Z [.ref (ad 0)] M k) (hrc4 : ∀ {M : gSt} {k : Int → gSt → Prop}, rc 4 [] M k → MOi l yX9_product cX9_product 2 .boolean (rmR (d + 1) (d * 23 + 22)) D cl ((cI, .int) :: tys) (wR ad cI ci) tR Z [.ref (ad 0)] M k) (hrc5 : ∀ {M : gSt} {k : Int → gSt → Prop}, rc 5 [] M k → MOi l yX9_one cX9_one 4 .boolean (rmR (d + 1) (d * 23 + 22)) D cl ((cI, .int) :: tys) (wR ad cI ci) tR Z [.ref (ad 0)] M k) {M : gSt} {k : Int → gSt → Prop} (h : wb_Rboth rc  M k) : MOi l yX9_both cX9_both 1 .boolean (rmR (d + 1 + 1) ((d + 1) * 23 + 22)) D cl ((cI, .int) :: tys) (wR ad cI ci) tR Z [.ref (ad 0)] M k := by
  refine moi_intro (by decide +kernel) (Nat.le_of_ble_eq_true rfl) wi_163 ?_
  intro p e s m args below meth c A Q C hR
  have pC9 : ∀ (r9 : gSt → Prop) (X9_35 : gSt → Prop) (X9_47 : gSt → Prop) (hr9 : ∀  (M : gSt), r9  M → gG p l e (rmR (d + 1 + 1) ((d + 1) * 23 + 22)) s m args below meth c Q D cl A (wR ad cI ci) 1 9 [(0, .ref (ad 0))] [] M) (hX9_35 : ∀  (M : gSt), X9_35  M → gG p l e (rmR (d + 1 + 1) ((d + 1) * 23 + 22)) s m args below meth c Q D cl A (wR ad cI ci) 1 35 [] [] M) (hX9_47 : ∀  (M : gSt), X9_47  M → gG p l e (rmR (d + 1 + 1) ((d + 1) * 23 + 22)) s m args below meth c Q D cl A (wR ad cI ci) 1 47 [] [] M)  (M : gSt), wC_Rboth_9 rc  k r9 X9_35 X9_47  M → gG p l e (rmR (d + 1 + 1) ((d + 1) * 23 + 22)) s m args below meth c Q D cl A (wR ad cI ci) 1 9 [(0, .ref (ad 0))] [] M := by
    intro r9 X9_35 X9_47 hr9 hX9_35 hX9_47  M h
    unfold wC_Rboth_9 at h
    refine g_aload_n C dR_both_9 rfl ?_
    refine g_callVi C (nargs := 0) (o := 0) (st := []) (m_Rlook hci h) rfl (by decide) hci rfl gd_look (by decide +kernel) ⟨rfl, rfl⟩ dR_both_10 ⟨by simp only [rmR]; omega, by simp only [rmR]; omega⟩ rfl rfl (Nat.le_of_ble_eq_true rfl) ?_
    intro r10c M10 hN
    replace h := hN
    clear hN
    refine g_bipush C dR_both_13 rfl ?_
    refine g_icmp_ne C 47 dR_both_15 (by decide) (fun hc => ?_) (fun hc => ?_)
    · replace h := h.1 hc
      refine g_locals (lv' := []) rfl ?_
      exact hX9_47  _ h
    · replace h := h.2 hc
      refine g_aload_n C dR_both_18 rfl ?_
      refine g_dup C dR_both_19 rfl ?_
      refine rf_at C hci dR_both_20 ?_
      refine g_iconst C dR_both_23 ?_
      refine g_iadd C dR_both_24 ?_
      refine rp_at C hci dR_both_25 ?_
      refine g_memname (fun M25 hM25 => ?_)
      replace h := h M25 hM25
      refine g_aload_n C dR_both_28 rfl ?_
      refine g_callVi C (nargs := 0) (o := 0) (st := []) (hrc2 h) rfl (by decide) hci rfl gd_compared (by decide +kernel) ⟨rfl, rfl⟩ dR_both_29 ⟨by simp only [rmR]; omega, by simp only [rmR]; omega⟩ rfl rfl (Nat.le_of_ble_eq_true rfl) ?_
      intro r29c M29 hN
      replace h := hN
      clear hN
      refine g_if_ne C 37 dR_both_32 (by decide) (fun hc => ?_) (fun hc => ?_)
      · replace h := h.1 hc
        refine g_aload_n C dR_both_37 rfl ?_
        refine g_iconst C dR_both_38 ?_
        refine g_bipush C dR_both_39 rfl ?_
        refine g_callVv C (nargs := 2) (o := 0) (st := []) (m_Rlays hci h) rfl (by decide) hci rfl gd_lays (by decide +kernel) ⟨rfl, rfl⟩ dR_both_41 ⟨by simp only [rmR]; omega, by simp only [rmR]; omega⟩ rfl rfl (Nat.le_of_ble_eq_true rfl) ?_
        intro M41 hN
        replace h := hN
        clear hN
        refine g_goto C 9 dR_both_44 (by decide) ?_
        refine g_locals (lv' := [(0, .ref (ad 0))]) rfl ?_
        exact hr9  _ h
      · replace h := h.2 hc
        refine g_locals (lv' := []) rfl ?_
        exact hX9_35  _ h
  have pL9 : ∀  (X9_35 : gSt → Prop) (X9_47 : gSt → Prop) (hX9_35 : ∀  (M : gSt), X9_35  M → gG p l e (rmR (d + 1 + 1) ((d + 1) * 23 + 22)) s m args below meth c Q D cl A (wR ad cI ci) 1 35 [] [] M) (hX9_47 : ∀  (M : gSt), X9_47  M → gG p l e (rmR (d + 1 + 1) ((d + 1) * 23 + 22)) s m args below meth c Q D cl A (wR ad cI ci) 1 47 [] [] M) (n : Nat)  (M : gSt), wL_Rboth_9 rc  k  X9_35 X9_47 n  M → gG p l e (rmR (d + 1 + 1) ((d + 1) * 23 + 22)) s m args below meth c Q D cl A (wR ad cI ci) 1 9 [(0, .ref (ad 0))] [] M := by
    intro  X9_35 X9_47 hX9_35 hX9_47 n
    induction n with
    | zero => intro  M h; exact h.elim
    | succ n ih =>
      intro  M h
      exact pC9  (wL_Rboth_9 rc  k  X9_35 X9_47 n) X9_35 X9_47 ih hX9_35 hX9_47  M h
  refine g_locals (lv' := [(0, .ref (ad 0))]) rfl ?_
  unfold wb_Rboth at h
  refine g_aload_n C dR_both_0 rfl ?_
  refine g_callVi C (nargs := 0) (o := 0) (st := []) (hrc2 h) rfl (by decide) hci rfl gd_compared (by decide +kernel) ⟨rfl, rfl⟩ dR_both_1 ⟨by simp only [rmR]; omega, by simp only [rmR]; omega⟩ rfl rfl (Nat.le_of_ble_eq_true rfl) ?_
  intro r1c M1 hN
  replace h := hN
  clear hN
  refine g_if_ne C 9 dR_both_4 (by decide) (fun hc => ?_) (fun hc => ?_)
  · replace h := h.1 hc
    refine g_locals (lv' := [(0, .ref (ad 0))]) rfl ?_
    obtain ⟨n, h⟩ := h
    refine pL9 _ _ ?_ ?_ n  _ h
    · intro  M9 hN
      replace h := hN
      clear hN
      refine g_iconst C dR_both_35 ?_
      exact hR _ _ _ _ dR_both_36 rfl h
    · intro  M9 hN
      replace h := hN
      clear hN
      refine g_iconst C dR_both_47 ?_
      exact hR _ _ _ _ dR_both_48 rfl h
  · replace h := h.2 hc
    refine g_iconst C dR_both_7 ?_
    exact hR _ _ _ _ dR_both_8 rfl h
def wB_Rcompared_34 (rc : Nat → List Int → gSt → (Int → gSt → Prop) → Prop)  (k : Int → gSt → Prop)  (v1 : Int) (M : gSt) : Prop :=
∀ M41 : gSt, M41 = wr M 0 5 ((M 0 5) + 1) → (rc 3 [] M41 (fun r45c M45 => 
  (¬ wrap r45c = 0 →
    w_Rlays 3 v1 M45 (fun M56 => k 1 M56)) ∧
  (wrap r45c = 0 →
    k 0 M45)))
def wb_Rcompared (rc : Nat → List Int → gSt → (Int → gSt → Prop) → Prop)  (M : gSt) (k : Int → gSt → Prop) : Prop :=
rc 3 [] M (fun r1c M1 => 
  (¬ wrap r1c = 0 →
    w_Rlook  M1 (fun r10c M10 => 
    (wrap r10c = 60 →
      wB_Rcompared_34 rc  k  r10c M10) ∧
    (¬ wrap r10c = 60 →

      (wrap r10c = 61 →
        wB_Rcompared_34 rc  k  r10c M10) ∧
      (¬ wrap r10c = 61 →

        (wrap r10c = 62 →
          wB_Rcompared_34 rc  k  r10c M10) ∧
        (¬ wrap r10c = 62 →
          k 1 M10))))) ∧
  (wrap r1c = 0 →
    k 0 M1))
set_option maxHeartbeats 4000000 in
set_option maxRecDepth 100000 in
theorem mb_Rcompared {l : Launch} {D : va_G} {cl : List vw_C} {tys : List (ClassId × FieldType)} {ad : Nat → Nat} {cI : ClassId} {ci : Nat} {Z : (Nat → Prop) → State → Prop} (hci : cl[ci]? = some (RX9, TX9, 23)) {rc : Nat → List Int → gSt → (Int → gSt → Prop) → Prop}  {d : Nat} (hrc0 : ∀ {M : gSt} {k : Int → gSt → Prop}, rc 0 [] M k → MOi l yX9_whole cX9_whole 1 .boolean (rmR (d + 1) (d * 23 + 22)) D cl ((cI, .int) :: tys) (wR ad cI ci) tR Z [.ref (ad 0)] M k) (hrc1 : ∀ {M : gSt} {k : Int → gSt → Prop}, rc 1 [] M k → MOi l yX9_both cX9_both 1 .boolean (rmR (d + 1) (d * 23 + 22)) D cl ((cI, .int) :: tys) (wR ad cI ci) tR Z [.ref (ad 0)] M k) (hrc2 : ∀ {M : gSt} {k : Int → gSt → Prop}, rc 2 [] M k → MOi l yX9_compared cX9_compared 2 .boolean (rmR (d + 1) (d * 23 + 22)) D cl ((cI, .int) :: tys) (wR ad cI ci) tR Z [.ref (ad 0)] M k) (hrc3 : ∀ {M : gSt} {k : Int → gSt → Prop}, rc 3 [] M k → MOi l yX9_sum cX9_sum 2 .boolean (rmR (d + 1) (d * 23 + 22)) D cl ((cI, .int) :: tys) (wR ad cI ci) tR Z [.ref (ad 0)] M k) (hrc4 : ∀ {M : gSt} {k : Int → gSt → Prop}, rc 4 [] M k → MOi l yX9_product cX9_product 2 .boolean (rmR (d + 1) (d * 23 + 22)) D cl ((cI, .int) :: tys) (wR ad cI ci) tR Z [.ref (ad 0)] M k) (hrc5 : ∀ {M : gSt} {k : Int → gSt → Prop}, rc 5 [] M k → MOi l yX9_one cX9_one 4 .boolean (rmR (d + 1) (d * 23 + 22)) D cl ((cI, .int) :: tys) (wR ad cI ci) tR Z [.ref (ad 0)] M k) {M : gSt} {k : Int → gSt → Prop} (h : wb_Rcompared rc  M k) : MOi l yX9_compared cX9_compared 2 .boolean (rmR (d + 1 + 1) ((d + 1) * 23 + 22)) D cl ((cI, .int) :: tys) (wR ad cI ci) tR Z [.ref (ad 0)] M k := by
  refine moi_intro (by decide +kernel) (Nat.le_of_ble_eq_true rfl) wi_137 ?_
  intro p e s m args below meth c A Q C hR
  have pB34 : ∀   (v1 : Int) (M : gSt), wB_Rcompared_34 rc  k  v1 M → gG p l e (rmR (d + 1 + 1) ((d + 1) * 23 + 22)) s m args below meth c Q D cl A (wR ad cI ci) 2 34 [(0, .ref (ad 0)), (1, iv v1)] [] M := by
    intro   v1 M h
    unfold wB_Rcompared_34 at h
    refine g_aload_n C dR_compared_34 rfl ?_
    refine g_dup C dR_compared_35 rfl ?_
    refine rf_at C hci dR_compared_36 ?_
    refine g_iconst C dR_compared_39 ?_
    refine g_iadd C dR_compared_40 ?_
    refine rp_at C hci dR_compared_41 ?_
    refine g_memname (fun M41 hM41 => ?_)
    replace h := h M41 hM41
    refine g_aload_n C dR_compared_44 rfl ?_
    refine g_callVi C (nargs := 0) (o := 0) (st := []) (hrc3 h) rfl (by decide) hci rfl gd_sum (by decide +kernel) ⟨rfl, rfl⟩ dR_compared_45 ⟨by simp only [rmR]; omega, by simp only [rmR]; omega⟩ rfl rfl (Nat.le_of_ble_eq_true rfl) ?_
    intro r45c M45 hN
    replace h := hN
    clear hN
    refine g_if_ne C 53 dR_compared_48 (by decide) (fun hc => ?_) (fun hc => ?_)
    · replace h := h.1 hc
      refine g_aload_n C dR_compared_53 rfl ?_
      refine g_iconst C dR_compared_54 ?_
      refine g_iload_n C dR_compared_55 rfl ?_
      refine g_callVv C (nargs := 2) (o := 0) (st := []) (m_Rlays hci h) rfl (by decide) hci rfl gd_lays (by decide +kernel) ⟨rfl, rfl⟩ dR_compared_56 ⟨by simp only [rmR]; omega, by simp only [rmR]; omega⟩ rfl rfl (Nat.le_of_ble_eq_true rfl) ?_
      intro M56 hN
      replace h := hN
      clear hN
      refine g_iconst C dR_compared_59 ?_
      exact hR _ _ _ _ dR_compared_60 rfl h
    · replace h := h.2 hc
      refine g_iconst C dR_compared_51 ?_
      exact hR _ _ _ _ dR_compared_52 rfl h
  refine g_locals (lv' := [(0, .ref (ad 0))]) rfl ?_
  unfold wb_Rcompared at h
  refine g_aload_n C dR_compared_0 rfl ?_
  refine g_callVi C (nargs := 0) (o := 0) (st := []) (hrc3 h) rfl (by decide) hci rfl gd_sum (by decide +kernel) ⟨rfl, rfl⟩ dR_compared_1 ⟨by simp only [rmR]; omega, by simp only [rmR]; omega⟩ rfl rfl (Nat.le_of_ble_eq_true rfl) ?_
  intro r1c M1 hN
  replace h := hN
  clear hN
  refine g_if_ne C 9 dR_compared_4 (by decide) (fun hc => ?_) (fun hc => ?_)
  · replace h := h.1 hc
    refine g_aload_n C dR_compared_9 rfl ?_
    refine g_callVi C (nargs := 0) (o := 0) (st := []) (m_Rlook hci h) rfl (by decide) hci rfl gd_look (by decide +kernel) ⟨rfl, rfl⟩ dR_compared_10 ⟨by simp only [rmR]; omega, by simp only [rmR]; omega⟩ rfl rfl (Nat.le_of_ble_eq_true rfl) ?_
    intro r10c M10 hN
    replace h := hN
    clear hN
    refine g_istore_n C dR_compared_13 (by decide) rfl ?_
    refine g_locals (lv' := [(0, .ref (ad 0)), (1, iv r10c)]) rfl ?_
    refine g_iload_n C dR_compared_14 rfl ?_
    refine g_bipush C dR_compared_15 rfl ?_
    refine g_icmp_eq C 34 dR_compared_17 (by decide) (fun hc => ?_) (fun hc => ?_)
    · replace h := h.1 hc
      refine g_locals (lv' := [(0, .ref (ad 0)), (1, iv r10c)]) rfl ?_
      exact pB34 _ _ h
    · replace h := h.2 hc
      refine g_iload_n C dR_compared_20 rfl ?_
      refine g_bipush C dR_compared_21 rfl ?_
      refine g_icmp_eq C 34 dR_compared_23 (by decide) (fun hc => ?_) (fun hc => ?_)
      · replace h := h.1 hc
        refine g_locals (lv' := [(0, .ref (ad 0)), (1, iv r10c)]) rfl ?_
        exact pB34 _ _ h
      · replace h := h.2 hc
        refine g_iload_n C dR_compared_26 rfl ?_
        refine g_bipush C dR_compared_27 rfl ?_
        refine g_icmp_eq C 34 dR_compared_29 (by decide) (fun hc => ?_) (fun hc => ?_)
        · replace h := h.1 hc
          refine g_locals (lv' := [(0, .ref (ad 0)), (1, iv r10c)]) rfl ?_
          exact pB34 _ _ h
        · replace h := h.2 hc
          refine g_iconst C dR_compared_32 ?_
          exact hR _ _ _ _ dR_compared_33 rfl h
  · replace h := h.2 hc
    refine g_iconst C dR_compared_7 ?_
    exact hR _ _ _ _ dR_compared_8 rfl h
def wB_Rsum_27 (rc : Nat → List Int → gSt → (Int → gSt → Prop) → Prop)  (k : Int → gSt → Prop) (r9 : gSt → Prop) (X9_49 : gSt → Prop) (X9_60 : gSt → Prop)  (M : gSt) : Prop :=
w_Rlook  M (fun r28c M28 => ∀ M39 : gSt, M39 = wr M28 0 5 ((M28 0 5) + 1) → (rc 4 [] M39 (fun r43c M43 => 
  (¬ wrap r43c = 0 →
    w_Rlays 3 r28c M43 (fun M54 => r9  M54)) ∧
  (wrap r43c = 0 →
    X9_49  M43))))
def wC_Rsum_9 (rc : Nat → List Int → gSt → (Int → gSt → Prop) → Prop)  (k : Int → gSt → Prop) (r9 : gSt → Prop) (X9_49 : gSt → Prop) (X9_60 : gSt → Prop)  (M : gSt) : Prop :=
w_Rlook  M (fun r10c M10 => 
  (wrap r10c = 43 →
    wB_Rsum_27 rc  k r9 X9_49 X9_60  M10) ∧
  (¬ wrap r10c = 43 →
    w_Rlook  M10 (fun r19c M19 => 
    (¬ wrap r19c = 45 →
      X9_60  M19) ∧
    (wrap r19c = 45 →
      wB_Rsum_27 rc  k r9 X9_49 X9_60  M19))))
def wL_Rsum_9 (rc : Nat → List Int → gSt → (Int → gSt → Prop) → Prop)  (k : Int → gSt → Prop)  (X9_49 : gSt → Prop) (X9_60 : gSt → Prop) : Nat → gSt → Prop
  | 0 => fun  _ => False
  | n + 1 => fun  M => wC_Rsum_9 rc  k  (wL_Rsum_9 rc  k  X9_49 X9_60 n) X9_49 X9_60  M
def wb_Rsum (rc : Nat → List Int → gSt → (Int → gSt → Prop) → Prop)  (M : gSt) (k : Int → gSt → Prop) : Prop :=
rc 4 [] M (fun r1c M1 => 
  (¬ wrap r1c = 0 →
    ∃ n, wL_Rsum_9 rc  k  (fun  M9 =>
      k 0 M9) (fun  M9 =>
      k 1 M9) n  M1) ∧
  (wrap r1c = 0 →
    k 0 M1))
set_option maxHeartbeats 4000000 in
set_option maxRecDepth 100000 in
theorem mb_Rsum {l : Launch} {D : va_G} {cl : List vw_C} {tys : List (ClassId × FieldType)} {ad : Nat → Nat} {cI : ClassId} {ci : Nat} {Z : (Nat → Prop) → State → Prop} (hci : cl[ci]? = some (RX9, TX9, 23)) {rc : Nat → List Int → gSt → (Int → gSt → Prop) → Prop}  {d : Nat} (hrc0 : ∀ {M : gSt} {k : Int → gSt → Prop}, rc 0 [] M k → MOi l yX9_whole cX9_whole 1 .boolean (rmR (d + 1) (d * 23 + 22)) D cl ((cI, .int) :: tys) (wR ad cI ci) tR Z [.ref (ad 0)] M k) (hrc1 : ∀ {M : gSt} {k : Int → gSt → Prop}, rc 1 [] M k → MOi l yX9_both cX9_both 1 .boolean (rmR (d + 1) (d * 23 + 22)) D cl ((cI, .int) :: tys) (wR ad cI ci) tR Z [.ref (ad 0)] M k) (hrc2 : ∀ {M : gSt} {k : Int → gSt → Prop}, rc 2 [] M k → MOi l yX9_compared cX9_compared 2 .boolean (rmR (d + 1) (d * 23 + 22)) D cl ((cI, .int) :: tys) (wR ad cI ci) tR Z [.ref (ad 0)] M k) (hrc3 : ∀ {M : gSt} {k : Int → gSt → Prop}, rc 3 [] M k → MOi l yX9_sum cX9_sum 2 .boolean (rmR (d + 1) (d * 23 + 22)) D cl ((cI, .int) :: tys) (wR ad cI ci) tR Z [.ref (ad 0)] M k) (hrc4 : ∀ {M : gSt} {k : Int → gSt → Prop}, rc 4 [] M k → MOi l yX9_product cX9_product 2 .boolean (rmR (d + 1) (d * 23 + 22)) D cl ((cI, .int) :: tys) (wR ad cI ci) tR Z [.ref (ad 0)] M k) (hrc5 : ∀ {M : gSt} {k : Int → gSt → Prop}, rc 5 [] M k → MOi l yX9_one cX9_one 4 .boolean (rmR (d + 1) (d * 23 + 22)) D cl ((cI, .int) :: tys) (wR ad cI ci) tR Z [.ref (ad 0)] M k) {M : gSt} {k : Int → gSt → Prop} (h : wb_Rsum rc  M k) : MOi l yX9_sum cX9_sum 2 .boolean (rmR (d + 1 + 1) ((d + 1) * 23 + 22)) D cl ((cI, .int) :: tys) (wR ad cI ci) tR Z [.ref (ad 0)] M k := by
  refine moi_intro (by decide +kernel) (Nat.le_of_ble_eq_true rfl) wi_155 ?_
  intro p e s m args below meth c A Q C hR
  have pB27 : ∀ (r9 : gSt → Prop) (X9_49 : gSt → Prop) (X9_60 : gSt → Prop) (hr9 : ∀  (M : gSt), r9  M → gG p l e (rmR (d + 1 + 1) ((d + 1) * 23 + 22)) s m args below meth c Q D cl A (wR ad cI ci) 2 9 [(0, .ref (ad 0))] [] M) (hX9_49 : ∀  (M : gSt), X9_49  M → gG p l e (rmR (d + 1 + 1) ((d + 1) * 23 + 22)) s m args below meth c Q D cl A (wR ad cI ci) 2 49 [] [] M) (hX9_60 : ∀  (M : gSt), X9_60  M → gG p l e (rmR (d + 1 + 1) ((d + 1) * 23 + 22)) s m args below meth c Q D cl A (wR ad cI ci) 2 60 [] [] M)  (M : gSt), wB_Rsum_27 rc  k r9 X9_49 X9_60  M → gG p l e (rmR (d + 1 + 1) ((d + 1) * 23 + 22)) s m args below meth c Q D cl A (wR ad cI ci) 2 27 [(0, .ref (ad 0))] [] M := by
    intro r9 X9_49 X9_60 hr9 hX9_49 hX9_60  M h
    unfold wB_Rsum_27 at h
    refine g_aload_n C dR_sum_27 rfl ?_
    refine g_callVi C (nargs := 0) (o := 0) (st := []) (m_Rlook hci h) rfl (by decide) hci rfl gd_look (by decide +kernel) ⟨rfl, rfl⟩ dR_sum_28 ⟨by simp only [rmR]; omega, by simp only [rmR]; omega⟩ rfl rfl (Nat.le_of_ble_eq_true rfl) ?_
    intro r28c M28 hN
    replace h := hN
    clear hN
    refine g_istore_n C dR_sum_31 (by decide) rfl ?_
    refine g_locals (lv' := [(0, .ref (ad 0)), (1, iv r28c)]) rfl ?_
    refine g_aload_n C dR_sum_32 rfl ?_
    refine g_dup C dR_sum_33 rfl ?_
    refine rf_at C hci dR_sum_34 ?_
    refine g_iconst C dR_sum_37 ?_
    refine g_iadd C dR_sum_38 ?_
    refine rp_at C hci dR_sum_39 ?_
    refine g_memname (fun M39 hM39 => ?_)
    replace h := h M39 hM39
    refine g_aload_n C dR_sum_42 rfl ?_
    refine g_callVi C (nargs := 0) (o := 0) (st := []) (hrc4 h) rfl (by decide) hci rfl gd_product (by decide +kernel) ⟨rfl, rfl⟩ dR_sum_43 ⟨by simp only [rmR]; omega, by simp only [rmR]; omega⟩ rfl rfl (Nat.le_of_ble_eq_true rfl) ?_
    intro r43c M43 hN
    replace h := hN
    clear hN
    refine g_if_ne C 51 dR_sum_46 (by decide) (fun hc => ?_) (fun hc => ?_)
    · replace h := h.1 hc
      refine g_aload_n C dR_sum_51 rfl ?_
      refine g_iconst C dR_sum_52 ?_
      refine g_iload_n C dR_sum_53 rfl ?_
      refine g_callVv C (nargs := 2) (o := 0) (st := []) (m_Rlays hci h) rfl (by decide) hci rfl gd_lays (by decide +kernel) ⟨rfl, rfl⟩ dR_sum_54 ⟨by simp only [rmR]; omega, by simp only [rmR]; omega⟩ rfl rfl (Nat.le_of_ble_eq_true rfl) ?_
      intro M54 hN
      replace h := hN
      clear hN
      refine g_goto C 9 dR_sum_57 (by decide) ?_
      refine g_locals (lv' := [(0, .ref (ad 0))]) rfl ?_
      exact hr9  _ h
    · replace h := h.2 hc
      refine g_locals (lv' := []) rfl ?_
      exact hX9_49  _ h
  have pC9 : ∀ (r9 : gSt → Prop) (X9_49 : gSt → Prop) (X9_60 : gSt → Prop) (hr9 : ∀  (M : gSt), r9  M → gG p l e (rmR (d + 1 + 1) ((d + 1) * 23 + 22)) s m args below meth c Q D cl A (wR ad cI ci) 2 9 [(0, .ref (ad 0))] [] M) (hX9_49 : ∀  (M : gSt), X9_49  M → gG p l e (rmR (d + 1 + 1) ((d + 1) * 23 + 22)) s m args below meth c Q D cl A (wR ad cI ci) 2 49 [] [] M) (hX9_60 : ∀  (M : gSt), X9_60  M → gG p l e (rmR (d + 1 + 1) ((d + 1) * 23 + 22)) s m args below meth c Q D cl A (wR ad cI ci) 2 60 [] [] M)  (M : gSt), wC_Rsum_9 rc  k r9 X9_49 X9_60  M → gG p l e (rmR (d + 1 + 1) ((d + 1) * 23 + 22)) s m args below meth c Q D cl A (wR ad cI ci) 2 9 [(0, .ref (ad 0))] [] M := by
    intro r9 X9_49 X9_60 hr9 hX9_49 hX9_60  M h
    unfold wC_Rsum_9 at h
    refine g_aload_n C dR_sum_9 rfl ?_
    refine g_callVi C (nargs := 0) (o := 0) (st := []) (m_Rlook hci h) rfl (by decide) hci rfl gd_look (by decide +kernel) ⟨rfl, rfl⟩ dR_sum_10 ⟨by simp only [rmR]; omega, by simp only [rmR]; omega⟩ rfl rfl (Nat.le_of_ble_eq_true rfl) ?_
    intro r10c M10 hN
    replace h := hN
    clear hN
    refine g_bipush C dR_sum_13 rfl ?_
    refine g_icmp_eq C 27 dR_sum_15 (by decide) (fun hc => ?_) (fun hc => ?_)
    · replace h := h.1 hc
      refine g_locals (lv' := [(0, .ref (ad 0))]) rfl ?_
      exact pB27 r9 X9_49 X9_60 hr9 hX9_49 hX9_60 _ h
    · replace h := h.2 hc
      refine g_aload_n C dR_sum_18 rfl ?_
      refine g_callVi C (nargs := 0) (o := 0) (st := []) (m_Rlook hci h) rfl (by decide) hci rfl gd_look (by decide +kernel) ⟨rfl, rfl⟩ dR_sum_19 ⟨by simp only [rmR]; omega, by simp only [rmR]; omega⟩ rfl rfl (Nat.le_of_ble_eq_true rfl) ?_
      intro r19c M19 hN
      replace h := hN
      clear hN
      refine g_bipush C dR_sum_22 rfl ?_
      refine g_icmp_ne C 60 dR_sum_24 (by decide) (fun hc => ?_) (fun hc => ?_)
      · replace h := h.1 hc
        refine g_locals (lv' := []) rfl ?_
        exact hX9_60  _ h
      · replace h := h.2 hc
        refine g_locals (lv' := [(0, .ref (ad 0))]) rfl ?_
        exact pB27 r9 X9_49 X9_60 hr9 hX9_49 hX9_60 _ h
  have pL9 : ∀  (X9_49 : gSt → Prop) (X9_60 : gSt → Prop) (hX9_49 : ∀  (M : gSt), X9_49  M → gG p l e (rmR (d + 1 + 1) ((d + 1) * 23 + 22)) s m args below meth c Q D cl A (wR ad cI ci) 2 49 [] [] M) (hX9_60 : ∀  (M : gSt), X9_60  M → gG p l e (rmR (d + 1 + 1) ((d + 1) * 23 + 22)) s m args below meth c Q D cl A (wR ad cI ci) 2 60 [] [] M) (n : Nat)  (M : gSt), wL_Rsum_9 rc  k  X9_49 X9_60 n  M → gG p l e (rmR (d + 1 + 1) ((d + 1) * 23 + 22)) s m args below meth c Q D cl A (wR ad cI ci) 2 9 [(0, .ref (ad 0))] [] M := by
    intro  X9_49 X9_60 hX9_49 hX9_60 n
    induction n with
    | zero => intro  M h; exact h.elim
    | succ n ih =>
      intro  M h
      exact pC9  (wL_Rsum_9 rc  k  X9_49 X9_60 n) X9_49 X9_60 ih hX9_49 hX9_60  M h
  refine g_locals (lv' := [(0, .ref (ad 0))]) rfl ?_
  unfold wb_Rsum at h
  refine g_aload_n C dR_sum_0 rfl ?_
  refine g_callVi C (nargs := 0) (o := 0) (st := []) (hrc4 h) rfl (by decide) hci rfl gd_product (by decide +kernel) ⟨rfl, rfl⟩ dR_sum_1 ⟨by simp only [rmR]; omega, by simp only [rmR]; omega⟩ rfl rfl (Nat.le_of_ble_eq_true rfl) ?_
  intro r1c M1 hN
  replace h := hN
  clear hN
  refine g_if_ne C 9 dR_sum_4 (by decide) (fun hc => ?_) (fun hc => ?_)
  · replace h := h.1 hc
    refine g_locals (lv' := [(0, .ref (ad 0))]) rfl ?_
    obtain ⟨n, h⟩ := h
    refine pL9 _ _ ?_ ?_ n  _ h
    · intro  M9 hN
      replace h := hN
      clear hN
      refine g_iconst C dR_sum_49 ?_
      exact hR _ _ _ _ dR_sum_50 rfl h
    · intro  M9 hN
      replace h := hN
      clear hN
      refine g_iconst C dR_sum_60 ?_
      exact hR _ _ _ _ dR_sum_61 rfl h
  · replace h := h.2 hc
    refine g_iconst C dR_sum_7 ?_
    exact hR _ _ _ _ dR_sum_8 rfl h
def wB_Rproduct_36 (rc : Nat → List Int → gSt → (Int → gSt → Prop) → Prop)  (k : Int → gSt → Prop) (r9 : gSt → Prop) (X9_58 : gSt → Prop) (X9_69 : gSt → Prop)  (M : gSt) : Prop :=
w_Rlook  M (fun r37c M37 => ∀ M48 : gSt, M48 = wr M37 0 5 ((M37 0 5) + 1) → (rc 5 [] M48 (fun r52c M52 => 
  (¬ wrap r52c = 0 →
    w_Rlays 3 r37c M52 (fun M63 => r9  M63)) ∧
  (wrap r52c = 0 →
    X9_58  M52))))
def wC_Rproduct_9 (rc : Nat → List Int → gSt → (Int → gSt → Prop) → Prop)  (k : Int → gSt → Prop) (r9 : gSt → Prop) (X9_58 : gSt → Prop) (X9_69 : gSt → Prop)  (M : gSt) : Prop :=
w_Rlook  M (fun r10c M10 => 
  (wrap r10c = 42 →
    wB_Rproduct_36 rc  k r9 X9_58 X9_69  M10) ∧
  (¬ wrap r10c = 42 →
    w_Rlook  M10 (fun r19c M19 => 
    (wrap r19c = 47 →
      wB_Rproduct_36 rc  k r9 X9_58 X9_69  M19) ∧
    (¬ wrap r19c = 47 →
      w_Rlook  M19 (fun r28c M28 => 
      (¬ wrap r28c = 37 →
        X9_69  M28) ∧
      (wrap r28c = 37 →
        wB_Rproduct_36 rc  k r9 X9_58 X9_69  M28))))))
def wL_Rproduct_9 (rc : Nat → List Int → gSt → (Int → gSt → Prop) → Prop)  (k : Int → gSt → Prop)  (X9_58 : gSt → Prop) (X9_69 : gSt → Prop) : Nat → gSt → Prop
  | 0 => fun  _ => False
  | n + 1 => fun  M => wC_Rproduct_9 rc  k  (wL_Rproduct_9 rc  k  X9_58 X9_69 n) X9_58 X9_69  M
def wb_Rproduct (rc : Nat → List Int → gSt → (Int → gSt → Prop) → Prop)  (M : gSt) (k : Int → gSt → Prop) : Prop :=
rc 5 [] M (fun r1c M1 => 
  (¬ wrap r1c = 0 →
    ∃ n, wL_Rproduct_9 rc  k  (fun  M9 =>
      k 0 M9) (fun  M9 =>
      k 1 M9) n  M1) ∧
  (wrap r1c = 0 →
    k 0 M1))
set_option maxHeartbeats 4000000 in
set_option maxRecDepth 100000 in
theorem mb_Rproduct {l : Launch} {D : va_G} {cl : List vw_C} {tys : List (ClassId × FieldType)} {ad : Nat → Nat} {cI : ClassId} {ci : Nat} {Z : (Nat → Prop) → State → Prop} (hci : cl[ci]? = some (RX9, TX9, 23)) {rc : Nat → List Int → gSt → (Int → gSt → Prop) → Prop}  {d : Nat} (hrc0 : ∀ {M : gSt} {k : Int → gSt → Prop}, rc 0 [] M k → MOi l yX9_whole cX9_whole 1 .boolean (rmR (d + 1) (d * 23 + 22)) D cl ((cI, .int) :: tys) (wR ad cI ci) tR Z [.ref (ad 0)] M k) (hrc1 : ∀ {M : gSt} {k : Int → gSt → Prop}, rc 1 [] M k → MOi l yX9_both cX9_both 1 .boolean (rmR (d + 1) (d * 23 + 22)) D cl ((cI, .int) :: tys) (wR ad cI ci) tR Z [.ref (ad 0)] M k) (hrc2 : ∀ {M : gSt} {k : Int → gSt → Prop}, rc 2 [] M k → MOi l yX9_compared cX9_compared 2 .boolean (rmR (d + 1) (d * 23 + 22)) D cl ((cI, .int) :: tys) (wR ad cI ci) tR Z [.ref (ad 0)] M k) (hrc3 : ∀ {M : gSt} {k : Int → gSt → Prop}, rc 3 [] M k → MOi l yX9_sum cX9_sum 2 .boolean (rmR (d + 1) (d * 23 + 22)) D cl ((cI, .int) :: tys) (wR ad cI ci) tR Z [.ref (ad 0)] M k) (hrc4 : ∀ {M : gSt} {k : Int → gSt → Prop}, rc 4 [] M k → MOi l yX9_product cX9_product 2 .boolean (rmR (d + 1) (d * 23 + 22)) D cl ((cI, .int) :: tys) (wR ad cI ci) tR Z [.ref (ad 0)] M k) (hrc5 : ∀ {M : gSt} {k : Int → gSt → Prop}, rc 5 [] M k → MOi l yX9_one cX9_one 4 .boolean (rmR (d + 1) (d * 23 + 22)) D cl ((cI, .int) :: tys) (wR ad cI ci) tR Z [.ref (ad 0)] M k) {M : gSt} {k : Int → gSt → Prop} (h : wb_Rproduct rc  M k) : MOi l yX9_product cX9_product 2 .boolean (rmR (d + 1 + 1) ((d + 1) * 23 + 22)) D cl ((cI, .int) :: tys) (wR ad cI ci) tR Z [.ref (ad 0)] M k := by
  refine moi_intro (by decide +kernel) (Nat.le_of_ble_eq_true rfl) wi_154 ?_
  intro p e s m args below meth c A Q C hR
  have pB36 : ∀ (r9 : gSt → Prop) (X9_58 : gSt → Prop) (X9_69 : gSt → Prop) (hr9 : ∀  (M : gSt), r9  M → gG p l e (rmR (d + 1 + 1) ((d + 1) * 23 + 22)) s m args below meth c Q D cl A (wR ad cI ci) 2 9 [(0, .ref (ad 0))] [] M) (hX9_58 : ∀  (M : gSt), X9_58  M → gG p l e (rmR (d + 1 + 1) ((d + 1) * 23 + 22)) s m args below meth c Q D cl A (wR ad cI ci) 2 58 [] [] M) (hX9_69 : ∀  (M : gSt), X9_69  M → gG p l e (rmR (d + 1 + 1) ((d + 1) * 23 + 22)) s m args below meth c Q D cl A (wR ad cI ci) 2 69 [] [] M)  (M : gSt), wB_Rproduct_36 rc  k r9 X9_58 X9_69  M → gG p l e (rmR (d + 1 + 1) ((d + 1) * 23 + 22)) s m args below meth c Q D cl A (wR ad cI ci) 2 36 [(0, .ref (ad 0))] [] M := by
    intro r9 X9_58 X9_69 hr9 hX9_58 hX9_69  M h
    unfold wB_Rproduct_36 at h
    refine g_aload_n C dR_product_36 rfl ?_
    refine g_callVi C (nargs := 0) (o := 0) (st := []) (m_Rlook hci h) rfl (by decide) hci rfl gd_look (by decide +kernel) ⟨rfl, rfl⟩ dR_product_37 ⟨by simp only [rmR]; omega, by simp only [rmR]; omega⟩ rfl rfl (Nat.le_of_ble_eq_true rfl) ?_
    intro r37c M37 hN
    replace h := hN
    clear hN
    refine g_istore_n C dR_product_40 (by decide) rfl ?_
    refine g_locals (lv' := [(0, .ref (ad 0)), (1, iv r37c)]) rfl ?_
    refine g_aload_n C dR_product_41 rfl ?_
    refine g_dup C dR_product_42 rfl ?_
    refine rf_at C hci dR_product_43 ?_
    refine g_iconst C dR_product_46 ?_
    refine g_iadd C dR_product_47 ?_
    refine rp_at C hci dR_product_48 ?_
    refine g_memname (fun M48 hM48 => ?_)
    replace h := h M48 hM48
    refine g_aload_n C dR_product_51 rfl ?_
    refine g_callVi C (nargs := 0) (o := 0) (st := []) (hrc5 h) rfl (by decide) hci rfl gd_one (by decide +kernel) ⟨rfl, rfl⟩ dR_product_52 ⟨by simp only [rmR]; omega, by simp only [rmR]; omega⟩ rfl rfl (Nat.le_of_ble_eq_true rfl) ?_
    intro r52c M52 hN
    replace h := hN
    clear hN
    refine g_if_ne C 60 dR_product_55 (by decide) (fun hc => ?_) (fun hc => ?_)
    · replace h := h.1 hc
      refine g_aload_n C dR_product_60 rfl ?_
      refine g_iconst C dR_product_61 ?_
      refine g_iload_n C dR_product_62 rfl ?_
      refine g_callVv C (nargs := 2) (o := 0) (st := []) (m_Rlays hci h) rfl (by decide) hci rfl gd_lays (by decide +kernel) ⟨rfl, rfl⟩ dR_product_63 ⟨by simp only [rmR]; omega, by simp only [rmR]; omega⟩ rfl rfl (Nat.le_of_ble_eq_true rfl) ?_
      intro M63 hN
      replace h := hN
      clear hN
      refine g_goto C 9 dR_product_66 (by decide) ?_
      refine g_locals (lv' := [(0, .ref (ad 0))]) rfl ?_
      exact hr9  _ h
    · replace h := h.2 hc
      refine g_locals (lv' := []) rfl ?_
      exact hX9_58  _ h
  have pC9 : ∀ (r9 : gSt → Prop) (X9_58 : gSt → Prop) (X9_69 : gSt → Prop) (hr9 : ∀  (M : gSt), r9  M → gG p l e (rmR (d + 1 + 1) ((d + 1) * 23 + 22)) s m args below meth c Q D cl A (wR ad cI ci) 2 9 [(0, .ref (ad 0))] [] M) (hX9_58 : ∀  (M : gSt), X9_58  M → gG p l e (rmR (d + 1 + 1) ((d + 1) * 23 + 22)) s m args below meth c Q D cl A (wR ad cI ci) 2 58 [] [] M) (hX9_69 : ∀  (M : gSt), X9_69  M → gG p l e (rmR (d + 1 + 1) ((d + 1) * 23 + 22)) s m args below meth c Q D cl A (wR ad cI ci) 2 69 [] [] M)  (M : gSt), wC_Rproduct_9 rc  k r9 X9_58 X9_69  M → gG p l e (rmR (d + 1 + 1) ((d + 1) * 23 + 22)) s m args below meth c Q D cl A (wR ad cI ci) 2 9 [(0, .ref (ad 0))] [] M := by
    intro r9 X9_58 X9_69 hr9 hX9_58 hX9_69  M h
    unfold wC_Rproduct_9 at h
    refine g_aload_n C dR_product_9 rfl ?_
    refine g_callVi C (nargs := 0) (o := 0) (st := []) (m_Rlook hci h) rfl (by decide) hci rfl gd_look (by decide +kernel) ⟨rfl, rfl⟩ dR_product_10 ⟨by simp only [rmR]; omega, by simp only [rmR]; omega⟩ rfl rfl (Nat.le_of_ble_eq_true rfl) ?_
    intro r10c M10 hN
    replace h := hN
    clear hN
    refine g_bipush C dR_product_13 rfl ?_
    refine g_icmp_eq C 36 dR_product_15 (by decide) (fun hc => ?_) (fun hc => ?_)
    · replace h := h.1 hc
      refine g_locals (lv' := [(0, .ref (ad 0))]) rfl ?_
      exact pB36 r9 X9_58 X9_69 hr9 hX9_58 hX9_69 _ h
    · replace h := h.2 hc
      refine g_aload_n C dR_product_18 rfl ?_
      refine g_callVi C (nargs := 0) (o := 0) (st := []) (m_Rlook hci h) rfl (by decide) hci rfl gd_look (by decide +kernel) ⟨rfl, rfl⟩ dR_product_19 ⟨by simp only [rmR]; omega, by simp only [rmR]; omega⟩ rfl rfl (Nat.le_of_ble_eq_true rfl) ?_
      intro r19c M19 hN
      replace h := hN
      clear hN
      refine g_bipush C dR_product_22 rfl ?_
      refine g_icmp_eq C 36 dR_product_24 (by decide) (fun hc => ?_) (fun hc => ?_)
      · replace h := h.1 hc
        refine g_locals (lv' := [(0, .ref (ad 0))]) rfl ?_
        exact pB36 r9 X9_58 X9_69 hr9 hX9_58 hX9_69 _ h
      · replace h := h.2 hc
        refine g_aload_n C dR_product_27 rfl ?_
        refine g_callVi C (nargs := 0) (o := 0) (st := []) (m_Rlook hci h) rfl (by decide) hci rfl gd_look (by decide +kernel) ⟨rfl, rfl⟩ dR_product_28 ⟨by simp only [rmR]; omega, by simp only [rmR]; omega⟩ rfl rfl (Nat.le_of_ble_eq_true rfl) ?_
        intro r28c M28 hN
        replace h := hN
        clear hN
        refine g_bipush C dR_product_31 rfl ?_
        refine g_icmp_ne C 69 dR_product_33 (by decide) (fun hc => ?_) (fun hc => ?_)
        · replace h := h.1 hc
          refine g_locals (lv' := []) rfl ?_
          exact hX9_69  _ h
        · replace h := h.2 hc
          refine g_locals (lv' := [(0, .ref (ad 0))]) rfl ?_
          exact pB36 r9 X9_58 X9_69 hr9 hX9_58 hX9_69 _ h
  have pL9 : ∀  (X9_58 : gSt → Prop) (X9_69 : gSt → Prop) (hX9_58 : ∀  (M : gSt), X9_58  M → gG p l e (rmR (d + 1 + 1) ((d + 1) * 23 + 22)) s m args below meth c Q D cl A (wR ad cI ci) 2 58 [] [] M) (hX9_69 : ∀  (M : gSt), X9_69  M → gG p l e (rmR (d + 1 + 1) ((d + 1) * 23 + 22)) s m args below meth c Q D cl A (wR ad cI ci) 2 69 [] [] M) (n : Nat)  (M : gSt), wL_Rproduct_9 rc  k  X9_58 X9_69 n  M → gG p l e (rmR (d + 1 + 1) ((d + 1) * 23 + 22)) s m args below meth c Q D cl A (wR ad cI ci) 2 9 [(0, .ref (ad 0))] [] M := by
    intro  X9_58 X9_69 hX9_58 hX9_69 n
    induction n with
    | zero => intro  M h; exact h.elim
    | succ n ih =>
      intro  M h
      exact pC9  (wL_Rproduct_9 rc  k  X9_58 X9_69 n) X9_58 X9_69 ih hX9_58 hX9_69  M h
  refine g_locals (lv' := [(0, .ref (ad 0))]) rfl ?_
  unfold wb_Rproduct at h
  refine g_aload_n C dR_product_0 rfl ?_
  refine g_callVi C (nargs := 0) (o := 0) (st := []) (hrc5 h) rfl (by decide) hci rfl gd_one (by decide +kernel) ⟨rfl, rfl⟩ dR_product_1 ⟨by simp only [rmR]; omega, by simp only [rmR]; omega⟩ rfl rfl (Nat.le_of_ble_eq_true rfl) ?_
  intro r1c M1 hN
  replace h := hN
  clear hN
  refine g_if_ne C 9 dR_product_4 (by decide) (fun hc => ?_) (fun hc => ?_)
  · replace h := h.1 hc
    refine g_locals (lv' := [(0, .ref (ad 0))]) rfl ?_
    obtain ⟨n, h⟩ := h
    refine pL9 _ _ ?_ ?_ n  _ h
    · intro  M9 hN
      replace h := hN
      clear hN
      refine g_iconst C dR_product_58 ?_
      exact hR _ _ _ _ dR_product_59 rfl h
    · intro  M9 hN
      replace h := hN
      clear hN
      refine g_iconst C dR_product_69 ?_
      exact hR _ _ _ _ dR_product_70 rfl h
  · replace h := h.2 hc
    refine g_iconst C dR_product_7 ?_
    exact hR _ _ _ _ dR_product_8 rfl h
def wC_Rone_46 (rc : Nat → List Int → gSt → (Int → gSt → Prop) → Prop)  (k : Int → gSt → Prop) (r46 : Int → Int → gSt → Prop) (X46_94 : Int → gSt → Prop) (v2 : Int) (v3 : Int) (M : gSt) : Prop :=

  (4 ≤ wrap v3 →
    X46_94 v2 M) ∧
  (wrap v3 < 4 →
    w_Rlook  M (fun r52c M52 => w_Rin r52c 48 57 M52 (fun r59c M59 => 
    (wrap r59c = 0 →
      X46_94 v2 M59) ∧
    (¬ wrap r59c = 0 →
      w_Rlook  M59 (fun r70c M70 => ∀ x2_77 : Int, x2_77 = ((10 * v2) + r70c) - 48 → (∀ M85 : gSt, M85 = wr M70 0 5 ((M70 0 5) + 1) → (r46 x2_77 (v3 + 1) M85)))))))
def wL_Rone_46 (rc : Nat → List Int → gSt → (Int → gSt → Prop) → Prop)  (k : Int → gSt → Prop)  (X46_94 : Int → gSt → Prop) : Nat → Int → Int → gSt → Prop
  | 0 => fun _ _ _ => False
  | n + 1 => fun v2 v3 M => wC_Rone_46 rc  k  (wL_Rone_46 rc  k  X46_94 n) X46_94 v2 v3 M
def wB_Rone_94 (rc : Nat → List Int → gSt → (Int → gSt → Prop) → Prop)  (k : Int → gSt → Prop)  (v2 : Int) (M : gSt) : Prop :=
w_Rlays 0 v2 M (fun M97 => k 1 M97)
def wb_Rone (rc : Nat → List Int → gSt → (Int → gSt → Prop) → Prop)  (M : gSt) (k : Int → gSt → Prop) : Prop :=
w_Rlook  M (fun r1c M1 => w_RisName r1c M1 (fun r7c M7 => 
  (wrap r7c = 0 →
    w_Rin r1c 48 57 M7 (fun r36c M36 => 
    (wrap r36c = 0 →

      (¬ wrap r1c = 33 →

        (¬ wrap r1c = 40 →
          k 0 M36) ∧
        (wrap r1c = 40 →
          w_Ropens  M36 (fun r149c M149 => 
          (wrap r149c = 0 →
            k 0 M149) ∧
          (¬ wrap r149c = 0 →
            rc 0 [] M149 (fun r156c M156 => 
            (wrap r156c = 0 →
              k 0 M156) ∧
            (¬ wrap r156c = 0 →
              w_Rlook  M156 (fun r163c M163 => 
              (wrap r163c = 41 →
                ∀ M180 : gSt, M180 = wr M163 0 5 ((M163 0 5) + 1) → (∀ M190 : gSt, M190 = wr M180 0 6 ((M180 0 6) - 1) → (k 1 M190))) ∧
              (¬ wrap r163c = 41 →
                k 0 M163)))))))) ∧
      (wrap r1c = 33 →
        w_Ropens  M36 (fun r109c M109 => 
        (wrap r109c = 0 →
          k 0 M109) ∧
        (¬ wrap r109c = 0 →
          rc 5 [] M109 (fun r116c M116 => 
          (¬ wrap r116c = 0 →
            ∀ M131 : gSt, M131 = wr M116 0 6 ((M116 0 6) - 1) → (w_Rlays 2 0 M131 (fun M137 => k 1 M137))) ∧
          (wrap r116c = 0 →
            k 0 M116)))))) ∧
    (¬ wrap r36c = 0 →
      ∃ n, wL_Rone_46 rc  k  (fun u2_46 M46 =>
        wB_Rone_94 rc  k  u2_46 M46) n 0 0 M36))) ∧
  (¬ wrap r7c = 0 →
    ∀ M20 : gSt, M20 = wr M7 0 5 ((M7 0 5) + 1) → (w_Rlays 1 r1c M20 (fun M26 => k 1 M26)))))
set_option maxHeartbeats 4000000 in
set_option maxRecDepth 100000 in
theorem mb_Rone {l : Launch} {D : va_G} {cl : List vw_C} {tys : List (ClassId × FieldType)} {ad : Nat → Nat} {cI : ClassId} {ci : Nat} {Z : (Nat → Prop) → State → Prop} (hci : cl[ci]? = some (RX9, TX9, 23)) {rc : Nat → List Int → gSt → (Int → gSt → Prop) → Prop}  {d : Nat} (hrc0 : ∀ {M : gSt} {k : Int → gSt → Prop}, rc 0 [] M k → MOi l yX9_whole cX9_whole 1 .boolean (rmR (d + 1) (d * 23 + 22)) D cl ((cI, .int) :: tys) (wR ad cI ci) tR Z [.ref (ad 0)] M k) (hrc1 : ∀ {M : gSt} {k : Int → gSt → Prop}, rc 1 [] M k → MOi l yX9_both cX9_both 1 .boolean (rmR (d + 1) (d * 23 + 22)) D cl ((cI, .int) :: tys) (wR ad cI ci) tR Z [.ref (ad 0)] M k) (hrc2 : ∀ {M : gSt} {k : Int → gSt → Prop}, rc 2 [] M k → MOi l yX9_compared cX9_compared 2 .boolean (rmR (d + 1) (d * 23 + 22)) D cl ((cI, .int) :: tys) (wR ad cI ci) tR Z [.ref (ad 0)] M k) (hrc3 : ∀ {M : gSt} {k : Int → gSt → Prop}, rc 3 [] M k → MOi l yX9_sum cX9_sum 2 .boolean (rmR (d + 1) (d * 23 + 22)) D cl ((cI, .int) :: tys) (wR ad cI ci) tR Z [.ref (ad 0)] M k) (hrc4 : ∀ {M : gSt} {k : Int → gSt → Prop}, rc 4 [] M k → MOi l yX9_product cX9_product 2 .boolean (rmR (d + 1) (d * 23 + 22)) D cl ((cI, .int) :: tys) (wR ad cI ci) tR Z [.ref (ad 0)] M k) (hrc5 : ∀ {M : gSt} {k : Int → gSt → Prop}, rc 5 [] M k → MOi l yX9_one cX9_one 4 .boolean (rmR (d + 1) (d * 23 + 22)) D cl ((cI, .int) :: tys) (wR ad cI ci) tR Z [.ref (ad 0)] M k) {M : gSt} {k : Int → gSt → Prop} (h : wb_Rone rc  M k) : MOi l yX9_one cX9_one 4 .boolean (rmR (d + 1 + 1) ((d + 1) * 23 + 22)) D cl ((cI, .int) :: tys) (wR ad cI ci) tR Z [.ref (ad 0)] M k := by
  refine moi_intro (by decide +kernel) (Nat.le_of_ble_eq_true rfl) wi_141 ?_
  intro p e s m args below meth c A Q C hR
  have pC46 : ∀ (r46 : Int → Int → gSt → Prop) (X46_94 : Int → gSt → Prop) (hr46 : ∀ (v2 : Int) (v3 : Int) (M : gSt), r46 v2 v3 M → gG p l e (rmR (d + 1 + 1) ((d + 1) * 23 + 22)) s m args below meth c Q D cl A (wR ad cI ci) 4 46 [(0, .ref (ad 0)), (2, iv v2), (3, iv v3)] [] M) (hX46_94 : ∀ (v2 : Int) (M : gSt), X46_94 v2 M → gG p l e (rmR (d + 1 + 1) ((d + 1) * 23 + 22)) s m args below meth c Q D cl A (wR ad cI ci) 4 94 [(0, .ref (ad 0)), (2, iv v2)] [] M) (v2 : Int) (v3 : Int) (M : gSt), wC_Rone_46 rc  k r46 X46_94 v2 v3 M → gG p l e (rmR (d + 1 + 1) ((d + 1) * 23 + 22)) s m args below meth c Q D cl A (wR ad cI ci) 4 46 [(0, .ref (ad 0)), (2, iv v2), (3, iv v3)] [] M := by
    intro r46 X46_94 hr46 hX46_94 v2 v3 M h
    unfold wC_Rone_46 at h
    refine g_iload_n C dR_one_46 rfl ?_
    refine g_iconst C dR_one_47 ?_
    refine g_icmp_ge C 94 dR_one_48 (by decide) (fun hc => ?_) (fun hc => ?_)
    · replace h := h.1 hc
      refine g_locals (lv' := [(0, .ref (ad 0)), (2, iv v2)]) rfl ?_
      exact hX46_94 _  _ h
    · replace h := h.2 hc
      refine g_aload_n C dR_one_51 rfl ?_
      refine g_callVi C (nargs := 0) (o := 0) (st := []) (m_Rlook hci h) rfl (by decide) hci rfl gd_look (by decide +kernel) ⟨rfl, rfl⟩ dR_one_52 ⟨by simp only [rmR]; omega, by simp only [rmR]; omega⟩ rfl rfl (Nat.le_of_ble_eq_true rfl) ?_
      intro r52c M52 hN
      replace h := hN
      clear hN
      refine g_bipush C dR_one_55 rfl ?_
      refine g_bipush C dR_one_57 rfl ?_
      refine g_callSi C (nargs := 3) (st := []) (m_Rin hci h) gd_in (by decide +kernel) ⟨rfl, rfl⟩ dR_one_59 ⟨by simp only [rmR]; omega, by simp only [rmR]; omega⟩ rfl rfl (Nat.le_of_ble_eq_true rfl) ?_
      intro r59c M59 hN
      replace h := hN
      clear hN
      refine g_if_eq C 94 dR_one_62 (by decide) (fun hc => ?_) (fun hc => ?_)
      · replace h := h.1 hc
        refine g_locals (lv' := [(0, .ref (ad 0)), (2, iv v2)]) rfl ?_
        exact hX46_94 _  _ h
      · replace h := h.2 hc
        refine g_bipush C dR_one_65 rfl ?_
        refine g_iload_n C dR_one_67 rfl ?_
        refine g_imul C dR_one_68 ?_
        refine g_aload_n C dR_one_69 rfl ?_
        refine g_callVi C (nargs := 0) (o := 0) (st := [iv (10 * v2)]) (m_Rlook hci h) rfl (by decide) hci rfl gd_look (by decide +kernel) ⟨rfl, rfl⟩ dR_one_70 ⟨by simp only [rmR]; omega, by simp only [rmR]; omega⟩ rfl rfl (Nat.le_of_ble_eq_true rfl) ?_
        intro r70c M70 hN
        replace h := hN
        clear hN
        refine g_iadd C dR_one_73 ?_
        refine g_bipush C dR_one_74 rfl ?_
        refine g_isub C dR_one_76 ?_
        refine g_name (fun x2_77 hx2_77 => ?_)
        replace h := h x2_77 hx2_77
        refine g_istore_n C dR_one_77 (by decide) rfl ?_
        refine g_locals (lv' := [(0, .ref (ad 0)), (2, iv x2_77), (3, iv v3)]) rfl ?_
        refine g_aload_n C dR_one_78 rfl ?_
        refine g_dup C dR_one_79 rfl ?_
        refine rf_at C hci dR_one_80 ?_
        refine g_iconst C dR_one_83 ?_
        refine g_iadd C dR_one_84 ?_
        refine rp_at C hci dR_one_85 ?_
        refine g_memname (fun M85 hM85 => ?_)
        replace h := h M85 hM85
        refine g_iinc C dR_one_88 rfl (by decide) rfl ?_
        refine g_locals (lv' := [(0, .ref (ad 0)), (2, iv x2_77), (3, iv (v3 + 1))]) rfl ?_
        refine g_goto C 46 dR_one_91 (by decide) ?_
        refine g_locals (lv' := [(0, .ref (ad 0)), (2, iv x2_77), (3, iv (v3 + 1))]) rfl ?_
        exact hr46 _ _  _ h
  have pL46 : ∀  (X46_94 : Int → gSt → Prop) (hX46_94 : ∀ (v2 : Int) (M : gSt), X46_94 v2 M → gG p l e (rmR (d + 1 + 1) ((d + 1) * 23 + 22)) s m args below meth c Q D cl A (wR ad cI ci) 4 94 [(0, .ref (ad 0)), (2, iv v2)] [] M) (n : Nat) (v2 : Int) (v3 : Int) (M : gSt), wL_Rone_46 rc  k  X46_94 n v2 v3 M → gG p l e (rmR (d + 1 + 1) ((d + 1) * 23 + 22)) s m args below meth c Q D cl A (wR ad cI ci) 4 46 [(0, .ref (ad 0)), (2, iv v2), (3, iv v3)] [] M := by
    intro  X46_94 hX46_94 n
    induction n with
    | zero => intro v2 v3 M h; exact h.elim
    | succ n ih =>
      intro v2 v3 M h
      exact pC46  (wL_Rone_46 rc  k  X46_94 n) X46_94 ih hX46_94 v2 v3 M h
  have pB94 : ∀   (v2 : Int) (M : gSt), wB_Rone_94 rc  k  v2 M → gG p l e (rmR (d + 1 + 1) ((d + 1) * 23 + 22)) s m args below meth c Q D cl A (wR ad cI ci) 4 94 [(0, .ref (ad 0)), (2, iv v2)] [] M := by
    intro   v2 M h
    unfold wB_Rone_94 at h
    refine g_aload_n C dR_one_94 rfl ?_
    refine g_iconst C dR_one_95 ?_
    refine g_iload_n C dR_one_96 rfl ?_
    refine g_callVv C (nargs := 2) (o := 0) (st := []) (m_Rlays hci h) rfl (by decide) hci rfl gd_lays (by decide +kernel) ⟨rfl, rfl⟩ dR_one_97 ⟨by simp only [rmR]; omega, by simp only [rmR]; omega⟩ rfl rfl (Nat.le_of_ble_eq_true rfl) ?_
    intro M97 hN
    replace h := hN
    clear hN
    refine g_iconst C dR_one_100 ?_
    exact hR _ _ _ _ dR_one_101 rfl h
  refine g_locals (lv' := [(0, .ref (ad 0))]) rfl ?_
  unfold wb_Rone at h
  refine g_aload_n C dR_one_0 rfl ?_
  refine g_callVi C (nargs := 0) (o := 0) (st := []) (m_Rlook hci h) rfl (by decide) hci rfl gd_look (by decide +kernel) ⟨rfl, rfl⟩ dR_one_1 ⟨by simp only [rmR]; omega, by simp only [rmR]; omega⟩ rfl rfl (Nat.le_of_ble_eq_true rfl) ?_
  intro r1c M1 hN
  replace h := hN
  clear hN
  refine g_istore_n C dR_one_4 (by decide) rfl ?_
  refine g_locals (lv' := [(0, .ref (ad 0)), (1, iv r1c)]) rfl ?_
  refine g_aload_n C dR_one_5 rfl ?_
  refine g_iload_n C dR_one_6 rfl ?_
  refine g_callVi C (nargs := 1) (o := 0) (st := []) (m_RisName hci h) rfl (by decide) hci rfl gd_isName (by decide +kernel) ⟨rfl, rfl⟩ dR_one_7 ⟨by simp only [rmR]; omega, by simp only [rmR]; omega⟩ rfl rfl (Nat.le_of_ble_eq_true rfl) ?_
  intro r7c M7 hN
  replace h := hN
  clear hN
  refine g_if_eq C 31 dR_one_10 (by decide) (fun hc => ?_) (fun hc => ?_)
  · replace h := h.1 hc
    refine g_iload_n C dR_one_31 rfl ?_
    refine g_bipush C dR_one_32 rfl ?_
    refine g_bipush C dR_one_34 rfl ?_
    refine g_callSi C (nargs := 3) (st := []) (m_Rin hci h) gd_in (by decide +kernel) ⟨rfl, rfl⟩ dR_one_36 ⟨by simp only [rmR]; omega, by simp only [rmR]; omega⟩ rfl rfl (Nat.le_of_ble_eq_true rfl) ?_
    intro r36c M36 hN
    replace h := hN
    clear hN
    refine g_if_eq C 102 dR_one_39 (by decide) (fun hc => ?_) (fun hc => ?_)
    · replace h := h.1 hc
      refine g_iload_n C dR_one_102 rfl ?_
      refine g_bipush C dR_one_103 rfl ?_
      refine g_icmp_ne C 142 dR_one_105 (by decide) (fun hc => ?_) (fun hc => ?_)
      · replace h := h.1 hc
        refine g_iload_n C dR_one_142 rfl ?_
        refine g_bipush C dR_one_143 rfl ?_
        refine g_icmp_ne C 171 dR_one_145 (by decide) (fun hc => ?_) (fun hc => ?_)
        · replace h := h.1 hc
          refine g_iconst C dR_one_171 ?_
          exact hR _ _ _ _ dR_one_172 rfl h
        · replace h := h.2 hc
          refine g_aload_n C dR_one_148 rfl ?_
          refine g_callVi C (nargs := 0) (o := 0) (st := []) (m_Ropens hci h) rfl (by decide) hci rfl gd_opens (by decide +kernel) ⟨rfl, rfl⟩ dR_one_149 ⟨by simp only [rmR]; omega, by simp only [rmR]; omega⟩ rfl rfl (Nat.le_of_ble_eq_true rfl) ?_
          intro r149c M149 hN
          replace h := hN
          clear hN
          refine g_if_eq C 171 dR_one_152 (by decide) (fun hc => ?_) (fun hc => ?_)
          · replace h := h.1 hc
            refine g_iconst C dR_one_171 ?_
            exact hR _ _ _ _ dR_one_172 rfl h
          · replace h := h.2 hc
            refine g_aload_n C dR_one_155 rfl ?_
            refine g_callVi C (nargs := 0) (o := 0) (st := []) (hrc0 h) rfl (by decide) hci rfl gd_whole (by decide +kernel) ⟨rfl, rfl⟩ dR_one_156 ⟨by simp only [rmR]; omega, by simp only [rmR]; omega⟩ rfl rfl (Nat.le_of_ble_eq_true rfl) ?_
            intro r156c M156 hN
            replace h := hN
            clear hN
            refine g_if_eq C 171 dR_one_159 (by decide) (fun hc => ?_) (fun hc => ?_)
            · replace h := h.1 hc
              refine g_iconst C dR_one_171 ?_
              exact hR _ _ _ _ dR_one_172 rfl h
            · replace h := h.2 hc
              refine g_aload_n C dR_one_162 rfl ?_
              refine g_callVi C (nargs := 0) (o := 0) (st := []) (m_Rlook hci h) rfl (by decide) hci rfl gd_look (by decide +kernel) ⟨rfl, rfl⟩ dR_one_163 ⟨by simp only [rmR]; omega, by simp only [rmR]; omega⟩ rfl rfl (Nat.le_of_ble_eq_true rfl) ?_
              intro r163c M163 hN
              replace h := hN
              clear hN
              refine g_bipush C dR_one_166 rfl ?_
              refine g_icmp_eq C 173 dR_one_168 (by decide) (fun hc => ?_) (fun hc => ?_)
              · replace h := h.1 hc
                refine g_aload_n C dR_one_173 rfl ?_
                refine g_dup C dR_one_174 rfl ?_
                refine rf_at C hci dR_one_175 ?_
                refine g_iconst C dR_one_178 ?_
                refine g_iadd C dR_one_179 ?_
                refine rp_at C hci dR_one_180 ?_
                refine g_memname (fun M180 hM180 => ?_)
                replace h := h M180 hM180
                refine g_aload_n C dR_one_183 rfl ?_
                refine g_dup C dR_one_184 rfl ?_
                refine rf_open C hci dR_one_185 ?_
                refine g_iconst C dR_one_188 ?_
                refine g_isub C dR_one_189 ?_
                refine rp_open C hci dR_one_190 ?_
                refine g_memname (fun M190 hM190 => ?_)
                replace h := h M190 hM190
                refine g_iconst C dR_one_193 ?_
                exact hR _ _ _ _ dR_one_194 rfl h
              · replace h := h.2 hc
                refine g_iconst C dR_one_171 ?_
                exact hR _ _ _ _ dR_one_172 rfl h
      · replace h := h.2 hc
        refine g_aload_n C dR_one_108 rfl ?_
        refine g_callVi C (nargs := 0) (o := 0) (st := []) (m_Ropens hci h) rfl (by decide) hci rfl gd_opens (by decide +kernel) ⟨rfl, rfl⟩ dR_one_109 ⟨by simp only [rmR]; omega, by simp only [rmR]; omega⟩ rfl rfl (Nat.le_of_ble_eq_true rfl) ?_
        intro r109c M109 hN
        replace h := hN
        clear hN
        refine g_if_eq C 122 dR_one_112 (by decide) (fun hc => ?_) (fun hc => ?_)
        · replace h := h.1 hc
          refine g_iconst C dR_one_122 ?_
          exact hR _ _ _ _ dR_one_123 rfl h
        · replace h := h.2 hc
          refine g_aload_n C dR_one_115 rfl ?_
          refine g_callVi C (nargs := 0) (o := 0) (st := []) (hrc5 h) rfl (by decide) hci rfl gd_one (by decide +kernel) ⟨rfl, rfl⟩ dR_one_116 ⟨by simp only [rmR]; omega, by simp only [rmR]; omega⟩ rfl rfl (Nat.le_of_ble_eq_true rfl) ?_
          intro r116c M116 hN
          replace h := hN
          clear hN
          refine g_if_ne C 124 dR_one_119 (by decide) (fun hc => ?_) (fun hc => ?_)
          · replace h := h.1 hc
            refine g_aload_n C dR_one_124 rfl ?_
            refine g_dup C dR_one_125 rfl ?_
            refine rf_open C hci dR_one_126 ?_
            refine g_iconst C dR_one_129 ?_
            refine g_isub C dR_one_130 ?_
            refine rp_open C hci dR_one_131 ?_
            refine g_memname (fun M131 hM131 => ?_)
            replace h := h M131 hM131
            refine g_aload_n C dR_one_134 rfl ?_
            refine g_iconst C dR_one_135 ?_
            refine g_iconst C dR_one_136 ?_
            refine g_callVv C (nargs := 2) (o := 0) (st := []) (m_Rlays hci h) rfl (by decide) hci rfl gd_lays (by decide +kernel) ⟨rfl, rfl⟩ dR_one_137 ⟨by simp only [rmR]; omega, by simp only [rmR]; omega⟩ rfl rfl (Nat.le_of_ble_eq_true rfl) ?_
            intro M137 hN
            replace h := hN
            clear hN
            refine g_iconst C dR_one_140 ?_
            exact hR _ _ _ _ dR_one_141 rfl h
          · replace h := h.2 hc
            refine g_iconst C dR_one_122 ?_
            exact hR _ _ _ _ dR_one_123 rfl h
    · replace h := h.2 hc
      refine g_iconst C dR_one_42 ?_
      refine g_istore_n C dR_one_43 (by decide) rfl ?_
      refine g_locals (lv' := [(0, .ref (ad 0)), (1, iv r1c), (2, iv 0)]) rfl ?_
      refine g_iconst C dR_one_44 ?_
      refine g_istore_n C dR_one_45 (by decide) rfl ?_
      refine g_locals (lv' := [(0, .ref (ad 0)), (1, iv r1c), (2, iv 0), (3, iv 0)]) rfl ?_
      refine g_locals (lv' := [(0, .ref (ad 0)), (2, iv 0), (3, iv 0)]) rfl ?_
      obtain ⟨n, h⟩ := h
      refine pL46 _ ?_ n _ _ _ h
      · intro u2_46 M46 hN
        replace h := hN
        clear hN
        refine g_locals (lv' := [(0, .ref (ad 0)), (2, iv u2_46)]) rfl ?_
        exact pB94 _ _ h
  · replace h := h.2 hc
    refine g_aload_n C dR_one_13 rfl ?_
    refine g_dup C dR_one_14 rfl ?_
    refine rf_at C hci dR_one_15 ?_
    refine g_iconst C dR_one_18 ?_
    refine g_iadd C dR_one_19 ?_
    refine rp_at C hci dR_one_20 ?_
    refine g_memname (fun M20 hM20 => ?_)
    replace h := h M20 hM20
    refine g_aload_n C dR_one_23 rfl ?_
    refine g_iconst C dR_one_24 ?_
    refine g_iload_n C dR_one_25 rfl ?_
    refine g_callVv C (nargs := 2) (o := 0) (st := []) (m_Rlays hci h) rfl (by decide) hci rfl gd_lays (by decide +kernel) ⟨rfl, rfl⟩ dR_one_26 ⟨by simp only [rmR]; omega, by simp only [rmR]; omega⟩ rfl rfl (Nat.le_of_ble_eq_true rfl) ?_
    intro M26 hN
    replace h := hN
    clear hN
    refine g_iconst C dR_one_29 ?_
    exact hR _ _ _ _ dR_one_30 rfl h
def wg_Rparse : Nat → Nat → List Int → gSt → (Int → gSt → Prop) → Prop
  | 0 => fun _ _ _ _ => False
  | d + 1 => fun i xs M k => match i, xs with
    | 0, [] => wb_Rwhole (wg_Rparse d)  M k
    | 1, [] => wb_Rboth (wg_Rparse d)  M k
    | 2, [] => wb_Rcompared (wg_Rparse d)  M k
    | 3, [] => wb_Rsum (wg_Rparse d)  M k
    | 4, [] => wb_Rproduct (wg_Rparse d)  M k
    | 5, [] => wb_Rone (wg_Rparse d)  M k
    | _, _ => False
theorem mg_Rparse {l : Launch} {D : va_G} {cl : List vw_C} {tys : List (ClassId × FieldType)} {ad : Nat → Nat} {cI : ClassId} {ci : Nat} {Z : (Nat → Prop) → State → Prop} (hci : cl[ci]? = some (RX9, TX9, 23)) (d : Nat) : (∀ {M : gSt} {k : Int → gSt → Prop}, wg_Rparse d 0 [] M k → MOi l yX9_whole cX9_whole 1 .boolean (rmR (d + 1) (d * 23 + 22)) D cl ((cI, .int) :: tys) (wR ad cI ci) tR Z [.ref (ad 0)] M k) ∧ (∀ {M : gSt} {k : Int → gSt → Prop}, wg_Rparse d 1 [] M k → MOi l yX9_both cX9_both 1 .boolean (rmR (d + 1) (d * 23 + 22)) D cl ((cI, .int) :: tys) (wR ad cI ci) tR Z [.ref (ad 0)] M k) ∧ (∀ {M : gSt} {k : Int → gSt → Prop}, wg_Rparse d 2 [] M k → MOi l yX9_compared cX9_compared 2 .boolean (rmR (d + 1) (d * 23 + 22)) D cl ((cI, .int) :: tys) (wR ad cI ci) tR Z [.ref (ad 0)] M k) ∧ (∀ {M : gSt} {k : Int → gSt → Prop}, wg_Rparse d 3 [] M k → MOi l yX9_sum cX9_sum 2 .boolean (rmR (d + 1) (d * 23 + 22)) D cl ((cI, .int) :: tys) (wR ad cI ci) tR Z [.ref (ad 0)] M k) ∧ (∀ {M : gSt} {k : Int → gSt → Prop}, wg_Rparse d 4 [] M k → MOi l yX9_product cX9_product 2 .boolean (rmR (d + 1) (d * 23 + 22)) D cl ((cI, .int) :: tys) (wR ad cI ci) tR Z [.ref (ad 0)] M k) ∧ (∀ {M : gSt} {k : Int → gSt → Prop}, wg_Rparse d 5 [] M k → MOi l yX9_one cX9_one 4 .boolean (rmR (d + 1) (d * 23 + 22)) D cl ((cI, .int) :: tys) (wR ad cI ci) tR Z [.ref (ad 0)] M k) := by
  induction d with
  | zero => exact ⟨fun h => False.elim h, fun h => False.elim h, fun h => False.elim h, fun h => False.elim h, fun h => False.elim h, fun h => False.elim h⟩
  | succ d ih =>
    obtain ⟨h0, h1, h2, h3, h4, h5⟩ := ih
    exact ⟨fun h => mb_Rwhole hci (rc := wg_Rparse d) h0 h1 h2 h3 h4 h5 h, fun h => mb_Rboth hci (rc := wg_Rparse d) h0 h1 h2 h3 h4 h5 h, fun h => mb_Rcompared hci (rc := wg_Rparse d) h0 h1 h2 h3 h4 h5 h, fun h => mb_Rsum hci (rc := wg_Rparse d) h0 h1 h2 h3 h4 h5 h, fun h => mb_Rproduct hci (rc := wg_Rparse d) h0 h1 h2 h3 h4 h5 h, fun h => mb_Rone hci (rc := wg_Rparse d) h0 h1 h2 h3 h4 h5 h⟩
def w_Rwhole (M : gSt) (k : Int → gSt → Prop) : Prop := wg_Rparse 60 0 [] M k
theorem m_Rwhole {l : Launch} {D : va_G} {cl : List vw_C} {tys : List (ClassId × FieldType)} {ad : Nat → Nat} {cI : ClassId} {ci : Nat} {Z : (Nat → Prop) → State → Prop} (hci : cl[ci]? = some (RX9, TX9, 23)) {M : gSt} {k : Int → gSt → Prop} (h : w_Rwhole  M k) : MOi l yX9_whole cX9_whole 1 .boolean (rmR 61 1402) D cl ((cI, .int) :: tys) (wR ad cI ci) tR Z [.ref (ad 0)] M k := (mg_Rparse hci 60).1 h
def w_Rboth (M : gSt) (k : Int → gSt → Prop) : Prop := wg_Rparse 60 1 [] M k
theorem m_Rboth {l : Launch} {D : va_G} {cl : List vw_C} {tys : List (ClassId × FieldType)} {ad : Nat → Nat} {cI : ClassId} {ci : Nat} {Z : (Nat → Prop) → State → Prop} (hci : cl[ci]? = some (RX9, TX9, 23)) {M : gSt} {k : Int → gSt → Prop} (h : w_Rboth  M k) : MOi l yX9_both cX9_both 1 .boolean (rmR 61 1402) D cl ((cI, .int) :: tys) (wR ad cI ci) tR Z [.ref (ad 0)] M k := (mg_Rparse hci 60).2.1 h
def w_Rcompared (M : gSt) (k : Int → gSt → Prop) : Prop := wg_Rparse 60 2 [] M k
theorem m_Rcompared {l : Launch} {D : va_G} {cl : List vw_C} {tys : List (ClassId × FieldType)} {ad : Nat → Nat} {cI : ClassId} {ci : Nat} {Z : (Nat → Prop) → State → Prop} (hci : cl[ci]? = some (RX9, TX9, 23)) {M : gSt} {k : Int → gSt → Prop} (h : w_Rcompared  M k) : MOi l yX9_compared cX9_compared 2 .boolean (rmR 61 1402) D cl ((cI, .int) :: tys) (wR ad cI ci) tR Z [.ref (ad 0)] M k := (mg_Rparse hci 60).2.2.1 h
def w_Rsum (M : gSt) (k : Int → gSt → Prop) : Prop := wg_Rparse 60 3 [] M k
theorem m_Rsum {l : Launch} {D : va_G} {cl : List vw_C} {tys : List (ClassId × FieldType)} {ad : Nat → Nat} {cI : ClassId} {ci : Nat} {Z : (Nat → Prop) → State → Prop} (hci : cl[ci]? = some (RX9, TX9, 23)) {M : gSt} {k : Int → gSt → Prop} (h : w_Rsum  M k) : MOi l yX9_sum cX9_sum 2 .boolean (rmR 61 1402) D cl ((cI, .int) :: tys) (wR ad cI ci) tR Z [.ref (ad 0)] M k := (mg_Rparse hci 60).2.2.2.1 h
def w_Rproduct (M : gSt) (k : Int → gSt → Prop) : Prop := wg_Rparse 60 4 [] M k
theorem m_Rproduct {l : Launch} {D : va_G} {cl : List vw_C} {tys : List (ClassId × FieldType)} {ad : Nat → Nat} {cI : ClassId} {ci : Nat} {Z : (Nat → Prop) → State → Prop} (hci : cl[ci]? = some (RX9, TX9, 23)) {M : gSt} {k : Int → gSt → Prop} (h : w_Rproduct  M k) : MOi l yX9_product cX9_product 2 .boolean (rmR 61 1402) D cl ((cI, .int) :: tys) (wR ad cI ci) tR Z [.ref (ad 0)] M k := (mg_Rparse hci 60).2.2.2.2.1 h
def w_Rone (M : gSt) (k : Int → gSt → Prop) : Prop := wg_Rparse 60 5 [] M k
theorem m_Rone {l : Launch} {D : va_G} {cl : List vw_C} {tys : List (ClassId × FieldType)} {ad : Nat → Nat} {cI : ClassId} {ci : Nat} {Z : (Nat → Prop) → State → Prop} (hci : cl[ci]? = some (RX9, TX9, 23)) {M : gSt} {k : Int → gSt → Prop} (h : w_Rone  M k) : MOi l yX9_one cX9_one 4 .boolean (rmR 61 1402) D cl ((cI, .int) :: tys) (wR ad cI ci) tR Z [.ref (ad 0)] M k := (mg_Rparse hci 60).2.2.2.2.2 h
end
section
def wC_Rtext_104 (a1 : Int) (k : Int → gSt → Prop) (r104 : Int → Int → gSt → Prop) (X104_139 : gSt → Prop) (v3 : Int) (v4 : Int) (M : gSt) : Prop :=

  (wrap (2 * (M 0 7)) ≤ wrap v4 →
    X104_139  M) ∧
  (wrap v4 < wrap (2 * (M 0 7)) →
    (0 ≤ v4 ∧ v4 < 124) ∧ ((0 ≤ (v3 + 1) + v4 ∧ (v3 + 1) + v4 < 536) ∧ (∀ M132 : gSt, M132 = wr M 1 ((v3 + 1) + v4) (M 5 v4) → (r104 v3 (v4 + 1) M132))))
def wL_Rtext_104 (a1 : Int) (k : Int → gSt → Prop)  (X104_139 : gSt → Prop) : Nat → Int → Int → gSt → Prop
  | 0 => fun _ _ _ => False
  | n + 1 => fun v3 v4 M => wC_Rtext_104 a1 k  (wL_Rtext_104 a1 k  X104_139 n) X104_139 v3 v4 M
def wB_Rtext_61 (a1 : Int) (k : Int → gSt → Prop)  (s0 : Int) (M : gSt) : Prop :=
∀ M69 : gSt, M69 = wr M 1 6 0 → (
  (¬ wrap s0 = 0 →
    ∀ x3_90 : Int, x3_90 = 202 + (125 * a1) → ((0 ≤ x3_90 ∧ x3_90 < 536) ∧ (∀ M100 : gSt, M100 = wr M69 1 x3_90 (M69 0 7) → (∃ n, wL_Rtext_104 a1 k  (fun  M104 =>
      k 1 M104) n x3_90 0 M100)))) ∧
  (wrap s0 = 0 →
    k ((-10) - (M69 0 5)) M69))
def wB_Rtext_60 (a1 : Int) (k : Int → gSt → Prop)   (M : gSt) : Prop :=
wB_Rtext_61 a1 k  0 M
def w_Rtext (a1 : Int) (M : gSt) (k : Int → gSt → Prop) : Prop :=
w_Rin a1 0 1 M (fun r3c M3 => 
  (¬ wrap r3c = 0 →
    ∀ M17 : gSt, M17 = wr M3 0 8 a1 → (∀ M22 : gSt, M22 = wr M17 0 5 0 → (∀ M27 : gSt, M27 = wr M22 0 6 0 → (∀ M32 : gSt, M32 = wr M27 0 7 0 → (w_Rwhole  M32 (fun r36c M36 => 
    (wrap r36c = 0 →
      wB_Rtext_60 a1 k   M36) ∧
    (¬ wrap r36c = 0 →

      (¬ wrap (M36 0 5) = wrap (M36 1 6) →
        wB_Rtext_60 a1 k   M36) ∧
      (wrap (M36 0 5) = wrap (M36 1 6) →
        wB_Rtext_61 a1 k  1 M36)))))))) ∧
  (wrap r3c = 0 →
    w_Rerror 1 M3 (fun r11c M11 => k r11c M11)))
set_option maxHeartbeats 4000000 in
set_option maxRecDepth 100000 in
theorem m_Rtext {l : Launch} {D : va_G} {cl : List vw_C} {tys : List (ClassId × FieldType)} {ad : Nat → Nat} {cI : ClassId} {ci : Nat} {Z : (Nat → Prop) → State → Prop} (hci : cl[ci]? = some (RX9, TX9, 23)) {a1 : Int} {M : gSt} {k : Int → gSt → Prop} (h : w_Rtext a1 M k) : MOi l yX9_text cX9_text 5 .int (rmR 62 1422) D cl ((cI, .int) :: tys) (wR ad cI ci) tR Z [.ref (ad 0), iv a1] M k := by
  refine moi_intro (by decide +kernel) (Nat.le_of_ble_eq_true rfl) wi_164 ?_
  intro p e s m args below meth c A Q C hR
  have pC104 : ∀ (r104 : Int → Int → gSt → Prop) (X104_139 : gSt → Prop) (hr104 : ∀ (v3 : Int) (v4 : Int) (M : gSt), r104 v3 v4 M → gG p l e (rmR 62 1422) s m args below meth c Q D cl A (wR ad cI ci) 5 104 [(0, .ref (ad 0)), (3, iv v3), (4, iv v4)] [] M) (hX104_139 : ∀  (M : gSt), X104_139  M → gG p l e (rmR 62 1422) s m args below meth c Q D cl A (wR ad cI ci) 5 139 [] [] M) (v3 : Int) (v4 : Int) (M : gSt), wC_Rtext_104 a1 k r104 X104_139 v3 v4 M → gG p l e (rmR 62 1422) s m args below meth c Q D cl A (wR ad cI ci) 5 104 [(0, .ref (ad 0)), (3, iv v3), (4, iv v4)] [] M := by
    intro r104 X104_139 hr104 hX104_139 v3 v4 M h
    unfold wC_Rtext_104 at h
    refine g_iload C dR_text_104 rfl ?_
    refine g_iconst C dR_text_106 ?_
    refine g_aload_n C dR_text_107 rfl ?_
    refine rf_steps C hci dR_text_108 ?_
    refine g_imul C dR_text_111 ?_
    refine g_icmp_ge C 139 dR_text_112 (by decide) (fun hc => ?_) (fun hc => ?_)
    · replace h := h.1 hc
      refine g_locals (lv' := []) rfl ?_
      exact hX104_139  _ h
    · replace h := h.2 hc
      refine g_aload_n C dR_text_115 rfl ?_
      refine rf_s C hci dR_text_116 ?_
      refine g_iload_n C dR_text_119 rfl ?_
      refine g_iconst C dR_text_120 ?_
      refine g_iadd C dR_text_121 ?_
      refine g_iload C dR_text_122 rfl ?_
      refine g_iadd C dR_text_124 ?_
      refine g_aload_n C dR_text_125 rfl ?_
      refine rf_step C hci dR_text_126 ?_
      refine g_iload C dR_text_129 rfl ?_
      refine g_iald C (n := 124) dR_text_131 rfl (by decide) h.1 ?_
      replace h := h.2
      refine g_iast C (n := 536) dR_text_132 rfl (by decide) h.1 ?_
      replace h := h.2
      refine g_memname (fun M132 hM132 => ?_)
      replace h := h M132 hM132
      refine g_iinc C dR_text_133 rfl (by decide) rfl ?_
      refine g_locals (lv' := [(0, .ref (ad 0)), (3, iv v3), (4, iv (v4 + 1))]) rfl ?_
      refine g_goto C 104 dR_text_136 (by decide) ?_
      refine g_locals (lv' := [(0, .ref (ad 0)), (3, iv v3), (4, iv (v4 + 1))]) rfl ?_
      exact hr104 _ _  _ h
  have pL104 : ∀  (X104_139 : gSt → Prop) (hX104_139 : ∀  (M : gSt), X104_139  M → gG p l e (rmR 62 1422) s m args below meth c Q D cl A (wR ad cI ci) 5 139 [] [] M) (n : Nat) (v3 : Int) (v4 : Int) (M : gSt), wL_Rtext_104 a1 k  X104_139 n v3 v4 M → gG p l e (rmR 62 1422) s m args below meth c Q D cl A (wR ad cI ci) 5 104 [(0, .ref (ad 0)), (3, iv v3), (4, iv v4)] [] M := by
    intro  X104_139 hX104_139 n
    induction n with
    | zero => intro v3 v4 M h; exact h.elim
    | succ n ih =>
      intro v3 v4 M h
      exact pC104  (wL_Rtext_104 a1 k  X104_139 n) X104_139 ih hX104_139 v3 v4 M h
  have pB61 : ∀   (s0 : Int) (M : gSt), wB_Rtext_61 a1 k  s0 M → gG p l e (rmR 62 1422) s m args below meth c Q D cl A (wR ad cI ci) 5 61 [(0, .ref (ad 0)), (1, iv a1)] [iv s0] M := by
    intro   s0 M h
    unfold wB_Rtext_61 at h
    refine g_istore_n C dR_text_61 (by decide) rfl ?_
    refine g_locals (lv' := [(0, .ref (ad 0)), (1, iv a1), (2, iv s0)]) rfl ?_
    refine g_aload_n C dR_text_62 rfl ?_
    refine rf_s C hci dR_text_63 ?_
    refine g_bipush C dR_text_66 rfl ?_
    refine g_iconst C dR_text_68 ?_
    refine g_iast C (n := 536) dR_text_69 rfl (by decide) ⟨by decide, by decide⟩ ?_
    refine g_memname (fun M69 hM69 => ?_)
    replace h := h M69 hM69
    refine g_iload_n C dR_text_70 rfl ?_
    refine g_if_ne C 82 dR_text_71 (by decide) (fun hc => ?_) (fun hc => ?_)
    · replace h := h.1 hc
      refine g_sipush C dR_text_82 rfl ?_
      refine g_bipush C dR_text_85 rfl ?_
      refine g_iload_n C dR_text_87 rfl ?_
      refine g_imul C dR_text_88 ?_
      refine g_iadd C dR_text_89 ?_
      refine g_name (fun x3_90 hx3_90 => ?_)
      replace h := h x3_90 hx3_90
      refine g_istore_n C dR_text_90 (by decide) rfl ?_
      refine g_locals (lv' := [(0, .ref (ad 0)), (1, iv a1), (2, iv s0), (3, iv x3_90)]) rfl ?_
      refine g_aload_n C dR_text_91 rfl ?_
      refine rf_s C hci dR_text_92 ?_
      refine g_iload_n C dR_text_95 rfl ?_
      refine g_aload_n C dR_text_96 rfl ?_
      refine rf_steps C hci dR_text_97 ?_
      refine g_iast C (n := 536) dR_text_100 rfl (by decide) h.1 ?_
      replace h := h.2
      refine g_memname (fun M100 hM100 => ?_)
      replace h := h M100 hM100
      refine g_iconst C dR_text_101 ?_
      refine g_istore C dR_text_102 (by decide) rfl ?_
      refine g_locals (lv' := [(0, .ref (ad 0)), (1, iv a1), (2, iv s0), (3, iv x3_90), (4, iv 0)]) rfl ?_
      refine g_locals (lv' := [(0, .ref (ad 0)), (3, iv x3_90), (4, iv 0)]) rfl ?_
      obtain ⟨n, h⟩ := h
      refine pL104 _ ?_ n _ _ _ h
      · intro  M104 hN
        replace h := hN
        clear hN
        refine g_iconst C dR_text_139 ?_
        exact hR _ _ _ _ dR_text_140 rfl h
    · replace h := h.2 hc
      refine g_bipush C dR_text_74 rfl ?_
      refine g_aload_n C dR_text_76 rfl ?_
      refine rf_at C hci dR_text_77 ?_
      refine g_isub C dR_text_80 ?_
      exact hR _ _ _ _ dR_text_81 rfl h
  have pB60 : ∀    (M : gSt), wB_Rtext_60 a1 k   M → gG p l e (rmR 62 1422) s m args below meth c Q D cl A (wR ad cI ci) 5 60 [(0, .ref (ad 0)), (1, iv a1)] [] M := by
    intro    M h
    unfold wB_Rtext_60 at h
    refine g_iconst C dR_text_60 ?_
    refine g_locals (lv' := [(0, .ref (ad 0)), (1, iv a1)]) rfl ?_
    exact pB61 _ _ h
  refine g_locals (lv' := [(0, .ref (ad 0)), (1, iv a1)]) rfl ?_
  unfold w_Rtext at h
  refine g_iload_n C dR_text_0 rfl ?_
  refine g_iconst C dR_text_1 ?_
  refine g_iconst C dR_text_2 ?_
  refine g_callSi C (nargs := 3) (st := []) (m_Rin hci h) gd_in (by decide +kernel) ⟨rfl, rfl⟩ dR_text_3 ⟨by decide, by decide⟩ rfl rfl (Nat.le_of_ble_eq_true rfl) ?_
  intro r3c M3 hN
  replace h := hN
  clear hN
  refine g_if_ne C 15 dR_text_6 (by decide) (fun hc => ?_) (fun hc => ?_)
  · replace h := h.1 hc
    refine g_aload_n C dR_text_15 rfl ?_
    refine g_iload_n C dR_text_16 rfl ?_
    refine rp_use C hci dR_text_17 ?_
    refine g_memname (fun M17 hM17 => ?_)
    replace h := h M17 hM17
    refine g_aload_n C dR_text_20 rfl ?_
    refine g_iconst C dR_text_21 ?_
    refine rp_at C hci dR_text_22 ?_
    refine g_memname (fun M22 hM22 => ?_)
    replace h := h M22 hM22
    refine g_aload_n C dR_text_25 rfl ?_
    refine g_iconst C dR_text_26 ?_
    refine rp_open C hci dR_text_27 ?_
    refine g_memname (fun M27 hM27 => ?_)
    replace h := h M27 hM27
    refine g_aload_n C dR_text_30 rfl ?_
    refine g_iconst C dR_text_31 ?_
    refine rp_steps C hci dR_text_32 ?_
    refine g_memname (fun M32 hM32 => ?_)
    replace h := h M32 hM32
    refine g_aload_n C dR_text_35 rfl ?_
    refine g_callVi C (nargs := 0) (o := 0) (st := []) (m_Rwhole hci h) rfl (by decide) hci rfl gd_whole (by decide +kernel) ⟨rfl, rfl⟩ dR_text_36 ⟨by decide, by decide⟩ rfl rfl (Nat.le_of_ble_eq_true rfl) ?_
    intro r36c M36 hN
    replace h := hN
    clear hN
    refine g_if_eq C 60 dR_text_39 (by decide) (fun hc => ?_) (fun hc => ?_)
    · replace h := h.1 hc
      refine g_locals (lv' := [(0, .ref (ad 0)), (1, iv a1)]) rfl ?_
      exact pB60  _ h
    · replace h := h.2 hc
      refine g_aload_n C dR_text_42 rfl ?_
      refine rf_at C hci dR_text_43 ?_
      refine g_aload_n C dR_text_46 rfl ?_
      refine rf_s C hci dR_text_47 ?_
      refine g_bipush C dR_text_50 rfl ?_
      refine g_iald C (n := 536) dR_text_52 rfl (by decide) ⟨by decide, by decide⟩ ?_
      refine g_icmp_ne C 60 dR_text_53 (by decide) (fun hc => ?_) (fun hc => ?_)
      · replace h := h.1 hc
        refine g_locals (lv' := [(0, .ref (ad 0)), (1, iv a1)]) rfl ?_
        exact pB60  _ h
      · replace h := h.2 hc
        refine g_iconst C dR_text_56 ?_
        refine g_goto C 61 dR_text_57 (by decide) ?_
        refine g_locals (lv' := [(0, .ref (ad 0)), (1, iv a1)]) rfl ?_
        exact pB61 _ _ h
  · replace h := h.2 hc
    refine g_aload_n C dR_text_9 rfl ?_
    refine g_iconst C dR_text_10 ?_
    refine g_callVi C (nargs := 1) (o := 0) (st := []) (m_Rerror hci h) rfl (by decide) hci rfl gd_error (by decide +kernel) ⟨rfl, rfl⟩ dR_text_11 ⟨by decide, by decide⟩ rfl rfl (Nat.le_of_ble_eq_true rfl) ?_
    intro r11c M11 hN
    replace h := hN
    clear hN
    exact hR _ _ _ _ dR_text_14 rfl h
end
