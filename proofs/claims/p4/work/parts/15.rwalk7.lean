def wC_Rheap_2 (a1 : Int) (k : Int → gSt → Prop) (r2 : Int → gSt → Prop) (X2_34 : gSt → Prop) (v2 : Int) (M : gSt) : Prop :=

  (wrap (M 0 13) ≤ wrap v2 →
    X2_34  M) ∧
  (wrap v2 < wrap (M 0 13) →
    (0 ≤ v2 ∧ v2 < 64) ∧ (w_Rafter (M 8 v2) a1 2 M (fun r24c M24 => (0 ≤ v2 ∧ v2 < 64) ∧ (∀ M27 : gSt, M27 = wr M24 9 v2 r24c → (r2 (v2 + 1) M27)))))
def wL_Rheap_2 (a1 : Int) (k : Int → gSt → Prop)  (X2_34 : gSt → Prop) : Nat → Int → gSt → Prop
  | 0 => fun _ _ => False
  | n + 1 => fun v2 M => wC_Rheap_2 a1 k  (wL_Rheap_2 a1 k  X2_34 n) X2_34 v2 M
def wB_Rheap_84 (a1 : Int) (k : Int → gSt → Prop) (r38 : Int → Int → gSt → Prop) (X38_112 : Int → gSt → Prop) (r52 : Int → Int → Int → Int → gSt → Prop) (X52_93 : Int → Int → Int → gSt → Prop) (v2 : Int) (v3 : Int) (v5 : Int) (s0 : Int) (s1 : Int) (M : gSt) : Prop :=
∀ x4_85 : Int, x4_85 = s1 + s0 → (r52 v2 v3 x4_85 (v5 + 1) M)
def wC_Rheap_52 (a1 : Int) (k : Int → gSt → Prop) (r38 : Int → Int → gSt → Prop) (X38_112 : Int → gSt → Prop) (r52 : Int → Int → Int → Int → gSt → Prop) (X52_93 : Int → Int → Int → gSt → Prop) (v2 : Int) (v3 : Int) (v4 : Int) (v5 : Int) (M : gSt) : Prop :=

  (wrap (M 0 13) ≤ wrap v5 →
    X52_93 v2 v3 v4 M) ∧
  (wrap v5 < wrap (M 0 13) →
    (0 ≤ v5 ∧ v5 < 64) ∧ ((0 ≤ v3 ∧ v3 < 64) ∧ (
    (¬ wrap (M 9 v5) = wrap (M 9 v3) →
      wB_Rheap_84 a1 k r38 X38_112 r52 X52_93 v2 v3 v5 0 v4 M) ∧
    (wrap (M 9 v5) = wrap (M 9 v3) →
      wB_Rheap_84 a1 k r38 X38_112 r52 X52_93 v2 v3 v5 1 v4 M))))
def wL_Rheap_52 (a1 : Int) (k : Int → gSt → Prop) (r38 : Int → Int → gSt → Prop) (X38_112 : Int → gSt → Prop) (X52_93 : Int → Int → Int → gSt → Prop) : Nat → Int → Int → Int → Int → gSt → Prop
  | 0 => fun _ _ _ _ _ => False
  | n + 1 => fun v2 v3 v4 v5 M => wC_Rheap_52 a1 k r38 X38_112 (wL_Rheap_52 a1 k r38 X38_112 X52_93 n) X52_93 v2 v3 v4 v5 M
def wB_Rheap_105 (a1 : Int) (k : Int → gSt → Prop) (r38 : Int → Int → gSt → Prop) (X38_112 : Int → gSt → Prop) (v3 : Int) (s0 : Int) (M : gSt) : Prop :=
r38 s0 (v3 + 1) M
def wC_Rheap_38 (a1 : Int) (k : Int → gSt → Prop) (r38 : Int → Int → gSt → Prop) (X38_112 : Int → gSt → Prop) (v2 : Int) (v3 : Int) (M : gSt) : Prop :=

  (wrap (M 0 13) ≤ wrap v3 →
    X38_112 v2 M) ∧
  (wrap v3 < wrap (M 0 13) →
    ∃ n, wL_Rheap_52 a1 k r38 X38_112 (fun u2_52 u3_52 u4_52 M52 =>

      (wrap u4_52 ≤ wrap u2_52 →
        wB_Rheap_105 a1 k r38 X38_112 u3_52 u2_52 M52) ∧
      (wrap u2_52 < wrap u4_52 →
        wB_Rheap_105 a1 k r38 X38_112 u3_52 u4_52 M52)) n v2 v3 0 0 M)
def wL_Rheap_38 (a1 : Int) (k : Int → gSt → Prop)  (X38_112 : Int → gSt → Prop) : Nat → Int → Int → gSt → Prop
  | 0 => fun _ _ _ => False
  | n + 1 => fun v2 v3 M => wC_Rheap_38 a1 k  (wL_Rheap_38 a1 k  X38_112 n) X38_112 v2 v3 M
def w_Rheap (a1 : Int) (M : gSt) (k : Int → gSt → Prop) : Prop :=
∃ n, wL_Rheap_2 a1 k  (fun  M2 =>
    ∃ n, wL_Rheap_38 a1 k  (fun u2_38 M38 =>
      k u2_38 M38) n 0 0 M2) n 0 M
set_option maxHeartbeats 4000000 in
set_option maxRecDepth 100000 in
theorem m_Rheap {l : Launch} {D : va_G} {cl : List vw_C} {tys : List (ClassId × FieldType)} {ad : Nat → Nat} {cI : ClassId} {ci : Nat} {Z : (Nat → Prop) → State → Prop} (hci : cl[ci]? = some (RX9, TX9, 23)) {a1 : Int} {M : gSt} {k : Int → gSt → Prop} (h : w_Rheap a1 M k) : MOi l yX9_heap cX9_heap 6 .int (rmR 4 99) D cl ((cI, .int) :: tys) (wR ad cI ci) tR Z [.ref (ad 0), iv a1] M k := by
  refine moi_intro (by decide +kernel) (Nat.le_of_ble_eq_true rfl) wi_240 ?_
  intro p e s m args below meth c A Q C hR
  have pC2 : ∀ (r2 : Int → gSt → Prop) (X2_34 : gSt → Prop) (hr2 : ∀ (v2 : Int) (M : gSt), r2 v2 M → gG p l e (rmR 4 99) s m args below meth c Q D cl A (wR ad cI ci) 6 2 [(0, .ref (ad 0)), (1, iv a1), (2, iv v2)] [] M) (hX2_34 : ∀  (M : gSt), X2_34  M → gG p l e (rmR 4 99) s m args below meth c Q D cl A (wR ad cI ci) 6 34 [(0, .ref (ad 0))] [] M) (v2 : Int) (M : gSt), wC_Rheap_2 a1 k r2 X2_34 v2 M → gG p l e (rmR 4 99) s m args below meth c Q D cl A (wR ad cI ci) 6 2 [(0, .ref (ad 0)), (1, iv a1), (2, iv v2)] [] M := by
    intro r2 X2_34 hr2 hX2_34 v2 M h
    unfold wC_Rheap_2 at h
    refine g_iload_n C dR_heap_2 rfl ?_
    refine g_aload_n C dR_heap_3 rfl ?_
    refine rf_many C hci dR_heap_4 ?_
    refine g_icmp_ge C 34 dR_heap_7 (by decide) (fun hc => ?_) (fun hc => ?_)
    · replace h := h.1 hc
      refine g_locals (lv' := [(0, .ref (ad 0))]) rfl ?_
      exact hX2_34  _ h
    · replace h := h.2 hc
      refine g_aload_n C dR_heap_10 rfl ?_
      refine rf_seen C hci dR_heap_11 ?_
      refine g_iload_n C dR_heap_14 rfl ?_
      refine g_aload_n C dR_heap_15 rfl ?_
      refine g_aload_n C dR_heap_16 rfl ?_
      refine rf_fit C hci dR_heap_17 ?_
      refine g_iload_n C dR_heap_20 rfl ?_
      refine g_iald C (n := 64) dR_heap_21 rfl (by decide) h.1 ?_
      replace h := h.2
      refine g_iload_n C dR_heap_22 rfl ?_
      refine g_iconst C dR_heap_23 ?_
      refine g_callVi C (nargs := 3) (o := 0) (st := [iv v2, .ref (ad 9)]) (m_Rafter hci h) rfl (by decide) hci rfl gd_after (by decide +kernel) ⟨rfl, rfl⟩ dR_heap_24 ⟨by decide, by decide⟩ rfl rfl (Nat.le_of_ble_eq_true rfl) ?_
      intro r24c M24 hN
      replace h := hN
      clear hN
      refine g_iast C (n := 64) dR_heap_27 rfl (by decide) h.1 ?_
      replace h := h.2
      refine g_memname (fun M27 hM27 => ?_)
      replace h := h M27 hM27
      refine g_iinc C dR_heap_28 rfl (by decide) rfl ?_
      refine g_locals (lv' := [(0, .ref (ad 0)), (1, iv a1), (2, iv (v2 + 1))]) rfl ?_
      refine g_goto C 2 dR_heap_31 (by decide) ?_
      refine g_locals (lv' := [(0, .ref (ad 0)), (1, iv a1), (2, iv (v2 + 1))]) rfl ?_
      exact hr2 _  _ h
  have pL2 : ∀  (X2_34 : gSt → Prop) (hX2_34 : ∀  (M : gSt), X2_34  M → gG p l e (rmR 4 99) s m args below meth c Q D cl A (wR ad cI ci) 6 34 [(0, .ref (ad 0))] [] M) (n : Nat) (v2 : Int) (M : gSt), wL_Rheap_2 a1 k  X2_34 n v2 M → gG p l e (rmR 4 99) s m args below meth c Q D cl A (wR ad cI ci) 6 2 [(0, .ref (ad 0)), (1, iv a1), (2, iv v2)] [] M := by
    intro  X2_34 hX2_34 n
    induction n with
    | zero => intro v2 M h; exact h.elim
    | succ n ih =>
      intro v2 M h
      exact pC2  (wL_Rheap_2 a1 k  X2_34 n) X2_34 ih hX2_34 v2 M h
  have pB84 : ∀ (r38 : Int → Int → gSt → Prop) (X38_112 : Int → gSt → Prop) (r52 : Int → Int → Int → Int → gSt → Prop) (X52_93 : Int → Int → Int → gSt → Prop) (hr38 : ∀ (v2 : Int) (v3 : Int) (M : gSt), r38 v2 v3 M → gG p l e (rmR 4 99) s m args below meth c Q D cl A (wR ad cI ci) 6 38 [(0, .ref (ad 0)), (2, iv v2), (3, iv v3)] [] M) (hX38_112 : ∀ (v2 : Int) (M : gSt), X38_112 v2 M → gG p l e (rmR 4 99) s m args below meth c Q D cl A (wR ad cI ci) 6 112 [(2, iv v2)] [] M) (hr52 : ∀ (v2 : Int) (v3 : Int) (v4 : Int) (v5 : Int) (M : gSt), r52 v2 v3 v4 v5 M → gG p l e (rmR 4 99) s m args below meth c Q D cl A (wR ad cI ci) 6 52 [(0, .ref (ad 0)), (2, iv v2), (3, iv v3), (4, iv v4), (5, iv v5)] [] M) (hX52_93 : ∀ (v2 : Int) (v3 : Int) (v4 : Int) (M : gSt), X52_93 v2 v3 v4 M → gG p l e (rmR 4 99) s m args below meth c Q D cl A (wR ad cI ci) 6 93 [(0, .ref (ad 0)), (2, iv v2), (3, iv v3), (4, iv v4)] [] M) (v2 : Int) (v3 : Int) (v5 : Int) (s0 : Int) (s1 : Int) (M : gSt), wB_Rheap_84 a1 k r38 X38_112 r52 X52_93 v2 v3 v5 s0 s1 M → gG p l e (rmR 4 99) s m args below meth c Q D cl A (wR ad cI ci) 6 84 [(0, .ref (ad 0)), (2, iv v2), (3, iv v3), (5, iv v5)] [iv s0, iv s1] M := by
    intro r38 X38_112 r52 X52_93 hr38 hX38_112 hr52 hX52_93 v2 v3 v5 s0 s1 M h
    unfold wB_Rheap_84 at h
    refine g_iadd C dR_heap_84 ?_
    refine g_name (fun x4_85 hx4_85 => ?_)
    replace h := h x4_85 hx4_85
    refine g_istore C dR_heap_85 (by decide) rfl ?_
    refine g_locals (lv' := [(0, .ref (ad 0)), (2, iv v2), (3, iv v3), (4, iv x4_85), (5, iv v5)]) rfl ?_
    refine g_iinc C dR_heap_87 rfl (by decide) rfl ?_
    refine g_locals (lv' := [(0, .ref (ad 0)), (2, iv v2), (3, iv v3), (4, iv x4_85), (5, iv (v5 + 1))]) rfl ?_
    refine g_goto C 52 dR_heap_90 (by decide) ?_
    refine g_locals (lv' := [(0, .ref (ad 0)), (2, iv v2), (3, iv v3), (4, iv x4_85), (5, iv (v5 + 1))]) rfl ?_
    exact hr52 _ _ _ _  _ h
  have pC52 : ∀ (r38 : Int → Int → gSt → Prop) (X38_112 : Int → gSt → Prop) (r52 : Int → Int → Int → Int → gSt → Prop) (X52_93 : Int → Int → Int → gSt → Prop) (hr38 : ∀ (v2 : Int) (v3 : Int) (M : gSt), r38 v2 v3 M → gG p l e (rmR 4 99) s m args below meth c Q D cl A (wR ad cI ci) 6 38 [(0, .ref (ad 0)), (2, iv v2), (3, iv v3)] [] M) (hX38_112 : ∀ (v2 : Int) (M : gSt), X38_112 v2 M → gG p l e (rmR 4 99) s m args below meth c Q D cl A (wR ad cI ci) 6 112 [(2, iv v2)] [] M) (hr52 : ∀ (v2 : Int) (v3 : Int) (v4 : Int) (v5 : Int) (M : gSt), r52 v2 v3 v4 v5 M → gG p l e (rmR 4 99) s m args below meth c Q D cl A (wR ad cI ci) 6 52 [(0, .ref (ad 0)), (2, iv v2), (3, iv v3), (4, iv v4), (5, iv v5)] [] M) (hX52_93 : ∀ (v2 : Int) (v3 : Int) (v4 : Int) (M : gSt), X52_93 v2 v3 v4 M → gG p l e (rmR 4 99) s m args below meth c Q D cl A (wR ad cI ci) 6 93 [(0, .ref (ad 0)), (2, iv v2), (3, iv v3), (4, iv v4)] [] M) (v2 : Int) (v3 : Int) (v4 : Int) (v5 : Int) (M : gSt), wC_Rheap_52 a1 k r38 X38_112 r52 X52_93 v2 v3 v4 v5 M → gG p l e (rmR 4 99) s m args below meth c Q D cl A (wR ad cI ci) 6 52 [(0, .ref (ad 0)), (2, iv v2), (3, iv v3), (4, iv v4), (5, iv v5)] [] M := by
    intro r38 X38_112 r52 X52_93 hr38 hX38_112 hr52 hX52_93 v2 v3 v4 v5 M h
    unfold wC_Rheap_52 at h
    refine g_iload C dR_heap_52 rfl ?_
    refine g_aload_n C dR_heap_54 rfl ?_
    refine rf_many C hci dR_heap_55 ?_
    refine g_icmp_ge C 93 dR_heap_58 (by decide) (fun hc => ?_) (fun hc => ?_)
    · replace h := h.1 hc
      refine g_locals (lv' := [(0, .ref (ad 0)), (2, iv v2), (3, iv v3), (4, iv v4)]) rfl ?_
      exact hX52_93 _ _ _  _ h
    · replace h := h.2 hc
      refine g_iload C dR_heap_61 rfl ?_
      refine g_aload_n C dR_heap_63 rfl ?_
      refine rf_seen C hci dR_heap_64 ?_
      refine g_iload C dR_heap_67 rfl ?_
      refine g_iald C (n := 64) dR_heap_69 rfl (by decide) h.1 ?_
      replace h := h.2
      refine g_aload_n C dR_heap_70 rfl ?_
      refine rf_seen C hci dR_heap_71 ?_
      refine g_iload_n C dR_heap_74 rfl ?_
      refine g_iald C (n := 64) dR_heap_75 rfl (by decide) h.1 ?_
      replace h := h.2
      refine g_icmp_ne C 83 dR_heap_76 (by decide) (fun hc => ?_) (fun hc => ?_)
      · replace h := h.1 hc
        refine g_iconst C dR_heap_83 ?_
        refine g_locals (lv' := [(0, .ref (ad 0)), (2, iv v2), (3, iv v3), (5, iv v5)]) rfl ?_
        exact pB84 r38 X38_112 r52 X52_93 hr38 hX38_112 hr52 hX52_93 _ _ _ _ _ _ h
      · replace h := h.2 hc
        refine g_iconst C dR_heap_79 ?_
        refine g_goto C 84 dR_heap_80 (by decide) ?_
        refine g_locals (lv' := [(0, .ref (ad 0)), (2, iv v2), (3, iv v3), (5, iv v5)]) rfl ?_
        exact pB84 r38 X38_112 r52 X52_93 hr38 hX38_112 hr52 hX52_93 _ _ _ _ _ _ h
  have pL52 : ∀ (r38 : Int → Int → gSt → Prop) (X38_112 : Int → gSt → Prop) (X52_93 : Int → Int → Int → gSt → Prop) (hr38 : ∀ (v2 : Int) (v3 : Int) (M : gSt), r38 v2 v3 M → gG p l e (rmR 4 99) s m args below meth c Q D cl A (wR ad cI ci) 6 38 [(0, .ref (ad 0)), (2, iv v2), (3, iv v3)] [] M) (hX38_112 : ∀ (v2 : Int) (M : gSt), X38_112 v2 M → gG p l e (rmR 4 99) s m args below meth c Q D cl A (wR ad cI ci) 6 112 [(2, iv v2)] [] M) (hX52_93 : ∀ (v2 : Int) (v3 : Int) (v4 : Int) (M : gSt), X52_93 v2 v3 v4 M → gG p l e (rmR 4 99) s m args below meth c Q D cl A (wR ad cI ci) 6 93 [(0, .ref (ad 0)), (2, iv v2), (3, iv v3), (4, iv v4)] [] M) (n : Nat) (v2 : Int) (v3 : Int) (v4 : Int) (v5 : Int) (M : gSt), wL_Rheap_52 a1 k r38 X38_112 X52_93 n v2 v3 v4 v5 M → gG p l e (rmR 4 99) s m args below meth c Q D cl A (wR ad cI ci) 6 52 [(0, .ref (ad 0)), (2, iv v2), (3, iv v3), (4, iv v4), (5, iv v5)] [] M := by
    intro r38 X38_112 X52_93 hr38 hX38_112 hX52_93 n
    induction n with
    | zero => intro v2 v3 v4 v5 M h; exact h.elim
    | succ n ih =>
      intro v2 v3 v4 v5 M h
      exact pC52 r38 X38_112 (wL_Rheap_52 a1 k r38 X38_112 X52_93 n) X52_93 hr38 hX38_112 ih hX52_93 v2 v3 v4 v5 M h
  have pB105 : ∀ (r38 : Int → Int → gSt → Prop) (X38_112 : Int → gSt → Prop) (hr38 : ∀ (v2 : Int) (v3 : Int) (M : gSt), r38 v2 v3 M → gG p l e (rmR 4 99) s m args below meth c Q D cl A (wR ad cI ci) 6 38 [(0, .ref (ad 0)), (2, iv v2), (3, iv v3)] [] M) (hX38_112 : ∀ (v2 : Int) (M : gSt), X38_112 v2 M → gG p l e (rmR 4 99) s m args below meth c Q D cl A (wR ad cI ci) 6 112 [(2, iv v2)] [] M) (v3 : Int) (s0 : Int) (M : gSt), wB_Rheap_105 a1 k r38 X38_112 v3 s0 M → gG p l e (rmR 4 99) s m args below meth c Q D cl A (wR ad cI ci) 6 105 [(0, .ref (ad 0)), (3, iv v3)] [iv s0] M := by
    intro r38 X38_112 hr38 hX38_112 v3 s0 M h
    unfold wB_Rheap_105 at h
    refine g_istore_n C dR_heap_105 (by decide) rfl ?_
    refine g_locals (lv' := [(0, .ref (ad 0)), (2, iv s0), (3, iv v3)]) rfl ?_
    refine g_iinc C dR_heap_106 rfl (by decide) rfl ?_
    refine g_locals (lv' := [(0, .ref (ad 0)), (2, iv s0), (3, iv (v3 + 1))]) rfl ?_
    refine g_goto C 38 dR_heap_109 (by decide) ?_
    refine g_locals (lv' := [(0, .ref (ad 0)), (2, iv s0), (3, iv (v3 + 1))]) rfl ?_
    exact hr38 _ _  _ h
  have pC38 : ∀ (r38 : Int → Int → gSt → Prop) (X38_112 : Int → gSt → Prop) (hr38 : ∀ (v2 : Int) (v3 : Int) (M : gSt), r38 v2 v3 M → gG p l e (rmR 4 99) s m args below meth c Q D cl A (wR ad cI ci) 6 38 [(0, .ref (ad 0)), (2, iv v2), (3, iv v3)] [] M) (hX38_112 : ∀ (v2 : Int) (M : gSt), X38_112 v2 M → gG p l e (rmR 4 99) s m args below meth c Q D cl A (wR ad cI ci) 6 112 [(2, iv v2)] [] M) (v2 : Int) (v3 : Int) (M : gSt), wC_Rheap_38 a1 k r38 X38_112 v2 v3 M → gG p l e (rmR 4 99) s m args below meth c Q D cl A (wR ad cI ci) 6 38 [(0, .ref (ad 0)), (2, iv v2), (3, iv v3)] [] M := by
    intro r38 X38_112 hr38 hX38_112 v2 v3 M h
    unfold wC_Rheap_38 at h
    refine g_iload_n C dR_heap_38 rfl ?_
    refine g_aload_n C dR_heap_39 rfl ?_
    refine rf_many C hci dR_heap_40 ?_
    refine g_icmp_ge C 112 dR_heap_43 (by decide) (fun hc => ?_) (fun hc => ?_)
    · replace h := h.1 hc
      refine g_locals (lv' := [(2, iv v2)]) rfl ?_
      exact hX38_112 _  _ h
    · replace h := h.2 hc
      refine g_iconst C dR_heap_46 ?_
      refine g_istore C dR_heap_47 (by decide) rfl ?_
      refine g_locals (lv' := [(0, .ref (ad 0)), (2, iv v2), (3, iv v3), (4, iv 0)]) rfl ?_
      refine g_iconst C dR_heap_49 ?_
      refine g_istore C dR_heap_50 (by decide) rfl ?_
      refine g_locals (lv' := [(0, .ref (ad 0)), (2, iv v2), (3, iv v3), (4, iv 0), (5, iv 0)]) rfl ?_
      refine g_locals (lv' := [(0, .ref (ad 0)), (2, iv v2), (3, iv v3), (4, iv 0), (5, iv 0)]) rfl ?_
      obtain ⟨n, h⟩ := h
      refine pL52 r38 X38_112 _ hr38 hX38_112 ?_ n _ _ _ _ _ h
      · intro u2_52 u3_52 u4_52 M52 hN
        replace h := hN
        clear hN
        refine g_iload C dR_heap_93 rfl ?_
        refine g_iload_n C dR_heap_95 rfl ?_
        refine g_icmp_le C 104 dR_heap_96 (by decide) (fun hc => ?_) (fun hc => ?_)
        · replace h := h.1 hc
          refine g_iload_n C dR_heap_104 rfl ?_
          refine g_locals (lv' := [(0, .ref (ad 0)), (3, iv u3_52)]) rfl ?_
          exact pB105 r38 X38_112 hr38 hX38_112 _ _ _ h
        · replace h := h.2 hc
          refine g_iload C dR_heap_99 rfl ?_
          refine g_goto C 105 dR_heap_101 (by decide) ?_
          refine g_locals (lv' := [(0, .ref (ad 0)), (3, iv u3_52)]) rfl ?_
          exact pB105 r38 X38_112 hr38 hX38_112 _ _ _ h
  have pL38 : ∀  (X38_112 : Int → gSt → Prop) (hX38_112 : ∀ (v2 : Int) (M : gSt), X38_112 v2 M → gG p l e (rmR 4 99) s m args below meth c Q D cl A (wR ad cI ci) 6 112 [(2, iv v2)] [] M) (n : Nat) (v2 : Int) (v3 : Int) (M : gSt), wL_Rheap_38 a1 k  X38_112 n v2 v3 M → gG p l e (rmR 4 99) s m args below meth c Q D cl A (wR ad cI ci) 6 38 [(0, .ref (ad 0)), (2, iv v2), (3, iv v3)] [] M := by
    intro  X38_112 hX38_112 n
    induction n with
    | zero => intro v2 v3 M h; exact h.elim
    | succ n ih =>
      intro v2 v3 M h
      exact pC38  (wL_Rheap_38 a1 k  X38_112 n) X38_112 ih hX38_112 v2 v3 M h
  refine g_locals (lv' := [(0, .ref (ad 0)), (1, iv a1)]) rfl ?_
  unfold w_Rheap at h
  refine g_iconst C dR_heap_0 ?_
  refine g_istore_n C dR_heap_1 (by decide) rfl ?_
  refine g_locals (lv' := [(0, .ref (ad 0)), (1, iv a1), (2, iv 0)]) rfl ?_
  refine g_locals (lv' := [(0, .ref (ad 0)), (1, iv a1), (2, iv 0)]) rfl ?_
  obtain ⟨n, h⟩ := h
  refine pL2 _ ?_ n _ _ h
  · intro  M2 hN
    replace h := hN
    clear hN
    refine g_iconst C dR_heap_34 ?_
    refine g_istore_n C dR_heap_35 (by decide) rfl ?_
    refine g_locals (lv' := [(0, .ref (ad 0)), (2, iv 0)]) rfl ?_
    refine g_iconst C dR_heap_36 ?_
    refine g_istore_n C dR_heap_37 (by decide) rfl ?_
    refine g_locals (lv' := [(0, .ref (ad 0)), (2, iv 0), (3, iv 0)]) rfl ?_
    refine g_locals (lv' := [(0, .ref (ad 0)), (2, iv 0), (3, iv 0)]) rfl ?_
    obtain ⟨n, h⟩ := h
    refine pL38 _ ?_ n _ _ _ h
    · intro u2_38 M38 hN
      replace h := hN
      clear hN
      refine g_iload_n C dR_heap_112 rfl ?_
      exact hR _ _ _ _ dR_heap_113 rfl h
def wB_Rnext_20  (k : Int → gSt → Prop)   (M : gSt) : Prop :=
w_Rerror 2 M (fun r22c M22 => k r22c M22)
def wB_Rnext_58  (k : Int → gSt → Prop) (r30 : Int → Int → gSt → Prop) (X30_65 : Int → gSt → Prop) (v2 : Int) (s0 : Int) (M : gSt) : Prop :=
r30 s0 (v2 + 1) M
def wC_Rnext_30  (k : Int → gSt → Prop) (r30 : Int → Int → gSt → Prop) (X30_65 : Int → gSt → Prop) (v1 : Int) (v2 : Int) (M : gSt) : Prop :=

  (wrap (M 1 0) ≤ wrap v2 →
    X30_65 v1 M) ∧
  (wrap v2 < wrap (M 1 0) →
    w_Rheap v2 M (fun r42c M42 => w_Rheap v1 M42 (fun r47c M47 => 
    (wrap r47c ≤ wrap r42c →
      wB_Rnext_58  k r30 X30_65 v2 v1 M47) ∧
    (wrap r42c < wrap r47c →
      wB_Rnext_58  k r30 X30_65 v2 v2 M47))))
def wL_Rnext_30  (k : Int → gSt → Prop)  (X30_65 : Int → gSt → Prop) : Nat → Int → Int → gSt → Prop
  | 0 => fun _ _ _ => False
  | n + 1 => fun v1 v2 M => wC_Rnext_30  k  (wL_Rnext_30  k  X30_65 n) X30_65 v1 v2 M
def w_Rnext  (M : gSt) (k : Int → gSt → Prop) : Prop :=
w_RfindFits  M (fun M1 => 
  (wrap (M1 0 13) = 0 →
    wB_Rnext_20  k   M1) ∧
  (¬ wrap (M1 0 13) = 0 →

    (¬ wrap (M1 1 0) = 0 →
      ∃ n, wL_Rnext_30  k  (fun u1_30 M30 =>
        k u1_30 M30) n 0 1 M1) ∧
    (wrap (M1 1 0) = 0 →
      wB_Rnext_20  k   M1)))
set_option maxHeartbeats 4000000 in
set_option maxRecDepth 100000 in
theorem m_Rnext {l : Launch} {D : va_G} {cl : List vw_C} {tys : List (ClassId × FieldType)} {ad : Nat → Nat} {cI : ClassId} {ci : Nat} {Z : (Nat → Prop) → State → Prop} (hci : cl[ci]? = some (RX9, TX9, 23))  {M : gSt} {k : Int → gSt → Prop} (h : w_Rnext  M k) : MOi l yX9_next cX9_next 3 .int (rmR 5 124) D cl ((cI, .int) :: tys) (wR ad cI ci) tR Z [.ref (ad 0)] M k := by
  refine moi_intro (by decide +kernel) (Nat.le_of_ble_eq_true rfl) wi_244 ?_
  intro p e s m args below meth c A Q C hR
  have pB20 : ∀    (M : gSt), wB_Rnext_20  k   M → gG p l e (rmR 5 124) s m args below meth c Q D cl A (wR ad cI ci) 3 20 [(0, .ref (ad 0))] [] M := by
    intro    M h
    unfold wB_Rnext_20 at h
    refine g_aload_n C dR_next_20 rfl ?_
    refine g_iconst C dR_next_21 ?_
    refine g_callVi C (nargs := 1) (o := 0) (st := []) (m_Rerror hci h) rfl (by decide) hci rfl gd_error (by decide +kernel) ⟨rfl, rfl⟩ dR_next_22 ⟨by decide, by decide⟩ rfl rfl (Nat.le_of_ble_eq_true rfl) ?_
    intro r22c M22 hN
    replace h := hN
    clear hN
    exact hR _ _ _ _ dR_next_25 rfl h
  have pB58 : ∀ (r30 : Int → Int → gSt → Prop) (X30_65 : Int → gSt → Prop) (hr30 : ∀ (v1 : Int) (v2 : Int) (M : gSt), r30 v1 v2 M → gG p l e (rmR 5 124) s m args below meth c Q D cl A (wR ad cI ci) 3 30 [(0, .ref (ad 0)), (1, iv v1), (2, iv v2)] [] M) (hX30_65 : ∀ (v1 : Int) (M : gSt), X30_65 v1 M → gG p l e (rmR 5 124) s m args below meth c Q D cl A (wR ad cI ci) 3 65 [(1, iv v1)] [] M) (v2 : Int) (s0 : Int) (M : gSt), wB_Rnext_58  k r30 X30_65 v2 s0 M → gG p l e (rmR 5 124) s m args below meth c Q D cl A (wR ad cI ci) 3 58 [(0, .ref (ad 0)), (2, iv v2)] [iv s0] M := by
    intro r30 X30_65 hr30 hX30_65 v2 s0 M h
    unfold wB_Rnext_58 at h
    refine g_istore_n C dR_next_58 (by decide) rfl ?_
    refine g_locals (lv' := [(0, .ref (ad 0)), (1, iv s0), (2, iv v2)]) rfl ?_
    refine g_iinc C dR_next_59 rfl (by decide) rfl ?_
    refine g_locals (lv' := [(0, .ref (ad 0)), (1, iv s0), (2, iv (v2 + 1))]) rfl ?_
    refine g_goto C 30 dR_next_62 (by decide) ?_
    refine g_locals (lv' := [(0, .ref (ad 0)), (1, iv s0), (2, iv (v2 + 1))]) rfl ?_
    exact hr30 _ _  _ h
  have pC30 : ∀ (r30 : Int → Int → gSt → Prop) (X30_65 : Int → gSt → Prop) (hr30 : ∀ (v1 : Int) (v2 : Int) (M : gSt), r30 v1 v2 M → gG p l e (rmR 5 124) s m args below meth c Q D cl A (wR ad cI ci) 3 30 [(0, .ref (ad 0)), (1, iv v1), (2, iv v2)] [] M) (hX30_65 : ∀ (v1 : Int) (M : gSt), X30_65 v1 M → gG p l e (rmR 5 124) s m args below meth c Q D cl A (wR ad cI ci) 3 65 [(1, iv v1)] [] M) (v1 : Int) (v2 : Int) (M : gSt), wC_Rnext_30  k r30 X30_65 v1 v2 M → gG p l e (rmR 5 124) s m args below meth c Q D cl A (wR ad cI ci) 3 30 [(0, .ref (ad 0)), (1, iv v1), (2, iv v2)] [] M := by
    intro r30 X30_65 hr30 hX30_65 v1 v2 M h
    unfold wC_Rnext_30 at h
    refine g_iload_n C dR_next_30 rfl ?_
    refine g_aload_n C dR_next_31 rfl ?_
    refine rf_s C hci dR_next_32 ?_
    refine g_iconst C dR_next_35 ?_
    refine g_iald C (n := 536) dR_next_36 rfl (by decide) ⟨by decide, by decide⟩ ?_
    refine g_icmp_ge C 65 dR_next_37 (by decide) (fun hc => ?_) (fun hc => ?_)
    · replace h := h.1 hc
      refine g_locals (lv' := [(1, iv v1)]) rfl ?_
      exact hX30_65 _  _ h
    · replace h := h.2 hc
      refine g_aload_n C dR_next_40 rfl ?_
      refine g_iload_n C dR_next_41 rfl ?_
      refine g_callVi C (nargs := 1) (o := 0) (st := []) (m_Rheap hci h) rfl (by decide) hci rfl gd_heap (by decide +kernel) ⟨rfl, rfl⟩ dR_next_42 ⟨by decide, by decide⟩ rfl rfl (Nat.le_of_ble_eq_true rfl) ?_
      intro r42c M42 hN
      replace h := hN
      clear hN
      refine g_aload_n C dR_next_45 rfl ?_
      refine g_iload_n C dR_next_46 rfl ?_
      refine g_callVi C (nargs := 1) (o := 0) (st := [iv r42c]) (m_Rheap hci h) rfl (by decide) hci rfl gd_heap (by decide +kernel) ⟨rfl, rfl⟩ dR_next_47 ⟨by decide, by decide⟩ rfl rfl (Nat.le_of_ble_eq_true rfl) ?_
      intro r47c M47 hN
      replace h := hN
      clear hN
      refine g_icmp_ge C 57 dR_next_50 (by decide) (fun hc => ?_) (fun hc => ?_)
      · replace h := h.1 hc
        refine g_iload_n C dR_next_57 rfl ?_
        refine g_locals (lv' := [(0, .ref (ad 0)), (2, iv v2)]) rfl ?_
        exact pB58 r30 X30_65 hr30 hX30_65 _ _ _ h
      · replace h := h.2 hc
        refine g_iload_n C dR_next_53 rfl ?_
        refine g_goto C 58 dR_next_54 (by decide) ?_
        refine g_locals (lv' := [(0, .ref (ad 0)), (2, iv v2)]) rfl ?_
        exact pB58 r30 X30_65 hr30 hX30_65 _ _ _ h
  have pL30 : ∀  (X30_65 : Int → gSt → Prop) (hX30_65 : ∀ (v1 : Int) (M : gSt), X30_65 v1 M → gG p l e (rmR 5 124) s m args below meth c Q D cl A (wR ad cI ci) 3 65 [(1, iv v1)] [] M) (n : Nat) (v1 : Int) (v2 : Int) (M : gSt), wL_Rnext_30  k  X30_65 n v1 v2 M → gG p l e (rmR 5 124) s m args below meth c Q D cl A (wR ad cI ci) 3 30 [(0, .ref (ad 0)), (1, iv v1), (2, iv v2)] [] M := by
    intro  X30_65 hX30_65 n
    induction n with
    | zero => intro v1 v2 M h; exact h.elim
    | succ n ih =>
      intro v1 v2 M h
      exact pC30  (wL_Rnext_30  k  X30_65 n) X30_65 ih hX30_65 v1 v2 M h
  refine g_locals (lv' := [(0, .ref (ad 0))]) rfl ?_
  unfold w_Rnext at h
  refine g_aload_n C dR_next_0 rfl ?_
  refine g_callVv C (nargs := 0) (o := 0) (st := []) (m_RfindFits hci h) rfl (by decide) hci rfl gd_findFits (by decide +kernel) ⟨rfl, rfl⟩ dR_next_1 ⟨by decide, by decide⟩ rfl rfl (Nat.le_of_ble_eq_true rfl) ?_
  intro M1 hN
  replace h := hN
  clear hN
  refine g_aload_n C dR_next_4 rfl ?_
  refine rf_many C hci dR_next_5 ?_
  refine g_if_eq C 20 dR_next_8 (by decide) (fun hc => ?_) (fun hc => ?_)
  · replace h := h.1 hc
    refine g_locals (lv' := [(0, .ref (ad 0))]) rfl ?_
    exact pB20  _ h
  · replace h := h.2 hc
    refine g_aload_n C dR_next_11 rfl ?_
    refine rf_s C hci dR_next_12 ?_
    refine g_iconst C dR_next_15 ?_
    refine g_iald C (n := 536) dR_next_16 rfl (by decide) ⟨by decide, by decide⟩ ?_
    refine g_if_ne C 26 dR_next_17 (by decide) (fun hc => ?_) (fun hc => ?_)
    · replace h := h.1 hc
      refine g_iconst C dR_next_26 ?_
      refine g_istore_n C dR_next_27 (by decide) rfl ?_
      refine g_locals (lv' := [(0, .ref (ad 0)), (1, iv 0)]) rfl ?_
      refine g_iconst C dR_next_28 ?_
      refine g_istore_n C dR_next_29 (by decide) rfl ?_
      refine g_locals (lv' := [(0, .ref (ad 0)), (1, iv 0), (2, iv 1)]) rfl ?_
      refine g_locals (lv' := [(0, .ref (ad 0)), (1, iv 0), (2, iv 1)]) rfl ?_
      obtain ⟨n, h⟩ := h
      refine pL30 _ ?_ n _ _ _ h
      · intro u1_30 M30 hN
        replace h := hN
        clear hN
        refine g_iload_n C dR_next_65 rfl ?_
        exact hR _ _ _ _ dR_next_66 rfl h
    · replace h := h.2 hc
      refine g_locals (lv' := [(0, .ref (ad 0))]) rfl ?_
      exact pB20  _ h
def wB_Rtogether_65 (a1 : Int) (a2 : Int) (k : Int → gSt → Prop) (r8 : Int → Int → Int → gSt → Prop) (X8_71 : Int → Int → gSt → Prop) (v3 : Int) (v5 : Int) (v7 : Int) (M : gSt) : Prop :=
r8 v3 v5 (v7 + 1) M
def wC_Rtogether_8 (a1 : Int) (a2 : Int) (k : Int → gSt → Prop) (r8 : Int → Int → Int → gSt → Prop) (X8_71 : Int → Int → gSt → Prop) (v3 : Int) (v5 : Int) (v7 : Int) (M : gSt) : Prop :=

  (wrap (M 1 0) ≤ wrap v7 →
    X8_71 v3 v5 M) ∧
  (wrap v7 < wrap (M 1 0) →

    (¬ wrap (xand (xshr a2 v7) 1) = 1 →
      wB_Rtogether_65 a1 a2 k r8 X8_71 v3 v5 v7 M) ∧
    (wrap (xand (xshr a2 v7) 1) = 1 →
      w_Rits v7 2 M (fun r34c M34 => ∀ x3_39 : Int, x3_39 = v3 + (wrap r34c) → (w_Rits v7 2 M34 (fun r46c M46 => w_Rits v7 (6 + a1) M46 (fun r57c M57 => ∀ x5_63 : Int, x5_63 = v5 + ((wrap r46c) * (wrap r57c)) → (wB_Rtogether_65 a1 a2 k r8 X8_71 x3_39 x5_63 v7 M57)))))))
def wL_Rtogether_8 (a1 : Int) (a2 : Int) (k : Int → gSt → Prop)  (X8_71 : Int → Int → gSt → Prop) : Nat → Int → Int → Int → gSt → Prop
  | 0 => fun _ _ _ _ => False
  | n + 1 => fun v3 v5 v7 M => wC_Rtogether_8 a1 a2 k  (wL_Rtogether_8 a1 a2 k  X8_71 n) X8_71 v3 v5 v7 M
def w_Rtogether (a1 : Int) (a2 : Int) (M : gSt) (k : Int → gSt → Prop) : Prop :=
∃ n, wL_Rtogether_8 a1 a2 k  (fun u3_8 u5_8 M8 =>

    (¬ wrap (ycmp u3_8 0) = 0 →
      (wrapL u3_8 ≠ 0) ∧ (k (Int.tdiv (wrapL u5_8) (wrapL u3_8)) M8)) ∧
    (wrap (ycmp u3_8 0) = 0 →
      k 0 M8)) n 0 0 0 M
set_option maxHeartbeats 4000000 in
set_option maxRecDepth 100000 in
theorem m_Rtogether {l : Launch} {D : va_G} {cl : List vw_C} {tys : List (ClassId × FieldType)} {ad : Nat → Nat} {cI : ClassId} {ci : Nat} {Z : (Nat → Prop) → State → Prop} (hci : cl[ci]? = some (RX9, TX9, 23)) {a1 : Int} {a2 : Int} {M : gSt} {k : Int → gSt → Prop} (h : w_Rtogether a1 a2 M k) : MOi l yX9_together cX9_together 8 .int (rmR 1 22) D cl ((cI, .int) :: tys) (wR ad cI ci) tR Z [.ref (ad 0), iv a1, iv a2] M k := by
  refine moi_intro (by decide +kernel) (Nat.le_of_ble_eq_true rfl) wi_245 ?_
  intro p e s m args below meth c A Q C hR
  have pB65 : ∀ (r8 : Int → Int → Int → gSt → Prop) (X8_71 : Int → Int → gSt → Prop) (hr8 : ∀ (v3 : Int) (v5 : Int) (v7 : Int) (M : gSt), r8 v3 v5 v7 M → gG p l e (rmR 1 22) s m args below meth c Q D cl A (wR ad cI ci) 8 8 [(0, .ref (ad 0)), (1, iv a1), (2, iv a2), (3, jv v3), (5, jv v5), (7, iv v7)] [] M) (hX8_71 : ∀ (v3 : Int) (v5 : Int) (M : gSt), X8_71 v3 v5 M → gG p l e (rmR 1 22) s m args below meth c Q D cl A (wR ad cI ci) 8 71 [(3, jv v3), (5, jv v5)] [] M) (v3 : Int) (v5 : Int) (v7 : Int) (M : gSt), wB_Rtogether_65 a1 a2 k r8 X8_71 v3 v5 v7 M → gG p l e (rmR 1 22) s m args below meth c Q D cl A (wR ad cI ci) 8 65 [(0, .ref (ad 0)), (1, iv a1), (2, iv a2), (3, jv v3), (5, jv v5), (7, iv v7)] [] M := by
    intro r8 X8_71 hr8 hX8_71 v3 v5 v7 M h
    unfold wB_Rtogether_65 at h
    refine g_iinc C dR_together_65 rfl (by decide) rfl ?_
    refine g_locals (lv' := [(0, .ref (ad 0)), (1, iv a1), (2, iv a2), (3, jv v3), (5, jv v5), (7, iv (v7 + 1))]) rfl ?_
    refine g_goto C 8 dR_together_68 (by decide) ?_
    refine g_locals (lv' := [(0, .ref (ad 0)), (1, iv a1), (2, iv a2), (3, jv v3), (5, jv v5), (7, iv (v7 + 1))]) rfl ?_
    exact hr8 _ _ _  _ h
  have pC8 : ∀ (r8 : Int → Int → Int → gSt → Prop) (X8_71 : Int → Int → gSt → Prop) (hr8 : ∀ (v3 : Int) (v5 : Int) (v7 : Int) (M : gSt), r8 v3 v5 v7 M → gG p l e (rmR 1 22) s m args below meth c Q D cl A (wR ad cI ci) 8 8 [(0, .ref (ad 0)), (1, iv a1), (2, iv a2), (3, jv v3), (5, jv v5), (7, iv v7)] [] M) (hX8_71 : ∀ (v3 : Int) (v5 : Int) (M : gSt), X8_71 v3 v5 M → gG p l e (rmR 1 22) s m args below meth c Q D cl A (wR ad cI ci) 8 71 [(3, jv v3), (5, jv v5)] [] M) (v3 : Int) (v5 : Int) (v7 : Int) (M : gSt), wC_Rtogether_8 a1 a2 k r8 X8_71 v3 v5 v7 M → gG p l e (rmR 1 22) s m args below meth c Q D cl A (wR ad cI ci) 8 8 [(0, .ref (ad 0)), (1, iv a1), (2, iv a2), (3, jv v3), (5, jv v5), (7, iv v7)] [] M := by
    intro r8 X8_71 hr8 hX8_71 v3 v5 v7 M h
    unfold wC_Rtogether_8 at h
    refine g_iload C dR_together_8 rfl ?_
    refine g_aload_n C dR_together_10 rfl ?_
    refine rf_s C hci dR_together_11 ?_
    refine g_iconst C dR_together_14 ?_
    refine g_iald C (n := 536) dR_together_15 rfl (by decide) ⟨by decide, by decide⟩ ?_
    refine g_icmp_ge C 71 dR_together_16 (by decide) (fun hc => ?_) (fun hc => ?_)
    · replace h := h.1 hc
      refine g_locals (lv' := [(3, jv v3), (5, jv v5)]) rfl ?_
      exact hX8_71 _ _  _ h
    · replace h := h.2 hc
      refine g_iload_n C dR_together_19 rfl ?_
      refine g_iload C dR_together_20 rfl ?_
      refine g_ishr C dR_together_22 ?_
      refine g_iconst C dR_together_23 ?_
      refine g_iand C dR_together_24 ?_
      refine g_iconst C dR_together_25 ?_
      refine g_icmp_ne C 65 dR_together_26 (by decide) (fun hc => ?_) (fun hc => ?_)
      · replace h := h.1 hc
        refine g_locals (lv' := [(0, .ref (ad 0)), (1, iv a1), (2, iv a2), (3, jv v3), (5, jv v5), (7, iv v7)]) rfl ?_
        exact pB65 r8 X8_71 hr8 hX8_71 _ _ _ _ h
      · replace h := h.2 hc
        refine g_lload_n C dR_together_29 rfl ?_
        refine g_aload_n C dR_together_30 rfl ?_
        refine g_iload C dR_together_31 rfl ?_
        refine g_iconst C dR_together_33 ?_
        refine g_callVi C (nargs := 2) (o := 0) (st := [jv v3]) (m_Rits hci h) rfl (by decide) hci rfl gd_its (by decide +kernel) ⟨rfl, rfl⟩ dR_together_34 ⟨by decide, by decide⟩ rfl rfl (Nat.le_of_ble_eq_true rfl) ?_
        intro r34c M34 hN
        replace h := hN
        clear hN
        refine g_i2l C dR_together_37 ?_
        refine g_ladd C dR_together_38 ?_
        refine g_nameL (fun x3_39 hx3_39 => ?_)
        replace h := h x3_39 hx3_39
        refine g_lstore_n C dR_together_39 (by decide) rfl ?_
        refine g_locals (lv' := [(0, .ref (ad 0)), (1, iv a1), (2, iv a2), (3, jv x3_39), (5, jv v5), (7, iv v7)]) rfl ?_
        refine g_lload C dR_together_40 rfl ?_
        refine g_aload_n C dR_together_42 rfl ?_
        refine g_iload C dR_together_43 rfl ?_
        refine g_iconst C dR_together_45 ?_
        refine g_callVi C (nargs := 2) (o := 0) (st := [jv v5]) (m_Rits hci h) rfl (by decide) hci rfl gd_its (by decide +kernel) ⟨rfl, rfl⟩ dR_together_46 ⟨by decide, by decide⟩ rfl rfl (Nat.le_of_ble_eq_true rfl) ?_
        intro r46c M46 hN
        replace h := hN
        clear hN
        refine g_i2l C dR_together_49 ?_
        refine g_aload_n C dR_together_50 rfl ?_
        refine g_iload C dR_together_51 rfl ?_
        refine g_bipush C dR_together_53 rfl ?_
        refine g_iload_n C dR_together_55 rfl ?_
        refine g_iadd C dR_together_56 ?_
        refine g_callVi C (nargs := 2) (o := 0) (st := [jv (wrap r46c), jv v5]) (m_Rits hci h) rfl (by decide) hci rfl gd_its (by decide +kernel) ⟨rfl, rfl⟩ dR_together_57 ⟨by decide, by decide⟩ rfl rfl (Nat.le_of_ble_eq_true rfl) ?_
        intro r57c M57 hN
        replace h := hN
        clear hN
        refine g_i2l C dR_together_60 ?_
        refine g_lmul C dR_together_61 ?_
        refine g_ladd C dR_together_62 ?_
        refine g_nameL (fun x5_63 hx5_63 => ?_)
        replace h := h x5_63 hx5_63
        refine g_lstore C dR_together_63 (by decide) rfl ?_
        refine g_locals (lv' := [(0, .ref (ad 0)), (1, iv a1), (2, iv a2), (3, jv x3_39), (5, jv x5_63), (7, iv v7)]) rfl ?_
        refine g_locals (lv' := [(0, .ref (ad 0)), (1, iv a1), (2, iv a2), (3, jv x3_39), (5, jv x5_63), (7, iv v7)]) rfl ?_
        exact pB65 r8 X8_71 hr8 hX8_71 _ _ _ _ h
  have pL8 : ∀  (X8_71 : Int → Int → gSt → Prop) (hX8_71 : ∀ (v3 : Int) (v5 : Int) (M : gSt), X8_71 v3 v5 M → gG p l e (rmR 1 22) s m args below meth c Q D cl A (wR ad cI ci) 8 71 [(3, jv v3), (5, jv v5)] [] M) (n : Nat) (v3 : Int) (v5 : Int) (v7 : Int) (M : gSt), wL_Rtogether_8 a1 a2 k  X8_71 n v3 v5 v7 M → gG p l e (rmR 1 22) s m args below meth c Q D cl A (wR ad cI ci) 8 8 [(0, .ref (ad 0)), (1, iv a1), (2, iv a2), (3, jv v3), (5, jv v5), (7, iv v7)] [] M := by
    intro  X8_71 hX8_71 n
    induction n with
    | zero => intro v3 v5 v7 M h; exact h.elim
    | succ n ih =>
      intro v3 v5 v7 M h
      exact pC8  (wL_Rtogether_8 a1 a2 k  X8_71 n) X8_71 ih hX8_71 v3 v5 v7 M h
  refine g_locals (lv' := [(0, .ref (ad 0)), (1, iv a1), (2, iv a2)]) rfl ?_
  unfold w_Rtogether at h
  refine g_lconst C 0 rfl dR_together_0 ?_
  refine g_lstore_n C dR_together_1 (by decide) rfl ?_
  refine g_locals (lv' := [(0, .ref (ad 0)), (1, iv a1), (2, iv a2), (3, jv 0)]) rfl ?_
  refine g_lconst C 0 rfl dR_together_2 ?_
  refine g_lstore C dR_together_3 (by decide) rfl ?_
  refine g_locals (lv' := [(0, .ref (ad 0)), (1, iv a1), (2, iv a2), (3, jv 0), (5, jv 0)]) rfl ?_
  refine g_iconst C dR_together_5 ?_
  refine g_istore C dR_together_6 (by decide) rfl ?_
  refine g_locals (lv' := [(0, .ref (ad 0)), (1, iv a1), (2, iv a2), (3, jv 0), (5, jv 0), (7, iv 0)]) rfl ?_
  refine g_locals (lv' := [(0, .ref (ad 0)), (1, iv a1), (2, iv a2), (3, jv 0), (5, jv 0), (7, iv 0)]) rfl ?_
  obtain ⟨n, h⟩ := h
  refine pL8 _ ?_ n _ _ _ _ h
  · intro u3_8 u5_8 M8 hN
    replace h := hN
    clear hN
    refine g_lload_n C dR_together_71 rfl ?_
    refine g_lconst C 0 rfl dR_together_72 ?_
    refine g_lcmp C dR_together_73 ?_
    refine g_if_ne C 81 dR_together_74 (by decide) (fun hc => ?_) (fun hc => ?_)
    · replace h := h.1 hc
      refine g_lload C dR_together_81 rfl ?_
      refine g_lload_n C dR_together_83 rfl ?_
      refine g_ldiv C dR_together_84 h.1 ?_
      replace h := h.2
      refine g_topL (y := Int.tdiv (wrapL u5_8) (wrapL u3_8)) rfl ?_
      refine g_l2i C dR_together_85 ?_
      exact hR _ _ _ _ dR_together_86 rfl h
    · replace h := h.2 hc
      refine g_iconst C dR_together_77 ?_
      refine g_goto C 86 dR_together_78 (by decide) ?_
      exact hR _ _ _ _ dR_together_86 rfl h
def wB_RhaveGrams_40 (a1 : Int) (k : Int → gSt → Prop) (r4 : Int → Int → gSt → Prop) (X4_47 : Int → gSt → Prop) (v3 : Int) (s0 : Int) (M : gSt) : Prop :=
r4 s0 (v3 + 1) M
def wB_RhaveGrams_39 (a1 : Int) (k : Int → gSt → Prop) (r4 : Int → Int → gSt → Prop) (X4_47 : Int → gSt → Prop) (v3 : Int) (M : gSt) : Prop :=
wB_RhaveGrams_40 a1 k r4 X4_47 v3 0 M
def wB_RhaveGrams_35 (a1 : Int) (k : Int → gSt → Prop) (r4 : Int → Int → gSt → Prop) (X4_47 : Int → gSt → Prop) (v3 : Int) (M : gSt) : Prop :=
wB_RhaveGrams_40 a1 k r4 X4_47 v3 1 M
def wC_RhaveGrams_4 (a1 : Int) (k : Int → gSt → Prop) (r4 : Int → Int → gSt → Prop) (X4_47 : Int → gSt → Prop) (v2 : Int) (v3 : Int) (M : gSt) : Prop :=

  (wrap (M 1 0) ≤ wrap v3 →
    X4_47 v2 M) ∧
  (wrap v3 < wrap (M 1 0) →

    (wrap v2 = 0 →
      wB_RhaveGrams_39 a1 k r4 X4_47 v3 M) ∧
    (¬ wrap v2 = 0 →

      (wrap (xand (xshr a1 v3) 1) = 0 →
        wB_RhaveGrams_35 a1 k r4 X4_47 v3 M) ∧
      (¬ wrap (xand (xshr a1 v3) 1) = 0 →
        w_Rits v3 2 M (fun r29c M29 => 
        (wrap r29c ≤ 0 →
          wB_RhaveGrams_39 a1 k r4 X4_47 v3 M29) ∧
        (0 < wrap r29c →
          wB_RhaveGrams_35 a1 k r4 X4_47 v3 M29)))))
def wL_RhaveGrams_4 (a1 : Int) (k : Int → gSt → Prop)  (X4_47 : Int → gSt → Prop) : Nat → Int → Int → gSt → Prop
  | 0 => fun _ _ _ => False
  | n + 1 => fun v2 v3 M => wC_RhaveGrams_4 a1 k  (wL_RhaveGrams_4 a1 k  X4_47 n) X4_47 v2 v3 M
def w_RhaveGrams (a1 : Int) (M : gSt) (k : Int → gSt → Prop) : Prop :=
∃ n, wL_RhaveGrams_4 a1 k  (fun u2_4 M4 =>
    (u2_4 = 0 ∨ u2_4 = 1) ∧ (k u2_4 M4)) n 1 0 M
set_option maxHeartbeats 4000000 in
set_option maxRecDepth 100000 in
theorem m_RhaveGrams {l : Launch} {D : va_G} {cl : List vw_C} {tys : List (ClassId × FieldType)} {ad : Nat → Nat} {cI : ClassId} {ci : Nat} {Z : (Nat → Prop) → State → Prop} (hci : cl[ci]? = some (RX9, TX9, 23)) {a1 : Int} {M : gSt} {k : Int → gSt → Prop} (h : w_RhaveGrams a1 M k) : MOi l yX9_haveGrams cX9_haveGrams 4 .boolean (rmR 1 22) D cl ((cI, .int) :: tys) (wR ad cI ci) tR Z [.ref (ad 0), iv a1] M k := by
  refine moi_intro (by decide +kernel) (Nat.le_of_ble_eq_true rfl) wi_246 ?_
  intro p e s m args below meth c A Q C hR
  have pB40 : ∀ (r4 : Int → Int → gSt → Prop) (X4_47 : Int → gSt → Prop) (hr4 : ∀ (v2 : Int) (v3 : Int) (M : gSt), r4 v2 v3 M → gG p l e (rmR 1 22) s m args below meth c Q D cl A (wR ad cI ci) 4 4 [(0, .ref (ad 0)), (1, iv a1), (2, iv v2), (3, iv v3)] [] M) (hX4_47 : ∀ (v2 : Int) (M : gSt), X4_47 v2 M → gG p l e (rmR 1 22) s m args below meth c Q D cl A (wR ad cI ci) 4 47 [(2, iv v2)] [] M) (v3 : Int) (s0 : Int) (M : gSt), wB_RhaveGrams_40 a1 k r4 X4_47 v3 s0 M → gG p l e (rmR 1 22) s m args below meth c Q D cl A (wR ad cI ci) 4 40 [(0, .ref (ad 0)), (1, iv a1), (3, iv v3)] [iv s0] M := by
    intro r4 X4_47 hr4 hX4_47 v3 s0 M h
    unfold wB_RhaveGrams_40 at h
    refine g_istore_n C dR_haveGrams_40 (by decide) rfl ?_
    refine g_locals (lv' := [(0, .ref (ad 0)), (1, iv a1), (2, iv s0), (3, iv v3)]) rfl ?_
    refine g_iinc C dR_haveGrams_41 rfl (by decide) rfl ?_
    refine g_locals (lv' := [(0, .ref (ad 0)), (1, iv a1), (2, iv s0), (3, iv (v3 + 1))]) rfl ?_
    refine g_goto C 4 dR_haveGrams_44 (by decide) ?_
    refine g_locals (lv' := [(0, .ref (ad 0)), (1, iv a1), (2, iv s0), (3, iv (v3 + 1))]) rfl ?_
    exact hr4 _ _  _ h
  have pB39 : ∀ (r4 : Int → Int → gSt → Prop) (X4_47 : Int → gSt → Prop) (hr4 : ∀ (v2 : Int) (v3 : Int) (M : gSt), r4 v2 v3 M → gG p l e (rmR 1 22) s m args below meth c Q D cl A (wR ad cI ci) 4 4 [(0, .ref (ad 0)), (1, iv a1), (2, iv v2), (3, iv v3)] [] M) (hX4_47 : ∀ (v2 : Int) (M : gSt), X4_47 v2 M → gG p l e (rmR 1 22) s m args below meth c Q D cl A (wR ad cI ci) 4 47 [(2, iv v2)] [] M) (v3 : Int) (M : gSt), wB_RhaveGrams_39 a1 k r4 X4_47 v3 M → gG p l e (rmR 1 22) s m args below meth c Q D cl A (wR ad cI ci) 4 39 [(0, .ref (ad 0)), (1, iv a1), (3, iv v3)] [] M := by
    intro r4 X4_47 hr4 hX4_47 v3 M h
    unfold wB_RhaveGrams_39 at h
    refine g_iconst C dR_haveGrams_39 ?_
    refine g_locals (lv' := [(0, .ref (ad 0)), (1, iv a1), (3, iv v3)]) rfl ?_
    exact pB40 r4 X4_47 hr4 hX4_47 _ _ _ h
  have pB35 : ∀ (r4 : Int → Int → gSt → Prop) (X4_47 : Int → gSt → Prop) (hr4 : ∀ (v2 : Int) (v3 : Int) (M : gSt), r4 v2 v3 M → gG p l e (rmR 1 22) s m args below meth c Q D cl A (wR ad cI ci) 4 4 [(0, .ref (ad 0)), (1, iv a1), (2, iv v2), (3, iv v3)] [] M) (hX4_47 : ∀ (v2 : Int) (M : gSt), X4_47 v2 M → gG p l e (rmR 1 22) s m args below meth c Q D cl A (wR ad cI ci) 4 47 [(2, iv v2)] [] M) (v3 : Int) (M : gSt), wB_RhaveGrams_35 a1 k r4 X4_47 v3 M → gG p l e (rmR 1 22) s m args below meth c Q D cl A (wR ad cI ci) 4 35 [(0, .ref (ad 0)), (1, iv a1), (3, iv v3)] [] M := by
    intro r4 X4_47 hr4 hX4_47 v3 M h
    unfold wB_RhaveGrams_35 at h
    refine g_iconst C dR_haveGrams_35 ?_
    refine g_goto C 40 dR_haveGrams_36 (by decide) ?_
    refine g_locals (lv' := [(0, .ref (ad 0)), (1, iv a1), (3, iv v3)]) rfl ?_
    exact pB40 r4 X4_47 hr4 hX4_47 _ _ _ h
  have pC4 : ∀ (r4 : Int → Int → gSt → Prop) (X4_47 : Int → gSt → Prop) (hr4 : ∀ (v2 : Int) (v3 : Int) (M : gSt), r4 v2 v3 M → gG p l e (rmR 1 22) s m args below meth c Q D cl A (wR ad cI ci) 4 4 [(0, .ref (ad 0)), (1, iv a1), (2, iv v2), (3, iv v3)] [] M) (hX4_47 : ∀ (v2 : Int) (M : gSt), X4_47 v2 M → gG p l e (rmR 1 22) s m args below meth c Q D cl A (wR ad cI ci) 4 47 [(2, iv v2)] [] M) (v2 : Int) (v3 : Int) (M : gSt), wC_RhaveGrams_4 a1 k r4 X4_47 v2 v3 M → gG p l e (rmR 1 22) s m args below meth c Q D cl A (wR ad cI ci) 4 4 [(0, .ref (ad 0)), (1, iv a1), (2, iv v2), (3, iv v3)] [] M := by
    intro r4 X4_47 hr4 hX4_47 v2 v3 M h
    unfold wC_RhaveGrams_4 at h
    refine g_iload_n C dR_haveGrams_4 rfl ?_
    refine g_aload_n C dR_haveGrams_5 rfl ?_
    refine rf_s C hci dR_haveGrams_6 ?_
    refine g_iconst C dR_haveGrams_9 ?_
    refine g_iald C (n := 536) dR_haveGrams_10 rfl (by decide) ⟨by decide, by decide⟩ ?_
    refine g_icmp_ge C 47 dR_haveGrams_11 (by decide) (fun hc => ?_) (fun hc => ?_)
    · replace h := h.1 hc
      refine g_locals (lv' := [(2, iv v2)]) rfl ?_
      exact hX4_47 _  _ h
    · replace h := h.2 hc
      refine g_iload_n C dR_haveGrams_14 rfl ?_
      refine g_if_eq C 39 dR_haveGrams_15 (by decide) (fun hc => ?_) (fun hc => ?_)
      · replace h := h.1 hc
        refine g_locals (lv' := [(0, .ref (ad 0)), (1, iv a1), (3, iv v3)]) rfl ?_
        exact pB39 r4 X4_47 hr4 hX4_47 _ _ h
      · replace h := h.2 hc
        refine g_iload_n C dR_haveGrams_18 rfl ?_
        refine g_iload_n C dR_haveGrams_19 rfl ?_
        refine g_ishr C dR_haveGrams_20 ?_
        refine g_iconst C dR_haveGrams_21 ?_
        refine g_iand C dR_haveGrams_22 ?_
        refine g_if_eq C 35 dR_haveGrams_23 (by decide) (fun hc => ?_) (fun hc => ?_)
        · replace h := h.1 hc
          refine g_locals (lv' := [(0, .ref (ad 0)), (1, iv a1), (3, iv v3)]) rfl ?_
          exact pB35 r4 X4_47 hr4 hX4_47 _ _ h
        · replace h := h.2 hc
          refine g_aload_n C dR_haveGrams_26 rfl ?_
          refine g_iload_n C dR_haveGrams_27 rfl ?_
          refine g_iconst C dR_haveGrams_28 ?_
          refine g_callVi C (nargs := 2) (o := 0) (st := []) (m_Rits hci h) rfl (by decide) hci rfl gd_its (by decide +kernel) ⟨rfl, rfl⟩ dR_haveGrams_29 ⟨by decide, by decide⟩ rfl rfl (Nat.le_of_ble_eq_true rfl) ?_
          intro r29c M29 hN
          replace h := hN
          clear hN
          refine g_if_le C 39 dR_haveGrams_32 (by decide) (fun hc => ?_) (fun hc => ?_)
          · replace h := h.1 hc
            refine g_locals (lv' := [(0, .ref (ad 0)), (1, iv a1), (3, iv v3)]) rfl ?_
            exact pB39 r4 X4_47 hr4 hX4_47 _ _ h
          · replace h := h.2 hc
            refine g_locals (lv' := [(0, .ref (ad 0)), (1, iv a1), (3, iv v3)]) rfl ?_
            exact pB35 r4 X4_47 hr4 hX4_47 _ _ h
  have pL4 : ∀  (X4_47 : Int → gSt → Prop) (hX4_47 : ∀ (v2 : Int) (M : gSt), X4_47 v2 M → gG p l e (rmR 1 22) s m args below meth c Q D cl A (wR ad cI ci) 4 47 [(2, iv v2)] [] M) (n : Nat) (v2 : Int) (v3 : Int) (M : gSt), wL_RhaveGrams_4 a1 k  X4_47 n v2 v3 M → gG p l e (rmR 1 22) s m args below meth c Q D cl A (wR ad cI ci) 4 4 [(0, .ref (ad 0)), (1, iv a1), (2, iv v2), (3, iv v3)] [] M := by
    intro  X4_47 hX4_47 n
    induction n with
    | zero => intro v2 v3 M h; exact h.elim
    | succ n ih =>
      intro v2 v3 M h
      exact pC4  (wL_RhaveGrams_4 a1 k  X4_47 n) X4_47 ih hX4_47 v2 v3 M h
  refine g_locals (lv' := [(0, .ref (ad 0)), (1, iv a1)]) rfl ?_
  unfold w_RhaveGrams at h
  refine g_iconst C dR_haveGrams_0 ?_
  refine g_istore_n C dR_haveGrams_1 (by decide) rfl ?_
  refine g_locals (lv' := [(0, .ref (ad 0)), (1, iv a1), (2, iv 1)]) rfl ?_
  refine g_iconst C dR_haveGrams_2 ?_
  refine g_istore_n C dR_haveGrams_3 (by decide) rfl ?_
  refine g_locals (lv' := [(0, .ref (ad 0)), (1, iv a1), (2, iv 1), (3, iv 0)]) rfl ?_
  refine g_locals (lv' := [(0, .ref (ad 0)), (1, iv a1), (2, iv 1), (3, iv 0)]) rfl ?_
  obtain ⟨n, h⟩ := h
  refine pL4 _ ?_ n _ _ _ h
  · intro u2_4 M4 hN
    replace h := hN
    clear hN
    refine g_iload_n C dR_haveGrams_47 rfl ?_
    exact hR _ _ _ _ dR_haveGrams_48 (zn_bool h.1).1 h.2
def wB_Rmost_27 (a1 : Int) (a2 : Int) (a3 : Int) (k : Int → gSt → Prop)   (M : gSt) : Prop :=
w_Rerror 1 M (fun r29c M29 => k r29c M29)
def wB_Rmost_119 (a1 : Int) (a2 : Int) (a3 : Int) (k : Int → gSt → Prop) (r39 : Int → Int → gSt → Prop) (X39_125 : Int → gSt → Prop) (v4 : Int) (v5 : Int) (M : gSt) : Prop :=
r39 v4 (v5 + 1) M
def wB_Rmost_117 (a1 : Int) (a2 : Int) (a3 : Int) (k : Int → gSt → Prop) (r39 : Int → Int → gSt → Prop) (X39_125 : Int → gSt → Prop) (v5 : Int) (s0 : Int) (M : gSt) : Prop :=
wB_Rmost_119 a1 a2 a3 k r39 X39_125 s0 v5 M
def wB_Rmost_110 (a1 : Int) (a2 : Int) (a3 : Int) (k : Int → gSt → Prop) (r39 : Int → Int → gSt → Prop) (X39_125 : Int → gSt → Prop) (v5 : Int) (M : gSt) : Prop :=
wB_Rmost_117 a1 a2 a3 k r39 X39_125 v5 v5 M
def wB_Rmost_115 (a1 : Int) (a2 : Int) (a3 : Int) (k : Int → gSt → Prop) (r39 : Int → Int → gSt → Prop) (X39_125 : Int → gSt → Prop) (v4 : Int) (v5 : Int) (M : gSt) : Prop :=
wB_Rmost_117 a1 a2 a3 k r39 X39_125 v5 v4 M
def wC_Rmost_39 (a1 : Int) (a2 : Int) (a3 : Int) (k : Int → gSt → Prop) (r39 : Int → Int → gSt → Prop) (X39_125 : Int → gSt → Prop) (v4 : Int) (v5 : Int) (M : gSt) : Prop :=

  (wrap (xshl 1 (M 1 0)) ≤ wrap v5 →
    X39_125 v4 M) ∧
  (wrap v5 < wrap (xshl 1 (M 1 0)) →
    w_RbitsOf v5 M (fun r54c M54 => 
    (wrap a2 < wrap r54c →
      wB_Rmost_119 a1 a2 a3 k r39 X39_125 v4 v5 M54) ∧
    (wrap r54c ≤ wrap a2 →
      w_RhaveGrams v5 M54 (fun r64c M64 => 
      (wrap r64c = 0 →
        wB_Rmost_119 a1 a2 a3 k r39 X39_125 v4 v5 M64) ∧
      (¬ wrap r64c = 0 →
        w_Rtogether a1 v5 M64 (fun r74c M74 => w_Rtogether a1 v4 M74 (fun r81c M81 => ∀ x6_85 : Int, x6_85 = r74c - r81c → (
        (0 < wrap x6_85 →
          wB_Rmost_110 a1 a2 a3 k r39 X39_125 v5 M81) ∧
        (wrap x6_85 ≤ 0 →

          (¬ wrap x6_85 = 0 →
            wB_Rmost_115 a1 a2 a3 k r39 X39_125 v4 v5 M81) ∧
          (wrap x6_85 = 0 →
            w_RbitsOf v5 M81 (fun r99c M99 => w_RbitsOf v4 M99 (fun r104c M104 => 
            (wrap r104c ≤ wrap r99c →
              wB_Rmost_115 a1 a2 a3 k r39 X39_125 v4 v5 M104) ∧
            (wrap r99c < wrap r104c →
              wB_Rmost_110 a1 a2 a3 k r39 X39_125 v5 M104)))))))))))))
def wL_Rmost_39 (a1 : Int) (a2 : Int) (a3 : Int) (k : Int → gSt → Prop)  (X39_125 : Int → gSt → Prop) : Nat → Int → Int → gSt → Prop
  | 0 => fun _ _ _ => False
  | n + 1 => fun v4 v5 M => wC_Rmost_39 a1 a2 a3 k  (wL_Rmost_39 a1 a2 a3 k  X39_125 n) X39_125 v4 v5 M
def w_Rmost (a1 : Int) (a2 : Int) (a3 : Int) (M : gSt) (k : Int → gSt → Prop) : Prop :=
w_Rin a1 0 3 M (fun r3c M3 => 
  (wrap r3c = 0 →
    wB_Rmost_27 a1 a2 a3 k   M3) ∧
  (¬ wrap r3c = 0 →
    w_Rin a2 0 3 M3 (fun r12c M12 => 
    (wrap r12c = 0 →
      wB_Rmost_27 a1 a2 a3 k   M12) ∧
    (¬ wrap r12c = 0 →
      w_Rin a3 0 1 M12 (fun r21c M21 => 
      (¬ wrap r21c = 0 →
        ∃ n, wL_Rmost_39 a1 a2 a3 k  (fun u4_39 M39 =>

          (¬ wrap a3 = 0 →
            w_Rtogether a1 u4_39 M39 (fun r138c M138 => k r138c M138)) ∧
          (wrap a3 = 0 →
            k u4_39 M39)) n 0 1 M21) ∧
      (wrap r21c = 0 →
        wB_Rmost_27 a1 a2 a3 k   M21))))))
set_option maxHeartbeats 4000000 in
set_option maxRecDepth 100000 in
theorem m_Rmost {l : Launch} {D : va_G} {cl : List vw_C} {tys : List (ClassId × FieldType)} {ad : Nat → Nat} {cI : ClassId} {ci : Nat} {Z : (Nat → Prop) → State → Prop} (hci : cl[ci]? = some (RX9, TX9, 23)) {a1 : Int} {a2 : Int} {a3 : Int} {M : gSt} {k : Int → gSt → Prop} (h : w_Rmost a1 a2 a3 M k) : MOi l yX9_most cX9_most 7 .int (rmR 2 49) D cl ((cI, .int) :: tys) (wR ad cI ci) tR Z [.ref (ad 0), iv a1, iv a2, iv a3] M k := by
  refine moi_intro (by decide +kernel) (Nat.le_of_ble_eq_true rfl) wi_253 ?_
  intro p e s m args below meth c A Q C hR
  have pB27 : ∀    (M : gSt), wB_Rmost_27 a1 a2 a3 k   M → gG p l e (rmR 2 49) s m args below meth c Q D cl A (wR ad cI ci) 7 27 [(0, .ref (ad 0))] [] M := by
    intro    M h
    unfold wB_Rmost_27 at h
    refine g_aload_n C dR_most_27 rfl ?_
    refine g_iconst C dR_most_28 ?_
    refine g_callVi C (nargs := 1) (o := 0) (st := []) (m_Rerror hci h) rfl (by decide) hci rfl gd_error (by decide +kernel) ⟨rfl, rfl⟩ dR_most_29 ⟨by decide, by decide⟩ rfl rfl (Nat.le_of_ble_eq_true rfl) ?_
    intro r29c M29 hN
    replace h := hN
    clear hN
    exact hR _ _ _ _ dR_most_32 rfl h
  have pB119 : ∀ (r39 : Int → Int → gSt → Prop) (X39_125 : Int → gSt → Prop) (hr39 : ∀ (v4 : Int) (v5 : Int) (M : gSt), r39 v4 v5 M → gG p l e (rmR 2 49) s m args below meth c Q D cl A (wR ad cI ci) 7 39 [(0, .ref (ad 0)), (1, iv a1), (2, iv a2), (3, iv a3), (4, iv v4), (5, iv v5)] [] M) (hX39_125 : ∀ (v4 : Int) (M : gSt), X39_125 v4 M → gG p l e (rmR 2 49) s m args below meth c Q D cl A (wR ad cI ci) 7 125 [(0, .ref (ad 0)), (1, iv a1), (3, iv a3), (4, iv v4)] [] M) (v4 : Int) (v5 : Int) (M : gSt), wB_Rmost_119 a1 a2 a3 k r39 X39_125 v4 v5 M → gG p l e (rmR 2 49) s m args below meth c Q D cl A (wR ad cI ci) 7 119 [(0, .ref (ad 0)), (1, iv a1), (2, iv a2), (3, iv a3), (4, iv v4), (5, iv v5)] [] M := by
    intro r39 X39_125 hr39 hX39_125 v4 v5 M h
    unfold wB_Rmost_119 at h
    refine g_iinc C dR_most_119 rfl (by decide) rfl ?_
    refine g_locals (lv' := [(0, .ref (ad 0)), (1, iv a1), (2, iv a2), (3, iv a3), (4, iv v4), (5, iv (v5 + 1))]) rfl ?_
    refine g_goto C 39 dR_most_122 (by decide) ?_
    refine g_locals (lv' := [(0, .ref (ad 0)), (1, iv a1), (2, iv a2), (3, iv a3), (4, iv v4), (5, iv (v5 + 1))]) rfl ?_
    exact hr39 _ _  _ h
  have pB117 : ∀ (r39 : Int → Int → gSt → Prop) (X39_125 : Int → gSt → Prop) (hr39 : ∀ (v4 : Int) (v5 : Int) (M : gSt), r39 v4 v5 M → gG p l e (rmR 2 49) s m args below meth c Q D cl A (wR ad cI ci) 7 39 [(0, .ref (ad 0)), (1, iv a1), (2, iv a2), (3, iv a3), (4, iv v4), (5, iv v5)] [] M) (hX39_125 : ∀ (v4 : Int) (M : gSt), X39_125 v4 M → gG p l e (rmR 2 49) s m args below meth c Q D cl A (wR ad cI ci) 7 125 [(0, .ref (ad 0)), (1, iv a1), (3, iv a3), (4, iv v4)] [] M) (v5 : Int) (s0 : Int) (M : gSt), wB_Rmost_117 a1 a2 a3 k r39 X39_125 v5 s0 M → gG p l e (rmR 2 49) s m args below meth c Q D cl A (wR ad cI ci) 7 117 [(0, .ref (ad 0)), (1, iv a1), (2, iv a2), (3, iv a3), (5, iv v5)] [iv s0] M := by
    intro r39 X39_125 hr39 hX39_125 v5 s0 M h
    unfold wB_Rmost_117 at h
    refine g_istore C dR_most_117 (by decide) rfl ?_
    refine g_locals (lv' := [(0, .ref (ad 0)), (1, iv a1), (2, iv a2), (3, iv a3), (4, iv s0), (5, iv v5)]) rfl ?_
    refine g_locals (lv' := [(0, .ref (ad 0)), (1, iv a1), (2, iv a2), (3, iv a3), (4, iv s0), (5, iv v5)]) rfl ?_
    exact pB119 r39 X39_125 hr39 hX39_125 _ _ _ h
  have pB110 : ∀ (r39 : Int → Int → gSt → Prop) (X39_125 : Int → gSt → Prop) (hr39 : ∀ (v4 : Int) (v5 : Int) (M : gSt), r39 v4 v5 M → gG p l e (rmR 2 49) s m args below meth c Q D cl A (wR ad cI ci) 7 39 [(0, .ref (ad 0)), (1, iv a1), (2, iv a2), (3, iv a3), (4, iv v4), (5, iv v5)] [] M) (hX39_125 : ∀ (v4 : Int) (M : gSt), X39_125 v4 M → gG p l e (rmR 2 49) s m args below meth c Q D cl A (wR ad cI ci) 7 125 [(0, .ref (ad 0)), (1, iv a1), (3, iv a3), (4, iv v4)] [] M) (v5 : Int) (M : gSt), wB_Rmost_110 a1 a2 a3 k r39 X39_125 v5 M → gG p l e (rmR 2 49) s m args below meth c Q D cl A (wR ad cI ci) 7 110 [(0, .ref (ad 0)), (1, iv a1), (2, iv a2), (3, iv a3), (5, iv v5)] [] M := by
    intro r39 X39_125 hr39 hX39_125 v5 M h
    unfold wB_Rmost_110 at h
    refine g_iload C dR_most_110 rfl ?_
    refine g_goto C 117 dR_most_112 (by decide) ?_
    refine g_locals (lv' := [(0, .ref (ad 0)), (1, iv a1), (2, iv a2), (3, iv a3), (5, iv v5)]) rfl ?_
    exact pB117 r39 X39_125 hr39 hX39_125 _ _ _ h
  have pB115 : ∀ (r39 : Int → Int → gSt → Prop) (X39_125 : Int → gSt → Prop) (hr39 : ∀ (v4 : Int) (v5 : Int) (M : gSt), r39 v4 v5 M → gG p l e (rmR 2 49) s m args below meth c Q D cl A (wR ad cI ci) 7 39 [(0, .ref (ad 0)), (1, iv a1), (2, iv a2), (3, iv a3), (4, iv v4), (5, iv v5)] [] M) (hX39_125 : ∀ (v4 : Int) (M : gSt), X39_125 v4 M → gG p l e (rmR 2 49) s m args below meth c Q D cl A (wR ad cI ci) 7 125 [(0, .ref (ad 0)), (1, iv a1), (3, iv a3), (4, iv v4)] [] M) (v4 : Int) (v5 : Int) (M : gSt), wB_Rmost_115 a1 a2 a3 k r39 X39_125 v4 v5 M → gG p l e (rmR 2 49) s m args below meth c Q D cl A (wR ad cI ci) 7 115 [(0, .ref (ad 0)), (1, iv a1), (2, iv a2), (3, iv a3), (4, iv v4), (5, iv v5)] [] M := by
    intro r39 X39_125 hr39 hX39_125 v4 v5 M h
    unfold wB_Rmost_115 at h
    refine g_iload C dR_most_115 rfl ?_
    refine g_locals (lv' := [(0, .ref (ad 0)), (1, iv a1), (2, iv a2), (3, iv a3), (5, iv v5)]) rfl ?_
    exact pB117 r39 X39_125 hr39 hX39_125 _ _ _ h
  have pC39 : ∀ (r39 : Int → Int → gSt → Prop) (X39_125 : Int → gSt → Prop) (hr39 : ∀ (v4 : Int) (v5 : Int) (M : gSt), r39 v4 v5 M → gG p l e (rmR 2 49) s m args below meth c Q D cl A (wR ad cI ci) 7 39 [(0, .ref (ad 0)), (1, iv a1), (2, iv a2), (3, iv a3), (4, iv v4), (5, iv v5)] [] M) (hX39_125 : ∀ (v4 : Int) (M : gSt), X39_125 v4 M → gG p l e (rmR 2 49) s m args below meth c Q D cl A (wR ad cI ci) 7 125 [(0, .ref (ad 0)), (1, iv a1), (3, iv a3), (4, iv v4)] [] M) (v4 : Int) (v5 : Int) (M : gSt), wC_Rmost_39 a1 a2 a3 k r39 X39_125 v4 v5 M → gG p l e (rmR 2 49) s m args below meth c Q D cl A (wR ad cI ci) 7 39 [(0, .ref (ad 0)), (1, iv a1), (2, iv a2), (3, iv a3), (4, iv v4), (5, iv v5)] [] M := by
    intro r39 X39_125 hr39 hX39_125 v4 v5 M h
    unfold wC_Rmost_39 at h
    refine g_iload C dR_most_39 rfl ?_
    refine g_iconst C dR_most_41 ?_
    refine g_aload_n C dR_most_42 rfl ?_
    refine rf_s C hci dR_most_43 ?_
    refine g_iconst C dR_most_46 ?_
    refine g_iald C (n := 536) dR_most_47 rfl (by decide) ⟨by decide, by decide⟩ ?_
    refine g_ishl C dR_most_48 ?_
    refine g_icmp_ge C 125 dR_most_49 (by decide) (fun hc => ?_) (fun hc => ?_)
    · replace h := h.1 hc
      refine g_locals (lv' := [(0, .ref (ad 0)), (1, iv a1), (3, iv a3), (4, iv v4)]) rfl ?_
      exact hX39_125 _  _ h
    · replace h := h.2 hc
      refine g_iload C dR_most_52 rfl ?_
      refine g_callSi C (nargs := 1) (st := []) (m_RbitsOf hci h) gd_bitsOf (by decide +kernel) ⟨rfl, rfl⟩ dR_most_54 ⟨by decide, by decide⟩ rfl rfl (Nat.le_of_ble_eq_true rfl) ?_
      intro r54c M54 hN
      replace h := hN
      clear hN
      refine g_iload_n C dR_most_57 rfl ?_
      refine g_icmp_gt C 119 dR_most_58 (by decide) (fun hc => ?_) (fun hc => ?_)
      · replace h := h.1 hc
        refine g_locals (lv' := [(0, .ref (ad 0)), (1, iv a1), (2, iv a2), (3, iv a3), (4, iv v4), (5, iv v5)]) rfl ?_
        exact pB119 r39 X39_125 hr39 hX39_125 _ _ _ h
      · replace h := h.2 hc
        refine g_aload_n C dR_most_61 rfl ?_
        refine g_iload C dR_most_62 rfl ?_
        refine g_callVi C (nargs := 1) (o := 0) (st := []) (m_RhaveGrams hci h) rfl (by decide) hci rfl gd_haveGrams (by decide +kernel) ⟨rfl, rfl⟩ dR_most_64 ⟨by decide, by decide⟩ rfl rfl (Nat.le_of_ble_eq_true rfl) ?_
        intro r64c M64 hN
        replace h := hN
        clear hN
        refine g_if_eq C 119 dR_most_67 (by decide) (fun hc => ?_) (fun hc => ?_)
        · replace h := h.1 hc
          refine g_locals (lv' := [(0, .ref (ad 0)), (1, iv a1), (2, iv a2), (3, iv a3), (4, iv v4), (5, iv v5)]) rfl ?_
          exact pB119 r39 X39_125 hr39 hX39_125 _ _ _ h
        · replace h := h.2 hc
          refine g_aload_n C dR_most_70 rfl ?_
          refine g_iload_n C dR_most_71 rfl ?_
          refine g_iload C dR_most_72 rfl ?_
          refine g_callVi C (nargs := 2) (o := 0) (st := []) (m_Rtogether hci h) rfl (by decide) hci rfl gd_together (by decide +kernel) ⟨rfl, rfl⟩ dR_most_74 ⟨by decide, by decide⟩ rfl rfl (Nat.le_of_ble_eq_true rfl) ?_
          intro r74c M74 hN
          replace h := hN
          clear hN
          refine g_aload_n C dR_most_77 rfl ?_
          refine g_iload_n C dR_most_78 rfl ?_
          refine g_iload C dR_most_79 rfl ?_
          refine g_callVi C (nargs := 2) (o := 0) (st := [iv r74c]) (m_Rtogether hci h) rfl (by decide) hci rfl gd_together (by decide +kernel) ⟨rfl, rfl⟩ dR_most_81 ⟨by decide, by decide⟩ rfl rfl (Nat.le_of_ble_eq_true rfl) ?_
          intro r81c M81 hN
          replace h := hN
          clear hN
          refine g_isub C dR_most_84 ?_
          refine g_name (fun x6_85 hx6_85 => ?_)
          replace h := h x6_85 hx6_85
          refine g_istore C dR_most_85 (by decide) rfl ?_
          refine g_locals (lv' := [(0, .ref (ad 0)), (1, iv a1), (2, iv a2), (3, iv a3), (4, iv v4), (5, iv v5), (6, iv x6_85)]) rfl ?_
          refine g_iload C dR_most_87 rfl ?_
          refine g_if_gt C 110 dR_most_89 (by decide) (fun hc => ?_) (fun hc => ?_)
          · replace h := h.1 hc
            refine g_locals (lv' := [(0, .ref (ad 0)), (1, iv a1), (2, iv a2), (3, iv a3), (5, iv v5)]) rfl ?_
            exact pB110 r39 X39_125 hr39 hX39_125 _ _ h
          · replace h := h.2 hc
            refine g_iload C dR_most_92 rfl ?_
            refine g_if_ne C 115 dR_most_94 (by decide) (fun hc => ?_) (fun hc => ?_)
            · replace h := h.1 hc
              refine g_locals (lv' := [(0, .ref (ad 0)), (1, iv a1), (2, iv a2), (3, iv a3), (4, iv v4), (5, iv v5)]) rfl ?_
              exact pB115 r39 X39_125 hr39 hX39_125 _ _ _ h
            · replace h := h.2 hc
              refine g_iload C dR_most_97 rfl ?_
              refine g_callSi C (nargs := 1) (st := []) (m_RbitsOf hci h) gd_bitsOf (by decide +kernel) ⟨rfl, rfl⟩ dR_most_99 ⟨by decide, by decide⟩ rfl rfl (Nat.le_of_ble_eq_true rfl) ?_
              intro r99c M99 hN
              replace h := hN
              clear hN
              refine g_iload C dR_most_102 rfl ?_
              refine g_callSi C (nargs := 1) (st := [iv r99c]) (m_RbitsOf hci h) gd_bitsOf (by decide +kernel) ⟨rfl, rfl⟩ dR_most_104 ⟨by decide, by decide⟩ rfl rfl (Nat.le_of_ble_eq_true rfl) ?_
              intro r104c M104 hN
              replace h := hN
              clear hN
              refine g_icmp_ge C 115 dR_most_107 (by decide) (fun hc => ?_) (fun hc => ?_)
              · replace h := h.1 hc
                refine g_locals (lv' := [(0, .ref (ad 0)), (1, iv a1), (2, iv a2), (3, iv a3), (4, iv v4), (5, iv v5)]) rfl ?_
                exact pB115 r39 X39_125 hr39 hX39_125 _ _ _ h
              · replace h := h.2 hc
                refine g_locals (lv' := [(0, .ref (ad 0)), (1, iv a1), (2, iv a2), (3, iv a3), (5, iv v5)]) rfl ?_
                exact pB110 r39 X39_125 hr39 hX39_125 _ _ h
  have pL39 : ∀  (X39_125 : Int → gSt → Prop) (hX39_125 : ∀ (v4 : Int) (M : gSt), X39_125 v4 M → gG p l e (rmR 2 49) s m args below meth c Q D cl A (wR ad cI ci) 7 125 [(0, .ref (ad 0)), (1, iv a1), (3, iv a3), (4, iv v4)] [] M) (n : Nat) (v4 : Int) (v5 : Int) (M : gSt), wL_Rmost_39 a1 a2 a3 k  X39_125 n v4 v5 M → gG p l e (rmR 2 49) s m args below meth c Q D cl A (wR ad cI ci) 7 39 [(0, .ref (ad 0)), (1, iv a1), (2, iv a2), (3, iv a3), (4, iv v4), (5, iv v5)] [] M := by
    intro  X39_125 hX39_125 n
    induction n with
    | zero => intro v4 v5 M h; exact h.elim
    | succ n ih =>
      intro v4 v5 M h
      exact pC39  (wL_Rmost_39 a1 a2 a3 k  X39_125 n) X39_125 ih hX39_125 v4 v5 M h
  refine g_locals (lv' := [(0, .ref (ad 0)), (1, iv a1), (2, iv a2), (3, iv a3)]) rfl ?_
  unfold w_Rmost at h
  refine g_iload_n C dR_most_0 rfl ?_
  refine g_iconst C dR_most_1 ?_
  refine g_iconst C dR_most_2 ?_
  refine g_callSi C (nargs := 3) (st := []) (m_Rin hci h) gd_in (by decide +kernel) ⟨rfl, rfl⟩ dR_most_3 ⟨by decide, by decide⟩ rfl rfl (Nat.le_of_ble_eq_true rfl) ?_
  intro r3c M3 hN
  replace h := hN
  clear hN
  refine g_if_eq C 27 dR_most_6 (by decide) (fun hc => ?_) (fun hc => ?_)
  · replace h := h.1 hc
    refine g_locals (lv' := [(0, .ref (ad 0))]) rfl ?_
    exact pB27  _ h
  · replace h := h.2 hc
    refine g_iload_n C dR_most_9 rfl ?_
    refine g_iconst C dR_most_10 ?_
    refine g_iconst C dR_most_11 ?_
    refine g_callSi C (nargs := 3) (st := []) (m_Rin hci h) gd_in (by decide +kernel) ⟨rfl, rfl⟩ dR_most_12 ⟨by decide, by decide⟩ rfl rfl (Nat.le_of_ble_eq_true rfl) ?_
    intro r12c M12 hN
    replace h := hN
    clear hN
    refine g_if_eq C 27 dR_most_15 (by decide) (fun hc => ?_) (fun hc => ?_)
    · replace h := h.1 hc
      refine g_locals (lv' := [(0, .ref (ad 0))]) rfl ?_
      exact pB27  _ h
    · replace h := h.2 hc
      refine g_iload_n C dR_most_18 rfl ?_
      refine g_iconst C dR_most_19 ?_
      refine g_iconst C dR_most_20 ?_
      refine g_callSi C (nargs := 3) (st := []) (m_Rin hci h) gd_in (by decide +kernel) ⟨rfl, rfl⟩ dR_most_21 ⟨by decide, by decide⟩ rfl rfl (Nat.le_of_ble_eq_true rfl) ?_
      intro r21c M21 hN
      replace h := hN
      clear hN
      refine g_if_ne C 33 dR_most_24 (by decide) (fun hc => ?_) (fun hc => ?_)
      · replace h := h.1 hc
        refine g_iconst C dR_most_33 ?_
        refine g_istore C dR_most_34 (by decide) rfl ?_
        refine g_locals (lv' := [(0, .ref (ad 0)), (1, iv a1), (2, iv a2), (3, iv a3), (4, iv 0)]) rfl ?_
        refine g_iconst C dR_most_36 ?_
        refine g_istore C dR_most_37 (by decide) rfl ?_
        refine g_locals (lv' := [(0, .ref (ad 0)), (1, iv a1), (2, iv a2), (3, iv a3), (4, iv 0), (5, iv 1)]) rfl ?_
        refine g_locals (lv' := [(0, .ref (ad 0)), (1, iv a1), (2, iv a2), (3, iv a3), (4, iv 0), (5, iv 1)]) rfl ?_
        obtain ⟨n, h⟩ := h
        refine pL39 _ ?_ n _ _ _ h
        · intro u4_39 M39 hN
          replace h := hN
          clear hN
          refine g_iload_n C dR_most_125 rfl ?_
          refine g_if_ne C 134 dR_most_126 (by decide) (fun hc => ?_) (fun hc => ?_)
          · replace h := h.1 hc
            refine g_aload_n C dR_most_134 rfl ?_
            refine g_iload_n C dR_most_135 rfl ?_
            refine g_iload C dR_most_136 rfl ?_
            refine g_callVi C (nargs := 2) (o := 0) (st := []) (m_Rtogether hci h) rfl (by decide) hci rfl gd_together (by decide +kernel) ⟨rfl, rfl⟩ dR_most_138 ⟨by decide, by decide⟩ rfl rfl (Nat.le_of_ble_eq_true rfl) ?_
            intro r138c M138 hN
            replace h := hN
            clear hN
            exact hR _ _ _ _ dR_most_141 rfl h
          · replace h := h.2 hc
            refine g_iload C dR_most_129 rfl ?_
            refine g_goto C 141 dR_most_131 (by decide) ?_
            exact hR _ _ _ _ dR_most_141 rfl h
      · replace h := h.2 hc
        refine g_locals (lv' := [(0, .ref (ad 0))]) rfl ?_
        exact pB27  _ h
def w_Rbegins (a1 : Int) (M : gSt) (k : gSt → Prop) : Prop :=

  (30 ≤ wrap (M 0 16) →
    k M) ∧
  (wrap (M 0 16) < 30 →
    (0 ≤ M 0 16 ∧ M 0 16 < 30) ∧ (∀ M18 : gSt, M18 = wr M 10 (M 0 16) a1 → (∀ M26 : gSt, M26 = wr M18 0 16 ((M18 0 16) + 1) → (k M26))))
set_option maxHeartbeats 4000000 in
set_option maxRecDepth 100000 in
theorem m_Rbegins {l : Launch} {D : va_G} {cl : List vw_C} {tys : List (ClassId × FieldType)} {ad : Nat → Nat} {cI : ClassId} {ci : Nat} {Z : (Nat → Prop) → State → Prop} (hci : cl[ci]? = some (RX9, TX9, 23)) {a1 : Int} {M : gSt} {k : gSt → Prop} (h : w_Rbegins a1 M k) : MOv l yX9_begins cX9_begins 2 (rmR 0 0) D cl ((cI, .int) :: tys) (wR ad cI ci) tR Z [.ref (ad 0), iv a1] M k := by
  refine mov_intro (by decide +kernel) (Nat.le_of_ble_eq_true rfl) wi_255 ?_
  intro p e s m args below meth c A Q C hR
  refine g_locals (lv' := [(0, .ref (ad 0)), (1, iv a1)]) rfl ?_
  unfold w_Rbegins at h
  refine g_aload_n C dR_begins_0 rfl ?_
  refine rf_traced C hci dR_begins_1 ?_
  refine g_bipush C dR_begins_4 rfl ?_
  refine g_icmp_ge C 29 dR_begins_6 (by decide) (fun hc => ?_) (fun hc => ?_)
  · replace h := h.1 hc
    exact hR _ _ _ dR_begins_29 h
  · replace h := h.2 hc
    refine g_aload_n C dR_begins_9 rfl ?_
    refine rf_trace C hci dR_begins_10 ?_
    refine g_aload_n C dR_begins_13 rfl ?_
    refine rf_traced C hci dR_begins_14 ?_
    refine g_iload_n C dR_begins_17 rfl ?_
    refine g_iast C (n := 30) dR_begins_18 rfl (by decide) h.1 ?_
    replace h := h.2
    refine g_memname (fun M18 hM18 => ?_)
    replace h := h M18 hM18
    refine g_aload_n C dR_begins_19 rfl ?_
    refine g_dup C dR_begins_20 rfl ?_
    refine rf_traced C hci dR_begins_21 ?_
    refine g_iconst C dR_begins_24 ?_
    refine g_iadd C dR_begins_25 ?_
    refine rp_traced C hci dR_begins_26 ?_
    refine g_memname (fun M26 hM26 => ?_)
    replace h := h M26 hM26
    exact hR _ _ _ dR_begins_29 h
