def wB_Rtogether_65 (a1 : Int) (a2 : Int) (k : Int → gSt → Prop) (r8 : Int → Int → Int → gSt → Prop) (X8_71 : Int → Int → gSt → Prop) (v3 : Int) (v5 : Int) (v7 : Int) (M : gSt) : Prop :=
r8 v3 v5 (v7 + 1) M
def wC_Rtogether_8 (a1 : Int) (a2 : Int) (k : Int → gSt → Prop) (r8 : Int → Int → Int → gSt → Prop) (X8_71 : Int → Int → gSt → Prop) (v3 : Int) (v5 : Int) (v7 : Int) (M : gSt) : Prop :=

  (wrap (M 1 0) ≤ wrap v7 →
    X8_71 v3 v5 M) ∧
  (wrap v7 < wrap (M 1 0) →

    (¬ wrap (xand (xshr a2 v7) 1) = 1 →
      wB_Rtogether_65 a1 a2 k r8 X8_71 v3 v5 v7 M) ∧
    (wrap (xand (xshr a2 v7) 1) = 1 →
      w_Rits v7 2 M (fun r34c M34 => ∀ x3_39 : Int, x3_39 = v3 + (wrap r34c) → (w_Rits v7 2 M34 (fun r46c M46 => w_Rits v7 (6 + a1) M46 (fun r57c M57 => ∀ x5_63 : Int, x5_63 = v5 + ((wrap r46c) * (wrap r57c)) → (wB_Rtogether_65 a1 a2 k r8 X8_71 x3_39 x5_63 v7 M57)))))))
def wL_Rtogether_8 (a1 : Int) (a2 : Int) (k : Int → gSt → Prop)  (X8_71 : Int → Int → gSt → Prop) : Nat → Int → Int → Int → gSt → Prop
  | 0 => fun _ _ _ _ => False
  | n + 1 => fun v3 v5 v7 M => wC_Rtogether_8 a1 a2 k  (wL_Rtogether_8 a1 a2 k  X8_71 n) X8_71 v3 v5 v7 M
def w_Rtogether (a1 : Int) (a2 : Int) (M : gSt) (k : Int → gSt → Prop) : Prop :=
∃ n, wL_Rtogether_8 a1 a2 k  (fun u3_8 u5_8 M8 =>

    (¬ wrap (ycmp u3_8 0) = 0 →
      (wrapL u3_8 ≠ 0) ∧ (k (Int.tdiv (wrapL u5_8) (wrapL u3_8)) M8)) ∧
    (wrap (ycmp u3_8 0) = 0 →
      k 0 M8)) n 0 0 0 M
set_option maxHeartbeats 4000000 in
set_option maxRecDepth 100000 in
theorem m_Rtogether {l : Launch} {D : va_G} {cl : List vw_C} {tys : List (ClassId × FieldType)} {ad : Nat → Nat} {cI : ClassId} {ci : Nat} {Z : (Nat → Prop) → State → Prop} (hci : cl[ci]? = some (RX9, TX9, 23)) {a1 : Int} {a2 : Int} {M : gSt} {k : Int → gSt → Prop} (h : w_Rtogether a1 a2 M k) : MOi l yX9_together cX9_together 8 .int (rmR 1 22) D cl ((cI, .int) :: tys) (wR ad cI ci) tR Z [.ref (ad 0), iv a1, iv a2] M k := by
  refine moi_intro (by decide +kernel) (Nat.le_of_ble_eq_true rfl) wi_245 ?_
  intro p e s m args below meth c A Q C hR
  have pB65 : ∀ (r8 : Int → Int → Int → gSt → Prop) (X8_71 : Int → Int → gSt → Prop) (hr8 : ∀ (v3 : Int) (v5 : Int) (v7 : Int) (M : gSt), r8 v3 v5 v7 M → gG p l e (rmR 1 22) s m args below meth c Q D cl A (wR ad cI ci) 8 8 [(0, .ref (ad 0)), (1, iv a1), (2, iv a2), (3, jv v3), (5, jv v5), (7, iv v7)] [] M) (hX8_71 : ∀ (v3 : Int) (v5 : Int) (M : gSt), X8_71 v3 v5 M → gG p l e (rmR 1 22) s m args below meth c Q D cl A (wR ad cI ci) 8 71 [(3, jv v3), (5, jv v5)] [] M) (v3 : Int) (v5 : Int) (v7 : Int) (M : gSt), wB_Rtogether_65 a1 a2 k r8 X8_71 v3 v5 v7 M → gG p l e (rmR 1 22) s m args below meth c Q D cl A (wR ad cI ci) 8 65 [(0, .ref (ad 0)), (1, iv a1), (2, iv a2), (3, jv v3), (5, jv v5), (7, iv v7)] [] M := by
    intro r8 X8_71 hr8 hX8_71 v3 v5 v7 M h
    unfold wB_Rtogether_65 at h
    refine g_iinc C dR_together_65 rfl (by decide) rfl ?_
    refine g_locals (lv' := [(0, .ref (ad 0)), (1, iv a1), (2, iv a2), (3, jv v3), (5, jv v5), (7, iv (v7 + 1))]) rfl ?_
    refine g_goto C 8 dR_together_68 (by decide) ?_
    refine g_locals (lv' := [(0, .ref (ad 0)), (1, iv a1), (2, iv a2), (3, jv v3), (5, jv v5), (7, iv (v7 + 1))]) rfl ?_
    exact hr8 _ _ _  _ h
  have pC8 : ∀ (r8 : Int → Int → Int → gSt → Prop) (X8_71 : Int → Int → gSt → Prop) (hr8 : ∀ (v3 : Int) (v5 : Int) (v7 : Int) (M : gSt), r8 v3 v5 v7 M → gG p l e (rmR 1 22) s m args below meth c Q D cl A (wR ad cI ci) 8 8 [(0, .ref (ad 0)), (1, iv a1), (2, iv a2), (3, jv v3), (5, jv v5), (7, iv v7)] [] M) (hX8_71 : ∀ (v3 : Int) (v5 : Int) (M : gSt), X8_71 v3 v5 M → gG p l e (rmR 1 22) s m args below meth c Q D cl A (wR ad cI ci) 8 71 [(3, jv v3), (5, jv v5)] [] M) (v3 : Int) (v5 : Int) (v7 : Int) (M : gSt), wC_Rtogether_8 a1 a2 k r8 X8_71 v3 v5 v7 M → gG p l e (rmR 1 22) s m args below meth c Q D cl A (wR ad cI ci) 8 8 [(0, .ref (ad 0)), (1, iv a1), (2, iv a2), (3, jv v3), (5, jv v5), (7, iv v7)] [] M := by
    intro r8 X8_71 hr8 hX8_71 v3 v5 v7 M h
    unfold wC_Rtogether_8 at h
    refine g_iload C dR_together_8 rfl ?_
    refine g_aload_n C dR_together_10 rfl ?_
    refine rf_s C hci dR_together_11 ?_
    refine g_iconst C dR_together_14 ?_
    refine g_iald C (n := 536) dR_together_15 rfl (by decide) ⟨by decide, by decide⟩ ?_
    refine g_icmp_ge C 71 dR_together_16 (by decide) (fun hc => ?_) (fun hc => ?_)
    · replace h := h.1 hc
      refine g_locals (lv' := [(3, jv v3), (5, jv v5)]) rfl ?_
      exact hX8_71 _ _  _ h
    · replace h := h.2 hc
      refine g_iload_n C dR_together_19 rfl ?_
      refine g_iload C dR_together_20 rfl ?_
      refine g_ishr C dR_together_22 ?_
      refine g_iconst C dR_together_23 ?_
      refine g_iand C dR_together_24 ?_
      refine g_iconst C dR_together_25 ?_
      refine g_icmp_ne C 65 dR_together_26 (by decide) (fun hc => ?_) (fun hc => ?_)
      · replace h := h.1 hc
        refine g_locals (lv' := [(0, .ref (ad 0)), (1, iv a1), (2, iv a2), (3, jv v3), (5, jv v5), (7, iv v7)]) rfl ?_
        exact pB65 r8 X8_71 hr8 hX8_71 _ _ _ _ h
      · replace h := h.2 hc
        refine g_lload_n C dR_together_29 rfl ?_
        refine g_aload_n C dR_together_30 rfl ?_
        refine g_iload C dR_together_31 rfl ?_
        refine g_iconst C dR_together_33 ?_
        refine g_callVi C (nargs := 2) (o := 0) (st := [jv v3]) (m_Rits hci h) rfl (by decide) hci rfl gd_its (by decide +kernel) ⟨rfl, rfl⟩ dR_together_34 ⟨by decide, by decide⟩ rfl rfl (Nat.le_of_ble_eq_true rfl) ?_
        intro r34c M34 h
        refine g_i2l C dR_together_37 ?_
        refine g_ladd C dR_together_38 ?_
        refine g_nameL (fun x3_39 hx3_39 => ?_)
        replace h := h x3_39 hx3_39
        refine g_lstore_n C dR_together_39 (by decide) rfl ?_
        refine g_locals (lv' := [(0, .ref (ad 0)), (1, iv a1), (2, iv a2), (3, jv x3_39), (5, jv v5), (7, iv v7)]) rfl ?_
        refine g_lload C dR_together_40 rfl ?_
        refine g_aload_n C dR_together_42 rfl ?_
        refine g_iload C dR_together_43 rfl ?_
        refine g_iconst C dR_together_45 ?_
        refine g_callVi C (nargs := 2) (o := 0) (st := [jv v5]) (m_Rits hci h) rfl (by decide) hci rfl gd_its (by decide +kernel) ⟨rfl, rfl⟩ dR_together_46 ⟨by decide, by decide⟩ rfl rfl (Nat.le_of_ble_eq_true rfl) ?_
        intro r46c M46 h
        refine g_i2l C dR_together_49 ?_
        refine g_aload_n C dR_together_50 rfl ?_
        refine g_iload C dR_together_51 rfl ?_
        refine g_bipush C dR_together_53 rfl ?_
        refine g_iload_n C dR_together_55 rfl ?_
        refine g_iadd C dR_together_56 ?_
        refine g_callVi C (nargs := 2) (o := 0) (st := [jv (wrap r46c), jv v5]) (m_Rits hci h) rfl (by decide) hci rfl gd_its (by decide +kernel) ⟨rfl, rfl⟩ dR_together_57 ⟨by decide, by decide⟩ rfl rfl (Nat.le_of_ble_eq_true rfl) ?_
        intro r57c M57 h
        refine g_i2l C dR_together_60 ?_
        refine g_lmul C dR_together_61 ?_
        refine g_ladd C dR_together_62 ?_
        refine g_nameL (fun x5_63 hx5_63 => ?_)
        replace h := h x5_63 hx5_63
        refine g_lstore C dR_together_63 (by decide) rfl ?_
        refine g_locals (lv' := [(0, .ref (ad 0)), (1, iv a1), (2, iv a2), (3, jv x3_39), (5, jv x5_63), (7, iv v7)]) rfl ?_
        refine g_locals (lv' := [(0, .ref (ad 0)), (1, iv a1), (2, iv a2), (3, jv x3_39), (5, jv x5_63), (7, iv v7)]) rfl ?_
        exact pB65 r8 X8_71 hr8 hX8_71 _ _ _ _ h
  have pL8 : ∀  (X8_71 : Int → Int → gSt → Prop) (hX8_71 : ∀ (v3 : Int) (v5 : Int) (M : gSt), X8_71 v3 v5 M → gG p l e (rmR 1 22) s m args below meth c Q D cl A (wR ad cI ci) 8 71 [(3, jv v3), (5, jv v5)] [] M) (n : Nat) (v3 : Int) (v5 : Int) (v7 : Int) (M : gSt), wL_Rtogether_8 a1 a2 k  X8_71 n v3 v5 v7 M → gG p l e (rmR 1 22) s m args below meth c Q D cl A (wR ad cI ci) 8 8 [(0, .ref (ad 0)), (1, iv a1), (2, iv a2), (3, jv v3), (5, jv v5), (7, iv v7)] [] M := by
    intro  X8_71 hX8_71 n
    induction n with
    | zero => intro v3 v5 v7 M h; exact h.elim
    | succ n ih =>
      intro v3 v5 v7 M h
      exact pC8  (wL_Rtogether_8 a1 a2 k  X8_71 n) X8_71 ih hX8_71 v3 v5 v7 M h
  refine g_locals (lv' := [(0, .ref (ad 0)), (1, iv a1), (2, iv a2)]) rfl ?_
  unfold w_Rtogether at h
  refine g_lconst C 0 rfl dR_together_0 ?_
  refine g_lstore_n C dR_together_1 (by decide) rfl ?_
  refine g_locals (lv' := [(0, .ref (ad 0)), (1, iv a1), (2, iv a2), (3, jv 0)]) rfl ?_
  refine g_lconst C 0 rfl dR_together_2 ?_
  refine g_lstore C dR_together_3 (by decide) rfl ?_
  refine g_locals (lv' := [(0, .ref (ad 0)), (1, iv a1), (2, iv a2), (3, jv 0), (5, jv 0)]) rfl ?_
  refine g_iconst C dR_together_5 ?_
  refine g_istore C dR_together_6 (by decide) rfl ?_
  refine g_locals (lv' := [(0, .ref (ad 0)), (1, iv a1), (2, iv a2), (3, jv 0), (5, jv 0), (7, iv 0)]) rfl ?_
  refine g_locals (lv' := [(0, .ref (ad 0)), (1, iv a1), (2, iv a2), (3, jv 0), (5, jv 0), (7, iv 0)]) rfl ?_
  obtain ⟨n, h⟩ := h
  refine pL8 _ ?_ n _ _ _ _ h
  · intro u3_8 u5_8 M8 h
    refine g_lload_n C dR_together_71 rfl ?_
    refine g_lconst C 0 rfl dR_together_72 ?_
    refine g_lcmp C dR_together_73 ?_
    refine g_if_ne C 81 dR_together_74 (by decide) (fun hc => ?_) (fun hc => ?_)
    · replace h := h.1 hc
      refine g_lload C dR_together_81 rfl ?_
      refine g_lload_n C dR_together_83 rfl ?_
      refine g_ldiv C dR_together_84 h.1 ?_
      replace h := h.2
      refine g_topL (y := Int.tdiv (wrapL u5_8) (wrapL u3_8)) rfl ?_
      refine g_l2i C dR_together_85 ?_
      exact hR _ _ _ _ dR_together_86 rfl h
    · replace h := h.2 hc
      refine g_iconst C dR_together_77 ?_
      refine g_goto C 86 dR_together_78 (by decide) ?_
      exact hR _ _ _ _ dR_together_86 rfl h
def wB_RhaveGrams_40 (a1 : Int) (k : Int → gSt → Prop) (r4 : Int → Int → gSt → Prop) (X4_47 : Int → gSt → Prop) (v3 : Int) (s0 : Int) (M : gSt) : Prop :=
r4 s0 (v3 + 1) M
def wB_RhaveGrams_39 (a1 : Int) (k : Int → gSt → Prop) (r4 : Int → Int → gSt → Prop) (X4_47 : Int → gSt → Prop) (v3 : Int) (M : gSt) : Prop :=
wB_RhaveGrams_40 a1 k r4 X4_47 v3 0 M
def wB_RhaveGrams_35 (a1 : Int) (k : Int → gSt → Prop) (r4 : Int → Int → gSt → Prop) (X4_47 : Int → gSt → Prop) (v3 : Int) (M : gSt) : Prop :=
wB_RhaveGrams_40 a1 k r4 X4_47 v3 1 M
def wC_RhaveGrams_4 (a1 : Int) (k : Int → gSt → Prop) (r4 : Int → Int → gSt → Prop) (X4_47 : Int → gSt → Prop) (v2 : Int) (v3 : Int) (M : gSt) : Prop :=

  (wrap (M 1 0) ≤ wrap v3 →
    X4_47 v2 M) ∧
  (wrap v3 < wrap (M 1 0) →

    (wrap v2 = 0 →
      wB_RhaveGrams_39 a1 k r4 X4_47 v3 M) ∧
    (¬ wrap v2 = 0 →

      (wrap (xand (xshr a1 v3) 1) = 0 →
        wB_RhaveGrams_35 a1 k r4 X4_47 v3 M) ∧
      (¬ wrap (xand (xshr a1 v3) 1) = 0 →
        w_Rits v3 2 M (fun r29c M29 => 
        (wrap r29c ≤ 0 →
          wB_RhaveGrams_39 a1 k r4 X4_47 v3 M29) ∧
        (0 < wrap r29c →
          wB_RhaveGrams_35 a1 k r4 X4_47 v3 M29)))))
def wL_RhaveGrams_4 (a1 : Int) (k : Int → gSt → Prop)  (X4_47 : Int → gSt → Prop) : Nat → Int → Int → gSt → Prop
  | 0 => fun _ _ _ => False
  | n + 1 => fun v2 v3 M => wC_RhaveGrams_4 a1 k  (wL_RhaveGrams_4 a1 k  X4_47 n) X4_47 v2 v3 M
def w_RhaveGrams (a1 : Int) (M : gSt) (k : Int → gSt → Prop) : Prop :=
∃ n, wL_RhaveGrams_4 a1 k  (fun u2_4 M4 =>
    (u2_4 = 0 ∨ u2_4 = 1) ∧ (k u2_4 M4)) n 1 0 M
set_option maxHeartbeats 4000000 in
set_option maxRecDepth 100000 in
theorem m_RhaveGrams {l : Launch} {D : va_G} {cl : List vw_C} {tys : List (ClassId × FieldType)} {ad : Nat → Nat} {cI : ClassId} {ci : Nat} {Z : (Nat → Prop) → State → Prop} (hci : cl[ci]? = some (RX9, TX9, 23)) {a1 : Int} {M : gSt} {k : Int → gSt → Prop} (h : w_RhaveGrams a1 M k) : MOi l yX9_haveGrams cX9_haveGrams 4 .boolean (rmR 1 22) D cl ((cI, .int) :: tys) (wR ad cI ci) tR Z [.ref (ad 0), iv a1] M k := by
  refine moi_intro (by decide +kernel) (Nat.le_of_ble_eq_true rfl) wi_246 ?_
  intro p e s m args below meth c A Q C hR
  have pB40 : ∀ (r4 : Int → Int → gSt → Prop) (X4_47 : Int → gSt → Prop) (hr4 : ∀ (v2 : Int) (v3 : Int) (M : gSt), r4 v2 v3 M → gG p l e (rmR 1 22) s m args below meth c Q D cl A (wR ad cI ci) 4 4 [(0, .ref (ad 0)), (1, iv a1), (2, iv v2), (3, iv v3)] [] M) (hX4_47 : ∀ (v2 : Int) (M : gSt), X4_47 v2 M → gG p l e (rmR 1 22) s m args below meth c Q D cl A (wR ad cI ci) 4 47 [(2, iv v2)] [] M) (v3 : Int) (s0 : Int) (M : gSt), wB_RhaveGrams_40 a1 k r4 X4_47 v3 s0 M → gG p l e (rmR 1 22) s m args below meth c Q D cl A (wR ad cI ci) 4 40 [(0, .ref (ad 0)), (1, iv a1), (3, iv v3)] [iv s0] M := by
    intro r4 X4_47 hr4 hX4_47 v3 s0 M h
    unfold wB_RhaveGrams_40 at h
    refine g_istore_n C dR_haveGrams_40 (by decide) rfl ?_
    refine g_locals (lv' := [(0, .ref (ad 0)), (1, iv a1), (2, iv s0), (3, iv v3)]) rfl ?_
    refine g_iinc C dR_haveGrams_41 rfl (by decide) rfl ?_
    refine g_locals (lv' := [(0, .ref (ad 0)), (1, iv a1), (2, iv s0), (3, iv (v3 + 1))]) rfl ?_
    refine g_goto C 4 dR_haveGrams_44 (by decide) ?_
    refine g_locals (lv' := [(0, .ref (ad 0)), (1, iv a1), (2, iv s0), (3, iv (v3 + 1))]) rfl ?_
    exact hr4 _ _  _ h
  have pB39 : ∀ (r4 : Int → Int → gSt → Prop) (X4_47 : Int → gSt → Prop) (hr4 : ∀ (v2 : Int) (v3 : Int) (M : gSt), r4 v2 v3 M → gG p l e (rmR 1 22) s m args below meth c Q D cl A (wR ad cI ci) 4 4 [(0, .ref (ad 0)), (1, iv a1), (2, iv v2), (3, iv v3)] [] M) (hX4_47 : ∀ (v2 : Int) (M : gSt), X4_47 v2 M → gG p l e (rmR 1 22) s m args below meth c Q D cl A (wR ad cI ci) 4 47 [(2, iv v2)] [] M) (v3 : Int) (M : gSt), wB_RhaveGrams_39 a1 k r4 X4_47 v3 M → gG p l e (rmR 1 22) s m args below meth c Q D cl A (wR ad cI ci) 4 39 [(0, .ref (ad 0)), (1, iv a1), (3, iv v3)] [] M := by
    intro r4 X4_47 hr4 hX4_47 v3 M h
    unfold wB_RhaveGrams_39 at h
    refine g_iconst C dR_haveGrams_39 ?_
    refine g_locals (lv' := [(0, .ref (ad 0)), (1, iv a1), (3, iv v3)]) rfl ?_
    exact pB40 r4 X4_47 hr4 hX4_47 _ _ _ h
  have pB35 : ∀ (r4 : Int → Int → gSt → Prop) (X4_47 : Int → gSt → Prop) (hr4 : ∀ (v2 : Int) (v3 : Int) (M : gSt), r4 v2 v3 M → gG p l e (rmR 1 22) s m args below meth c Q D cl A (wR ad cI ci) 4 4 [(0, .ref (ad 0)), (1, iv a1), (2, iv v2), (3, iv v3)] [] M) (hX4_47 : ∀ (v2 : Int) (M : gSt), X4_47 v2 M → gG p l e (rmR 1 22) s m args below meth c Q D cl A (wR ad cI ci) 4 47 [(2, iv v2)] [] M) (v3 : Int) (M : gSt), wB_RhaveGrams_35 a1 k r4 X4_47 v3 M → gG p l e (rmR 1 22) s m args below meth c Q D cl A (wR ad cI ci) 4 35 [(0, .ref (ad 0)), (1, iv a1), (3, iv v3)] [] M := by
    intro r4 X4_47 hr4 hX4_47 v3 M h
    unfold wB_RhaveGrams_35 at h
    refine g_iconst C dR_haveGrams_35 ?_
    refine g_goto C 40 dR_haveGrams_36 (by decide) ?_
    refine g_locals (lv' := [(0, .ref (ad 0)), (1, iv a1), (3, iv v3)]) rfl ?_
    exact pB40 r4 X4_47 hr4 hX4_47 _ _ _ h
  have pC4 : ∀ (r4 : Int → Int → gSt → Prop) (X4_47 : Int → gSt → Prop) (hr4 : ∀ (v2 : Int) (v3 : Int) (M : gSt), r4 v2 v3 M → gG p l e (rmR 1 22) s m args below meth c Q D cl A (wR ad cI ci) 4 4 [(0, .ref (ad 0)), (1, iv a1), (2, iv v2), (3, iv v3)] [] M) (hX4_47 : ∀ (v2 : Int) (M : gSt), X4_47 v2 M → gG p l e (rmR 1 22) s m args below meth c Q D cl A (wR ad cI ci) 4 47 [(2, iv v2)] [] M) (v2 : Int) (v3 : Int) (M : gSt), wC_RhaveGrams_4 a1 k r4 X4_47 v2 v3 M → gG p l e (rmR 1 22) s m args below meth c Q D cl A (wR ad cI ci) 4 4 [(0, .ref (ad 0)), (1, iv a1), (2, iv v2), (3, iv v3)] [] M := by
    intro r4 X4_47 hr4 hX4_47 v2 v3 M h
    unfold wC_RhaveGrams_4 at h
    refine g_iload_n C dR_haveGrams_4 rfl ?_
    refine g_aload_n C dR_haveGrams_5 rfl ?_
    refine rf_s C hci dR_haveGrams_6 ?_
    refine g_iconst C dR_haveGrams_9 ?_
    refine g_iald C (n := 536) dR_haveGrams_10 rfl (by decide) ⟨by decide, by decide⟩ ?_
    refine g_icmp_ge C 47 dR_haveGrams_11 (by decide) (fun hc => ?_) (fun hc => ?_)
    · replace h := h.1 hc
      refine g_locals (lv' := [(2, iv v2)]) rfl ?_
      exact hX4_47 _  _ h
    · replace h := h.2 hc
      refine g_iload_n C dR_haveGrams_14 rfl ?_
      refine g_if_eq C 39 dR_haveGrams_15 (by decide) (fun hc => ?_) (fun hc => ?_)
      · replace h := h.1 hc
        refine g_locals (lv' := [(0, .ref (ad 0)), (1, iv a1), (3, iv v3)]) rfl ?_
        exact pB39 r4 X4_47 hr4 hX4_47 _ _ h
      · replace h := h.2 hc
        refine g_iload_n C dR_haveGrams_18 rfl ?_
        refine g_iload_n C dR_haveGrams_19 rfl ?_
        refine g_ishr C dR_haveGrams_20 ?_
        refine g_iconst C dR_haveGrams_21 ?_
        refine g_iand C dR_haveGrams_22 ?_
        refine g_if_eq C 35 dR_haveGrams_23 (by decide) (fun hc => ?_) (fun hc => ?_)
        · replace h := h.1 hc
          refine g_locals (lv' := [(0, .ref (ad 0)), (1, iv a1), (3, iv v3)]) rfl ?_
          exact pB35 r4 X4_47 hr4 hX4_47 _ _ h
        · replace h := h.2 hc
          refine g_aload_n C dR_haveGrams_26 rfl ?_
          refine g_iload_n C dR_haveGrams_27 rfl ?_
          refine g_iconst C dR_haveGrams_28 ?_
          refine g_callVi C (nargs := 2) (o := 0) (st := []) (m_Rits hci h) rfl (by decide) hci rfl gd_its (by decide +kernel) ⟨rfl, rfl⟩ dR_haveGrams_29 ⟨by decide, by decide⟩ rfl rfl (Nat.le_of_ble_eq_true rfl) ?_
          intro r29c M29 h
          refine g_if_le C 39 dR_haveGrams_32 (by decide) (fun hc => ?_) (fun hc => ?_)
          · replace h := h.1 hc
            refine g_locals (lv' := [(0, .ref (ad 0)), (1, iv a1), (3, iv v3)]) rfl ?_
            exact pB39 r4 X4_47 hr4 hX4_47 _ _ h
          · replace h := h.2 hc
            refine g_locals (lv' := [(0, .ref (ad 0)), (1, iv a1), (3, iv v3)]) rfl ?_
            exact pB35 r4 X4_47 hr4 hX4_47 _ _ h
  have pL4 : ∀  (X4_47 : Int → gSt → Prop) (hX4_47 : ∀ (v2 : Int) (M : gSt), X4_47 v2 M → gG p l e (rmR 1 22) s m args below meth c Q D cl A (wR ad cI ci) 4 47 [(2, iv v2)] [] M) (n : Nat) (v2 : Int) (v3 : Int) (M : gSt), wL_RhaveGrams_4 a1 k  X4_47 n v2 v3 M → gG p l e (rmR 1 22) s m args below meth c Q D cl A (wR ad cI ci) 4 4 [(0, .ref (ad 0)), (1, iv a1), (2, iv v2), (3, iv v3)] [] M := by
    intro  X4_47 hX4_47 n
    induction n with
    | zero => intro v2 v3 M h; exact h.elim
    | succ n ih =>
      intro v2 v3 M h
      exact pC4  (wL_RhaveGrams_4 a1 k  X4_47 n) X4_47 ih hX4_47 v2 v3 M h
  refine g_locals (lv' := [(0, .ref (ad 0)), (1, iv a1)]) rfl ?_
  unfold w_RhaveGrams at h
  refine g_iconst C dR_haveGrams_0 ?_
  refine g_istore_n C dR_haveGrams_1 (by decide) rfl ?_
  refine g_locals (lv' := [(0, .ref (ad 0)), (1, iv a1), (2, iv 1)]) rfl ?_
  refine g_iconst C dR_haveGrams_2 ?_
  refine g_istore_n C dR_haveGrams_3 (by decide) rfl ?_
  refine g_locals (lv' := [(0, .ref (ad 0)), (1, iv a1), (2, iv 1), (3, iv 0)]) rfl ?_
  refine g_locals (lv' := [(0, .ref (ad 0)), (1, iv a1), (2, iv 1), (3, iv 0)]) rfl ?_
  obtain ⟨n, h⟩ := h
  refine pL4 _ ?_ n _ _ _ h
  · intro u2_4 M4 h
    refine g_iload_n C dR_haveGrams_47 rfl ?_
    exact hR _ _ _ _ dR_haveGrams_48 (zn_bool h.1).1 h.2
def wB_Rmost_27 (a1 : Int) (a2 : Int) (a3 : Int) (k : Int → gSt → Prop)   (M : gSt) : Prop :=
w_Rerror 1 M (fun r29c M29 => k r29c M29)
def wB_Rmost_119 (a1 : Int) (a2 : Int) (a3 : Int) (k : Int → gSt → Prop) (r39 : Int → Int → gSt → Prop) (X39_125 : Int → gSt → Prop) (v4 : Int) (v5 : Int) (M : gSt) : Prop :=
r39 v4 (v5 + 1) M
def wB_Rmost_117 (a1 : Int) (a2 : Int) (a3 : Int) (k : Int → gSt → Prop) (r39 : Int → Int → gSt → Prop) (X39_125 : Int → gSt → Prop) (v5 : Int) (s0 : Int) (M : gSt) : Prop :=
wB_Rmost_119 a1 a2 a3 k r39 X39_125 s0 v5 M
def wB_Rmost_110 (a1 : Int) (a2 : Int) (a3 : Int) (k : Int → gSt → Prop) (r39 : Int → Int → gSt → Prop) (X39_125 : Int → gSt → Prop) (v5 : Int) (M : gSt) : Prop :=
wB_Rmost_117 a1 a2 a3 k r39 X39_125 v5 v5 M
def wB_Rmost_115 (a1 : Int) (a2 : Int) (a3 : Int) (k : Int → gSt → Prop) (r39 : Int → Int → gSt → Prop) (X39_125 : Int → gSt → Prop) (v4 : Int) (v5 : Int) (M : gSt) : Prop :=
wB_Rmost_117 a1 a2 a3 k r39 X39_125 v5 v4 M
def wC_Rmost_39 (a1 : Int) (a2 : Int) (a3 : Int) (k : Int → gSt → Prop) (r39 : Int → Int → gSt → Prop) (X39_125 : Int → gSt → Prop) (v4 : Int) (v5 : Int) (M : gSt) : Prop :=

  (wrap (xshl 1 (M 1 0)) ≤ wrap v5 →
    X39_125 v4 M) ∧
  (wrap v5 < wrap (xshl 1 (M 1 0)) →
    w_RbitsOf v5 M (fun r54c M54 => 
    (wrap a2 < wrap r54c →
      wB_Rmost_119 a1 a2 a3 k r39 X39_125 v4 v5 M54) ∧
    (wrap r54c ≤ wrap a2 →
      w_RhaveGrams v5 M54 (fun r64c M64 => 
      (wrap r64c = 0 →
        wB_Rmost_119 a1 a2 a3 k r39 X39_125 v4 v5 M64) ∧
      (¬ wrap r64c = 0 →
        w_Rtogether a1 v5 M64 (fun r74c M74 => w_Rtogether a1 v4 M74 (fun r81c M81 => ∀ x6_85 : Int, x6_85 = r74c - r81c → (
        (0 < wrap x6_85 →
          wB_Rmost_110 a1 a2 a3 k r39 X39_125 v5 M81) ∧
        (wrap x6_85 ≤ 0 →

          (¬ wrap x6_85 = 0 →
            wB_Rmost_115 a1 a2 a3 k r39 X39_125 v4 v5 M81) ∧
          (wrap x6_85 = 0 →
            w_RbitsOf v5 M81 (fun r99c M99 => w_RbitsOf v4 M99 (fun r104c M104 => 
            (wrap r104c ≤ wrap r99c →
              wB_Rmost_115 a1 a2 a3 k r39 X39_125 v4 v5 M104) ∧
            (wrap r99c < wrap r104c →
              wB_Rmost_110 a1 a2 a3 k r39 X39_125 v5 M104)))))))))))))
def wL_Rmost_39 (a1 : Int) (a2 : Int) (a3 : Int) (k : Int → gSt → Prop)  (X39_125 : Int → gSt → Prop) : Nat → Int → Int → gSt → Prop
  | 0 => fun _ _ _ => False
  | n + 1 => fun v4 v5 M => wC_Rmost_39 a1 a2 a3 k  (wL_Rmost_39 a1 a2 a3 k  X39_125 n) X39_125 v4 v5 M
def w_Rmost (a1 : Int) (a2 : Int) (a3 : Int) (M : gSt) (k : Int → gSt → Prop) : Prop :=
w_Rin a1 0 3 M (fun r3c M3 => 
  (wrap r3c = 0 →
    wB_Rmost_27 a1 a2 a3 k   M3) ∧
  (¬ wrap r3c = 0 →
    w_Rin a2 0 3 M3 (fun r12c M12 => 
    (wrap r12c = 0 →
      wB_Rmost_27 a1 a2 a3 k   M12) ∧
    (¬ wrap r12c = 0 →
      w_Rin a3 0 1 M12 (fun r21c M21 => 
      (¬ wrap r21c = 0 →
        ∃ n, wL_Rmost_39 a1 a2 a3 k  (fun u4_39 M39 =>

          (¬ wrap a3 = 0 →
            w_Rtogether a1 u4_39 M39 (fun r138c M138 => k r138c M138)) ∧
          (wrap a3 = 0 →
            k u4_39 M39)) n 0 1 M21) ∧
      (wrap r21c = 0 →
        wB_Rmost_27 a1 a2 a3 k   M21))))))
set_option maxHeartbeats 4000000 in
set_option maxRecDepth 100000 in
theorem m_Rmost {l : Launch} {D : va_G} {cl : List vw_C} {tys : List (ClassId × FieldType)} {ad : Nat → Nat} {cI : ClassId} {ci : Nat} {Z : (Nat → Prop) → State → Prop} (hci : cl[ci]? = some (RX9, TX9, 23)) {a1 : Int} {a2 : Int} {a3 : Int} {M : gSt} {k : Int → gSt → Prop} (h : w_Rmost a1 a2 a3 M k) : MOi l yX9_most cX9_most 7 .int (rmR 2 49) D cl ((cI, .int) :: tys) (wR ad cI ci) tR Z [.ref (ad 0), iv a1, iv a2, iv a3] M k := by
  refine moi_intro (by decide +kernel) (Nat.le_of_ble_eq_true rfl) wi_253 ?_
  intro p e s m args below meth c A Q C hR
  have pB27 : ∀    (M : gSt), wB_Rmost_27 a1 a2 a3 k   M → gG p l e (rmR 2 49) s m args below meth c Q D cl A (wR ad cI ci) 7 27 [(0, .ref (ad 0))] [] M := by
    intro    M h
    unfold wB_Rmost_27 at h
    refine g_aload_n C dR_most_27 rfl ?_
    refine g_iconst C dR_most_28 ?_
    refine g_callVi C (nargs := 1) (o := 0) (st := []) (m_Rerror hci h) rfl (by decide) hci rfl gd_error (by decide +kernel) ⟨rfl, rfl⟩ dR_most_29 ⟨by decide, by decide⟩ rfl rfl (Nat.le_of_ble_eq_true rfl) ?_
    intro r29c M29 h
    exact hR _ _ _ _ dR_most_32 rfl h
  have pB119 : ∀ (r39 : Int → Int → gSt → Prop) (X39_125 : Int → gSt → Prop) (hr39 : ∀ (v4 : Int) (v5 : Int) (M : gSt), r39 v4 v5 M → gG p l e (rmR 2 49) s m args below meth c Q D cl A (wR ad cI ci) 7 39 [(0, .ref (ad 0)), (1, iv a1), (2, iv a2), (3, iv a3), (4, iv v4), (5, iv v5)] [] M) (hX39_125 : ∀ (v4 : Int) (M : gSt), X39_125 v4 M → gG p l e (rmR 2 49) s m args below meth c Q D cl A (wR ad cI ci) 7 125 [(0, .ref (ad 0)), (1, iv a1), (3, iv a3), (4, iv v4)] [] M) (v4 : Int) (v5 : Int) (M : gSt), wB_Rmost_119 a1 a2 a3 k r39 X39_125 v4 v5 M → gG p l e (rmR 2 49) s m args below meth c Q D cl A (wR ad cI ci) 7 119 [(0, .ref (ad 0)), (1, iv a1), (2, iv a2), (3, iv a3), (4, iv v4), (5, iv v5)] [] M := by
    intro r39 X39_125 hr39 hX39_125 v4 v5 M h
    unfold wB_Rmost_119 at h
    refine g_iinc C dR_most_119 rfl (by decide) rfl ?_
    refine g_locals (lv' := [(0, .ref (ad 0)), (1, iv a1), (2, iv a2), (3, iv a3), (4, iv v4), (5, iv (v5 + 1))]) rfl ?_
    refine g_goto C 39 dR_most_122 (by decide) ?_
    refine g_locals (lv' := [(0, .ref (ad 0)), (1, iv a1), (2, iv a2), (3, iv a3), (4, iv v4), (5, iv (v5 + 1))]) rfl ?_
    exact hr39 _ _  _ h
  have pB117 : ∀ (r39 : Int → Int → gSt → Prop) (X39_125 : Int → gSt → Prop) (hr39 : ∀ (v4 : Int) (v5 : Int) (M : gSt), r39 v4 v5 M → gG p l e (rmR 2 49) s m args below meth c Q D cl A (wR ad cI ci) 7 39 [(0, .ref (ad 0)), (1, iv a1), (2, iv a2), (3, iv a3), (4, iv v4), (5, iv v5)] [] M) (hX39_125 : ∀ (v4 : Int) (M : gSt), X39_125 v4 M → gG p l e (rmR 2 49) s m args below meth c Q D cl A (wR ad cI ci) 7 125 [(0, .ref (ad 0)), (1, iv a1), (3, iv a3), (4, iv v4)] [] M) (v5 : Int) (s0 : Int) (M : gSt), wB_Rmost_117 a1 a2 a3 k r39 X39_125 v5 s0 M → gG p l e (rmR 2 49) s m args below meth c Q D cl A (wR ad cI ci) 7 117 [(0, .ref (ad 0)), (1, iv a1), (2, iv a2), (3, iv a3), (5, iv v5)] [iv s0] M := by
    intro r39 X39_125 hr39 hX39_125 v5 s0 M h
    unfold wB_Rmost_117 at h
    refine g_istore C dR_most_117 (by decide) rfl ?_
    refine g_locals (lv' := [(0, .ref (ad 0)), (1, iv a1), (2, iv a2), (3, iv a3), (4, iv s0), (5, iv v5)]) rfl ?_
    refine g_locals (lv' := [(0, .ref (ad 0)), (1, iv a1), (2, iv a2), (3, iv a3), (4, iv s0), (5, iv v5)]) rfl ?_
    exact pB119 r39 X39_125 hr39 hX39_125 _ _ _ h
  have pB110 : ∀ (r39 : Int → Int → gSt → Prop) (X39_125 : Int → gSt → Prop) (hr39 : ∀ (v4 : Int) (v5 : Int) (M : gSt), r39 v4 v5 M → gG p l e (rmR 2 49) s m args below meth c Q D cl A (wR ad cI ci) 7 39 [(0, .ref (ad 0)), (1, iv a1), (2, iv a2), (3, iv a3), (4, iv v4), (5, iv v5)] [] M) (hX39_125 : ∀ (v4 : Int) (M : gSt), X39_125 v4 M → gG p l e (rmR 2 49) s m args below meth c Q D cl A (wR ad cI ci) 7 125 [(0, .ref (ad 0)), (1, iv a1), (3, iv a3), (4, iv v4)] [] M) (v5 : Int) (M : gSt), wB_Rmost_110 a1 a2 a3 k r39 X39_125 v5 M → gG p l e (rmR 2 49) s m args below meth c Q D cl A (wR ad cI ci) 7 110 [(0, .ref (ad 0)), (1, iv a1), (2, iv a2), (3, iv a3), (5, iv v5)] [] M := by
    intro r39 X39_125 hr39 hX39_125 v5 M h
    unfold wB_Rmost_110 at h
    refine g_iload C dR_most_110 rfl ?_
    refine g_goto C 117 dR_most_112 (by decide) ?_
    refine g_locals (lv' := [(0, .ref (ad 0)), (1, iv a1), (2, iv a2), (3, iv a3), (5, iv v5)]) rfl ?_
    exact pB117 r39 X39_125 hr39 hX39_125 _ _ _ h
  have pB115 : ∀ (r39 : Int → Int → gSt → Prop) (X39_125 : Int → gSt → Prop) (hr39 : ∀ (v4 : Int) (v5 : Int) (M : gSt), r39 v4 v5 M → gG p l e (rmR 2 49) s m args below meth c Q D cl A (wR ad cI ci) 7 39 [(0, .ref (ad 0)), (1, iv a1), (2, iv a2), (3, iv a3), (4, iv v4), (5, iv v5)] [] M) (hX39_125 : ∀ (v4 : Int) (M : gSt), X39_125 v4 M → gG p l e (rmR 2 49) s m args below meth c Q D cl A (wR ad cI ci) 7 125 [(0, .ref (ad 0)), (1, iv a1), (3, iv a3), (4, iv v4)] [] M) (v4 : Int) (v5 : Int) (M : gSt), wB_Rmost_115 a1 a2 a3 k r39 X39_125 v4 v5 M → gG p l e (rmR 2 49) s m args below meth c Q D cl A (wR ad cI ci) 7 115 [(0, .ref (ad 0)), (1, iv a1), (2, iv a2), (3, iv a3), (4, iv v4), (5, iv v5)] [] M := by
    intro r39 X39_125 hr39 hX39_125 v4 v5 M h
    unfold wB_Rmost_115 at h
    refine g_iload C dR_most_115 rfl ?_
    refine g_locals (lv' := [(0, .ref (ad 0)), (1, iv a1), (2, iv a2), (3, iv a3), (5, iv v5)]) rfl ?_
    exact pB117 r39 X39_125 hr39 hX39_125 _ _ _ h
  have pC39 : ∀ (r39 : Int → Int → gSt → Prop) (X39_125 : Int → gSt → Prop) (hr39 : ∀ (v4 : Int) (v5 : Int) (M : gSt), r39 v4 v5 M → gG p l e (rmR 2 49) s m args below meth c Q D cl A (wR ad cI ci) 7 39 [(0, .ref (ad 0)), (1, iv a1), (2, iv a2), (3, iv a3), (4, iv v4), (5, iv v5)] [] M) (hX39_125 : ∀ (v4 : Int) (M : gSt), X39_125 v4 M → gG p l e (rmR 2 49) s m args below meth c Q D cl A (wR ad cI ci) 7 125 [(0, .ref (ad 0)), (1, iv a1), (3, iv a3), (4, iv v4)] [] M) (v4 : Int) (v5 : Int) (M : gSt), wC_Rmost_39 a1 a2 a3 k r39 X39_125 v4 v5 M → gG p l e (rmR 2 49) s m args below meth c Q D cl A (wR ad cI ci) 7 39 [(0, .ref (ad 0)), (1, iv a1), (2, iv a2), (3, iv a3), (4, iv v4), (5, iv v5)] [] M := by
    intro r39 X39_125 hr39 hX39_125 v4 v5 M h
    unfold wC_Rmost_39 at h
    refine g_iload C dR_most_39 rfl ?_
    refine g_iconst C dR_most_41 ?_
    refine g_aload_n C dR_most_42 rfl ?_
    refine rf_s C hci dR_most_43 ?_
    refine g_iconst C dR_most_46 ?_
    refine g_iald C (n := 536) dR_most_47 rfl (by decide) ⟨by decide, by decide⟩ ?_
    refine g_ishl C dR_most_48 ?_
    refine g_icmp_ge C 125 dR_most_49 (by decide) (fun hc => ?_) (fun hc => ?_)
    · replace h := h.1 hc
      refine g_locals (lv' := [(0, .ref (ad 0)), (1, iv a1), (3, iv a3), (4, iv v4)]) rfl ?_
      exact hX39_125 _  _ h
    · replace h := h.2 hc
      refine g_iload C dR_most_52 rfl ?_
      refine g_callSi C (nargs := 1) (st := []) (m_RbitsOf hci h) gd_bitsOf (by decide +kernel) ⟨rfl, rfl⟩ dR_most_54 ⟨by decide, by decide⟩ rfl rfl (Nat.le_of_ble_eq_true rfl) ?_
      intro r54c M54 h
      refine g_iload_n C dR_most_57 rfl ?_
      refine g_icmp_gt C 119 dR_most_58 (by decide) (fun hc => ?_) (fun hc => ?_)
      · replace h := h.1 hc
        refine g_locals (lv' := [(0, .ref (ad 0)), (1, iv a1), (2, iv a2), (3, iv a3), (4, iv v4), (5, iv v5)]) rfl ?_
        exact pB119 r39 X39_125 hr39 hX39_125 _ _ _ h
      · replace h := h.2 hc
        refine g_aload_n C dR_most_61 rfl ?_
        refine g_iload C dR_most_62 rfl ?_
        refine g_callVi C (nargs := 1) (o := 0) (st := []) (m_RhaveGrams hci h) rfl (by decide) hci rfl gd_haveGrams (by decide +kernel) ⟨rfl, rfl⟩ dR_most_64 ⟨by decide, by decide⟩ rfl rfl (Nat.le_of_ble_eq_true rfl) ?_
        intro r64c M64 h
        refine g_if_eq C 119 dR_most_67 (by decide) (fun hc => ?_) (fun hc => ?_)
        · replace h := h.1 hc
          refine g_locals (lv' := [(0, .ref (ad 0)), (1, iv a1), (2, iv a2), (3, iv a3), (4, iv v4), (5, iv v5)]) rfl ?_
          exact pB119 r39 X39_125 hr39 hX39_125 _ _ _ h
        · replace h := h.2 hc
          refine g_aload_n C dR_most_70 rfl ?_
          refine g_iload_n C dR_most_71 rfl ?_
          refine g_iload C dR_most_72 rfl ?_
          refine g_callVi C (nargs := 2) (o := 0) (st := []) (m_Rtogether hci h) rfl (by decide) hci rfl gd_together (by decide +kernel) ⟨rfl, rfl⟩ dR_most_74 ⟨by decide, by decide⟩ rfl rfl (Nat.le_of_ble_eq_true rfl) ?_
          intro r74c M74 h
          refine g_aload_n C dR_most_77 rfl ?_
          refine g_iload_n C dR_most_78 rfl ?_
          refine g_iload C dR_most_79 rfl ?_
          refine g_callVi C (nargs := 2) (o := 0) (st := [iv r74c]) (m_Rtogether hci h) rfl (by decide) hci rfl gd_together (by decide +kernel) ⟨rfl, rfl⟩ dR_most_81 ⟨by decide, by decide⟩ rfl rfl (Nat.le_of_ble_eq_true rfl) ?_
          intro r81c M81 h
          refine g_isub C dR_most_84 ?_
          refine g_name (fun x6_85 hx6_85 => ?_)
          replace h := h x6_85 hx6_85
          refine g_istore C dR_most_85 (by decide) rfl ?_
          refine g_locals (lv' := [(0, .ref (ad 0)), (1, iv a1), (2, iv a2), (3, iv a3), (4, iv v4), (5, iv v5), (6, iv x6_85)]) rfl ?_
          refine g_iload C dR_most_87 rfl ?_
          refine g_if_gt C 110 dR_most_89 (by decide) (fun hc => ?_) (fun hc => ?_)
          · replace h := h.1 hc
            refine g_locals (lv' := [(0, .ref (ad 0)), (1, iv a1), (2, iv a2), (3, iv a3), (5, iv v5)]) rfl ?_
            exact pB110 r39 X39_125 hr39 hX39_125 _ _ h
          · replace h := h.2 hc
            refine g_iload C dR_most_92 rfl ?_
            refine g_if_ne C 115 dR_most_94 (by decide) (fun hc => ?_) (fun hc => ?_)
            · replace h := h.1 hc
              refine g_locals (lv' := [(0, .ref (ad 0)), (1, iv a1), (2, iv a2), (3, iv a3), (4, iv v4), (5, iv v5)]) rfl ?_
              exact pB115 r39 X39_125 hr39 hX39_125 _ _ _ h
            · replace h := h.2 hc
              refine g_iload C dR_most_97 rfl ?_
              refine g_callSi C (nargs := 1) (st := []) (m_RbitsOf hci h) gd_bitsOf (by decide +kernel) ⟨rfl, rfl⟩ dR_most_99 ⟨by decide, by decide⟩ rfl rfl (Nat.le_of_ble_eq_true rfl) ?_
              intro r99c M99 h
              refine g_iload C dR_most_102 rfl ?_
              refine g_callSi C (nargs := 1) (st := [iv r99c]) (m_RbitsOf hci h) gd_bitsOf (by decide +kernel) ⟨rfl, rfl⟩ dR_most_104 ⟨by decide, by decide⟩ rfl rfl (Nat.le_of_ble_eq_true rfl) ?_
              intro r104c M104 h
              refine g_icmp_ge C 115 dR_most_107 (by decide) (fun hc => ?_) (fun hc => ?_)
              · replace h := h.1 hc
                refine g_locals (lv' := [(0, .ref (ad 0)), (1, iv a1), (2, iv a2), (3, iv a3), (4, iv v4), (5, iv v5)]) rfl ?_
                exact pB115 r39 X39_125 hr39 hX39_125 _ _ _ h
              · replace h := h.2 hc
                refine g_locals (lv' := [(0, .ref (ad 0)), (1, iv a1), (2, iv a2), (3, iv a3), (5, iv v5)]) rfl ?_
                exact pB110 r39 X39_125 hr39 hX39_125 _ _ h
  have pL39 : ∀  (X39_125 : Int → gSt → Prop) (hX39_125 : ∀ (v4 : Int) (M : gSt), X39_125 v4 M → gG p l e (rmR 2 49) s m args below meth c Q D cl A (wR ad cI ci) 7 125 [(0, .ref (ad 0)), (1, iv a1), (3, iv a3), (4, iv v4)] [] M) (n : Nat) (v4 : Int) (v5 : Int) (M : gSt), wL_Rmost_39 a1 a2 a3 k  X39_125 n v4 v5 M → gG p l e (rmR 2 49) s m args below meth c Q D cl A (wR ad cI ci) 7 39 [(0, .ref (ad 0)), (1, iv a1), (2, iv a2), (3, iv a3), (4, iv v4), (5, iv v5)] [] M := by
    intro  X39_125 hX39_125 n
    induction n with
    | zero => intro v4 v5 M h; exact h.elim
    | succ n ih =>
      intro v4 v5 M h
      exact pC39  (wL_Rmost_39 a1 a2 a3 k  X39_125 n) X39_125 ih hX39_125 v4 v5 M h
  refine g_locals (lv' := [(0, .ref (ad 0)), (1, iv a1), (2, iv a2), (3, iv a3)]) rfl ?_
  unfold w_Rmost at h
  refine g_iload_n C dR_most_0 rfl ?_
  refine g_iconst C dR_most_1 ?_
  refine g_iconst C dR_most_2 ?_
  refine g_callSi C (nargs := 3) (st := []) (m_Rin hci h) gd_in (by decide +kernel) ⟨rfl, rfl⟩ dR_most_3 ⟨by decide, by decide⟩ rfl rfl (Nat.le_of_ble_eq_true rfl) ?_
  intro r3c M3 h
  refine g_if_eq C 27 dR_most_6 (by decide) (fun hc => ?_) (fun hc => ?_)
  · replace h := h.1 hc
    refine g_locals (lv' := [(0, .ref (ad 0))]) rfl ?_
    exact pB27  _ h
  · replace h := h.2 hc
    refine g_iload_n C dR_most_9 rfl ?_
    refine g_iconst C dR_most_10 ?_
    refine g_iconst C dR_most_11 ?_
    refine g_callSi C (nargs := 3) (st := []) (m_Rin hci h) gd_in (by decide +kernel) ⟨rfl, rfl⟩ dR_most_12 ⟨by decide, by decide⟩ rfl rfl (Nat.le_of_ble_eq_true rfl) ?_
    intro r12c M12 h
    refine g_if_eq C 27 dR_most_15 (by decide) (fun hc => ?_) (fun hc => ?_)
    · replace h := h.1 hc
      refine g_locals (lv' := [(0, .ref (ad 0))]) rfl ?_
      exact pB27  _ h
    · replace h := h.2 hc
      refine g_iload_n C dR_most_18 rfl ?_
      refine g_iconst C dR_most_19 ?_
      refine g_iconst C dR_most_20 ?_
      refine g_callSi C (nargs := 3) (st := []) (m_Rin hci h) gd_in (by decide +kernel) ⟨rfl, rfl⟩ dR_most_21 ⟨by decide, by decide⟩ rfl rfl (Nat.le_of_ble_eq_true rfl) ?_
      intro r21c M21 h
      refine g_if_ne C 33 dR_most_24 (by decide) (fun hc => ?_) (fun hc => ?_)
      · replace h := h.1 hc
        refine g_iconst C dR_most_33 ?_
        refine g_istore C dR_most_34 (by decide) rfl ?_
        refine g_locals (lv' := [(0, .ref (ad 0)), (1, iv a1), (2, iv a2), (3, iv a3), (4, iv 0)]) rfl ?_
        refine g_iconst C dR_most_36 ?_
        refine g_istore C dR_most_37 (by decide) rfl ?_
        refine g_locals (lv' := [(0, .ref (ad 0)), (1, iv a1), (2, iv a2), (3, iv a3), (4, iv 0), (5, iv 1)]) rfl ?_
        refine g_locals (lv' := [(0, .ref (ad 0)), (1, iv a1), (2, iv a2), (3, iv a3), (4, iv 0), (5, iv 1)]) rfl ?_
        obtain ⟨n, h⟩ := h
        refine pL39 _ ?_ n _ _ _ h
        · intro u4_39 M39 h
          refine g_iload_n C dR_most_125 rfl ?_
          refine g_if_ne C 134 dR_most_126 (by decide) (fun hc => ?_) (fun hc => ?_)
          · replace h := h.1 hc
            refine g_aload_n C dR_most_134 rfl ?_
            refine g_iload_n C dR_most_135 rfl ?_
            refine g_iload C dR_most_136 rfl ?_
            refine g_callVi C (nargs := 2) (o := 0) (st := []) (m_Rtogether hci h) rfl (by decide) hci rfl gd_together (by decide +kernel) ⟨rfl, rfl⟩ dR_most_138 ⟨by decide, by decide⟩ rfl rfl (Nat.le_of_ble_eq_true rfl) ?_
            intro r138c M138 h
            exact hR _ _ _ _ dR_most_141 rfl h
          · replace h := h.2 hc
            refine g_iload C dR_most_129 rfl ?_
            refine g_goto C 141 dR_most_131 (by decide) ?_
            exact hR _ _ _ _ dR_most_141 rfl h
      · replace h := h.2 hc
        refine g_locals (lv' := [(0, .ref (ad 0))]) rfl ?_
        exact pB27  _ h
def w_Rbegins (a1 : Int) (M : gSt) (k : gSt → Prop) : Prop :=

  (30 ≤ wrap (M 0 16) →
    k M) ∧
  (wrap (M 0 16) < 30 →
    (0 ≤ M 0 16 ∧ M 0 16 < 30) ∧ (∀ M18 : gSt, M18 = wr M 10 (M 0 16) a1 → (∀ M26 : gSt, M26 = wr M18 0 16 ((M18 0 16) + 1) → (k M26))))
set_option maxHeartbeats 4000000 in
set_option maxRecDepth 100000 in
theorem m_Rbegins {l : Launch} {D : va_G} {cl : List vw_C} {tys : List (ClassId × FieldType)} {ad : Nat → Nat} {cI : ClassId} {ci : Nat} {Z : (Nat → Prop) → State → Prop} (hci : cl[ci]? = some (RX9, TX9, 23)) {a1 : Int} {M : gSt} {k : gSt → Prop} (h : w_Rbegins a1 M k) : MOv l yX9_begins cX9_begins 2 (rmR 0 0) D cl ((cI, .int) :: tys) (wR ad cI ci) tR Z [.ref (ad 0), iv a1] M k := by
  refine mov_intro (by decide +kernel) (Nat.le_of_ble_eq_true rfl) wi_255 ?_
  intro p e s m args below meth c A Q C hR
  refine g_locals (lv' := [(0, .ref (ad 0)), (1, iv a1)]) rfl ?_
  unfold w_Rbegins at h
  refine g_aload_n C dR_begins_0 rfl ?_
  refine rf_traced C hci dR_begins_1 ?_
  refine g_bipush C dR_begins_4 rfl ?_
  refine g_icmp_ge C 29 dR_begins_6 (by decide) (fun hc => ?_) (fun hc => ?_)
  · replace h := h.1 hc
    exact hR _ _ _ dR_begins_29 h
  · replace h := h.2 hc
    refine g_aload_n C dR_begins_9 rfl ?_
    refine rf_trace C hci dR_begins_10 ?_
    refine g_aload_n C dR_begins_13 rfl ?_
    refine rf_traced C hci dR_begins_14 ?_
    refine g_iload_n C dR_begins_17 rfl ?_
    refine g_iast C (n := 30) dR_begins_18 rfl (by decide) h.1 ?_
    replace h := h.2
    refine g_memname (fun M18 hM18 => ?_)
    replace h := h M18 hM18
    refine g_aload_n C dR_begins_19 rfl ?_
    refine g_dup C dR_begins_20 rfl ?_
    refine rf_traced C hci dR_begins_21 ?_
    refine g_iconst C dR_begins_24 ?_
    refine g_iadd C dR_begins_25 ?_
    refine rp_traced C hci dR_begins_26 ?_
    refine g_memname (fun M26 hM26 => ?_)
    replace h := h M26 hM26
    exact hR _ _ _ dR_begins_29 h
def w_Rabove (a1 : Int) (M : gSt) (k : Int → gSt → Prop) : Prop :=

  (¬ wrap a1 = 4 →

    (¬ wrap a1 = 5 →

      (¬ wrap a1 = 6 →
        k 0 M) ∧
      (wrap a1 = 6 →
        k 3 M)) ∧
    (wrap a1 = 5 →
      k 2 M)) ∧
  (wrap a1 = 4 →
    k 1 M)
set_option maxHeartbeats 4000000 in
set_option maxRecDepth 100000 in
theorem m_Rabove {l : Launch} {D : va_G} {cl : List vw_C} {tys : List (ClassId × FieldType)} {ad : Nat → Nat} {cI : ClassId} {ci : Nat} {Z : (Nat → Prop) → State → Prop} (hci : cl[ci]? = some (RX9, TX9, 23)) {a1 : Int} {M : gSt} {k : Int → gSt → Prop} (h : w_Rabove a1 M k) : MOi l yX9_above cX9_above 1 .int (rmR 0 0) D cl ((cI, .int) :: tys) (wR ad cI ci) tR Z [iv a1] M k := by
  refine moi_intro (by decide +kernel) (Nat.le_of_ble_eq_true rfl) wi_256 ?_
  intro p e s m args below meth c A Q C hR
  refine g_locals (lv' := [(0, iv a1)]) rfl ?_
  unfold w_Rabove at h
  refine g_iload_n C dR_above_0 rfl ?_
  refine g_iconst C dR_above_1 ?_
  refine g_icmp_ne C 9 dR_above_2 (by decide) (fun hc => ?_) (fun hc => ?_)
  · replace h := h.1 hc
    refine g_iload_n C dR_above_9 rfl ?_
    refine g_iconst C dR_above_10 ?_
    refine g_icmp_ne C 18 dR_above_11 (by decide) (fun hc => ?_) (fun hc => ?_)
    · replace h := h.1 hc
      refine g_iload_n C dR_above_18 rfl ?_
      refine g_bipush C dR_above_19 rfl ?_
      refine g_icmp_ne C 28 dR_above_21 (by decide) (fun hc => ?_) (fun hc => ?_)
      · replace h := h.1 hc
        refine g_iconst C dR_above_28 ?_
        exact hR _ _ _ _ dR_above_29 rfl h
      · replace h := h.2 hc
        refine g_iconst C dR_above_24 ?_
        refine g_goto C 29 dR_above_25 (by decide) ?_
        exact hR _ _ _ _ dR_above_29 rfl h
    · replace h := h.2 hc
      refine g_iconst C dR_above_14 ?_
      refine g_goto C 29 dR_above_15 (by decide) ?_
      exact hR _ _ _ _ dR_above_29 rfl h
  · replace h := h.2 hc
    refine g_iconst C dR_above_5 ?_
    refine g_goto C 29 dR_above_6 (by decide) ?_
    exact hR _ _ _ _ dR_above_29 rfl h
def w_RkindNow  (M : gSt) (k : Int → gSt → Prop) : Prop :=
w_Rits (M 0 17) 0 M (fun r6c M6 => k r6c M6)
set_option maxHeartbeats 4000000 in
set_option maxRecDepth 100000 in
theorem m_RkindNow {l : Launch} {D : va_G} {cl : List vw_C} {tys : List (ClassId × FieldType)} {ad : Nat → Nat} {cI : ClassId} {ci : Nat} {Z : (Nat → Prop) → State → Prop} (hci : cl[ci]? = some (RX9, TX9, 23))  {M : gSt} {k : Int → gSt → Prop} (h : w_RkindNow  M k) : MOi l yX9_kindNow cX9_kindNow 1 .int (rmR 1 22) D cl ((cI, .int) :: tys) (wR ad cI ci) tR Z [.ref (ad 0)] M k := by
  refine moi_intro (by decide +kernel) (Nat.le_of_ble_eq_true rfl) wi_258 ?_
  intro p e s m args below meth c A Q C hR
  refine g_locals (lv' := [(0, .ref (ad 0))]) rfl ?_
  unfold w_RkindNow at h
  refine g_aload_n C dR_kindNow_0 rfl ?_
  refine g_aload_n C dR_kindNow_1 rfl ?_
  refine rf_speaks C hci dR_kindNow_2 ?_
  refine g_iconst C dR_kindNow_5 ?_
  refine g_callVi C (nargs := 2) (o := 0) (st := []) (m_Rits hci h) rfl (by decide) hci rfl gd_its (by decide +kernel) ⟨rfl, rfl⟩ dR_kindNow_6 ⟨by decide, by decide⟩ rfl rfl (Nat.le_of_ble_eq_true rfl) ?_
  intro r6c M6 h
  exact hR _ _ _ _ dR_kindNow_9 rfl h
def w_RmNow  (M : gSt) (k : Int → gSt → Prop) : Prop :=
w_Rits (M 0 17) 1 M (fun r6c M6 => k r6c M6)
set_option maxHeartbeats 4000000 in
set_option maxRecDepth 100000 in
theorem m_RmNow {l : Launch} {D : va_G} {cl : List vw_C} {tys : List (ClassId × FieldType)} {ad : Nat → Nat} {cI : ClassId} {ci : Nat} {Z : (Nat → Prop) → State → Prop} (hci : cl[ci]? = some (RX9, TX9, 23))  {M : gSt} {k : Int → gSt → Prop} (h : w_RmNow  M k) : MOi l yX9_mNow cX9_mNow 1 .int (rmR 1 22) D cl ((cI, .int) :: tys) (wR ad cI ci) tR Z [.ref (ad 0)] M k := by
  refine moi_intro (by decide +kernel) (Nat.le_of_ble_eq_true rfl) wi_259 ?_
  intro p e s m args below meth c A Q C hR
  refine g_locals (lv' := [(0, .ref (ad 0))]) rfl ?_
  unfold w_RmNow at h
  refine g_aload_n C dR_mNow_0 rfl ?_
  refine g_aload_n C dR_mNow_1 rfl ?_
  refine rf_speaks C hci dR_mNow_2 ?_
  refine g_iconst C dR_mNow_5 ?_
  refine g_callVi C (nargs := 2) (o := 0) (st := []) (m_Rits hci h) rfl (by decide) hci rfl gd_its (by decide +kernel) ⟨rfl, rfl⟩ dR_mNow_6 ⟨by decide, by decide⟩ rfl rfl (Nat.le_of_ble_eq_true rfl) ?_
  intro r6c M6 h
  exact hR _ _ _ _ dR_mNow_9 rfl h
def w_Rbody (a1 : Int) (M : gSt) (k : Int → gSt → Prop) : Prop :=
w_Rin a1 0 ((M 0 16) - 1) M (fun r8c M8 => 
  (wrap r8c = 0 →
    w_Rerror 2 M8 (fun r25c M25 => k r25c M25)) ∧
  (¬ wrap r8c = 0 →
    (0 ≤ a1 ∧ a1 < 30) ∧ (k (M8 10 a1) M8)))
set_option maxHeartbeats 4000000 in
set_option maxRecDepth 100000 in
theorem m_Rbody {l : Launch} {D : va_G} {cl : List vw_C} {tys : List (ClassId × FieldType)} {ad : Nat → Nat} {cI : ClassId} {ci : Nat} {Z : (Nat → Prop) → State → Prop} (hci : cl[ci]? = some (RX9, TX9, 23)) {a1 : Int} {M : gSt} {k : Int → gSt → Prop} (h : w_Rbody a1 M k) : MOi l yX9_body cX9_body 2 .int (rmR 1 22) D cl ((cI, .int) :: tys) (wR ad cI ci) tR Z [.ref (ad 0), iv a1] M k := by
  refine moi_intro (by decide +kernel) (Nat.le_of_ble_eq_true rfl) wi_289 ?_
  intro p e s m args below meth c A Q C hR
  refine g_locals (lv' := [(0, .ref (ad 0)), (1, iv a1)]) rfl ?_
  unfold w_Rbody at h
  refine g_iload_n C dR_body_0 rfl ?_
  refine g_iconst C dR_body_1 ?_
  refine g_aload_n C dR_body_2 rfl ?_
  refine rf_traced C hci dR_body_3 ?_
  refine g_iconst C dR_body_6 ?_
  refine g_isub C dR_body_7 ?_
  refine g_callSi C (nargs := 3) (st := []) (m_Rin hci h) gd_in (by decide +kernel) ⟨rfl, rfl⟩ dR_body_8 ⟨by decide, by decide⟩ rfl rfl (Nat.le_of_ble_eq_true rfl) ?_
  intro r8c M8 h
  refine g_if_eq C 23 dR_body_11 (by decide) (fun hc => ?_) (fun hc => ?_)
  · replace h := h.1 hc
    refine g_aload_n C dR_body_23 rfl ?_
    refine g_iconst C dR_body_24 ?_
    refine g_callVi C (nargs := 1) (o := 0) (st := []) (m_Rerror hci h) rfl (by decide) hci rfl gd_error (by decide +kernel) ⟨rfl, rfl⟩ dR_body_25 ⟨by decide, by decide⟩ rfl rfl (Nat.le_of_ble_eq_true rfl) ?_
    intro r25c M25 h
    exact hR _ _ _ _ dR_body_28 rfl h
  · replace h := h.2 hc
    refine g_aload_n C dR_body_14 rfl ?_
    refine rf_trace C hci dR_body_15 ?_
    refine g_iload_n C dR_body_18 rfl ?_
    refine g_iald C (n := 30) dR_body_19 rfl (by decide) h.1 ?_
    replace h := h.2
    refine g_goto C 28 dR_body_20 (by decide) ?_
    exact hR _ _ _ _ dR_body_28 rfl h
def w_RisSheet (a1 : Int) (M : gSt) (k : Int → gSt → Prop) : Prop :=
w_Rin a1 0 3 M (fun r3c M3 => (r3c = 0 ∨ r3c = 1) ∧ (k r3c M3))
set_option maxHeartbeats 4000000 in
set_option maxRecDepth 100000 in
theorem m_RisSheet {l : Launch} {D : va_G} {cl : List vw_C} {tys : List (ClassId × FieldType)} {ad : Nat → Nat} {cI : ClassId} {ci : Nat} {Z : (Nat → Prop) → State → Prop} (hci : cl[ci]? = some (RX9, TX9, 23)) {a1 : Int} {M : gSt} {k : Int → gSt → Prop} (h : w_RisSheet a1 M k) : MOi l yX9_isSheet cX9_isSheet 1 .boolean (rmR 1 22) D cl ((cI, .int) :: tys) (wR ad cI ci) tR Z [iv a1] M k := by
  refine moi_intro (by decide +kernel) (Nat.le_of_ble_eq_true rfl) wi_290 ?_
  intro p e s m args below meth c A Q C hR
  refine g_locals (lv' := [(0, iv a1)]) rfl ?_
  unfold w_RisSheet at h
  refine g_iload_n C dR_isSheet_0 rfl ?_
  refine g_iconst C dR_isSheet_1 ?_
  refine g_iconst C dR_isSheet_2 ?_
  refine g_callSi C (nargs := 3) (st := []) (m_Rin hci h) gd_in (by decide +kernel) ⟨rfl, rfl⟩ dR_isSheet_3 ⟨by decide, by decide⟩ rfl rfl (Nat.le_of_ble_eq_true rfl) ?_
  intro r3c M3 h
  exact hR _ _ _ _ dR_isSheet_6 (zn_bool h.1).1 h.2
def wB_Rsheet_29 (a1 : Int) (a2 : Int) (a3 : Int) (k : Int → gSt → Prop)   (M : gSt) : Prop :=
w_Rerror 1 M (fun r31c M31 => k r31c M31)
def wC_Rsheet_90 (a1 : Int) (a2 : Int) (a3 : Int) (k : Int → gSt → Prop) (r90 : Int → gSt → Prop) (X90_116 : gSt → Prop) (v4 : Int) (M : gSt) : Prop :=

  (24 ≤ wrap v4 →
    X90_116  M) ∧
  (wrap v4 < 24 →
    (0 ≤ (24 * a1) + v4 ∧ (24 * a1) + v4 < 96) ∧ (∀ M109 : gSt, M109 = wr M 13 ((24 * a1) + v4) 0 → (r90 (v4 + 1) M109)))
def wL_Rsheet_90 (a1 : Int) (a2 : Int) (a3 : Int) (k : Int → gSt → Prop)  (X90_116 : gSt → Prop) : Nat → Int → gSt → Prop
  | 0 => fun _ _ => False
  | n + 1 => fun v4 M => wC_Rsheet_90 a1 a2 a3 k  (wL_Rsheet_90 a1 a2 a3 k  X90_116 n) X90_116 v4 M
def wB_Rsheet_86 (a1 : Int) (a2 : Int) (a3 : Int) (k : Int → gSt → Prop)  (s0 : Int) (s1 : Int) (M : gSt) : Prop :=
(0 ≤ s1 ∧ s1 < 4) ∧ (∀ M86 : gSt, M86 = wr M 12 s1 s0 → (∃ n, wL_Rsheet_90 a1 a2 a3 k  (fun  M90 =>
    k 1 M90) n 0 M86))
def wB_Rsheet_65 (a1 : Int) (a2 : Int) (a3 : Int) (k : Int → gSt → Prop)   (M : gSt) : Prop :=
(0 ≤ a1 ∧ a1 < 4) ∧ (∀ M71 : gSt, M71 = wr M 11 a1 a2 → (
  (¬ wrap a2 = 0 →
    wB_Rsheet_86 a1 a2 a3 k  a3 a1 M71) ∧
  (wrap a2 = 0 →
    wB_Rsheet_86 a1 a2 a3 k  0 a1 M71)))
def wB_Rsheet_49 (a1 : Int) (a2 : Int) (a3 : Int) (k : Int → gSt → Prop)   (M : gSt) : Prop :=

  (wrap a2 = 0 →
    wB_Rsheet_65 a1 a2 a3 k   M) ∧
  (¬ wrap a2 = 0 →

    (wrap a3 ≤ 24 →
      wB_Rsheet_65 a1 a2 a3 k   M) ∧
    (24 < wrap a3 →
      w_Rerror 1 M (fun r61c M61 => k r61c M61)))
def wB_Rsheet_35 (a1 : Int) (a2 : Int) (a3 : Int) (k : Int → gSt → Prop)   (M : gSt) : Prop :=

  (wrap a2 = 0 →
    wB_Rsheet_49 a1 a2 a3 k   M) ∧
  (¬ wrap a2 = 0 →

    (0 ≤ wrap a3 →
      wB_Rsheet_49 a1 a2 a3 k   M) ∧
    (wrap a3 < 0 →
      w_Rerror 3 M (fun r45c M45 => k r45c M45)))
def w_Rsheet (a1 : Int) (a2 : Int) (a3 : Int) (M : gSt) (k : Int → gSt → Prop) : Prop :=
w_RisSheet a1 M (fun r1c M1 => 
  (wrap r1c = 0 →
    wB_Rsheet_29 a1 a2 a3 k   M1) ∧
  (¬ wrap r1c = 0 →

    (wrap a2 = 0 →
      wB_Rsheet_35 a1 a2 a3 k   M1) ∧
    (¬ wrap a2 = 0 →

      (wrap a2 = 8 →
        wB_Rsheet_35 a1 a2 a3 k   M1) ∧
      (¬ wrap a2 = 8 →

        (wrap a2 = 16 →
          wB_Rsheet_35 a1 a2 a3 k   M1) ∧
        (¬ wrap a2 = 16 →

          (wrap a2 = 32 →
            wB_Rsheet_35 a1 a2 a3 k   M1) ∧
          (¬ wrap a2 = 32 →
            wB_Rsheet_29 a1 a2 a3 k   M1))))))
set_option maxHeartbeats 4000000 in
set_option maxRecDepth 100000 in
theorem m_Rsheet {l : Launch} {D : va_G} {cl : List vw_C} {tys : List (ClassId × FieldType)} {ad : Nat → Nat} {cI : ClassId} {ci : Nat} {Z : (Nat → Prop) → State → Prop} (hci : cl[ci]? = some (RX9, TX9, 23)) {a1 : Int} {a2 : Int} {a3 : Int} {M : gSt} {k : Int → gSt → Prop} (h : w_Rsheet a1 a2 a3 M k) : MOi l yX9_sheet cX9_sheet 5 .int (rmR 2 42) D cl ((cI, .int) :: tys) (wR ad cI ci) tR Z [.ref (ad 0), iv a1, iv a2, iv a3] M k := by
  refine moi_intro (by decide +kernel) (Nat.le_of_ble_eq_true rfl) wi_293 ?_
  intro p e s m args below meth c A Q C hR
  have pB29 : ∀    (M : gSt), wB_Rsheet_29 a1 a2 a3 k   M → gG p l e (rmR 2 42) s m args below meth c Q D cl A (wR ad cI ci) 5 29 [(0, .ref (ad 0))] [] M := by
    intro    M h
    unfold wB_Rsheet_29 at h
    refine g_aload_n C dR_sheet_29 rfl ?_
    refine g_iconst C dR_sheet_30 ?_
    refine g_callVi C (nargs := 1) (o := 0) (st := []) (m_Rerror hci h) rfl (by decide) hci rfl gd_error (by decide +kernel) ⟨rfl, rfl⟩ dR_sheet_31 ⟨by decide, by decide⟩ rfl rfl (Nat.le_of_ble_eq_true rfl) ?_
    intro r31c M31 h
    exact hR _ _ _ _ dR_sheet_34 rfl h
  have pC90 : ∀ (r90 : Int → gSt → Prop) (X90_116 : gSt → Prop) (hr90 : ∀ (v4 : Int) (M : gSt), r90 v4 M → gG p l e (rmR 2 42) s m args below meth c Q D cl A (wR ad cI ci) 5 90 [(0, .ref (ad 0)), (1, iv a1), (4, iv v4)] [] M) (hX90_116 : ∀  (M : gSt), X90_116  M → gG p l e (rmR 2 42) s m args below meth c Q D cl A (wR ad cI ci) 5 116 [] [] M) (v4 : Int) (M : gSt), wC_Rsheet_90 a1 a2 a3 k r90 X90_116 v4 M → gG p l e (rmR 2 42) s m args below meth c Q D cl A (wR ad cI ci) 5 90 [(0, .ref (ad 0)), (1, iv a1), (4, iv v4)] [] M := by
    intro r90 X90_116 hr90 hX90_116 v4 M h
    unfold wC_Rsheet_90 at h
    refine g_iload C dR_sheet_90 rfl ?_
    refine g_bipush C dR_sheet_92 rfl ?_
    refine g_icmp_ge C 116 dR_sheet_94 (by decide) (fun hc => ?_) (fun hc => ?_)
    · replace h := h.1 hc
      refine g_locals (lv' := []) rfl ?_
      exact hX90_116  _ h
    · replace h := h.2 hc
      refine g_aload_n C dR_sheet_97 rfl ?_
      refine rf_number C hci dR_sheet_98 ?_
      refine g_bipush C dR_sheet_101 rfl ?_
      refine g_iload_n C dR_sheet_103 rfl ?_
      refine g_imul C dR_sheet_104 ?_
      refine g_iload C dR_sheet_105 rfl ?_
      refine g_iadd C dR_sheet_107 ?_
      refine g_iconst C dR_sheet_108 ?_
      refine g_iast C (n := 96) dR_sheet_109 rfl (by decide) h.1 ?_
      replace h := h.2
      refine g_memname (fun M109 hM109 => ?_)
      replace h := h M109 hM109
      refine g_iinc C dR_sheet_110 rfl (by decide) rfl ?_
      refine g_locals (lv' := [(0, .ref (ad 0)), (1, iv a1), (4, iv (v4 + 1))]) rfl ?_
      refine g_goto C 90 dR_sheet_113 (by decide) ?_
      refine g_locals (lv' := [(0, .ref (ad 0)), (1, iv a1), (4, iv (v4 + 1))]) rfl ?_
      exact hr90 _  _ h
  have pL90 : ∀  (X90_116 : gSt → Prop) (hX90_116 : ∀  (M : gSt), X90_116  M → gG p l e (rmR 2 42) s m args below meth c Q D cl A (wR ad cI ci) 5 116 [] [] M) (n : Nat) (v4 : Int) (M : gSt), wL_Rsheet_90 a1 a2 a3 k  X90_116 n v4 M → gG p l e (rmR 2 42) s m args below meth c Q D cl A (wR ad cI ci) 5 90 [(0, .ref (ad 0)), (1, iv a1), (4, iv v4)] [] M := by
    intro  X90_116 hX90_116 n
    induction n with
    | zero => intro v4 M h; exact h.elim
    | succ n ih =>
      intro v4 M h
      exact pC90  (wL_Rsheet_90 a1 a2 a3 k  X90_116 n) X90_116 ih hX90_116 v4 M h
  have pB86 : ∀   (s0 : Int) (s1 : Int) (M : gSt), wB_Rsheet_86 a1 a2 a3 k  s0 s1 M → gG p l e (rmR 2 42) s m args below meth c Q D cl A (wR ad cI ci) 5 86 [(0, .ref (ad 0)), (1, iv a1)] [iv s0, iv s1, .ref (ad 12)] M := by
    intro   s0 s1 M h
    unfold wB_Rsheet_86 at h
    refine g_iast C (n := 4) dR_sheet_86 rfl (by decide) h.1 ?_
    replace h := h.2
    refine g_memname (fun M86 hM86 => ?_)
    replace h := h M86 hM86
    refine g_iconst C dR_sheet_87 ?_
    refine g_istore C dR_sheet_88 (by decide) rfl ?_
    refine g_locals (lv' := [(0, .ref (ad 0)), (1, iv a1), (4, iv 0)]) rfl ?_
    refine g_locals (lv' := [(0, .ref (ad 0)), (1, iv a1), (4, iv 0)]) rfl ?_
    obtain ⟨n, h⟩ := h
    refine pL90 _ ?_ n _ _ h
    · intro  M90 h
      refine g_iconst C dR_sheet_116 ?_
      exact hR _ _ _ _ dR_sheet_117 rfl h
  have pB65 : ∀    (M : gSt), wB_Rsheet_65 a1 a2 a3 k   M → gG p l e (rmR 2 42) s m args below meth c Q D cl A (wR ad cI ci) 5 65 [(0, .ref (ad 0)), (1, iv a1), (2, iv a2), (3, iv a3)] [] M := by
    intro    M h
    unfold wB_Rsheet_65 at h
    refine g_aload_n C dR_sheet_65 rfl ?_
    refine rf_bits C hci dR_sheet_66 ?_
    refine g_iload_n C dR_sheet_69 rfl ?_
    refine g_iload_n C dR_sheet_70 rfl ?_
    refine g_iast C (n := 4) dR_sheet_71 rfl (by decide) h.1 ?_
    replace h := h.2
    refine g_memname (fun M71 hM71 => ?_)
    replace h := h M71 hM71
    refine g_aload_n C dR_sheet_72 rfl ?_
    refine rf_sizes C hci dR_sheet_73 ?_
    refine g_iload_n C dR_sheet_76 rfl ?_
    refine g_iload_n C dR_sheet_77 rfl ?_
    refine g_if_ne C 85 dR_sheet_78 (by decide) (fun hc => ?_) (fun hc => ?_)
    · replace h := h.1 hc
      refine g_iload_n C dR_sheet_85 rfl ?_
      refine g_locals (lv' := [(0, .ref (ad 0)), (1, iv a1)]) rfl ?_
      exact pB86 _ _ _ h
    · replace h := h.2 hc
      refine g_iconst C dR_sheet_81 ?_
      refine g_goto C 86 dR_sheet_82 (by decide) ?_
      refine g_locals (lv' := [(0, .ref (ad 0)), (1, iv a1)]) rfl ?_
      exact pB86 _ _ _ h
  have pB49 : ∀    (M : gSt), wB_Rsheet_49 a1 a2 a3 k   M → gG p l e (rmR 2 42) s m args below meth c Q D cl A (wR ad cI ci) 5 49 [(0, .ref (ad 0)), (1, iv a1), (2, iv a2), (3, iv a3)] [] M := by
    intro    M h
    unfold wB_Rsheet_49 at h
    refine g_iload_n C dR_sheet_49 rfl ?_
    refine g_if_eq C 65 dR_sheet_50 (by decide) (fun hc => ?_) (fun hc => ?_)
    · replace h := h.1 hc
      refine g_locals (lv' := [(0, .ref (ad 0)), (1, iv a1), (2, iv a2), (3, iv a3)]) rfl ?_
      exact pB65  _ h
    · replace h := h.2 hc
      refine g_iload_n C dR_sheet_53 rfl ?_
      refine g_bipush C dR_sheet_54 rfl ?_
      refine g_icmp_le C 65 dR_sheet_56 (by decide) (fun hc => ?_) (fun hc => ?_)
      · replace h := h.1 hc
        refine g_locals (lv' := [(0, .ref (ad 0)), (1, iv a1), (2, iv a2), (3, iv a3)]) rfl ?_
        exact pB65  _ h
      · replace h := h.2 hc
        refine g_aload_n C dR_sheet_59 rfl ?_
        refine g_iconst C dR_sheet_60 ?_
        refine g_callVi C (nargs := 1) (o := 0) (st := []) (m_Rerror hci h) rfl (by decide) hci rfl gd_error (by decide +kernel) ⟨rfl, rfl⟩ dR_sheet_61 ⟨by decide, by decide⟩ rfl rfl (Nat.le_of_ble_eq_true rfl) ?_
        intro r61c M61 h
        exact hR _ _ _ _ dR_sheet_64 rfl h
  have pB35 : ∀    (M : gSt), wB_Rsheet_35 a1 a2 a3 k   M → gG p l e (rmR 2 42) s m args below meth c Q D cl A (wR ad cI ci) 5 35 [(0, .ref (ad 0)), (1, iv a1), (2, iv a2), (3, iv a3)] [] M := by
    intro    M h
    unfold wB_Rsheet_35 at h
    refine g_iload_n C dR_sheet_35 rfl ?_
    refine g_if_eq C 49 dR_sheet_36 (by decide) (fun hc => ?_) (fun hc => ?_)
    · replace h := h.1 hc
      refine g_locals (lv' := [(0, .ref (ad 0)), (1, iv a1), (2, iv a2), (3, iv a3)]) rfl ?_
      exact pB49  _ h
    · replace h := h.2 hc
      refine g_iload_n C dR_sheet_39 rfl ?_
      refine g_if_ge C 49 dR_sheet_40 (by decide) (fun hc => ?_) (fun hc => ?_)
      · replace h := h.1 hc
        refine g_locals (lv' := [(0, .ref (ad 0)), (1, iv a1), (2, iv a2), (3, iv a3)]) rfl ?_
        exact pB49  _ h
      · replace h := h.2 hc
        refine g_aload_n C dR_sheet_43 rfl ?_
        refine g_iconst C dR_sheet_44 ?_
        refine g_callVi C (nargs := 1) (o := 0) (st := []) (m_Rerror hci h) rfl (by decide) hci rfl gd_error (by decide +kernel) ⟨rfl, rfl⟩ dR_sheet_45 ⟨by decide, by decide⟩ rfl rfl (Nat.le_of_ble_eq_true rfl) ?_
        intro r45c M45 h
        exact hR _ _ _ _ dR_sheet_48 rfl h
  refine g_locals (lv' := [(0, .ref (ad 0)), (1, iv a1), (2, iv a2), (3, iv a3)]) rfl ?_
  unfold w_Rsheet at h
  refine g_iload_n C dR_sheet_0 rfl ?_
  refine g_callSi C (nargs := 1) (st := []) (m_RisSheet hci h) gd_isSheet (by decide +kernel) ⟨rfl, rfl⟩ dR_sheet_1 ⟨by decide, by decide⟩ rfl rfl (Nat.le_of_ble_eq_true rfl) ?_
  intro r1c M1 h
  refine g_if_eq C 29 dR_sheet_4 (by decide) (fun hc => ?_) (fun hc => ?_)
  · replace h := h.1 hc
    refine g_locals (lv' := [(0, .ref (ad 0))]) rfl ?_
    exact pB29  _ h
  · replace h := h.2 hc
    refine g_iload_n C dR_sheet_7 rfl ?_
    refine g_if_eq C 35 dR_sheet_8 (by decide) (fun hc => ?_) (fun hc => ?_)
    · replace h := h.1 hc
      refine g_locals (lv' := [(0, .ref (ad 0)), (1, iv a1), (2, iv a2), (3, iv a3)]) rfl ?_
      exact pB35  _ h
    · replace h := h.2 hc
      refine g_iload_n C dR_sheet_11 rfl ?_
      refine g_bipush C dR_sheet_12 rfl ?_
      refine g_icmp_eq C 35 dR_sheet_14 (by decide) (fun hc => ?_) (fun hc => ?_)
      · replace h := h.1 hc
        refine g_locals (lv' := [(0, .ref (ad 0)), (1, iv a1), (2, iv a2), (3, iv a3)]) rfl ?_
        exact pB35  _ h
      · replace h := h.2 hc
        refine g_iload_n C dR_sheet_17 rfl ?_
        refine g_bipush C dR_sheet_18 rfl ?_
        refine g_icmp_eq C 35 dR_sheet_20 (by decide) (fun hc => ?_) (fun hc => ?_)
        · replace h := h.1 hc
          refine g_locals (lv' := [(0, .ref (ad 0)), (1, iv a1), (2, iv a2), (3, iv a3)]) rfl ?_
          exact pB35  _ h
        · replace h := h.2 hc
          refine g_iload_n C dR_sheet_23 rfl ?_
          refine g_bipush C dR_sheet_24 rfl ?_
          refine g_icmp_eq C 35 dR_sheet_26 (by decide) (fun hc => ?_) (fun hc => ?_)
          · replace h := h.1 hc
            refine g_locals (lv' := [(0, .ref (ad 0)), (1, iv a1), (2, iv a2), (3, iv a3)]) rfl ?_
            exact pB35  _ h
          · replace h := h.2 hc
            refine g_locals (lv' := [(0, .ref (ad 0))]) rfl ?_
            exact pB29  _ h
def w_Rput (a1 : Int) (a2 : Int) (a3 : Int) (M : gSt) (k : Int → gSt → Prop) : Prop :=
w_RisSheet a1 M (fun r1c M1 => 
  (¬ wrap r1c = 0 →
    (0 ≤ a1 ∧ a1 < 4) ∧ (
    (¬ wrap (M1 11 a1) = 0 →
      (0 ≤ a1 ∧ a1 < 4) ∧ (w_Rin a2 0 ((M1 12 a1) - 1) M1 (fun r38c M38 => 
      (¬ wrap r38c = 0 →
        (0 ≤ a1 ∧ a1 < 4) ∧ (∀ x4_59 : Int, x4_59 = 32 - (M38 11 a1) → ((0 ≤ (24 * a1) + a2 ∧ (24 * a1) + a2 < 96) ∧ (∀ M78 : gSt, M78 = wr M38 13 ((24 * a1) + a2) (xshr (xshl a3 x4_59) x4_59) → (k 1 M78))))) ∧
      (wrap r38c = 0 →
        w_Rerror 1 M38 (fun r46c M46 => k r46c M46))))) ∧
    (wrap (M1 11 a1) = 0 →
      w_Rerror 2 M1 (fun r24c M24 => k r24c M24)))) ∧
  (wrap r1c = 0 →
    w_Rerror 1 M1 (fun r9c M9 => k r9c M9)))
set_option maxHeartbeats 4000000 in
set_option maxRecDepth 100000 in
theorem m_Rput {l : Launch} {D : va_G} {cl : List vw_C} {tys : List (ClassId × FieldType)} {ad : Nat → Nat} {cI : ClassId} {ci : Nat} {Z : (Nat → Prop) → State → Prop} (hci : cl[ci]? = some (RX9, TX9, 23)) {a1 : Int} {a2 : Int} {a3 : Int} {M : gSt} {k : Int → gSt → Prop} (h : w_Rput a1 a2 a3 M k) : MOi l yX9_put cX9_put 5 .int (rmR 2 42) D cl ((cI, .int) :: tys) (wR ad cI ci) tR Z [.ref (ad 0), iv a1, iv a2, iv a3] M k := by
  refine moi_intro (by decide +kernel) (Nat.le_of_ble_eq_true rfl) wi_294 ?_
  intro p e s m args below meth c A Q C hR
  refine g_locals (lv' := [(0, .ref (ad 0)), (1, iv a1), (2, iv a2), (3, iv a3)]) rfl ?_
  unfold w_Rput at h
  refine g_iload_n C dR_put_0 rfl ?_
  refine g_callSi C (nargs := 1) (st := []) (m_RisSheet hci h) gd_isSheet (by decide +kernel) ⟨rfl, rfl⟩ dR_put_1 ⟨by decide, by decide⟩ rfl rfl (Nat.le_of_ble_eq_true rfl) ?_
  intro r1c M1 h
  refine g_if_ne C 13 dR_put_4 (by decide) (fun hc => ?_) (fun hc => ?_)
  · replace h := h.1 hc
    refine g_aload_n C dR_put_13 rfl ?_
    refine rf_bits C hci dR_put_14 ?_
    refine g_iload_n C dR_put_17 rfl ?_
    refine g_iald C (n := 4) dR_put_18 rfl (by decide) h.1 ?_
    replace h := h.2
    refine g_if_ne C 28 dR_put_19 (by decide) (fun hc => ?_) (fun hc => ?_)
    · replace h := h.1 hc
      refine g_iload_n C dR_put_28 rfl ?_
      refine g_iconst C dR_put_29 ?_
      refine g_aload_n C dR_put_30 rfl ?_
      refine rf_sizes C hci dR_put_31 ?_
      refine g_iload_n C dR_put_34 rfl ?_
      refine g_iald C (n := 4) dR_put_35 rfl (by decide) h.1 ?_
      replace h := h.2
      refine g_iconst C dR_put_36 ?_
      refine g_isub C dR_put_37 ?_
      refine g_callSi C (nargs := 3) (st := []) (m_Rin hci h) gd_in (by decide +kernel) ⟨rfl, rfl⟩ dR_put_38 ⟨by decide, by decide⟩ rfl rfl (Nat.le_of_ble_eq_true rfl) ?_
      intro r38c M38 h
      refine g_if_ne C 50 dR_put_41 (by decide) (fun hc => ?_) (fun hc => ?_)
      · replace h := h.1 hc
        refine g_bipush C dR_put_50 rfl ?_
        refine g_aload_n C dR_put_52 rfl ?_
        refine rf_bits C hci dR_put_53 ?_
        refine g_iload_n C dR_put_56 rfl ?_
        refine g_iald C (n := 4) dR_put_57 rfl (by decide) h.1 ?_
        replace h := h.2
        refine g_isub C dR_put_58 ?_
        refine g_name (fun x4_59 hx4_59 => ?_)
        replace h := h x4_59 hx4_59
        refine g_istore C dR_put_59 (by decide) rfl ?_
        refine g_locals (lv' := [(0, .ref (ad 0)), (1, iv a1), (2, iv a2), (3, iv a3), (4, iv x4_59)]) rfl ?_
        refine g_aload_n C dR_put_61 rfl ?_
        refine rf_number C hci dR_put_62 ?_
        refine g_bipush C dR_put_65 rfl ?_
        refine g_iload_n C dR_put_67 rfl ?_
        refine g_imul C dR_put_68 ?_
        refine g_iload_n C dR_put_69 rfl ?_
        refine g_iadd C dR_put_70 ?_
        refine g_iload_n C dR_put_71 rfl ?_
        refine g_iload C dR_put_72 rfl ?_
        refine g_ishl C dR_put_74 ?_
        refine g_iload C dR_put_75 rfl ?_
        refine g_ishr C dR_put_77 ?_
        refine g_iast C (n := 96) dR_put_78 rfl (by decide) h.1 ?_
        replace h := h.2
        refine g_memname (fun M78 hM78 => ?_)
        replace h := h M78 hM78
        refine g_iconst C dR_put_79 ?_
        exact hR _ _ _ _ dR_put_80 rfl h
      · replace h := h.2 hc
        refine g_aload_n C dR_put_44 rfl ?_
        refine g_iconst C dR_put_45 ?_
        refine g_callVi C (nargs := 1) (o := 0) (st := []) (m_Rerror hci h) rfl (by decide) hci rfl gd_error (by decide +kernel) ⟨rfl, rfl⟩ dR_put_46 ⟨by decide, by decide⟩ rfl rfl (Nat.le_of_ble_eq_true rfl) ?_
        intro r46c M46 h
        exact hR _ _ _ _ dR_put_49 rfl h
    · replace h := h.2 hc
      refine g_aload_n C dR_put_22 rfl ?_
      refine g_iconst C dR_put_23 ?_
      refine g_callVi C (nargs := 1) (o := 0) (st := []) (m_Rerror hci h) rfl (by decide) hci rfl gd_error (by decide +kernel) ⟨rfl, rfl⟩ dR_put_24 ⟨by decide, by decide⟩ rfl rfl (Nat.le_of_ble_eq_true rfl) ?_
      intro r24c M24 h
      exact hR _ _ _ _ dR_put_27 rfl h
  · replace h := h.2 hc
    refine g_aload_n C dR_put_7 rfl ?_
    refine g_iconst C dR_put_8 ?_
    refine g_callVi C (nargs := 1) (o := 0) (st := []) (m_Rerror hci h) rfl (by decide) hci rfl gd_error (by decide +kernel) ⟨rfl, rfl⟩ dR_put_9 ⟨by decide, by decide⟩ rfl rfl (Nat.le_of_ble_eq_true rfl) ?_
    intro r9c M9 h
    exact hR _ _ _ _ dR_put_12 rfl h
