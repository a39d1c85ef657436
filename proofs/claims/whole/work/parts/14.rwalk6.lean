def wB_RfindFits_43  (k : gSt → Prop) (r7 : Int → gSt → Prop) (X7_49 : gSt → Prop) (v1 : Int) (M : gSt) : Prop :=
r7 (v1 + 1) M
def wC_RfindFits_7  (k : gSt → Prop) (r7 : Int → gSt → Prop) (X7_49 : gSt → Prop) (v1 : Int) (M : gSt) : Prop :=
w_RallPapers  M (fun r9c M9 => 
  (wrap r9c < wrap v1 →
    X7_49  M9) ∧
  (wrap v1 ≤ wrap r9c →
    w_RdoesFit v1 M9 (fun r17c M17 => 
    (wrap r17c = 0 →
      wB_RfindFits_43  k r7 X7_49 v1 M17) ∧
    (¬ wrap r17c = 0 →
      (0 ≤ M17 0 13 ∧ M17 0 13 < 64) ∧ (∀ M32 : gSt, M32 = wr M17 8 (M17 0 13) v1 → (∀ M40 : gSt, M40 = wr M32 0 13 ((M32 0 13) + 1) → (wB_RfindFits_43  k r7 X7_49 v1 M40)))))))
def wL_RfindFits_7  (k : gSt → Prop)  (X7_49 : gSt → Prop) : Nat → Int → gSt → Prop
  | 0 => fun _ _ => False
  | n + 1 => fun v1 M => wC_RfindFits_7  k  (wL_RfindFits_7  k  X7_49 n) X7_49 v1 M
def w_RfindFits  (M : gSt) (k : gSt → Prop) : Prop :=
∀ M2 : gSt, M2 = wr M 0 13 0 → (∃ n, wL_RfindFits_7  k  (fun  M7 =>
    k M7) n 0 M2)
set_option maxHeartbeats 4000000 in
set_option maxRecDepth 100000 in
theorem m_RfindFits {l : Launch} {D : va_G} {cl : List vw_C} {tys : List (ClassId × FieldType)} {ad : Nat → Nat} {cI : ClassId} {ci : Nat} {Z : (Nat → Prop) → State → Prop} (hci : cl[ci]? = some (RX9, TX9, 23))  {M : gSt} {k : gSt → Prop} (h : w_RfindFits  M k) : MOv l yX9_findFits cX9_findFits 2 (rmR 4 100) D cl ((cI, .int) :: tys) (wR ad cI ci) tR Z [.ref (ad 0)] M k := by
  refine mov_intro (by decide +kernel) (Nat.le_of_ble_eq_true rfl) wi_231 ?_
  intro p e s m args below meth c A Q C hR
  have pB43 : ∀ (r7 : Int → gSt → Prop) (X7_49 : gSt → Prop) (hr7 : ∀ (v1 : Int) (M : gSt), r7 v1 M → gG p l e (rmR 4 100) s m args below meth c Q D cl A (wR ad cI ci) 2 7 [(0, .ref (ad 0)), (1, iv v1)] [] M) (hX7_49 : ∀  (M : gSt), X7_49  M → gG p l e (rmR 4 100) s m args below meth c Q D cl A (wR ad cI ci) 2 49 [] [] M) (v1 : Int) (M : gSt), wB_RfindFits_43  k r7 X7_49 v1 M → gG p l e (rmR 4 100) s m args below meth c Q D cl A (wR ad cI ci) 2 43 [(0, .ref (ad 0)), (1, iv v1)] [] M := by
    intro r7 X7_49 hr7 hX7_49 v1 M h
    unfold wB_RfindFits_43 at h
    refine g_iinc C dR_findFits_43 rfl (by decide) rfl ?_
    refine g_locals (lv' := [(0, .ref (ad 0)), (1, iv (v1 + 1))]) rfl ?_
    refine g_goto C 7 dR_findFits_46 (by decide) ?_
    refine g_locals (lv' := [(0, .ref (ad 0)), (1, iv (v1 + 1))]) rfl ?_
    exact hr7 _  _ h
  have pC7 : ∀ (r7 : Int → gSt → Prop) (X7_49 : gSt → Prop) (hr7 : ∀ (v1 : Int) (M : gSt), r7 v1 M → gG p l e (rmR 4 100) s m args below meth c Q D cl A (wR ad cI ci) 2 7 [(0, .ref (ad 0)), (1, iv v1)] [] M) (hX7_49 : ∀  (M : gSt), X7_49  M → gG p l e (rmR 4 100) s m args below meth c Q D cl A (wR ad cI ci) 2 49 [] [] M) (v1 : Int) (M : gSt), wC_RfindFits_7  k r7 X7_49 v1 M → gG p l e (rmR 4 100) s m args below meth c Q D cl A (wR ad cI ci) 2 7 [(0, .ref (ad 0)), (1, iv v1)] [] M := by
    intro r7 X7_49 hr7 hX7_49 v1 M h
    unfold wC_RfindFits_7 at h
    refine g_iload_n C dR_findFits_7 rfl ?_
    refine g_aload_n C dR_findFits_8 rfl ?_
    refine g_callVi C (nargs := 0) (o := 0) (st := [iv v1]) (m_RallPapers hci h) rfl (by decide) hci rfl gd_allPapers (by decide +kernel) ⟨rfl, rfl⟩ dR_findFits_9 ⟨by decide, by decide⟩ rfl rfl (Nat.le_of_ble_eq_true rfl) ?_
    intro r9c M9 h
    refine g_icmp_gt C 49 dR_findFits_12 (by decide) (fun hc => ?_) (fun hc => ?_)
    · replace h := h.1 hc
      refine g_locals (lv' := []) rfl ?_
      exact hX7_49  _ h
    · replace h := h.2 hc
      refine g_aload_n C dR_findFits_15 rfl ?_
      refine g_iload_n C dR_findFits_16 rfl ?_
      refine g_callVi C (nargs := 1) (o := 0) (st := []) (m_RdoesFit hci h) rfl (by decide) hci rfl gd_doesFit (by decide +kernel) ⟨rfl, rfl⟩ dR_findFits_17 ⟨by decide, by decide⟩ rfl rfl (Nat.le_of_ble_eq_true rfl) ?_
      intro r17c M17 h
      refine g_if_eq C 43 dR_findFits_20 (by decide) (fun hc => ?_) (fun hc => ?_)
      · replace h := h.1 hc
        refine g_locals (lv' := [(0, .ref (ad 0)), (1, iv v1)]) rfl ?_
        exact pB43 r7 X7_49 hr7 hX7_49 _ _ h
      · replace h := h.2 hc
        refine g_aload_n C dR_findFits_23 rfl ?_
        refine rf_fit C hci dR_findFits_24 ?_
        refine g_aload_n C dR_findFits_27 rfl ?_
        refine rf_many C hci dR_findFits_28 ?_
        refine g_iload_n C dR_findFits_31 rfl ?_
        refine g_iast C (n := 64) dR_findFits_32 rfl (by decide) h.1 ?_
        replace h := h.2
        refine g_memname (fun M32 hM32 => ?_)
        replace h := h M32 hM32
        refine g_aload_n C dR_findFits_33 rfl ?_
        refine g_dup C dR_findFits_34 rfl ?_
        refine rf_many C hci dR_findFits_35 ?_
        refine g_iconst C dR_findFits_38 ?_
        refine g_iadd C dR_findFits_39 ?_
        refine rp_many C hci dR_findFits_40 ?_
        refine g_memname (fun M40 hM40 => ?_)
        replace h := h M40 hM40
        refine g_locals (lv' := [(0, .ref (ad 0)), (1, iv v1)]) rfl ?_
        exact pB43 r7 X7_49 hr7 hX7_49 _ _ h
  have pL7 : ∀  (X7_49 : gSt → Prop) (hX7_49 : ∀  (M : gSt), X7_49  M → gG p l e (rmR 4 100) s m args below meth c Q D cl A (wR ad cI ci) 2 49 [] [] M) (n : Nat) (v1 : Int) (M : gSt), wL_RfindFits_7  k  X7_49 n v1 M → gG p l e (rmR 4 100) s m args below meth c Q D cl A (wR ad cI ci) 2 7 [(0, .ref (ad 0)), (1, iv v1)] [] M := by
    intro  X7_49 hX7_49 n
    induction n with
    | zero => intro v1 M h; exact h.elim
    | succ n ih =>
      intro v1 M h
      exact pC7  (wL_RfindFits_7  k  X7_49 n) X7_49 ih hX7_49 v1 M h
  refine g_locals (lv' := [(0, .ref (ad 0))]) rfl ?_
  unfold w_RfindFits at h
  refine g_aload_n C dR_findFits_0 rfl ?_
  refine g_iconst C dR_findFits_1 ?_
  refine rp_many C hci dR_findFits_2 ?_
  refine g_memname (fun M2 hM2 => ?_)
  replace h := h M2 hM2
  refine g_iconst C dR_findFits_5 ?_
  refine g_istore_n C dR_findFits_6 (by decide) rfl ?_
  refine g_locals (lv' := [(0, .ref (ad 0)), (1, iv 0)]) rfl ?_
  refine g_locals (lv' := [(0, .ref (ad 0)), (1, iv 0)]) rfl ?_
  obtain ⟨n, h⟩ := h
  refine pL7 _ ?_ n _ _ h
  · intro  M7 h
    exact hR _ _ _ dR_findFits_49 h
def wC_RbitsOf_4 (a1 : Int) (k : Int → gSt → Prop) (r4 : Int → Int → gSt → Prop) (X4_20 : Int → gSt → Prop) (v1 : Int) (v2 : Int) (M : gSt) : Prop :=

  (wrap v2 = 0 →
    X4_20 v1 M) ∧
  (¬ wrap v2 = 0 →
    ∀ x2_16 : Int, x2_16 = xand v2 (v2 - 1) → (r4 (v1 + 1) x2_16 M))
def wL_RbitsOf_4 (a1 : Int) (k : Int → gSt → Prop)  (X4_20 : Int → gSt → Prop) : Nat → Int → Int → gSt → Prop
  | 0 => fun _ _ _ => False
  | n + 1 => fun v1 v2 M => wC_RbitsOf_4 a1 k  (wL_RbitsOf_4 a1 k  X4_20 n) X4_20 v1 v2 M
def w_RbitsOf (a1 : Int) (M : gSt) (k : Int → gSt → Prop) : Prop :=
∃ n, wL_RbitsOf_4 a1 k  (fun u1_4 M4 =>
    k u1_4 M4) n 0 a1 M
set_option maxHeartbeats 4000000 in
set_option maxRecDepth 100000 in
theorem m_RbitsOf {l : Launch} {D : va_G} {cl : List vw_C} {tys : List (ClassId × FieldType)} {ad : Nat → Nat} {cI : ClassId} {ci : Nat} {Z : (Nat → Prop) → State → Prop} (hci : cl[ci]? = some (RX9, TX9, 23)) {a1 : Int} {M : gSt} {k : Int → gSt → Prop} (h : w_RbitsOf a1 M k) : MOi l yX9_bitsOf cX9_bitsOf 3 .int (rmR 0 0) D cl ((cI, .int) :: tys) (wR ad cI ci) tR Z [iv a1] M k := by
  refine moi_intro (by decide +kernel) (Nat.le_of_ble_eq_true rfl) wi_232 ?_
  intro p e s m args below meth c A Q C hR
  have pC4 : ∀ (r4 : Int → Int → gSt → Prop) (X4_20 : Int → gSt → Prop) (hr4 : ∀ (v1 : Int) (v2 : Int) (M : gSt), r4 v1 v2 M → gG p l e (rmR 0 0) s m args below meth c Q D cl A (wR ad cI ci) 3 4 [(1, iv v1), (2, iv v2)] [] M) (hX4_20 : ∀ (v1 : Int) (M : gSt), X4_20 v1 M → gG p l e (rmR 0 0) s m args below meth c Q D cl A (wR ad cI ci) 3 20 [(1, iv v1)] [] M) (v1 : Int) (v2 : Int) (M : gSt), wC_RbitsOf_4 a1 k r4 X4_20 v1 v2 M → gG p l e (rmR 0 0) s m args below meth c Q D cl A (wR ad cI ci) 3 4 [(1, iv v1), (2, iv v2)] [] M := by
    intro r4 X4_20 hr4 hX4_20 v1 v2 M h
    unfold wC_RbitsOf_4 at h
    refine g_iload_n C dR_bitsOf_4 rfl ?_
    refine g_if_eq C 20 dR_bitsOf_5 (by decide) (fun hc => ?_) (fun hc => ?_)
    · replace h := h.1 hc
      refine g_locals (lv' := [(1, iv v1)]) rfl ?_
      exact hX4_20 _  _ h
    · replace h := h.2 hc
      refine g_iinc C dR_bitsOf_8 rfl (by decide) rfl ?_
      refine g_locals (lv' := [(1, iv (v1 + 1)), (2, iv v2)]) rfl ?_
      refine g_iload_n C dR_bitsOf_11 rfl ?_
      refine g_iload_n C dR_bitsOf_12 rfl ?_
      refine g_iconst C dR_bitsOf_13 ?_
      refine g_isub C dR_bitsOf_14 ?_
      refine g_iand C dR_bitsOf_15 ?_
      refine g_name (fun x2_16 hx2_16 => ?_)
      replace h := h x2_16 hx2_16
      refine g_istore_n C dR_bitsOf_16 (by decide) rfl ?_
      refine g_locals (lv' := [(1, iv (v1 + 1)), (2, iv x2_16)]) rfl ?_
      refine g_goto C 4 dR_bitsOf_17 (by decide) ?_
      refine g_locals (lv' := [(1, iv (v1 + 1)), (2, iv x2_16)]) rfl ?_
      exact hr4 _ _  _ h
  have pL4 : ∀  (X4_20 : Int → gSt → Prop) (hX4_20 : ∀ (v1 : Int) (M : gSt), X4_20 v1 M → gG p l e (rmR 0 0) s m args below meth c Q D cl A (wR ad cI ci) 3 20 [(1, iv v1)] [] M) (n : Nat) (v1 : Int) (v2 : Int) (M : gSt), wL_RbitsOf_4 a1 k  X4_20 n v1 v2 M → gG p l e (rmR 0 0) s m args below meth c Q D cl A (wR ad cI ci) 3 4 [(1, iv v1), (2, iv v2)] [] M := by
    intro  X4_20 hX4_20 n
    induction n with
    | zero => intro v1 v2 M h; exact h.elim
    | succ n ih =>
      intro v1 v2 M h
      exact pC4  (wL_RbitsOf_4 a1 k  X4_20 n) X4_20 ih hX4_20 v1 v2 M h
  refine g_locals (lv' := [(0, iv a1)]) rfl ?_
  unfold w_RbitsOf at h
  refine g_iconst C dR_bitsOf_0 ?_
  refine g_istore_n C dR_bitsOf_1 (by decide) rfl ?_
  refine g_locals (lv' := [(0, iv a1), (1, iv 0)]) rfl ?_
  refine g_iload_n C dR_bitsOf_2 rfl ?_
  refine g_istore_n C dR_bitsOf_3 (by decide) rfl ?_
  refine g_locals (lv' := [(0, iv a1), (1, iv 0), (2, iv a1)]) rfl ?_
  refine g_locals (lv' := [(1, iv 0), (2, iv a1)]) rfl ?_
  obtain ⟨n, h⟩ := h
  refine pL4 _ ?_ n _ _ _ h
  · intro u1_4 M4 h
    refine g_iload_n C dR_bitsOf_20 rfl ?_
    exact hR _ _ _ _ dR_bitsOf_21 rfl h
def wB_Rfits_91 (a1 : Int) (k : Int → gSt → Prop) (r32 : Int → Int → Int → Int → gSt → Prop) (X32_99 : Int → Int → Int → gSt → Prop) (v2 : Int) (v3 : Int) (v5 : Int) (s0 : Int) (M : gSt) : Prop :=
r32 v2 v3 s0 (v5 + 1) M
def wC_Rfits_32 (a1 : Int) (k : Int → gSt → Prop) (r32 : Int → Int → Int → Int → gSt → Prop) (X32_99 : Int → Int → Int → gSt → Prop) (v2 : Int) (v3 : Int) (v4 : Int) (v5 : Int) (M : gSt) : Prop :=

  (wrap (M 0 13) ≤ wrap v5 →
    X32_99 v2 v3 v4 M) ∧
  (wrap v5 < wrap (M 0 13) →
    (0 ≤ v5 ∧ v5 < 64) ∧ (∀ x2_50 : Int, x2_50 = xand v2 (M 8 v5) → ((0 ≤ v5 ∧ v5 < 64) ∧ (∀ x3_60 : Int, x3_60 = xor2 v3 (M 8 v5) → ((0 ≤ v5 ∧ v5 < 64) ∧ (w_RbitsOf (M 8 v5) M (fun r68c M68 => 
    (wrap r68c ≤ wrap v4 →
      wB_Rfits_91 a1 k r32 X32_99 x2_50 x3_60 v5 v4 M68) ∧
    (wrap v4 < wrap r68c →
      (0 ≤ v5 ∧ v5 < 64) ∧ (w_RbitsOf (M68 8 v5) M68 (fun r83c M83 => wB_Rfits_91 a1 k r32 X32_99 x2_50 x3_60 v5 r83c M83))))))))))
def wL_Rfits_32 (a1 : Int) (k : Int → gSt → Prop)  (X32_99 : Int → Int → Int → gSt → Prop) : Nat → Int → Int → Int → Int → gSt → Prop
  | 0 => fun _ _ _ _ _ => False
  | n + 1 => fun v2 v3 v4 v5 M => wC_Rfits_32 a1 k  (wL_Rfits_32 a1 k  X32_99 n) X32_99 v2 v3 v4 v5 M
def wB_Rfits_122 (a1 : Int) (k : Int → gSt → Prop)  (v2 : Int) (v3 : Int) (v4 : Int) (M : gSt) : Prop :=

  (¬ wrap a1 = 0 →

    (¬ wrap a1 = 1 →

      (¬ wrap a1 = 2 →

        (¬ wrap a1 = 3 →
          k ((M 1 3) - v4) M) ∧
        (wrap a1 = 3 →
          k v3 M)) ∧
      (wrap a1 = 2 →
        k v2 M)) ∧
    (wrap a1 = 1 →
      k (M 8 0) M)) ∧
  (wrap a1 = 0 →
    k (M 0 13) M)
def wB_Rfits_109 (a1 : Int) (k : Int → gSt → Prop)  (v2 : Int) (v3 : Int) (v4 : Int) (M : gSt) : Prop :=

  (¬ wrap (M 0 13) = 0 →
    wB_Rfits_122 a1 k  v2 v3 v4 M) ∧
  (wrap (M 0 13) = 0 →
    w_Rerror 2 M (fun r118c M118 => k r118c M118))
def w_Rfits (a1 : Int) (M : gSt) (k : Int → gSt → Prop) : Prop :=
w_Rin a1 0 4 M (fun r3c M3 => 
  (¬ wrap r3c = 0 →
    w_RfindFits  M3 (fun M16 => w_RallPapers  M16 (fun r20c M20 => ∃ n, wL_Rfits_32 a1 k  (fun u2_32 u3_32 u4_32 M32 =>

      (wrap a1 = 1 →
        wB_Rfits_109 a1 k  u2_32 u3_32 u4_32 M32) ∧
      (¬ wrap a1 = 1 →

        (¬ wrap a1 = 4 →
          wB_Rfits_122 a1 k  u2_32 u3_32 u4_32 M32) ∧
        (wrap a1 = 4 →
          wB_Rfits_109 a1 k  u2_32 u3_32 u4_32 M32))) n r20c 0 0 0 M20))) ∧
  (wrap r3c = 0 →
    w_Rerror 1 M3 (fun r11c M11 => k r11c M11)))
set_option maxHeartbeats 4000000 in
set_option maxRecDepth 100000 in
theorem m_Rfits {l : Launch} {D : va_G} {cl : List vw_C} {tys : List (ClassId × FieldType)} {ad : Nat → Nat} {cI : ClassId} {ci : Nat} {Z : (Nat → Prop) → State → Prop} (hci : cl[ci]? = some (RX9, TX9, 23)) {a1 : Int} {M : gSt} {k : Int → gSt → Prop} (h : w_Rfits a1 M k) : MOi l yX9_fits cX9_fits 6 .int (rmR 5 121) D cl ((cI, .int) :: tys) (wR ad cI ci) tR Z [.ref (ad 0), iv a1] M k := by
  refine moi_intro (by decide +kernel) (Nat.le_of_ble_eq_true rfl) wi_238 ?_
  intro p e s m args below meth c A Q C hR
  have pB91 : ∀ (r32 : Int → Int → Int → Int → gSt → Prop) (X32_99 : Int → Int → Int → gSt → Prop) (hr32 : ∀ (v2 : Int) (v3 : Int) (v4 : Int) (v5 : Int) (M : gSt), r32 v2 v3 v4 v5 M → gG p l e (rmR 5 121) s m args below meth c Q D cl A (wR ad cI ci) 6 32 [(0, .ref (ad 0)), (1, iv a1), (2, iv v2), (3, iv v3), (4, iv v4), (5, iv v5)] [] M) (hX32_99 : ∀ (v2 : Int) (v3 : Int) (v4 : Int) (M : gSt), X32_99 v2 v3 v4 M → gG p l e (rmR 5 121) s m args below meth c Q D cl A (wR ad cI ci) 6 99 [(0, .ref (ad 0)), (1, iv a1), (2, iv v2), (3, iv v3), (4, iv v4)] [] M) (v2 : Int) (v3 : Int) (v5 : Int) (s0 : Int) (M : gSt), wB_Rfits_91 a1 k r32 X32_99 v2 v3 v5 s0 M → gG p l e (rmR 5 121) s m args below meth c Q D cl A (wR ad cI ci) 6 91 [(0, .ref (ad 0)), (1, iv a1), (2, iv v2), (3, iv v3), (5, iv v5)] [iv s0] M := by
    intro r32 X32_99 hr32 hX32_99 v2 v3 v5 s0 M h
    unfold wB_Rfits_91 at h
    refine g_istore C dR_fits_91 (by decide) rfl ?_
    refine g_locals (lv' := [(0, .ref (ad 0)), (1, iv a1), (2, iv v2), (3, iv v3), (4, iv s0), (5, iv v5)]) rfl ?_
    refine g_iinc C dR_fits_93 rfl (by decide) rfl ?_
    refine g_locals (lv' := [(0, .ref (ad 0)), (1, iv a1), (2, iv v2), (3, iv v3), (4, iv s0), (5, iv (v5 + 1))]) rfl ?_
    refine g_goto C 32 dR_fits_96 (by decide) ?_
    refine g_locals (lv' := [(0, .ref (ad 0)), (1, iv a1), (2, iv v2), (3, iv v3), (4, iv s0), (5, iv (v5 + 1))]) rfl ?_
    exact hr32 _ _ _ _  _ h
  have pC32 : ∀ (r32 : Int → Int → Int → Int → gSt → Prop) (X32_99 : Int → Int → Int → gSt → Prop) (hr32 : ∀ (v2 : Int) (v3 : Int) (v4 : Int) (v5 : Int) (M : gSt), r32 v2 v3 v4 v5 M → gG p l e (rmR 5 121) s m args below meth c Q D cl A (wR ad cI ci) 6 32 [(0, .ref (ad 0)), (1, iv a1), (2, iv v2), (3, iv v3), (4, iv v4), (5, iv v5)] [] M) (hX32_99 : ∀ (v2 : Int) (v3 : Int) (v4 : Int) (M : gSt), X32_99 v2 v3 v4 M → gG p l e (rmR 5 121) s m args below meth c Q D cl A (wR ad cI ci) 6 99 [(0, .ref (ad 0)), (1, iv a1), (2, iv v2), (3, iv v3), (4, iv v4)] [] M) (v2 : Int) (v3 : Int) (v4 : Int) (v5 : Int) (M : gSt), wC_Rfits_32 a1 k r32 X32_99 v2 v3 v4 v5 M → gG p l e (rmR 5 121) s m args below meth c Q D cl A (wR ad cI ci) 6 32 [(0, .ref (ad 0)), (1, iv a1), (2, iv v2), (3, iv v3), (4, iv v4), (5, iv v5)] [] M := by
    intro r32 X32_99 hr32 hX32_99 v2 v3 v4 v5 M h
    unfold wC_Rfits_32 at h
    refine g_iload C dR_fits_32 rfl ?_
    refine g_aload_n C dR_fits_34 rfl ?_
    refine rf_many C hci dR_fits_35 ?_
    refine g_icmp_ge C 99 dR_fits_38 (by decide) (fun hc => ?_) (fun hc => ?_)
    · replace h := h.1 hc
      refine g_locals (lv' := [(0, .ref (ad 0)), (1, iv a1), (2, iv v2), (3, iv v3), (4, iv v4)]) rfl ?_
      exact hX32_99 _ _ _  _ h
    · replace h := h.2 hc
      refine g_iload_n C dR_fits_41 rfl ?_
      refine g_aload_n C dR_fits_42 rfl ?_
      refine rf_fit C hci dR_fits_43 ?_
      refine g_iload C dR_fits_46 rfl ?_
      refine g_iald C (n := 64) dR_fits_48 rfl (by decide) h.1 ?_
      replace h := h.2
      refine g_iand C dR_fits_49 ?_
      refine g_name (fun x2_50 hx2_50 => ?_)
      replace h := h x2_50 hx2_50
      refine g_istore_n C dR_fits_50 (by decide) rfl ?_
      refine g_locals (lv' := [(0, .ref (ad 0)), (1, iv a1), (2, iv x2_50), (3, iv v3), (4, iv v4), (5, iv v5)]) rfl ?_
      refine g_iload_n C dR_fits_51 rfl ?_
      refine g_aload_n C dR_fits_52 rfl ?_
      refine rf_fit C hci dR_fits_53 ?_
      refine g_iload C dR_fits_56 rfl ?_
      refine g_iald C (n := 64) dR_fits_58 rfl (by decide) h.1 ?_
      replace h := h.2
      refine g_ior C dR_fits_59 ?_
      refine g_name (fun x3_60 hx3_60 => ?_)
      replace h := h x3_60 hx3_60
      refine g_istore_n C dR_fits_60 (by decide) rfl ?_
      refine g_locals (lv' := [(0, .ref (ad 0)), (1, iv a1), (2, iv x2_50), (3, iv x3_60), (4, iv v4), (5, iv v5)]) rfl ?_
      refine g_aload_n C dR_fits_61 rfl ?_
      refine rf_fit C hci dR_fits_62 ?_
      refine g_iload C dR_fits_65 rfl ?_
      refine g_iald C (n := 64) dR_fits_67 rfl (by decide) h.1 ?_
      replace h := h.2
      refine g_callSi C (nargs := 1) (st := []) (m_RbitsOf hci h) gd_bitsOf (by decide +kernel) ⟨rfl, rfl⟩ dR_fits_68 ⟨by decide, by decide⟩ rfl rfl (Nat.le_of_ble_eq_true rfl) ?_
      intro r68c M68 h
      refine g_iload C dR_fits_71 rfl ?_
      refine g_icmp_le C 89 dR_fits_73 (by decide) (fun hc => ?_) (fun hc => ?_)
      · replace h := h.1 hc
        refine g_iload C dR_fits_89 rfl ?_
        refine g_locals (lv' := [(0, .ref (ad 0)), (1, iv a1), (2, iv x2_50), (3, iv x3_60), (5, iv v5)]) rfl ?_
        exact pB91 r32 X32_99 hr32 hX32_99 _ _ _ _ _ h
      · replace h := h.2 hc
        refine g_aload_n C dR_fits_76 rfl ?_
        refine rf_fit C hci dR_fits_77 ?_
        refine g_iload C dR_fits_80 rfl ?_
        refine g_iald C (n := 64) dR_fits_82 rfl (by decide) h.1 ?_
        replace h := h.2
        refine g_callSi C (nargs := 1) (st := []) (m_RbitsOf hci h) gd_bitsOf (by decide +kernel) ⟨rfl, rfl⟩ dR_fits_83 ⟨by decide, by decide⟩ rfl rfl (Nat.le_of_ble_eq_true rfl) ?_
        intro r83c M83 h
        refine g_goto C 91 dR_fits_86 (by decide) ?_
        refine g_locals (lv' := [(0, .ref (ad 0)), (1, iv a1), (2, iv x2_50), (3, iv x3_60), (5, iv v5)]) rfl ?_
        exact pB91 r32 X32_99 hr32 hX32_99 _ _ _ _ _ h
  have pL32 : ∀  (X32_99 : Int → Int → Int → gSt → Prop) (hX32_99 : ∀ (v2 : Int) (v3 : Int) (v4 : Int) (M : gSt), X32_99 v2 v3 v4 M → gG p l e (rmR 5 121) s m args below meth c Q D cl A (wR ad cI ci) 6 99 [(0, .ref (ad 0)), (1, iv a1), (2, iv v2), (3, iv v3), (4, iv v4)] [] M) (n : Nat) (v2 : Int) (v3 : Int) (v4 : Int) (v5 : Int) (M : gSt), wL_Rfits_32 a1 k  X32_99 n v2 v3 v4 v5 M → gG p l e (rmR 5 121) s m args below meth c Q D cl A (wR ad cI ci) 6 32 [(0, .ref (ad 0)), (1, iv a1), (2, iv v2), (3, iv v3), (4, iv v4), (5, iv v5)] [] M := by
    intro  X32_99 hX32_99 n
    induction n with
    | zero => intro v2 v3 v4 v5 M h; exact h.elim
    | succ n ih =>
      intro v2 v3 v4 v5 M h
      exact pC32  (wL_Rfits_32 a1 k  X32_99 n) X32_99 ih hX32_99 v2 v3 v4 v5 M h
  have pB122 : ∀   (v2 : Int) (v3 : Int) (v4 : Int) (M : gSt), wB_Rfits_122 a1 k  v2 v3 v4 M → gG p l e (rmR 5 121) s m args below meth c Q D cl A (wR ad cI ci) 6 122 [(0, .ref (ad 0)), (1, iv a1), (2, iv v2), (3, iv v3), (4, iv v4)] [] M := by
    intro   v2 v3 v4 M h
    unfold wB_Rfits_122 at h
    refine g_iload_n C dR_fits_122 rfl ?_
    refine g_if_ne C 133 dR_fits_123 (by decide) (fun hc => ?_) (fun hc => ?_)
    · replace h := h.1 hc
      refine g_iload_n C dR_fits_133 rfl ?_
      refine g_iconst C dR_fits_134 ?_
      refine g_icmp_ne C 147 dR_fits_135 (by decide) (fun hc => ?_) (fun hc => ?_)
      · replace h := h.1 hc
        refine g_iload_n C dR_fits_147 rfl ?_
        refine g_iconst C dR_fits_148 ?_
        refine g_icmp_ne C 156 dR_fits_149 (by decide) (fun hc => ?_) (fun hc => ?_)
        · replace h := h.1 hc
          refine g_iload_n C dR_fits_156 rfl ?_
          refine g_iconst C dR_fits_157 ?_
          refine g_icmp_ne C 165 dR_fits_158 (by decide) (fun hc => ?_) (fun hc => ?_)
          · replace h := h.1 hc
            refine g_aload_n C dR_fits_165 rfl ?_
            refine rf_s C hci dR_fits_166 ?_
            refine g_iconst C dR_fits_169 ?_
            refine g_iald C (n := 536) dR_fits_170 rfl (by decide) ⟨by decide, by decide⟩ ?_
            refine g_iload C dR_fits_171 rfl ?_
            refine g_isub C dR_fits_173 ?_
            exact hR _ _ _ _ dR_fits_174 rfl h
          · replace h := h.2 hc
            refine g_iload_n C dR_fits_161 rfl ?_
            refine g_goto C 174 dR_fits_162 (by decide) ?_
            exact hR _ _ _ _ dR_fits_174 rfl h
        · replace h := h.2 hc
          refine g_iload_n C dR_fits_152 rfl ?_
          refine g_goto C 174 dR_fits_153 (by decide) ?_
          exact hR _ _ _ _ dR_fits_174 rfl h
      · replace h := h.2 hc
        refine g_aload_n C dR_fits_138 rfl ?_
        refine rf_fit C hci dR_fits_139 ?_
        refine g_iconst C dR_fits_142 ?_
        refine g_iald C (n := 64) dR_fits_143 rfl (by decide) ⟨by decide, by decide⟩ ?_
        refine g_goto C 174 dR_fits_144 (by decide) ?_
        exact hR _ _ _ _ dR_fits_174 rfl h
    · replace h := h.2 hc
      refine g_aload_n C dR_fits_126 rfl ?_
      refine rf_many C hci dR_fits_127 ?_
      refine g_goto C 174 dR_fits_130 (by decide) ?_
      exact hR _ _ _ _ dR_fits_174 rfl h
  have pB109 : ∀   (v2 : Int) (v3 : Int) (v4 : Int) (M : gSt), wB_Rfits_109 a1 k  v2 v3 v4 M → gG p l e (rmR 5 121) s m args below meth c Q D cl A (wR ad cI ci) 6 109 [(0, .ref (ad 0)), (1, iv a1), (2, iv v2), (3, iv v3), (4, iv v4)] [] M := by
    intro   v2 v3 v4 M h
    unfold wB_Rfits_109 at h
    refine g_aload_n C dR_fits_109 rfl ?_
    refine rf_many C hci dR_fits_110 ?_
    refine g_if_ne C 122 dR_fits_113 (by decide) (fun hc => ?_) (fun hc => ?_)
    · replace h := h.1 hc
      refine g_locals (lv' := [(0, .ref (ad 0)), (1, iv a1), (2, iv v2), (3, iv v3), (4, iv v4)]) rfl ?_
      exact pB122 _ _ _ _ h
    · replace h := h.2 hc
      refine g_aload_n C dR_fits_116 rfl ?_
      refine g_iconst C dR_fits_117 ?_
      refine g_callVi C (nargs := 1) (o := 0) (st := []) (m_Rerror hci h) rfl (by decide) hci rfl gd_error (by decide +kernel) ⟨rfl, rfl⟩ dR_fits_118 ⟨by decide, by decide⟩ rfl rfl (Nat.le_of_ble_eq_true rfl) ?_
      intro r118c M118 h
      exact hR _ _ _ _ dR_fits_121 rfl h
  refine g_locals (lv' := [(0, .ref (ad 0)), (1, iv a1)]) rfl ?_
  unfold w_Rfits at h
  refine g_iload_n C dR_fits_0 rfl ?_
  refine g_iconst C dR_fits_1 ?_
  refine g_iconst C dR_fits_2 ?_
  refine g_callSi C (nargs := 3) (st := []) (m_Rin hci h) gd_in (by decide +kernel) ⟨rfl, rfl⟩ dR_fits_3 ⟨by decide, by decide⟩ rfl rfl (Nat.le_of_ble_eq_true rfl) ?_
  intro r3c M3 h
  refine g_if_ne C 15 dR_fits_6 (by decide) (fun hc => ?_) (fun hc => ?_)
  · replace h := h.1 hc
    refine g_aload_n C dR_fits_15 rfl ?_
    refine g_callVv C (nargs := 0) (o := 0) (st := []) (m_RfindFits hci h) rfl (by decide) hci rfl gd_findFits (by decide +kernel) ⟨rfl, rfl⟩ dR_fits_16 ⟨by decide, by decide⟩ rfl rfl (Nat.le_of_ble_eq_true rfl) ?_
    intro M16 h
    refine g_aload_n C dR_fits_19 rfl ?_
    refine g_callVi C (nargs := 0) (o := 0) (st := []) (m_RallPapers hci h) rfl (by decide) hci rfl gd_allPapers (by decide +kernel) ⟨rfl, rfl⟩ dR_fits_20 ⟨by decide, by decide⟩ rfl rfl (Nat.le_of_ble_eq_true rfl) ?_
    intro r20c M20 h
    refine g_istore_n C dR_fits_23 (by decide) rfl ?_
    refine g_locals (lv' := [(0, .ref (ad 0)), (1, iv a1), (2, iv r20c)]) rfl ?_
    refine g_iconst C dR_fits_24 ?_
    refine g_istore_n C dR_fits_25 (by decide) rfl ?_
    refine g_locals (lv' := [(0, .ref (ad 0)), (1, iv a1), (2, iv r20c), (3, iv 0)]) rfl ?_
    refine g_iconst C dR_fits_26 ?_
    refine g_istore C dR_fits_27 (by decide) rfl ?_
    refine g_locals (lv' := [(0, .ref (ad 0)), (1, iv a1), (2, iv r20c), (3, iv 0), (4, iv 0)]) rfl ?_
    refine g_iconst C dR_fits_29 ?_
    refine g_istore C dR_fits_30 (by decide) rfl ?_
    refine g_locals (lv' := [(0, .ref (ad 0)), (1, iv a1), (2, iv r20c), (3, iv 0), (4, iv 0), (5, iv 0)]) rfl ?_
    refine g_locals (lv' := [(0, .ref (ad 0)), (1, iv a1), (2, iv r20c), (3, iv 0), (4, iv 0), (5, iv 0)]) rfl ?_
    obtain ⟨n, h⟩ := h
    refine pL32 _ ?_ n _ _ _ _ _ h
    · intro u2_32 u3_32 u4_32 M32 h
      refine g_iload_n C dR_fits_99 rfl ?_
      refine g_iconst C dR_fits_100 ?_
      refine g_icmp_eq C 109 dR_fits_101 (by decide) (fun hc => ?_) (fun hc => ?_)
      · replace h := h.1 hc
        refine g_locals (lv' := [(0, .ref (ad 0)), (1, iv a1), (2, iv u2_32), (3, iv u3_32), (4, iv u4_32)]) rfl ?_
        exact pB109 _ _ _ _ h
      · replace h := h.2 hc
        refine g_iload_n C dR_fits_104 rfl ?_
        refine g_iconst C dR_fits_105 ?_
        refine g_icmp_ne C 122 dR_fits_106 (by decide) (fun hc => ?_) (fun hc => ?_)
        · replace h := h.1 hc
          refine g_locals (lv' := [(0, .ref (ad 0)), (1, iv a1), (2, iv u2_32), (3, iv u3_32), (4, iv u4_32)]) rfl ?_
          exact pB122 _ _ _ _ h
        · replace h := h.2 hc
          refine g_locals (lv' := [(0, .ref (ad 0)), (1, iv a1), (2, iv u2_32), (3, iv u3_32), (4, iv u4_32)]) rfl ?_
          exact pB109 _ _ _ _ h
  · replace h := h.2 hc
    refine g_aload_n C dR_fits_9 rfl ?_
    refine g_iconst C dR_fits_10 ?_
    refine g_callVi C (nargs := 1) (o := 0) (st := []) (m_Rerror hci h) rfl (by decide) hci rfl gd_error (by decide +kernel) ⟨rfl, rfl⟩ dR_fits_11 ⟨by decide, by decide⟩ rfl rfl (Nat.le_of_ble_eq_true rfl) ?_
    intro r11c M11 h
    exact hR _ _ _ _ dR_fits_14 rfl h
def wB_Rspan_26 (a1 : Int) (a2 : Int) (a3 : Int) (k : Int → gSt → Prop)   (M : gSt) : Prop :=
w_Rerror 1 M (fun r28c M28 => k r28c M28)
def wB_Rspan_132 (a1 : Int) (a2 : Int) (a3 : Int) (k : Int → gSt → Prop) (r69 : Int → Int → gSt → Prop) (X69_140 : Int → gSt → Prop) (v5 : Int) (s0 : Int) (M : gSt) : Prop :=
r69 s0 (v5 + 1) M
def wC_Rspan_69 (a1 : Int) (a2 : Int) (a3 : Int) (k : Int → gSt → Prop) (r69 : Int → Int → gSt → Prop) (X69_140 : Int → gSt → Prop) (v4 : Int) (v5 : Int) (M : gSt) : Prop :=

  (wrap (M 0 13) ≤ wrap v5 →
    X69_140 v4 M) ∧
  (wrap v5 < wrap (M 0 13) →
    (0 ≤ v5 ∧ v5 < 64) ∧ (w_Rafter (M 8 v5) a1 (6 + a2) M (fun r91c M91 => 
    (¬ wrap a3 = 1 →

      (wrap v4 ≤ wrap r91c →
        wB_Rspan_132 a1 a2 a3 k r69 X69_140 v5 v4 M91) ∧
      (wrap r91c < wrap v4 →
        wB_Rspan_132 a1 a2 a3 k r69 X69_140 v5 r91c M91)) ∧
    (wrap a3 = 1 →

      (wrap r91c ≤ wrap v4 →
        wB_Rspan_132 a1 a2 a3 k r69 X69_140 v5 v4 M91) ∧
      (wrap v4 < wrap r91c →
        wB_Rspan_132 a1 a2 a3 k r69 X69_140 v5 r91c M91)))))
def wL_Rspan_69 (a1 : Int) (a2 : Int) (a3 : Int) (k : Int → gSt → Prop)  (X69_140 : Int → gSt → Prop) : Nat → Int → Int → gSt → Prop
  | 0 => fun _ _ _ => False
  | n + 1 => fun v4 v5 M => wC_Rspan_69 a1 a2 a3 k  (wL_Rspan_69 a1 a2 a3 k  X69_140 n) X69_140 v4 v5 M
def w_Rspan (a1 : Int) (a2 : Int) (a3 : Int) (M : gSt) (k : Int → gSt → Prop) : Prop :=
w_RisThing a1 M (fun r2c M2 => 
  (wrap r2c = 0 →
    wB_Rspan_26 a1 a2 a3 k   M2) ∧
  (¬ wrap r2c = 0 →
    w_Rin a2 0 3 M2 (fun r11c M11 => 
    (wrap r11c = 0 →
      wB_Rspan_26 a1 a2 a3 k   M11) ∧
    (¬ wrap r11c = 0 →
      w_Rin a3 0 1 M11 (fun r20c M20 => 
      (¬ wrap r20c = 0 →
        w_RfindFits  M20 (fun M33 => 
        (¬ wrap (M33 0 13) = 0 →
          w_Rafter (M33 8 0) a1 (6 + a2) M33 (fun r61c M61 => ∃ n, wL_Rspan_69 a1 a2 a3 k  (fun u4_69 M69 =>
            k u4_69 M69) n r61c 1 M61)) ∧
        (wrap (M33 0 13) = 0 →
          w_Rerror 2 M33 (fun r45c M45 => k r45c M45)))) ∧
      (wrap r20c = 0 →
        wB_Rspan_26 a1 a2 a3 k   M20))))))
set_option maxHeartbeats 4000000 in
set_option maxRecDepth 100000 in
theorem m_Rspan {l : Launch} {D : va_G} {cl : List vw_C} {tys : List (ClassId × FieldType)} {ad : Nat → Nat} {cI : ClassId} {ci : Nat} {Z : (Nat → Prop) → State → Prop} (hci : cl[ci]? = some (RX9, TX9, 23)) {a1 : Int} {a2 : Int} {a3 : Int} {M : gSt} {k : Int → gSt → Prop} (h : w_Rspan a1 a2 a3 M k) : MOi l yX9_span cX9_span 7 .int (rmR 5 121) D cl ((cI, .int) :: tys) (wR ad cI ci) tR Z [.ref (ad 0), iv a1, iv a2, iv a3] M k := by
  refine moi_intro (by decide +kernel) (Nat.le_of_ble_eq_true rfl) wi_239 ?_
  intro p e s m args below meth c A Q C hR
  have pB26 : ∀    (M : gSt), wB_Rspan_26 a1 a2 a3 k   M → gG p l e (rmR 5 121) s m args below meth c Q D cl A (wR ad cI ci) 7 26 [(0, .ref (ad 0))] [] M := by
    intro    M h
    unfold wB_Rspan_26 at h
    refine g_aload_n C dR_span_26 rfl ?_
    refine g_iconst C dR_span_27 ?_
    refine g_callVi C (nargs := 1) (o := 0) (st := []) (m_Rerror hci h) rfl (by decide) hci rfl gd_error (by decide +kernel) ⟨rfl, rfl⟩ dR_span_28 ⟨by decide, by decide⟩ rfl rfl (Nat.le_of_ble_eq_true rfl) ?_
    intro r28c M28 h
    exact hR _ _ _ _ dR_span_31 rfl h
  have pB132 : ∀ (r69 : Int → Int → gSt → Prop) (X69_140 : Int → gSt → Prop) (hr69 : ∀ (v4 : Int) (v5 : Int) (M : gSt), r69 v4 v5 M → gG p l e (rmR 5 121) s m args below meth c Q D cl A (wR ad cI ci) 7 69 [(0, .ref (ad 0)), (1, iv a1), (2, iv a2), (3, iv a3), (4, iv v4), (5, iv v5)] [] M) (hX69_140 : ∀ (v4 : Int) (M : gSt), X69_140 v4 M → gG p l e (rmR 5 121) s m args below meth c Q D cl A (wR ad cI ci) 7 140 [(4, iv v4)] [] M) (v5 : Int) (s0 : Int) (M : gSt), wB_Rspan_132 a1 a2 a3 k r69 X69_140 v5 s0 M → gG p l e (rmR 5 121) s m args below meth c Q D cl A (wR ad cI ci) 7 132 [(0, .ref (ad 0)), (1, iv a1), (2, iv a2), (3, iv a3), (5, iv v5)] [iv s0] M := by
    intro r69 X69_140 hr69 hX69_140 v5 s0 M h
    unfold wB_Rspan_132 at h
    refine g_istore C dR_span_132 (by decide) rfl ?_
    refine g_locals (lv' := [(0, .ref (ad 0)), (1, iv a1), (2, iv a2), (3, iv a3), (4, iv s0), (5, iv v5)]) rfl ?_
    refine g_iinc C dR_span_134 rfl (by decide) rfl ?_
    refine g_locals (lv' := [(0, .ref (ad 0)), (1, iv a1), (2, iv a2), (3, iv a3), (4, iv s0), (5, iv (v5 + 1))]) rfl ?_
    refine g_goto C 69 dR_span_137 (by decide) ?_
    refine g_locals (lv' := [(0, .ref (ad 0)), (1, iv a1), (2, iv a2), (3, iv a3), (4, iv s0), (5, iv (v5 + 1))]) rfl ?_
    exact hr69 _ _  _ h
  have pC69 : ∀ (r69 : Int → Int → gSt → Prop) (X69_140 : Int → gSt → Prop) (hr69 : ∀ (v4 : Int) (v5 : Int) (M : gSt), r69 v4 v5 M → gG p l e (rmR 5 121) s m args below meth c Q D cl A (wR ad cI ci) 7 69 [(0, .ref (ad 0)), (1, iv a1), (2, iv a2), (3, iv a3), (4, iv v4), (5, iv v5)] [] M) (hX69_140 : ∀ (v4 : Int) (M : gSt), X69_140 v4 M → gG p l e (rmR 5 121) s m args below meth c Q D cl A (wR ad cI ci) 7 140 [(4, iv v4)] [] M) (v4 : Int) (v5 : Int) (M : gSt), wC_Rspan_69 a1 a2 a3 k r69 X69_140 v4 v5 M → gG p l e (rmR 5 121) s m args below meth c Q D cl A (wR ad cI ci) 7 69 [(0, .ref (ad 0)), (1, iv a1), (2, iv a2), (3, iv a3), (4, iv v4), (5, iv v5)] [] M := by
    intro r69 X69_140 hr69 hX69_140 v4 v5 M h
    unfold wC_Rspan_69 at h
    refine g_iload C dR_span_69 rfl ?_
    refine g_aload_n C dR_span_71 rfl ?_
    refine rf_many C hci dR_span_72 ?_
    refine g_icmp_ge C 140 dR_span_75 (by decide) (fun hc => ?_) (fun hc => ?_)
    · replace h := h.1 hc
      refine g_locals (lv' := [(4, iv v4)]) rfl ?_
      exact hX69_140 _  _ h
    · replace h := h.2 hc
      refine g_aload_n C dR_span_78 rfl ?_
      refine g_aload_n C dR_span_79 rfl ?_
      refine rf_fit C hci dR_span_80 ?_
      refine g_iload C dR_span_83 rfl ?_
      refine g_iald C (n := 64) dR_span_85 rfl (by decide) h.1 ?_
      replace h := h.2
      refine g_iload_n C dR_span_86 rfl ?_
      refine g_bipush C dR_span_87 rfl ?_
      refine g_iload_n C dR_span_89 rfl ?_
      refine g_iadd C dR_span_90 ?_
      refine g_callVi C (nargs := 3) (o := 0) (st := []) (m_Rafter hci h) rfl (by decide) hci rfl gd_after (by decide +kernel) ⟨rfl, rfl⟩ dR_span_91 ⟨by decide, by decide⟩ rfl rfl (Nat.le_of_ble_eq_true rfl) ?_
      intro r91c M91 h
      refine g_istore C dR_span_94 (by decide) rfl ?_
      refine g_locals (lv' := [(0, .ref (ad 0)), (1, iv a1), (2, iv a2), (3, iv a3), (4, iv v4), (5, iv v5), (6, iv r91c)]) rfl ?_
      refine g_iload_n C dR_span_96 rfl ?_
      refine g_iconst C dR_span_97 ?_
      refine g_icmp_ne C 118 dR_span_98 (by decide) (fun hc => ?_) (fun hc => ?_)
      · replace h := h.1 hc
        refine g_iload C dR_span_118 rfl ?_
        refine g_iload C dR_span_120 rfl ?_
        refine g_icmp_ge C 130 dR_span_122 (by decide) (fun hc => ?_) (fun hc => ?_)
        · replace h := h.1 hc
          refine g_iload C dR_span_130 rfl ?_
          refine g_locals (lv' := [(0, .ref (ad 0)), (1, iv a1), (2, iv a2), (3, iv a3), (5, iv v5)]) rfl ?_
          exact pB132 r69 X69_140 hr69 hX69_140 _ _ _ h
        · replace h := h.2 hc
          refine g_iload C dR_span_125 rfl ?_
          refine g_goto C 132 dR_span_127 (by decide) ?_
          refine g_locals (lv' := [(0, .ref (ad 0)), (1, iv a1), (2, iv a2), (3, iv a3), (5, iv v5)]) rfl ?_
          exact pB132 r69 X69_140 hr69 hX69_140 _ _ _ h
      · replace h := h.2 hc
        refine g_iload C dR_span_101 rfl ?_
        refine g_iload C dR_span_103 rfl ?_
        refine g_icmp_le C 113 dR_span_105 (by decide) (fun hc => ?_) (fun hc => ?_)
        · replace h := h.1 hc
          refine g_iload C dR_span_113 rfl ?_
          refine g_goto C 132 dR_span_115 (by decide) ?_
          refine g_locals (lv' := [(0, .ref (ad 0)), (1, iv a1), (2, iv a2), (3, iv a3), (5, iv v5)]) rfl ?_
          exact pB132 r69 X69_140 hr69 hX69_140 _ _ _ h
        · replace h := h.2 hc
          refine g_iload C dR_span_108 rfl ?_
          refine g_goto C 132 dR_span_110 (by decide) ?_
          refine g_locals (lv' := [(0, .ref (ad 0)), (1, iv a1), (2, iv a2), (3, iv a3), (5, iv v5)]) rfl ?_
          exact pB132 r69 X69_140 hr69 hX69_140 _ _ _ h
  have pL69 : ∀  (X69_140 : Int → gSt → Prop) (hX69_140 : ∀ (v4 : Int) (M : gSt), X69_140 v4 M → gG p l e (rmR 5 121) s m args below meth c Q D cl A (wR ad cI ci) 7 140 [(4, iv v4)] [] M) (n : Nat) (v4 : Int) (v5 : Int) (M : gSt), wL_Rspan_69 a1 a2 a3 k  X69_140 n v4 v5 M → gG p l e (rmR 5 121) s m args below meth c Q D cl A (wR ad cI ci) 7 69 [(0, .ref (ad 0)), (1, iv a1), (2, iv a2), (3, iv a3), (4, iv v4), (5, iv v5)] [] M := by
    intro  X69_140 hX69_140 n
    induction n with
    | zero => intro v4 v5 M h; exact h.elim
    | succ n ih =>
      intro v4 v5 M h
      exact pC69  (wL_Rspan_69 a1 a2 a3 k  X69_140 n) X69_140 ih hX69_140 v4 v5 M h
  refine g_locals (lv' := [(0, .ref (ad 0)), (1, iv a1), (2, iv a2), (3, iv a3)]) rfl ?_
  unfold w_Rspan at h
  refine g_aload_n C dR_span_0 rfl ?_
  refine g_iload_n C dR_span_1 rfl ?_
  refine g_callVi C (nargs := 1) (o := 0) (st := []) (m_RisThing hci h) rfl (by decide) hci rfl gd_isThing (by decide +kernel) ⟨rfl, rfl⟩ dR_span_2 ⟨by decide, by decide⟩ rfl rfl (Nat.le_of_ble_eq_true rfl) ?_
  intro r2c M2 h
  refine g_if_eq C 26 dR_span_5 (by decide) (fun hc => ?_) (fun hc => ?_)
  · replace h := h.1 hc
    refine g_locals (lv' := [(0, .ref (ad 0))]) rfl ?_
    exact pB26  _ h
  · replace h := h.2 hc
    refine g_iload_n C dR_span_8 rfl ?_
    refine g_iconst C dR_span_9 ?_
    refine g_iconst C dR_span_10 ?_
    refine g_callSi C (nargs := 3) (st := []) (m_Rin hci h) gd_in (by decide +kernel) ⟨rfl, rfl⟩ dR_span_11 ⟨by decide, by decide⟩ rfl rfl (Nat.le_of_ble_eq_true rfl) ?_
    intro r11c M11 h
    refine g_if_eq C 26 dR_span_14 (by decide) (fun hc => ?_) (fun hc => ?_)
    · replace h := h.1 hc
      refine g_locals (lv' := [(0, .ref (ad 0))]) rfl ?_
      exact pB26  _ h
    · replace h := h.2 hc
      refine g_iload_n C dR_span_17 rfl ?_
      refine g_iconst C dR_span_18 ?_
      refine g_iconst C dR_span_19 ?_
      refine g_callSi C (nargs := 3) (st := []) (m_Rin hci h) gd_in (by decide +kernel) ⟨rfl, rfl⟩ dR_span_20 ⟨by decide, by decide⟩ rfl rfl (Nat.le_of_ble_eq_true rfl) ?_
      intro r20c M20 h
      refine g_if_ne C 32 dR_span_23 (by decide) (fun hc => ?_) (fun hc => ?_)
      · replace h := h.1 hc
        refine g_aload_n C dR_span_32 rfl ?_
        refine g_callVv C (nargs := 0) (o := 0) (st := []) (m_RfindFits hci h) rfl (by decide) hci rfl gd_findFits (by decide +kernel) ⟨rfl, rfl⟩ dR_span_33 ⟨by decide, by decide⟩ rfl rfl (Nat.le_of_ble_eq_true rfl) ?_
        intro M33 h
        refine g_aload_n C dR_span_36 rfl ?_
        refine rf_many C hci dR_span_37 ?_
        refine g_if_ne C 49 dR_span_40 (by decide) (fun hc => ?_) (fun hc => ?_)
        · replace h := h.1 hc
          refine g_aload_n C dR_span_49 rfl ?_
          refine g_aload_n C dR_span_50 rfl ?_
          refine rf_fit C hci dR_span_51 ?_
          refine g_iconst C dR_span_54 ?_
          refine g_iald C (n := 64) dR_span_55 rfl (by decide) ⟨by decide, by decide⟩ ?_
          refine g_iload_n C dR_span_56 rfl ?_
          refine g_bipush C dR_span_57 rfl ?_
          refine g_iload_n C dR_span_59 rfl ?_
          refine g_iadd C dR_span_60 ?_
          refine g_callVi C (nargs := 3) (o := 0) (st := []) (m_Rafter hci h) rfl (by decide) hci rfl gd_after (by decide +kernel) ⟨rfl, rfl⟩ dR_span_61 ⟨by decide, by decide⟩ rfl rfl (Nat.le_of_ble_eq_true rfl) ?_
          intro r61c M61 h
          refine g_istore C dR_span_64 (by decide) rfl ?_
          refine g_locals (lv' := [(0, .ref (ad 0)), (1, iv a1), (2, iv a2), (3, iv a3), (4, iv r61c)]) rfl ?_
          refine g_iconst C dR_span_66 ?_
          refine g_istore C dR_span_67 (by decide) rfl ?_
          refine g_locals (lv' := [(0, .ref (ad 0)), (1, iv a1), (2, iv a2), (3, iv a3), (4, iv r61c), (5, iv 1)]) rfl ?_
          refine g_locals (lv' := [(0, .ref (ad 0)), (1, iv a1), (2, iv a2), (3, iv a3), (4, iv r61c), (5, iv 1)]) rfl ?_
          obtain ⟨n, h⟩ := h
          refine pL69 _ ?_ n _ _ _ h
          · intro u4_69 M69 h
            refine g_iload C dR_span_140 rfl ?_
            exact hR _ _ _ _ dR_span_142 rfl h
        · replace h := h.2 hc
          refine g_aload_n C dR_span_43 rfl ?_
          refine g_iconst C dR_span_44 ?_
          refine g_callVi C (nargs := 1) (o := 0) (st := []) (m_Rerror hci h) rfl (by decide) hci rfl gd_error (by decide +kernel) ⟨rfl, rfl⟩ dR_span_45 ⟨by decide, by decide⟩ rfl rfl (Nat.le_of_ble_eq_true rfl) ?_
          intro r45c M45 h
          exact hR _ _ _ _ dR_span_48 rfl h
      · replace h := h.2 hc
        refine g_locals (lv' := [(0, .ref (ad 0))]) rfl ?_
        exact pB26  _ h
def wC_Rheap_2 (a1 : Int) (k : Int → gSt → Prop) (r2 : Int → gSt → Prop) (X2_34 : gSt → Prop) (v2 : Int) (M : gSt) : Prop :=

  (wrap (M 0 13) ≤ wrap v2 →
    X2_34  M) ∧
  (wrap v2 < wrap (M 0 13) →
    (0 ≤ v2 ∧ v2 < 64) ∧ (w_Rafter (M 8 v2) a1 2 M (fun r24c M24 => (0 ≤ v2 ∧ v2 < 64) ∧ (∀ M27 : gSt, M27 = wr M24 9 v2 r24c → (r2 (v2 + 1) M27)))))
def wL_Rheap_2 (a1 : Int) (k : Int → gSt → Prop)  (X2_34 : gSt → Prop) : Nat → Int → gSt → Prop
  | 0 => fun _ _ => False
  | n + 1 => fun v2 M => wC_Rheap_2 a1 k  (wL_Rheap_2 a1 k  X2_34 n) X2_34 v2 M
def wB_Rheap_84 (a1 : Int) (k : Int → gSt → Prop) (r38 : Int → Int → gSt → Prop) (X38_112 : Int → gSt → Prop) (r52 : Int → Int → Int → Int → gSt → Prop) (X52_93 : Int → Int → Int → gSt → Prop) (v2 : Int) (v3 : Int) (v5 : Int) (s0 : Int) (s1 : Int) (M : gSt) : Prop :=
∀ x4_85 : Int, x4_85 = s1 + s0 → (r52 v2 v3 x4_85 (v5 + 1) M)
def wC_Rheap_52 (a1 : Int) (k : Int → gSt → Prop) (r38 : Int → Int → gSt → Prop) (X38_112 : Int → gSt → Prop) (r52 : Int → Int → Int → Int → gSt → Prop) (X52_93 : Int → Int → Int → gSt → Prop) (v2 : Int) (v3 : Int) (v4 : Int) (v5 : Int) (M : gSt) : Prop :=

  (wrap (M 0 13) ≤ wrap v5 →
    X52_93 v2 v3 v4 M) ∧
  (wrap v5 < wrap (M 0 13) →
    (0 ≤ v5 ∧ v5 < 64) ∧ ((0 ≤ v3 ∧ v3 < 64) ∧ (
    (¬ wrap (M 9 v5) = wrap (M 9 v3) →
      wB_Rheap_84 a1 k r38 X38_112 r52 X52_93 v2 v3 v5 0 v4 M) ∧
    (wrap (M 9 v5) = wrap (M 9 v3) →
      wB_Rheap_84 a1 k r38 X38_112 r52 X52_93 v2 v3 v5 1 v4 M))))
def wL_Rheap_52 (a1 : Int) (k : Int → gSt → Prop) (r38 : Int → Int → gSt → Prop) (X38_112 : Int → gSt → Prop) (X52_93 : Int → Int → Int → gSt → Prop) : Nat → Int → Int → Int → Int → gSt → Prop
  | 0 => fun _ _ _ _ _ => False
  | n + 1 => fun v2 v3 v4 v5 M => wC_Rheap_52 a1 k r38 X38_112 (wL_Rheap_52 a1 k r38 X38_112 X52_93 n) X52_93 v2 v3 v4 v5 M
def wB_Rheap_105 (a1 : Int) (k : Int → gSt → Prop) (r38 : Int → Int → gSt → Prop) (X38_112 : Int → gSt → Prop) (v3 : Int) (s0 : Int) (M : gSt) : Prop :=
r38 s0 (v3 + 1) M
def wC_Rheap_38 (a1 : Int) (k : Int → gSt → Prop) (r38 : Int → Int → gSt → Prop) (X38_112 : Int → gSt → Prop) (v2 : Int) (v3 : Int) (M : gSt) : Prop :=

  (wrap (M 0 13) ≤ wrap v3 →
    X38_112 v2 M) ∧
  (wrap v3 < wrap (M 0 13) →
    ∃ n, wL_Rheap_52 a1 k r38 X38_112 (fun u2_52 u3_52 u4_52 M52 =>

      (wrap u4_52 ≤ wrap u2_52 →
        wB_Rheap_105 a1 k r38 X38_112 u3_52 u2_52 M52) ∧
      (wrap u2_52 < wrap u4_52 →
        wB_Rheap_105 a1 k r38 X38_112 u3_52 u4_52 M52)) n v2 v3 0 0 M)
def wL_Rheap_38 (a1 : Int) (k : Int → gSt → Prop)  (X38_112 : Int → gSt → Prop) : Nat → Int → Int → gSt → Prop
  | 0 => fun _ _ _ => False
  | n + 1 => fun v2 v3 M => wC_Rheap_38 a1 k  (wL_Rheap_38 a1 k  X38_112 n) X38_112 v2 v3 M
def w_Rheap (a1 : Int) (M : gSt) (k : Int → gSt → Prop) : Prop :=
∃ n, wL_Rheap_2 a1 k  (fun  M2 =>
    ∃ n, wL_Rheap_38 a1 k  (fun u2_38 M38 =>
      k u2_38 M38) n 0 0 M2) n 0 M
set_option maxHeartbeats 4000000 in
set_option maxRecDepth 100000 in
theorem m_Rheap {l : Launch} {D : va_G} {cl : List vw_C} {tys : List (ClassId × FieldType)} {ad : Nat → Nat} {cI : ClassId} {ci : Nat} {Z : (Nat → Prop) → State → Prop} (hci : cl[ci]? = some (RX9, TX9, 23)) {a1 : Int} {M : gSt} {k : Int → gSt → Prop} (h : w_Rheap a1 M k) : MOi l yX9_heap cX9_heap 6 .int (rmR 4 99) D cl ((cI, .int) :: tys) (wR ad cI ci) tR Z [.ref (ad 0), iv a1] M k := by
  refine moi_intro (by decide +kernel) (Nat.le_of_ble_eq_true rfl) wi_240 ?_
  intro p e s m args below meth c A Q C hR
  have pC2 : ∀ (r2 : Int → gSt → Prop) (X2_34 : gSt → Prop) (hr2 : ∀ (v2 : Int) (M : gSt), r2 v2 M → gG p l e (rmR 4 99) s m args below meth c Q D cl A (wR ad cI ci) 6 2 [(0, .ref (ad 0)), (1, iv a1), (2, iv v2)] [] M) (hX2_34 : ∀  (M : gSt), X2_34  M → gG p l e (rmR 4 99) s m args below meth c Q D cl A (wR ad cI ci) 6 34 [(0, .ref (ad 0))] [] M) (v2 : Int) (M : gSt), wC_Rheap_2 a1 k r2 X2_34 v2 M → gG p l e (rmR 4 99) s m args below meth c Q D cl A (wR ad cI ci) 6 2 [(0, .ref (ad 0)), (1, iv a1), (2, iv v2)] [] M := by
    intro r2 X2_34 hr2 hX2_34 v2 M h
    unfold wC_Rheap_2 at h
    refine g_iload_n C dR_heap_2 rfl ?_
    refine g_aload_n C dR_heap_3 rfl ?_
    refine rf_many C hci dR_heap_4 ?_
    refine g_icmp_ge C 34 dR_heap_7 (by decide) (fun hc => ?_) (fun hc => ?_)
    · replace h := h.1 hc
      refine g_locals (lv' := [(0, .ref (ad 0))]) rfl ?_
      exact hX2_34  _ h
    · replace h := h.2 hc
      refine g_aload_n C dR_heap_10 rfl ?_
      refine rf_seen C hci dR_heap_11 ?_
      refine g_iload_n C dR_heap_14 rfl ?_
      refine g_aload_n C dR_heap_15 rfl ?_
      refine g_aload_n C dR_heap_16 rfl ?_
      refine rf_fit C hci dR_heap_17 ?_
      refine g_iload_n C dR_heap_20 rfl ?_
      refine g_iald C (n := 64) dR_heap_21 rfl (by decide) h.1 ?_
      replace h := h.2
      refine g_iload_n C dR_heap_22 rfl ?_
      refine g_iconst C dR_heap_23 ?_
      refine g_callVi C (nargs := 3) (o := 0) (st := [iv v2, .ref (ad 9)]) (m_Rafter hci h) rfl (by decide) hci rfl gd_after (by decide +kernel) ⟨rfl, rfl⟩ dR_heap_24 ⟨by decide, by decide⟩ rfl rfl (Nat.le_of_ble_eq_true rfl) ?_
      intro r24c M24 h
      refine g_iast C (n := 64) dR_heap_27 rfl (by decide) h.1 ?_
      replace h := h.2
      refine g_memname (fun M27 hM27 => ?_)
      replace h := h M27 hM27
      refine g_iinc C dR_heap_28 rfl (by decide) rfl ?_
      refine g_locals (lv' := [(0, .ref (ad 0)), (1, iv a1), (2, iv (v2 + 1))]) rfl ?_
      refine g_goto C 2 dR_heap_31 (by decide) ?_
      refine g_locals (lv' := [(0, .ref (ad 0)), (1, iv a1), (2, iv (v2 + 1))]) rfl ?_
      exact hr2 _  _ h
  have pL2 : ∀  (X2_34 : gSt → Prop) (hX2_34 : ∀  (M : gSt), X2_34  M → gG p l e (rmR 4 99) s m args below meth c Q D cl A (wR ad cI ci) 6 34 [(0, .ref (ad 0))] [] M) (n : Nat) (v2 : Int) (M : gSt), wL_Rheap_2 a1 k  X2_34 n v2 M → gG p l e (rmR 4 99) s m args below meth c Q D cl A (wR ad cI ci) 6 2 [(0, .ref (ad 0)), (1, iv a1), (2, iv v2)] [] M := by
    intro  X2_34 hX2_34 n
    induction n with
    | zero => intro v2 M h; exact h.elim
    | succ n ih =>
      intro v2 M h
      exact pC2  (wL_Rheap_2 a1 k  X2_34 n) X2_34 ih hX2_34 v2 M h
  have pB84 : ∀ (r38 : Int → Int → gSt → Prop) (X38_112 : Int → gSt → Prop) (r52 : Int → Int → Int → Int → gSt → Prop) (X52_93 : Int → Int → Int → gSt → Prop) (hr38 : ∀ (v2 : Int) (v3 : Int) (M : gSt), r38 v2 v3 M → gG p l e (rmR 4 99) s m args below meth c Q D cl A (wR ad cI ci) 6 38 [(0, .ref (ad 0)), (2, iv v2), (3, iv v3)] [] M) (hX38_112 : ∀ (v2 : Int) (M : gSt), X38_112 v2 M → gG p l e (rmR 4 99) s m args below meth c Q D cl A (wR ad cI ci) 6 112 [(2, iv v2)] [] M) (hr52 : ∀ (v2 : Int) (v3 : Int) (v4 : Int) (v5 : Int) (M : gSt), r52 v2 v3 v4 v5 M → gG p l e (rmR 4 99) s m args below meth c Q D cl A (wR ad cI ci) 6 52 [(0, .ref (ad 0)), (2, iv v2), (3, iv v3), (4, iv v4), (5, iv v5)] [] M) (hX52_93 : ∀ (v2 : Int) (v3 : Int) (v4 : Int) (M : gSt), X52_93 v2 v3 v4 M → gG p l e (rmR 4 99) s m args below meth c Q D cl A (wR ad cI ci) 6 93 [(0, .ref (ad 0)), (2, iv v2), (3, iv v3), (4, iv v4)] [] M) (v2 : Int) (v3 : Int) (v5 : Int) (s0 : Int) (s1 : Int) (M : gSt), wB_Rheap_84 a1 k r38 X38_112 r52 X52_93 v2 v3 v5 s0 s1 M → gG p l e (rmR 4 99) s m args below meth c Q D cl A (wR ad cI ci) 6 84 [(0, .ref (ad 0)), (2, iv v2), (3, iv v3), (5, iv v5)] [iv s0, iv s1] M := by
    intro r38 X38_112 r52 X52_93 hr38 hX38_112 hr52 hX52_93 v2 v3 v5 s0 s1 M h
    unfold wB_Rheap_84 at h
    refine g_iadd C dR_heap_84 ?_
    refine g_name (fun x4_85 hx4_85 => ?_)
    replace h := h x4_85 hx4_85
    refine g_istore C dR_heap_85 (by decide) rfl ?_
    refine g_locals (lv' := [(0, .ref (ad 0)), (2, iv v2), (3, iv v3), (4, iv x4_85), (5, iv v5)]) rfl ?_
    refine g_iinc C dR_heap_87 rfl (by decide) rfl ?_
    refine g_locals (lv' := [(0, .ref (ad 0)), (2, iv v2), (3, iv v3), (4, iv x4_85), (5, iv (v5 + 1))]) rfl ?_
    refine g_goto C 52 dR_heap_90 (by decide) ?_
    refine g_locals (lv' := [(0, .ref (ad 0)), (2, iv v2), (3, iv v3), (4, iv x4_85), (5, iv (v5 + 1))]) rfl ?_
    exact hr52 _ _ _ _  _ h
  have pC52 : ∀ (r38 : Int → Int → gSt → Prop) (X38_112 : Int → gSt → Prop) (r52 : Int → Int → Int → Int → gSt → Prop) (X52_93 : Int → Int → Int → gSt → Prop) (hr38 : ∀ (v2 : Int) (v3 : Int) (M : gSt), r38 v2 v3 M → gG p l e (rmR 4 99) s m args below meth c Q D cl A (wR ad cI ci) 6 38 [(0, .ref (ad 0)), (2, iv v2), (3, iv v3)] [] M) (hX38_112 : ∀ (v2 : Int) (M : gSt), X38_112 v2 M → gG p l e (rmR 4 99) s m args below meth c Q D cl A (wR ad cI ci) 6 112 [(2, iv v2)] [] M) (hr52 : ∀ (v2 : Int) (v3 : Int) (v4 : Int) (v5 : Int) (M : gSt), r52 v2 v3 v4 v5 M → gG p l e (rmR 4 99) s m args below meth c Q D cl A (wR ad cI ci) 6 52 [(0, .ref (ad 0)), (2, iv v2), (3, iv v3), (4, iv v4), (5, iv v5)] [] M) (hX52_93 : ∀ (v2 : Int) (v3 : Int) (v4 : Int) (M : gSt), X52_93 v2 v3 v4 M → gG p l e (rmR 4 99) s m args below meth c Q D cl A (wR ad cI ci) 6 93 [(0, .ref (ad 0)), (2, iv v2), (3, iv v3), (4, iv v4)] [] M) (v2 : Int) (v3 : Int) (v4 : Int) (v5 : Int) (M : gSt), wC_Rheap_52 a1 k r38 X38_112 r52 X52_93 v2 v3 v4 v5 M → gG p l e (rmR 4 99) s m args below meth c Q D cl A (wR ad cI ci) 6 52 [(0, .ref (ad 0)), (2, iv v2), (3, iv v3), (4, iv v4), (5, iv v5)] [] M := by
    intro r38 X38_112 r52 X52_93 hr38 hX38_112 hr52 hX52_93 v2 v3 v4 v5 M h
    unfold wC_Rheap_52 at h
    refine g_iload C dR_heap_52 rfl ?_
    refine g_aload_n C dR_heap_54 rfl ?_
    refine rf_many C hci dR_heap_55 ?_
    refine g_icmp_ge C 93 dR_heap_58 (by decide) (fun hc => ?_) (fun hc => ?_)
    · replace h := h.1 hc
      refine g_locals (lv' := [(0, .ref (ad 0)), (2, iv v2), (3, iv v3), (4, iv v4)]) rfl ?_
      exact hX52_93 _ _ _  _ h
    · replace h := h.2 hc
      refine g_iload C dR_heap_61 rfl ?_
      refine g_aload_n C dR_heap_63 rfl ?_
      refine rf_seen C hci dR_heap_64 ?_
      refine g_iload C dR_heap_67 rfl ?_
      refine g_iald C (n := 64) dR_heap_69 rfl (by decide) h.1 ?_
      replace h := h.2
      refine g_aload_n C dR_heap_70 rfl ?_
      refine rf_seen C hci dR_heap_71 ?_
      refine g_iload_n C dR_heap_74 rfl ?_
      refine g_iald C (n := 64) dR_heap_75 rfl (by decide) h.1 ?_
      replace h := h.2
      refine g_icmp_ne C 83 dR_heap_76 (by decide) (fun hc => ?_) (fun hc => ?_)
      · replace h := h.1 hc
        refine g_iconst C dR_heap_83 ?_
        refine g_locals (lv' := [(0, .ref (ad 0)), (2, iv v2), (3, iv v3), (5, iv v5)]) rfl ?_
        exact pB84 r38 X38_112 r52 X52_93 hr38 hX38_112 hr52 hX52_93 _ _ _ _ _ _ h
      · replace h := h.2 hc
        refine g_iconst C dR_heap_79 ?_
        refine g_goto C 84 dR_heap_80 (by decide) ?_
        refine g_locals (lv' := [(0, .ref (ad 0)), (2, iv v2), (3, iv v3), (5, iv v5)]) rfl ?_
        exact pB84 r38 X38_112 r52 X52_93 hr38 hX38_112 hr52 hX52_93 _ _ _ _ _ _ h
  have pL52 : ∀ (r38 : Int → Int → gSt → Prop) (X38_112 : Int → gSt → Prop) (X52_93 : Int → Int → Int → gSt → Prop) (hr38 : ∀ (v2 : Int) (v3 : Int) (M : gSt), r38 v2 v3 M → gG p l e (rmR 4 99) s m args below meth c Q D cl A (wR ad cI ci) 6 38 [(0, .ref (ad 0)), (2, iv v2), (3, iv v3)] [] M) (hX38_112 : ∀ (v2 : Int) (M : gSt), X38_112 v2 M → gG p l e (rmR 4 99) s m args below meth c Q D cl A (wR ad cI ci) 6 112 [(2, iv v2)] [] M) (hX52_93 : ∀ (v2 : Int) (v3 : Int) (v4 : Int) (M : gSt), X52_93 v2 v3 v4 M → gG p l e (rmR 4 99) s m args below meth c Q D cl A (wR ad cI ci) 6 93 [(0, .ref (ad 0)), (2, iv v2), (3, iv v3), (4, iv v4)] [] M) (n : Nat) (v2 : Int) (v3 : Int) (v4 : Int) (v5 : Int) (M : gSt), wL_Rheap_52 a1 k r38 X38_112 X52_93 n v2 v3 v4 v5 M → gG p l e (rmR 4 99) s m args below meth c Q D cl A (wR ad cI ci) 6 52 [(0, .ref (ad 0)), (2, iv v2), (3, iv v3), (4, iv v4), (5, iv v5)] [] M := by
    intro r38 X38_112 X52_93 hr38 hX38_112 hX52_93 n
    induction n with
    | zero => intro v2 v3 v4 v5 M h; exact h.elim
    | succ n ih =>
      intro v2 v3 v4 v5 M h
      exact pC52 r38 X38_112 (wL_Rheap_52 a1 k r38 X38_112 X52_93 n) X52_93 hr38 hX38_112 ih hX52_93 v2 v3 v4 v5 M h
  have pB105 : ∀ (r38 : Int → Int → gSt → Prop) (X38_112 : Int → gSt → Prop) (hr38 : ∀ (v2 : Int) (v3 : Int) (M : gSt), r38 v2 v3 M → gG p l e (rmR 4 99) s m args below meth c Q D cl A (wR ad cI ci) 6 38 [(0, .ref (ad 0)), (2, iv v2), (3, iv v3)] [] M) (hX38_112 : ∀ (v2 : Int) (M : gSt), X38_112 v2 M → gG p l e (rmR 4 99) s m args below meth c Q D cl A (wR ad cI ci) 6 112 [(2, iv v2)] [] M) (v3 : Int) (s0 : Int) (M : gSt), wB_Rheap_105 a1 k r38 X38_112 v3 s0 M → gG p l e (rmR 4 99) s m args below meth c Q D cl A (wR ad cI ci) 6 105 [(0, .ref (ad 0)), (3, iv v3)] [iv s0] M := by
    intro r38 X38_112 hr38 hX38_112 v3 s0 M h
    unfold wB_Rheap_105 at h
    refine g_istore_n C dR_heap_105 (by decide) rfl ?_
    refine g_locals (lv' := [(0, .ref (ad 0)), (2, iv s0), (3, iv v3)]) rfl ?_
    refine g_iinc C dR_heap_106 rfl (by decide) rfl ?_
    refine g_locals (lv' := [(0, .ref (ad 0)), (2, iv s0), (3, iv (v3 + 1))]) rfl ?_
    refine g_goto C 38 dR_heap_109 (by decide) ?_
    refine g_locals (lv' := [(0, .ref (ad 0)), (2, iv s0), (3, iv (v3 + 1))]) rfl ?_
    exact hr38 _ _  _ h
  have pC38 : ∀ (r38 : Int → Int → gSt → Prop) (X38_112 : Int → gSt → Prop) (hr38 : ∀ (v2 : Int) (v3 : Int) (M : gSt), r38 v2 v3 M → gG p l e (rmR 4 99) s m args below meth c Q D cl A (wR ad cI ci) 6 38 [(0, .ref (ad 0)), (2, iv v2), (3, iv v3)] [] M) (hX38_112 : ∀ (v2 : Int) (M : gSt), X38_112 v2 M → gG p l e (rmR 4 99) s m args below meth c Q D cl A (wR ad cI ci) 6 112 [(2, iv v2)] [] M) (v2 : Int) (v3 : Int) (M : gSt), wC_Rheap_38 a1 k r38 X38_112 v2 v3 M → gG p l e (rmR 4 99) s m args below meth c Q D cl A (wR ad cI ci) 6 38 [(0, .ref (ad 0)), (2, iv v2), (3, iv v3)] [] M := by
    intro r38 X38_112 hr38 hX38_112 v2 v3 M h
    unfold wC_Rheap_38 at h
    refine g_iload_n C dR_heap_38 rfl ?_
    refine g_aload_n C dR_heap_39 rfl ?_
    refine rf_many C hci dR_heap_40 ?_
    refine g_icmp_ge C 112 dR_heap_43 (by decide) (fun hc => ?_) (fun hc => ?_)
    · replace h := h.1 hc
      refine g_locals (lv' := [(2, iv v2)]) rfl ?_
      exact hX38_112 _  _ h
    · replace h := h.2 hc
      refine g_iconst C dR_heap_46 ?_
      refine g_istore C dR_heap_47 (by decide) rfl ?_
      refine g_locals (lv' := [(0, .ref (ad 0)), (2, iv v2), (3, iv v3), (4, iv 0)]) rfl ?_
      refine g_iconst C dR_heap_49 ?_
      refine g_istore C dR_heap_50 (by decide) rfl ?_
      refine g_locals (lv' := [(0, .ref (ad 0)), (2, iv v2), (3, iv v3), (4, iv 0), (5, iv 0)]) rfl ?_
      refine g_locals (lv' := [(0, .ref (ad 0)), (2, iv v2), (3, iv v3), (4, iv 0), (5, iv 0)]) rfl ?_
      obtain ⟨n, h⟩ := h
      refine pL52 r38 X38_112 _ hr38 hX38_112 ?_ n _ _ _ _ _ h
      · intro u2_52 u3_52 u4_52 M52 h
        refine g_iload C dR_heap_93 rfl ?_
        refine g_iload_n C dR_heap_95 rfl ?_
        refine g_icmp_le C 104 dR_heap_96 (by decide) (fun hc => ?_) (fun hc => ?_)
        · replace h := h.1 hc
          refine g_iload_n C dR_heap_104 rfl ?_
          refine g_locals (lv' := [(0, .ref (ad 0)), (3, iv u3_52)]) rfl ?_
          exact pB105 r38 X38_112 hr38 hX38_112 _ _ _ h
        · replace h := h.2 hc
          refine g_iload C dR_heap_99 rfl ?_
          refine g_goto C 105 dR_heap_101 (by decide) ?_
          refine g_locals (lv' := [(0, .ref (ad 0)), (3, iv u3_52)]) rfl ?_
          exact pB105 r38 X38_112 hr38 hX38_112 _ _ _ h
  have pL38 : ∀  (X38_112 : Int → gSt → Prop) (hX38_112 : ∀ (v2 : Int) (M : gSt), X38_112 v2 M → gG p l e (rmR 4 99) s m args below meth c Q D cl A (wR ad cI ci) 6 112 [(2, iv v2)] [] M) (n : Nat) (v2 : Int) (v3 : Int) (M : gSt), wL_Rheap_38 a1 k  X38_112 n v2 v3 M → gG p l e (rmR 4 99) s m args below meth c Q D cl A (wR ad cI ci) 6 38 [(0, .ref (ad 0)), (2, iv v2), (3, iv v3)] [] M := by
    intro  X38_112 hX38_112 n
    induction n with
    | zero => intro v2 v3 M h; exact h.elim
    | succ n ih =>
      intro v2 v3 M h
      exact pC38  (wL_Rheap_38 a1 k  X38_112 n) X38_112 ih hX38_112 v2 v3 M h
  refine g_locals (lv' := [(0, .ref (ad 0)), (1, iv a1)]) rfl ?_
  unfold w_Rheap at h
  refine g_iconst C dR_heap_0 ?_
  refine g_istore_n C dR_heap_1 (by decide) rfl ?_
  refine g_locals (lv' := [(0, .ref (ad 0)), (1, iv a1), (2, iv 0)]) rfl ?_
  refine g_locals (lv' := [(0, .ref (ad 0)), (1, iv a1), (2, iv 0)]) rfl ?_
  obtain ⟨n, h⟩ := h
  refine pL2 _ ?_ n _ _ h
  · intro  M2 h
    refine g_iconst C dR_heap_34 ?_
    refine g_istore_n C dR_heap_35 (by decide) rfl ?_
    refine g_locals (lv' := [(0, .ref (ad 0)), (2, iv 0)]) rfl ?_
    refine g_iconst C dR_heap_36 ?_
    refine g_istore_n C dR_heap_37 (by decide) rfl ?_
    refine g_locals (lv' := [(0, .ref (ad 0)), (2, iv 0), (3, iv 0)]) rfl ?_
    refine g_locals (lv' := [(0, .ref (ad 0)), (2, iv 0), (3, iv 0)]) rfl ?_
    obtain ⟨n, h⟩ := h
    refine pL38 _ ?_ n _ _ _ h
    · intro u2_38 M38 h
      refine g_iload_n C dR_heap_112 rfl ?_
      exact hR _ _ _ _ dR_heap_113 rfl h
def wB_Rnext_20  (k : Int → gSt → Prop)   (M : gSt) : Prop :=
w_Rerror 2 M (fun r22c M22 => k r22c M22)
def wB_Rnext_58  (k : Int → gSt → Prop) (r30 : Int → Int → gSt → Prop) (X30_65 : Int → gSt → Prop) (v2 : Int) (s0 : Int) (M : gSt) : Prop :=
r30 s0 (v2 + 1) M
def wC_Rnext_30  (k : Int → gSt → Prop) (r30 : Int → Int → gSt → Prop) (X30_65 : Int → gSt → Prop) (v1 : Int) (v2 : Int) (M : gSt) : Prop :=

  (wrap (M 1 0) ≤ wrap v2 →
    X30_65 v1 M) ∧
  (wrap v2 < wrap (M 1 0) →
    w_Rheap v2 M (fun r42c M42 => w_Rheap v1 M42 (fun r47c M47 => 
    (wrap r47c ≤ wrap r42c →
      wB_Rnext_58  k r30 X30_65 v2 v1 M47) ∧
    (wrap r42c < wrap r47c →
      wB_Rnext_58  k r30 X30_65 v2 v2 M47))))
def wL_Rnext_30  (k : Int → gSt → Prop)  (X30_65 : Int → gSt → Prop) : Nat → Int → Int → gSt → Prop
  | 0 => fun _ _ _ => False
  | n + 1 => fun v1 v2 M => wC_Rnext_30  k  (wL_Rnext_30  k  X30_65 n) X30_65 v1 v2 M
def w_Rnext  (M : gSt) (k : Int → gSt → Prop) : Prop :=
w_RfindFits  M (fun M1 => 
  (wrap (M1 0 13) = 0 →
    wB_Rnext_20  k   M1) ∧
  (¬ wrap (M1 0 13) = 0 →

    (¬ wrap (M1 1 0) = 0 →
      ∃ n, wL_Rnext_30  k  (fun u1_30 M30 =>
        k u1_30 M30) n 0 1 M1) ∧
    (wrap (M1 1 0) = 0 →
      wB_Rnext_20  k   M1)))
set_option maxHeartbeats 4000000 in
set_option maxRecDepth 100000 in
theorem m_Rnext {l : Launch} {D : va_G} {cl : List vw_C} {tys : List (ClassId × FieldType)} {ad : Nat → Nat} {cI : ClassId} {ci : Nat} {Z : (Nat → Prop) → State → Prop} (hci : cl[ci]? = some (RX9, TX9, 23))  {M : gSt} {k : Int → gSt → Prop} (h : w_Rnext  M k) : MOi l yX9_next cX9_next 3 .int (rmR 5 124) D cl ((cI, .int) :: tys) (wR ad cI ci) tR Z [.ref (ad 0)] M k := by
  refine moi_intro (by decide +kernel) (Nat.le_of_ble_eq_true rfl) wi_244 ?_
  intro p e s m args below meth c A Q C hR
  have pB20 : ∀    (M : gSt), wB_Rnext_20  k   M → gG p l e (rmR 5 124) s m args below meth c Q D cl A (wR ad cI ci) 3 20 [(0, .ref (ad 0))] [] M := by
    intro    M h
    unfold wB_Rnext_20 at h
    refine g_aload_n C dR_next_20 rfl ?_
    refine g_iconst C dR_next_21 ?_
    refine g_callVi C (nargs := 1) (o := 0) (st := []) (m_Rerror hci h) rfl (by decide) hci rfl gd_error (by decide +kernel) ⟨rfl, rfl⟩ dR_next_22 ⟨by decide, by decide⟩ rfl rfl (Nat.le_of_ble_eq_true rfl) ?_
    intro r22c M22 h
    exact hR _ _ _ _ dR_next_25 rfl h
  have pB58 : ∀ (r30 : Int → Int → gSt → Prop) (X30_65 : Int → gSt → Prop) (hr30 : ∀ (v1 : Int) (v2 : Int) (M : gSt), r30 v1 v2 M → gG p l e (rmR 5 124) s m args below meth c Q D cl A (wR ad cI ci) 3 30 [(0, .ref (ad 0)), (1, iv v1), (2, iv v2)] [] M) (hX30_65 : ∀ (v1 : Int) (M : gSt), X30_65 v1 M → gG p l e (rmR 5 124) s m args below meth c Q D cl A (wR ad cI ci) 3 65 [(1, iv v1)] [] M) (v2 : Int) (s0 : Int) (M : gSt), wB_Rnext_58  k r30 X30_65 v2 s0 M → gG p l e (rmR 5 124) s m args below meth c Q D cl A (wR ad cI ci) 3 58 [(0, .ref (ad 0)), (2, iv v2)] [iv s0] M := by
    intro r30 X30_65 hr30 hX30_65 v2 s0 M h
    unfold wB_Rnext_58 at h
    refine g_istore_n C dR_next_58 (by decide) rfl ?_
    refine g_locals (lv' := [(0, .ref (ad 0)), (1, iv s0), (2, iv v2)]) rfl ?_
    refine g_iinc C dR_next_59 rfl (by decide) rfl ?_
    refine g_locals (lv' := [(0, .ref (ad 0)), (1, iv s0), (2, iv (v2 + 1))]) rfl ?_
    refine g_goto C 30 dR_next_62 (by decide) ?_
    refine g_locals (lv' := [(0, .ref (ad 0)), (1, iv s0), (2, iv (v2 + 1))]) rfl ?_
    exact hr30 _ _  _ h
  have pC30 : ∀ (r30 : Int → Int → gSt → Prop) (X30_65 : Int → gSt → Prop) (hr30 : ∀ (v1 : Int) (v2 : Int) (M : gSt), r30 v1 v2 M → gG p l e (rmR 5 124) s m args below meth c Q D cl A (wR ad cI ci) 3 30 [(0, .ref (ad 0)), (1, iv v1), (2, iv v2)] [] M) (hX30_65 : ∀ (v1 : Int) (M : gSt), X30_65 v1 M → gG p l e (rmR 5 124) s m args below meth c Q D cl A (wR ad cI ci) 3 65 [(1, iv v1)] [] M) (v1 : Int) (v2 : Int) (M : gSt), wC_Rnext_30  k r30 X30_65 v1 v2 M → gG p l e (rmR 5 124) s m args below meth c Q D cl A (wR ad cI ci) 3 30 [(0, .ref (ad 0)), (1, iv v1), (2, iv v2)] [] M := by
    intro r30 X30_65 hr30 hX30_65 v1 v2 M h
    unfold wC_Rnext_30 at h
    refine g_iload_n C dR_next_30 rfl ?_
    refine g_aload_n C dR_next_31 rfl ?_
    refine rf_s C hci dR_next_32 ?_
    refine g_iconst C dR_next_35 ?_
    refine g_iald C (n := 536) dR_next_36 rfl (by decide) ⟨by decide, by decide⟩ ?_
    refine g_icmp_ge C 65 dR_next_37 (by decide) (fun hc => ?_) (fun hc => ?_)
    · replace h := h.1 hc
      refine g_locals (lv' := [(1, iv v1)]) rfl ?_
      exact hX30_65 _  _ h
    · replace h := h.2 hc
      refine g_aload_n C dR_next_40 rfl ?_
      refine g_iload_n C dR_next_41 rfl ?_
      refine g_callVi C (nargs := 1) (o := 0) (st := []) (m_Rheap hci h) rfl (by decide) hci rfl gd_heap (by decide +kernel) ⟨rfl, rfl⟩ dR_next_42 ⟨by decide, by decide⟩ rfl rfl (Nat.le_of_ble_eq_true rfl) ?_
      intro r42c M42 h
      refine g_aload_n C dR_next_45 rfl ?_
      refine g_iload_n C dR_next_46 rfl ?_
      refine g_callVi C (nargs := 1) (o := 0) (st := [iv r42c]) (m_Rheap hci h) rfl (by decide) hci rfl gd_heap (by decide +kernel) ⟨rfl, rfl⟩ dR_next_47 ⟨by decide, by decide⟩ rfl rfl (Nat.le_of_ble_eq_true rfl) ?_
      intro r47c M47 h
      refine g_icmp_ge C 57 dR_next_50 (by decide) (fun hc => ?_) (fun hc => ?_)
      · replace h := h.1 hc
        refine g_iload_n C dR_next_57 rfl ?_
        refine g_locals (lv' := [(0, .ref (ad 0)), (2, iv v2)]) rfl ?_
        exact pB58 r30 X30_65 hr30 hX30_65 _ _ _ h
      · replace h := h.2 hc
        refine g_iload_n C dR_next_53 rfl ?_
        refine g_goto C 58 dR_next_54 (by decide) ?_
        refine g_locals (lv' := [(0, .ref (ad 0)), (2, iv v2)]) rfl ?_
        exact pB58 r30 X30_65 hr30 hX30_65 _ _ _ h
  have pL30 : ∀  (X30_65 : Int → gSt → Prop) (hX30_65 : ∀ (v1 : Int) (M : gSt), X30_65 v1 M → gG p l e (rmR 5 124) s m args below meth c Q D cl A (wR ad cI ci) 3 65 [(1, iv v1)] [] M) (n : Nat) (v1 : Int) (v2 : Int) (M : gSt), wL_Rnext_30  k  X30_65 n v1 v2 M → gG p l e (rmR 5 124) s m args below meth c Q D cl A (wR ad cI ci) 3 30 [(0, .ref (ad 0)), (1, iv v1), (2, iv v2)] [] M := by
    intro  X30_65 hX30_65 n
    induction n with
    | zero => intro v1 v2 M h; exact h.elim
    | succ n ih =>
      intro v1 v2 M h
      exact pC30  (wL_Rnext_30  k  X30_65 n) X30_65 ih hX30_65 v1 v2 M h
  refine g_locals (lv' := [(0, .ref (ad 0))]) rfl ?_
  unfold w_Rnext at h
  refine g_aload_n C dR_next_0 rfl ?_
  refine g_callVv C (nargs := 0) (o := 0) (st := []) (m_RfindFits hci h) rfl (by decide) hci rfl gd_findFits (by decide +kernel) ⟨rfl, rfl⟩ dR_next_1 ⟨by decide, by decide⟩ rfl rfl (Nat.le_of_ble_eq_true rfl) ?_
  intro M1 h
  refine g_aload_n C dR_next_4 rfl ?_
  refine rf_many C hci dR_next_5 ?_
  refine g_if_eq C 20 dR_next_8 (by decide) (fun hc => ?_) (fun hc => ?_)
  · replace h := h.1 hc
    refine g_locals (lv' := [(0, .ref (ad 0))]) rfl ?_
    exact pB20  _ h
  · replace h := h.2 hc
    refine g_aload_n C dR_next_11 rfl ?_
    refine rf_s C hci dR_next_12 ?_
    refine g_iconst C dR_next_15 ?_
    refine g_iald C (n := 536) dR_next_16 rfl (by decide) ⟨by decide, by decide⟩ ?_
    refine g_if_ne C 26 dR_next_17 (by decide) (fun hc => ?_) (fun hc => ?_)
    · replace h := h.1 hc
      refine g_iconst C dR_next_26 ?_
      refine g_istore_n C dR_next_27 (by decide) rfl ?_
      refine g_locals (lv' := [(0, .ref (ad 0)), (1, iv 0)]) rfl ?_
      refine g_iconst C dR_next_28 ?_
      refine g_istore_n C dR_next_29 (by decide) rfl ?_
      refine g_locals (lv' := [(0, .ref (ad 0)), (1, iv 0), (2, iv 1)]) rfl ?_
      refine g_locals (lv' := [(0, .ref (ad 0)), (1, iv 0), (2, iv 1)]) rfl ?_
      obtain ⟨n, h⟩ := h
      refine pL30 _ ?_ n _ _ _ h
      · intro u1_30 M30 h
        refine g_iload_n C dR_next_65 rfl ?_
        exact hR _ _ _ _ dR_next_66 rfl h
    · replace h := h.2 hc
      refine g_locals (lv' := [(0, .ref (ad 0))]) rfl ?_
      exact pB20  _ h
