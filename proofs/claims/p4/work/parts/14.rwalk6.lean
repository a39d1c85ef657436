def w_RallPapers  (M : gSt) (k : Int → gSt → Prop) : Prop :=
k ((xshl 1 (M 1 3)) - 1) M
set_option maxHeartbeats 4000000 in
set_option maxRecDepth 100000 in
theorem m_RallPapers {l : Launch} {D : va_G} {cl : List vw_C} {tys : List (ClassId × FieldType)} {ad : Nat → Nat} {cI : ClassId} {ci : Nat} {Z : (Nat → Prop) → State → Prop} (hci : cl[ci]? = some (RX9, TX9, 23))  {M : gSt} {k : Int → gSt → Prop} (h : w_RallPapers  M k) : MOi l yX9_allPapers cX9_allPapers 1 .int (rmR 0 0) D cl ((cI, .int) :: tys) (wR ad cI ci) tR Z [.ref (ad 0)] M k := by
  refine moi_intro (by decide +kernel) (Nat.le_of_ble_eq_true rfl) wi_209 ?_
  intro p e s m args below meth c A Q C hR
  refine g_locals (lv' := [(0, .ref (ad 0))]) rfl ?_
  unfold w_RallPapers at h
  refine g_iconst C dR_allPapers_0 ?_
  refine g_aload_n C dR_allPapers_1 rfl ?_
  refine rf_s C hci dR_allPapers_2 ?_
  refine g_iconst C dR_allPapers_5 ?_
  refine g_iald C (n := 536) dR_allPapers_6 rfl (by decide) ⟨by decide, by decide⟩ ?_
  refine g_ishl C dR_allPapers_7 ?_
  refine g_iconst C dR_allPapers_8 ?_
  refine g_isub C dR_allPapers_9 ?_
  exact hR _ _ _ _ dR_allPapers_10 rfl h
def w_RisHistory (a1 : Int) (M : gSt) (k : Int → gSt → Prop) : Prop :=
w_RallPapers  M (fun r3c M3 => w_Rin a1 0 r3c M3 (fun r6c M6 => (r6c = 0 ∨ r6c = 1) ∧ (k r6c M6)))
set_option maxHeartbeats 4000000 in
set_option maxRecDepth 100000 in
theorem m_RisHistory {l : Launch} {D : va_G} {cl : List vw_C} {tys : List (ClassId × FieldType)} {ad : Nat → Nat} {cI : ClassId} {ci : Nat} {Z : (Nat → Prop) → State → Prop} (hci : cl[ci]? = some (RX9, TX9, 23)) {a1 : Int} {M : gSt} {k : Int → gSt → Prop} (h : w_RisHistory a1 M k) : MOi l yX9_isHistory cX9_isHistory 2 .boolean (rmR 1 22) D cl ((cI, .int) :: tys) (wR ad cI ci) tR Z [.ref (ad 0), iv a1] M k := by
  refine moi_intro (by decide +kernel) (Nat.le_of_ble_eq_true rfl) wi_213 ?_
  intro p e s m args below meth c A Q C hR
  refine g_locals (lv' := [(0, .ref (ad 0)), (1, iv a1)]) rfl ?_
  unfold w_RisHistory at h
  refine g_iload_n C dR_isHistory_0 rfl ?_
  refine g_iconst C dR_isHistory_1 ?_
  refine g_aload_n C dR_isHistory_2 rfl ?_
  refine g_callVi C (nargs := 0) (o := 0) (st := [iv 0, iv a1]) (m_RallPapers hci h) rfl (by decide) hci rfl gd_allPapers (by decide +kernel) ⟨rfl, rfl⟩ dR_isHistory_3 ⟨by decide, by decide⟩ rfl rfl (Nat.le_of_ble_eq_true rfl) ?_
  intro r3c M3 hN
  replace h := hN
  clear hN
  refine g_callSi C (nargs := 3) (st := []) (m_Rin hci h) gd_in (by decide +kernel) ⟨rfl, rfl⟩ dR_isHistory_6 ⟨by decide, by decide⟩ rfl rfl (Nat.le_of_ble_eq_true rfl) ?_
  intro r6c M6 hN
  replace h := hN
  clear hN
  exact hR _ _ _ _ dR_isHistory_9 (zn_bool h.1).1 h.2
def wB_RgoesBy_65 (a1 : Int) (k : gSt → Prop) (r2 : Int → gSt → Prop) (X2_71 : gSt → Prop) (v2 : Int) (M : gSt) : Prop :=
r2 (v2 + 1) M
def wC_RgoesBy_2 (a1 : Int) (k : gSt → Prop) (r2 : Int → gSt → Prop) (X2_71 : gSt → Prop) (v2 : Int) (M : gSt) : Prop :=

  (wrap (M 1 3) ≤ wrap v2 →
    X2_71  M) ∧
  (wrap v2 < wrap (M 1 3) →

    (¬ wrap (xand (xshr a1 v2) 1) = 1 →
      wB_RgoesBy_65 a1 k r2 X2_71 v2 M) ∧
    (wrap (xand (xshr a1 v2) 1) = 1 →
      (0 ≤ 160 + (3 * v2) ∧ 160 + (3 * v2) < 536) ∧ ((0 ≤ (160 + (3 * v2)) + 1 ∧ (160 + (3 * v2)) + 1 < 536) ∧ ((0 ≤ (160 + (3 * v2)) + 2 ∧ (160 + (3 * v2)) + 2 < 536) ∧ (w_Rmoves (M 1 (160 + (3 * v2))) (M 1 ((160 + (3 * v2)) + 1)) (M 1 ((160 + (3 * v2)) + 2)) M (fun M62 => wB_RgoesBy_65 a1 k r2 X2_71 v2 M62))))))
def wL_RgoesBy_2 (a1 : Int) (k : gSt → Prop)  (X2_71 : gSt → Prop) : Nat → Int → gSt → Prop
  | 0 => fun _ _ => False
  | n + 1 => fun v2 M => wC_RgoesBy_2 a1 k  (wL_RgoesBy_2 a1 k  X2_71 n) X2_71 v2 M
def w_RgoesBy (a1 : Int) (M : gSt) (k : gSt → Prop) : Prop :=
∃ n, wL_RgoesBy_2 a1 k  (fun  M2 =>
    k M2) n 0 M
set_option maxHeartbeats 4000000 in
set_option maxRecDepth 100000 in
theorem m_RgoesBy {l : Launch} {D : va_G} {cl : List vw_C} {tys : List (ClassId × FieldType)} {ad : Nat → Nat} {cI : ClassId} {ci : Nat} {Z : (Nat → Prop) → State → Prop} (hci : cl[ci]? = some (RX9, TX9, 23)) {a1 : Int} {M : gSt} {k : gSt → Prop} (h : w_RgoesBy a1 M k) : MOv l yX9_goesBy cX9_goesBy 3 (rmR 2 53) D cl ((cI, .int) :: tys) (wR ad cI ci) tR Z [.ref (ad 0), iv a1] M k := by
  refine mov_intro (by decide +kernel) (Nat.le_of_ble_eq_true rfl) wi_214 ?_
  intro p e s m args below meth c A Q C hR
  have pB65 : ∀ (r2 : Int → gSt → Prop) (X2_71 : gSt → Prop) (hr2 : ∀ (v2 : Int) (M : gSt), r2 v2 M → gG p l e (rmR 2 53) s m args below meth c Q D cl A (wR ad cI ci) 3 2 [(0, .ref (ad 0)), (1, iv a1), (2, iv v2)] [] M) (hX2_71 : ∀  (M : gSt), X2_71  M → gG p l e (rmR 2 53) s m args below meth c Q D cl A (wR ad cI ci) 3 71 [] [] M) (v2 : Int) (M : gSt), wB_RgoesBy_65 a1 k r2 X2_71 v2 M → gG p l e (rmR 2 53) s m args below meth c Q D cl A (wR ad cI ci) 3 65 [(0, .ref (ad 0)), (1, iv a1), (2, iv v2)] [] M := by
    intro r2 X2_71 hr2 hX2_71 v2 M h
    unfold wB_RgoesBy_65 at h
    refine g_iinc C dR_goesBy_65 rfl (by decide) rfl ?_
    refine g_locals (lv' := [(0, .ref (ad 0)), (1, iv a1), (2, iv (v2 + 1))]) rfl ?_
    refine g_goto C 2 dR_goesBy_68 (by decide) ?_
    refine g_locals (lv' := [(0, .ref (ad 0)), (1, iv a1), (2, iv (v2 + 1))]) rfl ?_
    exact hr2 _  _ h
  have pC2 : ∀ (r2 : Int → gSt → Prop) (X2_71 : gSt → Prop) (hr2 : ∀ (v2 : Int) (M : gSt), r2 v2 M → gG p l e (rmR 2 53) s m args below meth c Q D cl A (wR ad cI ci) 3 2 [(0, .ref (ad 0)), (1, iv a1), (2, iv v2)] [] M) (hX2_71 : ∀  (M : gSt), X2_71  M → gG p l e (rmR 2 53) s m args below meth c Q D cl A (wR ad cI ci) 3 71 [] [] M) (v2 : Int) (M : gSt), wC_RgoesBy_2 a1 k r2 X2_71 v2 M → gG p l e (rmR 2 53) s m args below meth c Q D cl A (wR ad cI ci) 3 2 [(0, .ref (ad 0)), (1, iv a1), (2, iv v2)] [] M := by
    intro r2 X2_71 hr2 hX2_71 v2 M h
    unfold wC_RgoesBy_2 at h
    refine g_iload_n C dR_goesBy_2 rfl ?_
    refine g_aload_n C dR_goesBy_3 rfl ?_
    refine rf_s C hci dR_goesBy_4 ?_
    refine g_iconst C dR_goesBy_7 ?_
    refine g_iald C (n := 536) dR_goesBy_8 rfl (by decide) ⟨by decide, by decide⟩ ?_
    refine g_icmp_ge C 71 dR_goesBy_9 (by decide) (fun hc => ?_) (fun hc => ?_)
    · replace h := h.1 hc
      refine g_locals (lv' := []) rfl ?_
      exact hX2_71  _ h
    · replace h := h.2 hc
      refine g_iload_n C dR_goesBy_12 rfl ?_
      refine g_iload_n C dR_goesBy_13 rfl ?_
      refine g_ishr C dR_goesBy_14 ?_
      refine g_iconst C dR_goesBy_15 ?_
      refine g_iand C dR_goesBy_16 ?_
      refine g_iconst C dR_goesBy_17 ?_
      refine g_icmp_ne C 65 dR_goesBy_18 (by decide) (fun hc => ?_) (fun hc => ?_)
      · replace h := h.1 hc
        refine g_locals (lv' := [(0, .ref (ad 0)), (1, iv a1), (2, iv v2)]) rfl ?_
        exact pB65 r2 X2_71 hr2 hX2_71 _ _ h
      · replace h := h.2 hc
        refine g_aload_n C dR_goesBy_21 rfl ?_
        refine g_aload_n C dR_goesBy_22 rfl ?_
        refine rf_s C hci dR_goesBy_23 ?_
        refine g_sipush C dR_goesBy_26 rfl ?_
        refine g_iconst C dR_goesBy_29 ?_
        refine g_iload_n C dR_goesBy_30 rfl ?_
        refine g_imul C dR_goesBy_31 ?_
        refine g_iadd C dR_goesBy_32 ?_
        refine g_iald C (n := 536) dR_goesBy_33 rfl (by decide) h.1 ?_
        replace h := h.2
        refine g_aload_n C dR_goesBy_34 rfl ?_
        refine rf_s C hci dR_goesBy_35 ?_
        refine g_sipush C dR_goesBy_38 rfl ?_
        refine g_iconst C dR_goesBy_41 ?_
        refine g_iload_n C dR_goesBy_42 rfl ?_
        refine g_imul C dR_goesBy_43 ?_
        refine g_iadd C dR_goesBy_44 ?_
        refine g_iconst C dR_goesBy_45 ?_
        refine g_iadd C dR_goesBy_46 ?_
        refine g_iald C (n := 536) dR_goesBy_47 rfl (by decide) h.1 ?_
        replace h := h.2
        refine g_aload_n C dR_goesBy_48 rfl ?_
        refine rf_s C hci dR_goesBy_49 ?_
        refine g_sipush C dR_goesBy_52 rfl ?_
        refine g_iconst C dR_goesBy_55 ?_
        refine g_iload_n C dR_goesBy_56 rfl ?_
        refine g_imul C dR_goesBy_57 ?_
        refine g_iadd C dR_goesBy_58 ?_
        refine g_iconst C dR_goesBy_59 ?_
        refine g_iadd C dR_goesBy_60 ?_
        refine g_iald C (n := 536) dR_goesBy_61 rfl (by decide) h.1 ?_
        replace h := h.2
        refine g_callVv C (nargs := 3) (o := 0) (st := []) (m_Rmoves hci h) rfl (by decide) hci rfl gd_moves (by decide +kernel) ⟨rfl, rfl⟩ dR_goesBy_62 ⟨by decide, by decide⟩ rfl rfl (Nat.le_of_ble_eq_true rfl) ?_
        intro M62 hN
        replace h := hN
        clear hN
        refine g_locals (lv' := [(0, .ref (ad 0)), (1, iv a1), (2, iv v2)]) rfl ?_
        exact pB65 r2 X2_71 hr2 hX2_71 _ _ h
  have pL2 : ∀  (X2_71 : gSt → Prop) (hX2_71 : ∀  (M : gSt), X2_71  M → gG p l e (rmR 2 53) s m args below meth c Q D cl A (wR ad cI ci) 3 71 [] [] M) (n : Nat) (v2 : Int) (M : gSt), wL_RgoesBy_2 a1 k  X2_71 n v2 M → gG p l e (rmR 2 53) s m args below meth c Q D cl A (wR ad cI ci) 3 2 [(0, .ref (ad 0)), (1, iv a1), (2, iv v2)] [] M := by
    intro  X2_71 hX2_71 n
    induction n with
    | zero => intro v2 M h; exact h.elim
    | succ n ih =>
      intro v2 M h
      exact pC2  (wL_RgoesBy_2 a1 k  X2_71 n) X2_71 ih hX2_71 v2 M h
  refine g_locals (lv' := [(0, .ref (ad 0)), (1, iv a1)]) rfl ?_
  unfold w_RgoesBy at h
  refine g_iconst C dR_goesBy_0 ?_
  refine g_istore_n C dR_goesBy_1 (by decide) rfl ?_
  refine g_locals (lv' := [(0, .ref (ad 0)), (1, iv a1), (2, iv 0)]) rfl ?_
  refine g_locals (lv' := [(0, .ref (ad 0)), (1, iv a1), (2, iv 0)]) rfl ?_
  obtain ⟨n, h⟩ := h
  refine pL2 _ ?_ n _ _ h
  · intro  M2 hN
    replace h := hN
    clear hN
    exact hR _ _ _ dR_goesBy_71 h
def w_Rafter (a1 : Int) (a2 : Int) (a3 : Int) (M : gSt) (k : Int → gSt → Prop) : Prop :=
w_Rcarry 1 3 M (fun M8 => w_RgoesBy a1 M8 (fun M13 => w_Rits a2 a3 M13 (fun r19c M19 => w_Rcarry 3 1 M19 (fun M32 => k r19c M32))))
set_option maxHeartbeats 4000000 in
set_option maxRecDepth 100000 in
theorem m_Rafter {l : Launch} {D : va_G} {cl : List vw_C} {tys : List (ClassId × FieldType)} {ad : Nat → Nat} {cI : ClassId} {ci : Nat} {Z : (Nat → Prop) → State → Prop} (hci : cl[ci]? = some (RX9, TX9, 23)) {a1 : Int} {a2 : Int} {a3 : Int} {M : gSt} {k : Int → gSt → Prop} (h : w_Rafter a1 a2 a3 M k) : MOi l yX9_after cX9_after 5 .int (rmR 3 75) D cl ((cI, .int) :: tys) (wR ad cI ci) tR Z [.ref (ad 0), iv a1, iv a2, iv a3] M k := by
  refine moi_intro (by decide +kernel) (Nat.le_of_ble_eq_true rfl) wi_218 ?_
  intro p e s m args below meth c A Q C hR
  refine g_locals (lv' := [(0, .ref (ad 0)), (1, iv a1), (2, iv a2), (3, iv a3)]) rfl ?_
  unfold w_Rafter at h
  refine g_aload_n C dR_after_0 rfl ?_
  refine rf_s C hci dR_after_1 ?_
  refine g_aload_n C dR_after_4 rfl ?_
  refine rf_put C hci dR_after_5 ?_
  refine g_callSv C (nargs := 2) (st := []) (m_Rcarry hci h) gd_carry (by decide +kernel) ⟨rfl, rfl⟩ dR_after_8 ⟨by decide, by decide⟩ rfl rfl (Nat.le_of_ble_eq_true rfl) ?_
  intro M8 hN
  replace h := hN
  clear hN
  refine g_aload_n C dR_after_11 rfl ?_
  refine g_iload_n C dR_after_12 rfl ?_
  refine g_callVv C (nargs := 1) (o := 0) (st := []) (m_RgoesBy hci h) rfl (by decide) hci rfl gd_goesBy (by decide +kernel) ⟨rfl, rfl⟩ dR_after_13 ⟨by decide, by decide⟩ rfl rfl (Nat.le_of_ble_eq_true rfl) ?_
  intro M13 hN
  replace h := hN
  clear hN
  refine g_aload_n C dR_after_16 rfl ?_
  refine g_iload_n C dR_after_17 rfl ?_
  refine g_iload_n C dR_after_18 rfl ?_
  refine g_callVi C (nargs := 2) (o := 0) (st := []) (m_Rits hci h) rfl (by decide) hci rfl gd_its (by decide +kernel) ⟨rfl, rfl⟩ dR_after_19 ⟨by decide, by decide⟩ rfl rfl (Nat.le_of_ble_eq_true rfl) ?_
  intro r19c M19 hN
  replace h := hN
  clear hN
  refine g_istore C dR_after_22 (by decide) rfl ?_
  refine g_locals (lv' := [(0, .ref (ad 0)), (1, iv a1), (2, iv a2), (3, iv a3), (4, iv r19c)]) rfl ?_
  refine g_aload_n C dR_after_24 rfl ?_
  refine rf_put C hci dR_after_25 ?_
  refine g_aload_n C dR_after_28 rfl ?_
  refine rf_s C hci dR_after_29 ?_
  refine g_callSv C (nargs := 2) (st := []) (m_Rcarry hci h) gd_carry (by decide +kernel) ⟨rfl, rfl⟩ dR_after_32 ⟨by decide, by decide⟩ rfl rfl (Nat.le_of_ble_eq_true rfl) ?_
  intro M32 hN
  replace h := hN
  clear hN
  refine g_iload C dR_after_35 rfl ?_
  exact hR _ _ _ _ dR_after_37 rfl h
def wB_Rby_26 (a1 : Int) (a2 : Int) (a3 : Int) (k : Int → gSt → Prop)   (M : gSt) : Prop :=
w_Rerror 1 M (fun r28c M28 => k r28c M28)
def w_Rby (a1 : Int) (a2 : Int) (a3 : Int) (M : gSt) (k : Int → gSt → Prop) : Prop :=
w_RisHistory a1 M (fun r2c M2 => 
  (wrap r2c = 0 →
    wB_Rby_26 a1 a2 a3 k   M2) ∧
  (¬ wrap r2c = 0 →
    w_RisThing a2 M2 (fun r10c M10 => 
    (wrap r10c = 0 →
      wB_Rby_26 a1 a2 a3 k   M10) ∧
    (¬ wrap r10c = 0 →
      w_Rin a3 2 9 M10 (fun r20c M20 => 
      (¬ wrap r20c = 0 →
        w_Rafter a1 a2 a3 M20 (fun r36c M36 => k r36c M36)) ∧
      (wrap r20c = 0 →
        wB_Rby_26 a1 a2 a3 k   M20))))))
set_option maxHeartbeats 4000000 in
set_option maxRecDepth 100000 in
theorem m_Rby {l : Launch} {D : va_G} {cl : List vw_C} {tys : List (ClassId × FieldType)} {ad : Nat → Nat} {cI : ClassId} {ci : Nat} {Z : (Nat → Prop) → State → Prop} (hci : cl[ci]? = some (RX9, TX9, 23)) {a1 : Int} {a2 : Int} {a3 : Int} {M : gSt} {k : Int → gSt → Prop} (h : w_Rby a1 a2 a3 M k) : MOi l yX9_by cX9_by 4 .int (rmR 4 99) D cl ((cI, .int) :: tys) (wR ad cI ci) tR Z [.ref (ad 0), iv a1, iv a2, iv a3] M k := by
  refine moi_intro (by decide +kernel) (Nat.le_of_ble_eq_true rfl) wi_225 ?_
  intro p e s m args below meth c A Q C hR
  have pB26 : ∀    (M : gSt), wB_Rby_26 a1 a2 a3 k   M → gG p l e (rmR 4 99) s m args below meth c Q D cl A (wR ad cI ci) 4 26 [(0, .ref (ad 0))] [] M := by
    intro    M h
    unfold wB_Rby_26 at h
    refine g_aload_n C dR_by_26 rfl ?_
    refine g_iconst C dR_by_27 ?_
    refine g_callVi C (nargs := 1) (o := 0) (st := []) (m_Rerror hci h) rfl (by decide) hci rfl gd_error (by decide +kernel) ⟨rfl, rfl⟩ dR_by_28 ⟨by decide, by decide⟩ rfl rfl (Nat.le_of_ble_eq_true rfl) ?_
    intro r28c M28 hN
    replace h := hN
    clear hN
    exact hR _ _ _ _ dR_by_31 rfl h
  refine g_locals (lv' := [(0, .ref (ad 0)), (1, iv a1), (2, iv a2), (3, iv a3)]) rfl ?_
  unfold w_Rby at h
  refine g_aload_n C dR_by_0 rfl ?_
  refine g_iload_n C dR_by_1 rfl ?_
  refine g_callVi C (nargs := 1) (o := 0) (st := []) (m_RisHistory hci h) rfl (by decide) hci rfl gd_isHistory (by decide +kernel) ⟨rfl, rfl⟩ dR_by_2 ⟨by decide, by decide⟩ rfl rfl (Nat.le_of_ble_eq_true rfl) ?_
  intro r2c M2 hN
  replace h := hN
  clear hN
  refine g_if_eq C 26 dR_by_5 (by decide) (fun hc => ?_) (fun hc => ?_)
  · replace h := h.1 hc
    refine g_locals (lv' := [(0, .ref (ad 0))]) rfl ?_
    exact pB26  _ h
  · replace h := h.2 hc
    refine g_aload_n C dR_by_8 rfl ?_
    refine g_iload_n C dR_by_9 rfl ?_
    refine g_callVi C (nargs := 1) (o := 0) (st := []) (m_RisThing hci h) rfl (by decide) hci rfl gd_isThing (by decide +kernel) ⟨rfl, rfl⟩ dR_by_10 ⟨by decide, by decide⟩ rfl rfl (Nat.le_of_ble_eq_true rfl) ?_
    intro r10c M10 hN
    replace h := hN
    clear hN
    refine g_if_eq C 26 dR_by_13 (by decide) (fun hc => ?_) (fun hc => ?_)
    · replace h := h.1 hc
      refine g_locals (lv' := [(0, .ref (ad 0))]) rfl ?_
      exact pB26  _ h
    · replace h := h.2 hc
      refine g_iload_n C dR_by_16 rfl ?_
      refine g_iconst C dR_by_17 ?_
      refine g_bipush C dR_by_18 rfl ?_
      refine g_callSi C (nargs := 3) (st := []) (m_Rin hci h) gd_in (by decide +kernel) ⟨rfl, rfl⟩ dR_by_20 ⟨by decide, by decide⟩ rfl rfl (Nat.le_of_ble_eq_true rfl) ?_
      intro r20c M20 hN
      replace h := hN
      clear hN
      refine g_if_ne C 32 dR_by_23 (by decide) (fun hc => ?_) (fun hc => ?_)
      · replace h := h.1 hc
        refine g_aload_n C dR_by_32 rfl ?_
        refine g_iload_n C dR_by_33 rfl ?_
        refine g_iload_n C dR_by_34 rfl ?_
        refine g_iload_n C dR_by_35 rfl ?_
        refine g_callVi C (nargs := 3) (o := 0) (st := []) (m_Rafter hci h) rfl (by decide) hci rfl gd_after (by decide +kernel) ⟨rfl, rfl⟩ dR_by_36 ⟨by decide, by decide⟩ rfl rfl (Nat.le_of_ble_eq_true rfl) ?_
        intro r36c M36 hN
        replace h := hN
        clear hN
        exact hR _ _ _ _ dR_by_39 rfl h
      · replace h := h.2 hc
        refine g_locals (lv' := [(0, .ref (ad 0))]) rfl ?_
        exact pB26  _ h
def wC_RdoesFit_20 (a1 : Int) (k : Int → gSt → Prop) (r20 : Int → Int → gSt → Prop) (X20_101 : Int → gSt → Prop) (v2 : Int) (v3 : Int) (M : gSt) : Prop :=

  (wrap (M 1 4) ≤ wrap v3 →
    X20_101 v2 M) ∧
  (wrap v3 < wrap (M 1 4) →

    (wrap v2 = 0 →
      X20_101 v2 M) ∧
    (¬ wrap v2 = 0 →
      (0 ≤ 178 + (3 * v3) ∧ 178 + (3 * v3) < 536) ∧ (w_Rits (M 1 (178 + (3 * v3))) 2 M (fun r48c M48 => (0 ≤ (178 + (3 * v3)) + 1 ∧ (178 + (3 * v3)) + 1 < 536) ∧ (∀ x4_66 : Int, x4_66 = r48c - (M48 1 ((178 + (3 * v3)) + 1)) → ((0 ≤ (178 + (3 * v3)) + 2 ∧ (178 + (3 * v3)) + 2 < 536) ∧ (∀ x5_82 : Int, x5_82 = M48 1 ((178 + (3 * v3)) + 2) → (w_Rin x4_66 (-x5_82) x5_82 M48 (fun r91c M91 => r20 r91c (v3 + 1) M91)))))))))
def wL_RdoesFit_20 (a1 : Int) (k : Int → gSt → Prop)  (X20_101 : Int → gSt → Prop) : Nat → Int → Int → gSt → Prop
  | 0 => fun _ _ _ => False
  | n + 1 => fun v2 v3 M => wC_RdoesFit_20 a1 k  (wL_RdoesFit_20 a1 k  X20_101 n) X20_101 v2 v3 M
def wB_RdoesFit_101 (a1 : Int) (k : Int → gSt → Prop)  (v2 : Int) (M : gSt) : Prop :=
w_Rcarry 3 1 M (fun M109 => (v2 = 0 ∨ v2 = 1) ∧ (k v2 M109))
def w_RdoesFit (a1 : Int) (M : gSt) (k : Int → gSt → Prop) : Prop :=
w_Rcarry 1 3 M (fun M8 => w_RgoesBy a1 M8 (fun M13 => ∃ n, wL_RdoesFit_20 a1 k  (fun u2_20 M20 =>
    wB_RdoesFit_101 a1 k  u2_20 M20) n 1 0 M13))
set_option maxHeartbeats 4000000 in
set_option maxRecDepth 100000 in
theorem m_RdoesFit {l : Launch} {D : va_G} {cl : List vw_C} {tys : List (ClassId × FieldType)} {ad : Nat → Nat} {cI : ClassId} {ci : Nat} {Z : (Nat → Prop) → State → Prop} (hci : cl[ci]? = some (RX9, TX9, 23)) {a1 : Int} {M : gSt} {k : Int → gSt → Prop} (h : w_RdoesFit a1 M k) : MOi l yX9_doesFit cX9_doesFit 6 .boolean (rmR 3 75) D cl ((cI, .int) :: tys) (wR ad cI ci) tR Z [.ref (ad 0), iv a1] M k := by
  refine moi_intro (by decide +kernel) (Nat.le_of_ble_eq_true rfl) wi_226 ?_
  intro p e s m args below meth c A Q C hR
  have pC20 : ∀ (r20 : Int → Int → gSt → Prop) (X20_101 : Int → gSt → Prop) (hr20 : ∀ (v2 : Int) (v3 : Int) (M : gSt), r20 v2 v3 M → gG p l e (rmR 3 75) s m args below meth c Q D cl A (wR ad cI ci) 6 20 [(0, .ref (ad 0)), (2, iv v2), (3, iv v3)] [] M) (hX20_101 : ∀ (v2 : Int) (M : gSt), X20_101 v2 M → gG p l e (rmR 3 75) s m args below meth c Q D cl A (wR ad cI ci) 6 101 [(0, .ref (ad 0)), (2, iv v2)] [] M) (v2 : Int) (v3 : Int) (M : gSt), wC_RdoesFit_20 a1 k r20 X20_101 v2 v3 M → gG p l e (rmR 3 75) s m args below meth c Q D cl A (wR ad cI ci) 6 20 [(0, .ref (ad 0)), (2, iv v2), (3, iv v3)] [] M := by
    intro r20 X20_101 hr20 hX20_101 v2 v3 M h
    unfold wC_RdoesFit_20 at h
    refine g_iload_n C dR_doesFit_20 rfl ?_
    refine g_aload_n C dR_doesFit_21 rfl ?_
    refine rf_s C hci dR_doesFit_22 ?_
    refine g_iconst C dR_doesFit_25 ?_
    refine g_iald C (n := 536) dR_doesFit_26 rfl (by decide) ⟨by decide, by decide⟩ ?_
    refine g_icmp_ge C 101 dR_doesFit_27 (by decide) (fun hc => ?_) (fun hc => ?_)
    · replace h := h.1 hc
      refine g_locals (lv' := [(0, .ref (ad 0)), (2, iv v2)]) rfl ?_
      exact hX20_101 _  _ h
    · replace h := h.2 hc
      refine g_iload_n C dR_doesFit_30 rfl ?_
      refine g_if_eq C 101 dR_doesFit_31 (by decide) (fun hc => ?_) (fun hc => ?_)
      · replace h := h.1 hc
        refine g_locals (lv' := [(0, .ref (ad 0)), (2, iv v2)]) rfl ?_
        exact hX20_101 _  _ h
      · replace h := h.2 hc
        refine g_aload_n C dR_doesFit_34 rfl ?_
        refine g_aload_n C dR_doesFit_35 rfl ?_
        refine rf_s C hci dR_doesFit_36 ?_
        refine g_sipush C dR_doesFit_39 rfl ?_
        refine g_iconst C dR_doesFit_42 ?_
        refine g_iload_n C dR_doesFit_43 rfl ?_
        refine g_imul C dR_doesFit_44 ?_
        refine g_iadd C dR_doesFit_45 ?_
        refine g_iald C (n := 536) dR_doesFit_46 rfl (by decide) h.1 ?_
        replace h := h.2
        refine g_iconst C dR_doesFit_47 ?_
        refine g_callVi C (nargs := 2) (o := 0) (st := []) (m_Rits hci h) rfl (by decide) hci rfl gd_its (by decide +kernel) ⟨rfl, rfl⟩ dR_doesFit_48 ⟨by decide, by decide⟩ rfl rfl (Nat.le_of_ble_eq_true rfl) ?_
        intro r48c M48 hN
        replace h := hN
        clear hN
        refine g_aload_n C dR_doesFit_51 rfl ?_
        refine rf_s C hci dR_doesFit_52 ?_
        refine g_sipush C dR_doesFit_55 rfl ?_
        refine g_iconst C dR_doesFit_58 ?_
        refine g_iload_n C dR_doesFit_59 rfl ?_
        refine g_imul C dR_doesFit_60 ?_
        refine g_iadd C dR_doesFit_61 ?_
        refine g_iconst C dR_doesFit_62 ?_
        refine g_iadd C dR_doesFit_63 ?_
        refine g_iald C (n := 536) dR_doesFit_64 rfl (by decide) h.1 ?_
        replace h := h.2
        refine g_isub C dR_doesFit_65 ?_
        refine g_name (fun x4_66 hx4_66 => ?_)
        replace h := h x4_66 hx4_66
        refine g_istore C dR_doesFit_66 (by decide) rfl ?_
        refine g_locals (lv' := [(0, .ref (ad 0)), (2, iv v2), (3, iv v3), (4, iv x4_66)]) rfl ?_
        refine g_aload_n C dR_doesFit_68 rfl ?_
        refine rf_s C hci dR_doesFit_69 ?_
        refine g_sipush C dR_doesFit_72 rfl ?_
        refine g_iconst C dR_doesFit_75 ?_
        refine g_iload_n C dR_doesFit_76 rfl ?_
        refine g_imul C dR_doesFit_77 ?_
        refine g_iadd C dR_doesFit_78 ?_
        refine g_iconst C dR_doesFit_79 ?_
        refine g_iadd C dR_doesFit_80 ?_
        refine g_iald C (n := 536) dR_doesFit_81 rfl (by decide) h.1 ?_
        replace h := h.2
        refine g_name (fun x5_82 hx5_82 => ?_)
        replace h := h x5_82 hx5_82
        refine g_istore C dR_doesFit_82 (by decide) rfl ?_
        refine g_locals (lv' := [(0, .ref (ad 0)), (2, iv v2), (3, iv v3), (4, iv x4_66), (5, iv x5_82)]) rfl ?_
        refine g_iload C dR_doesFit_84 rfl ?_
        refine g_iload C dR_doesFit_86 rfl ?_
        refine g_ineg C dR_doesFit_88 ?_
        refine g_iload C dR_doesFit_89 rfl ?_
        refine g_callSi C (nargs := 3) (st := []) (m_Rin hci h) gd_in (by decide +kernel) ⟨rfl, rfl⟩ dR_doesFit_91 ⟨by decide, by decide⟩ rfl rfl (Nat.le_of_ble_eq_true rfl) ?_
        intro r91c M91 hN
        replace h := hN
        clear hN
        refine g_istore_n C dR_doesFit_94 (by decide) rfl ?_
        refine g_locals (lv' := [(0, .ref (ad 0)), (2, iv r91c), (3, iv v3), (4, iv x4_66), (5, iv x5_82)]) rfl ?_
        refine g_iinc C dR_doesFit_95 rfl (by decide) rfl ?_
        refine g_locals (lv' := [(0, .ref (ad 0)), (2, iv r91c), (3, iv (v3 + 1)), (4, iv x4_66), (5, iv x5_82)]) rfl ?_
        refine g_goto C 20 dR_doesFit_98 (by decide) ?_
        refine g_locals (lv' := [(0, .ref (ad 0)), (2, iv r91c), (3, iv (v3 + 1))]) rfl ?_
        exact hr20 _ _  _ h
  have pL20 : ∀  (X20_101 : Int → gSt → Prop) (hX20_101 : ∀ (v2 : Int) (M : gSt), X20_101 v2 M → gG p l e (rmR 3 75) s m args below meth c Q D cl A (wR ad cI ci) 6 101 [(0, .ref (ad 0)), (2, iv v2)] [] M) (n : Nat) (v2 : Int) (v3 : Int) (M : gSt), wL_RdoesFit_20 a1 k  X20_101 n v2 v3 M → gG p l e (rmR 3 75) s m args below meth c Q D cl A (wR ad cI ci) 6 20 [(0, .ref (ad 0)), (2, iv v2), (3, iv v3)] [] M := by
    intro  X20_101 hX20_101 n
    induction n with
    | zero => intro v2 v3 M h; exact h.elim
    | succ n ih =>
      intro v2 v3 M h
      exact pC20  (wL_RdoesFit_20 a1 k  X20_101 n) X20_101 ih hX20_101 v2 v3 M h
  have pB101 : ∀   (v2 : Int) (M : gSt), wB_RdoesFit_101 a1 k  v2 M → gG p l e (rmR 3 75) s m args below meth c Q D cl A (wR ad cI ci) 6 101 [(0, .ref (ad 0)), (2, iv v2)] [] M := by
    intro   v2 M h
    unfold wB_RdoesFit_101 at h
    refine g_aload_n C dR_doesFit_101 rfl ?_
    refine rf_put C hci dR_doesFit_102 ?_
    refine g_aload_n C dR_doesFit_105 rfl ?_
    refine rf_s C hci dR_doesFit_106 ?_
    refine g_callSv C (nargs := 2) (st := []) (m_Rcarry hci h) gd_carry (by decide +kernel) ⟨rfl, rfl⟩ dR_doesFit_109 ⟨by decide, by decide⟩ rfl rfl (Nat.le_of_ble_eq_true rfl) ?_
    intro M109 hN
    replace h := hN
    clear hN
    refine g_iload_n C dR_doesFit_112 rfl ?_
    exact hR _ _ _ _ dR_doesFit_113 (zn_bool h.1).1 h.2
  refine g_locals (lv' := [(0, .ref (ad 0)), (1, iv a1)]) rfl ?_
  unfold w_RdoesFit at h
  refine g_aload_n C dR_doesFit_0 rfl ?_
  refine rf_s C hci dR_doesFit_1 ?_
  refine g_aload_n C dR_doesFit_4 rfl ?_
  refine rf_put C hci dR_doesFit_5 ?_
  refine g_callSv C (nargs := 2) (st := []) (m_Rcarry hci h) gd_carry (by decide +kernel) ⟨rfl, rfl⟩ dR_doesFit_8 ⟨by decide, by decide⟩ rfl rfl (Nat.le_of_ble_eq_true rfl) ?_
  intro M8 hN
  replace h := hN
  clear hN
  refine g_aload_n C dR_doesFit_11 rfl ?_
  refine g_iload_n C dR_doesFit_12 rfl ?_
  refine g_callVv C (nargs := 1) (o := 0) (st := []) (m_RgoesBy hci h) rfl (by decide) hci rfl gd_goesBy (by decide +kernel) ⟨rfl, rfl⟩ dR_doesFit_13 ⟨by decide, by decide⟩ rfl rfl (Nat.le_of_ble_eq_true rfl) ?_
  intro M13 hN
  replace h := hN
  clear hN
  refine g_iconst C dR_doesFit_16 ?_
  refine g_istore_n C dR_doesFit_17 (by decide) rfl ?_
  refine g_locals (lv' := [(0, .ref (ad 0)), (1, iv a1), (2, iv 1)]) rfl ?_
  refine g_iconst C dR_doesFit_18 ?_
  refine g_istore_n C dR_doesFit_19 (by decide) rfl ?_
  refine g_locals (lv' := [(0, .ref (ad 0)), (1, iv a1), (2, iv 1), (3, iv 0)]) rfl ?_
  refine g_locals (lv' := [(0, .ref (ad 0)), (2, iv 1), (3, iv 0)]) rfl ?_
  obtain ⟨n, h⟩ := h
  refine pL20 _ ?_ n _ _ _ h
  · intro u2_20 M20 hN
    replace h := hN
    clear hN
    refine g_locals (lv' := [(0, .ref (ad 0)), (2, iv u2_20)]) rfl ?_
    exact pB101 _ _ h
def wB_RfindFits_43  (k : gSt → Prop) (r7 : Int → gSt → Prop) (X7_49 : gSt → Prop) (v1 : Int) (M : gSt) : Prop :=
r7 (v1 + 1) M
def wC_RfindFits_7  (k : gSt → Prop) (r7 : Int → gSt → Prop) (X7_49 : gSt → Prop) (v1 : Int) (M : gSt) : Prop :=
w_RallPapers  M (fun r9c M9 => 
  (wrap r9c < wrap v1 →
    X7_49  M9) ∧
  (wrap v1 ≤ wrap r9c →
    w_RdoesFit v1 M9 (fun r17c M17 => 
    (wrap r17c = 0 →
      wB_RfindFits_43  k r7 X7_49 v1 M17) ∧
    (¬ wrap r17c = 0 →
      (0 ≤ M17 0 13 ∧ M17 0 13 < 64) ∧ (∀ M32 : gSt, M32 = wr M17 8 (M17 0 13) v1 → (∀ M40 : gSt, M40 = wr M32 0 13 ((M32 0 13) + 1) → (wB_RfindFits_43  k r7 X7_49 v1 M40)))))))
def wL_RfindFits_7  (k : gSt → Prop)  (X7_49 : gSt → Prop) : Nat → Int → gSt → Prop
  | 0 => fun _ _ => False
  | n + 1 => fun v1 M => wC_RfindFits_7  k  (wL_RfindFits_7  k  X7_49 n) X7_49 v1 M
def w_RfindFits  (M : gSt) (k : gSt → Prop) : Prop :=
∀ M2 : gSt, M2 = wr M 0 13 0 → (∃ n, wL_RfindFits_7  k  (fun  M7 =>
    k M7) n 0 M2)
set_option maxHeartbeats 4000000 in
set_option maxRecDepth 100000 in
theorem m_RfindFits {l : Launch} {D : va_G} {cl : List vw_C} {tys : List (ClassId × FieldType)} {ad : Nat → Nat} {cI : ClassId} {ci : Nat} {Z : (Nat → Prop) → State → Prop} (hci : cl[ci]? = some (RX9, TX9, 23))  {M : gSt} {k : gSt → Prop} (h : w_RfindFits  M k) : MOv l yX9_findFits cX9_findFits 2 (rmR 4 100) D cl ((cI, .int) :: tys) (wR ad cI ci) tR Z [.ref (ad 0)] M k := by
  refine mov_intro (by decide +kernel) (Nat.le_of_ble_eq_true rfl) wi_231 ?_
  intro p e s m args below meth c A Q C hR
  have pB43 : ∀ (r7 : Int → gSt → Prop) (X7_49 : gSt → Prop) (hr7 : ∀ (v1 : Int) (M : gSt), r7 v1 M → gG p l e (rmR 4 100) s m args below meth c Q D cl A (wR ad cI ci) 2 7 [(0, .ref (ad 0)), (1, iv v1)] [] M) (hX7_49 : ∀  (M : gSt), X7_49  M → gG p l e (rmR 4 100) s m args below meth c Q D cl A (wR ad cI ci) 2 49 [] [] M) (v1 : Int) (M : gSt), wB_RfindFits_43  k r7 X7_49 v1 M → gG p l e (rmR 4 100) s m args below meth c Q D cl A (wR ad cI ci) 2 43 [(0, .ref (ad 0)), (1, iv v1)] [] M := by
    intro r7 X7_49 hr7 hX7_49 v1 M h
    unfold wB_RfindFits_43 at h
    refine g_iinc C dR_findFits_43 rfl (by decide) rfl ?_
    refine g_locals (lv' := [(0, .ref (ad 0)), (1, iv (v1 + 1))]) rfl ?_
    refine g_goto C 7 dR_findFits_46 (by decide) ?_
    refine g_locals (lv' := [(0, .ref (ad 0)), (1, iv (v1 + 1))]) rfl ?_
    exact hr7 _  _ h
  have pC7 : ∀ (r7 : Int → gSt → Prop) (X7_49 : gSt → Prop) (hr7 : ∀ (v1 : Int) (M : gSt), r7 v1 M → gG p l e (rmR 4 100) s m args below meth c Q D cl A (wR ad cI ci) 2 7 [(0, .ref (ad 0)), (1, iv v1)] [] M) (hX7_49 : ∀  (M : gSt), X7_49  M → gG p l e (rmR 4 100) s m args below meth c Q D cl A (wR ad cI ci) 2 49 [] [] M) (v1 : Int) (M : gSt), wC_RfindFits_7  k r7 X7_49 v1 M → gG p l e (rmR 4 100) s m args below meth c Q D cl A (wR ad cI ci) 2 7 [(0, .ref (ad 0)), (1, iv v1)] [] M := by
    intro r7 X7_49 hr7 hX7_49 v1 M h
    unfold wC_RfindFits_7 at h
    refine g_iload_n C dR_findFits_7 rfl ?_
    refine g_aload_n C dR_findFits_8 rfl ?_
    refine g_callVi C (nargs := 0) (o := 0) (st := [iv v1]) (m_RallPapers hci h) rfl (by decide) hci rfl gd_allPapers (by decide +kernel) ⟨rfl, rfl⟩ dR_findFits_9 ⟨by decide, by decide⟩ rfl rfl (Nat.le_of_ble_eq_true rfl) ?_
    intro r9c M9 hN
    replace h := hN
    clear hN
    refine g_icmp_gt C 49 dR_findFits_12 (by decide) (fun hc => ?_) (fun hc => ?_)
    · replace h := h.1 hc
      refine g_locals (lv' := []) rfl ?_
      exact hX7_49  _ h
    · replace h := h.2 hc
      refine g_aload_n C dR_findFits_15 rfl ?_
      refine g_iload_n C dR_findFits_16 rfl ?_
      refine g_callVi C (nargs := 1) (o := 0) (st := []) (m_RdoesFit hci h) rfl (by decide) hci rfl gd_doesFit (by decide +kernel) ⟨rfl, rfl⟩ dR_findFits_17 ⟨by decide, by decide⟩ rfl rfl (Nat.le_of_ble_eq_true rfl) ?_
      intro r17c M17 hN
      replace h := hN
      clear hN
      refine g_if_eq C 43 dR_findFits_20 (by decide) (fun hc => ?_) (fun hc => ?_)
      · replace h := h.1 hc
        refine g_locals (lv' := [(0, .ref (ad 0)), (1, iv v1)]) rfl ?_
        exact pB43 r7 X7_49 hr7 hX7_49 _ _ h
      · replace h := h.2 hc
        refine g_aload_n C dR_findFits_23 rfl ?_
        refine rf_fit C hci dR_findFits_24 ?_
        refine g_aload_n C dR_findFits_27 rfl ?_
        refine rf_many C hci dR_findFits_28 ?_
        refine g_iload_n C dR_findFits_31 rfl ?_
        refine g_iast C (n := 64) dR_findFits_32 rfl (by decide) h.1 ?_
        replace h := h.2
        refine g_memname (fun M32 hM32 => ?_)
        replace h := h M32 hM32
        refine g_aload_n C dR_findFits_33 rfl ?_
        refine g_dup C dR_findFits_34 rfl ?_
        refine rf_many C hci dR_findFits_35 ?_
        refine g_iconst C dR_findFits_38 ?_
        refine g_iadd C dR_findFits_39 ?_
        refine rp_many C hci dR_findFits_40 ?_
        refine g_memname (fun M40 hM40 => ?_)
        replace h := h M40 hM40
        refine g_locals (lv' := [(0, .ref (ad 0)), (1, iv v1)]) rfl ?_
        exact pB43 r7 X7_49 hr7 hX7_49 _ _ h
  have pL7 : ∀  (X7_49 : gSt → Prop) (hX7_49 : ∀  (M : gSt), X7_49  M → gG p l e (rmR 4 100) s m args below meth c Q D cl A (wR ad cI ci) 2 49 [] [] M) (n : Nat) (v1 : Int) (M : gSt), wL_RfindFits_7  k  X7_49 n v1 M → gG p l e (rmR 4 100) s m args below meth c Q D cl A (wR ad cI ci) 2 7 [(0, .ref (ad 0)), (1, iv v1)] [] M := by
    intro  X7_49 hX7_49 n
    induction n with
    | zero => intro v1 M h; exact h.elim
    | succ n ih =>
      intro v1 M h
      exact pC7  (wL_RfindFits_7  k  X7_49 n) X7_49 ih hX7_49 v1 M h
  refine g_locals (lv' := [(0, .ref (ad 0))]) rfl ?_
  unfold w_RfindFits at h
  refine g_aload_n C dR_findFits_0 rfl ?_
  refine g_iconst C dR_findFits_1 ?_
  refine rp_many C hci dR_findFits_2 ?_
  refine g_memname (fun M2 hM2 => ?_)
  replace h := h M2 hM2
  refine g_iconst C dR_findFits_5 ?_
  refine g_istore_n C dR_findFits_6 (by decide) rfl ?_
  refine g_locals (lv' := [(0, .ref (ad 0)), (1, iv 0)]) rfl ?_
  refine g_locals (lv' := [(0, .ref (ad 0)), (1, iv 0)]) rfl ?_
  obtain ⟨n, h⟩ := h
  refine pL7 _ ?_ n _ _ h
  · intro  M7 hN
    replace h := hN
    clear hN
    exact hR _ _ _ dR_findFits_49 h
def wC_RbitsOf_4 (a1 : Int) (k : Int → gSt → Prop) (r4 : Int → Int → gSt → Prop) (X4_20 : Int → gSt → Prop) (v1 : Int) (v2 : Int) (M : gSt) : Prop :=

  (wrap v2 = 0 →
    X4_20 v1 M) ∧
  (¬ wrap v2 = 0 →
    ∀ x2_16 : Int, x2_16 = xand v2 (v2 - 1) → (r4 (v1 + 1) x2_16 M))
def wL_RbitsOf_4 (a1 : Int) (k : Int → gSt → Prop)  (X4_20 : Int → gSt → Prop) : Nat → Int → Int → gSt → Prop
  | 0 => fun _ _ _ => False
  | n + 1 => fun v1 v2 M => wC_RbitsOf_4 a1 k  (wL_RbitsOf_4 a1 k  X4_20 n) X4_20 v1 v2 M
def w_RbitsOf (a1 : Int) (M : gSt) (k : Int → gSt → Prop) : Prop :=
∃ n, wL_RbitsOf_4 a1 k  (fun u1_4 M4 =>
    k u1_4 M4) n 0 a1 M
set_option maxHeartbeats 4000000 in
set_option maxRecDepth 100000 in
theorem m_RbitsOf {l : Launch} {D : va_G} {cl : List vw_C} {tys : List (ClassId × FieldType)} {ad : Nat → Nat} {cI : ClassId} {ci : Nat} {Z : (Nat → Prop) → State → Prop} (hci : cl[ci]? = some (RX9, TX9, 23)) {a1 : Int} {M : gSt} {k : Int → gSt → Prop} (h : w_RbitsOf a1 M k) : MOi l yX9_bitsOf cX9_bitsOf 3 .int (rmR 0 0) D cl ((cI, .int) :: tys) (wR ad cI ci) tR Z [iv a1] M k := by
  refine moi_intro (by decide +kernel) (Nat.le_of_ble_eq_true rfl) wi_232 ?_
  intro p e s m args below meth c A Q C hR
  have pC4 : ∀ (r4 : Int → Int → gSt → Prop) (X4_20 : Int → gSt → Prop) (hr4 : ∀ (v1 : Int) (v2 : Int) (M : gSt), r4 v1 v2 M → gG p l e (rmR 0 0) s m args below meth c Q D cl A (wR ad cI ci) 3 4 [(1, iv v1), (2, iv v2)] [] M) (hX4_20 : ∀ (v1 : Int) (M : gSt), X4_20 v1 M → gG p l e (rmR 0 0) s m args below meth c Q D cl A (wR ad cI ci) 3 20 [(1, iv v1)] [] M) (v1 : Int) (v2 : Int) (M : gSt), wC_RbitsOf_4 a1 k r4 X4_20 v1 v2 M → gG p l e (rmR 0 0) s m args below meth c Q D cl A (wR ad cI ci) 3 4 [(1, iv v1), (2, iv v2)] [] M := by
    intro r4 X4_20 hr4 hX4_20 v1 v2 M h
    unfold wC_RbitsOf_4 at h
    refine g_iload_n C dR_bitsOf_4 rfl ?_
    refine g_if_eq C 20 dR_bitsOf_5 (by decide) (fun hc => ?_) (fun hc => ?_)
    · replace h := h.1 hc
      refine g_locals (lv' := [(1, iv v1)]) rfl ?_
      exact hX4_20 _  _ h
    · replace h := h.2 hc
      refine g_iinc C dR_bitsOf_8 rfl (by decide) rfl ?_
      refine g_locals (lv' := [(1, iv (v1 + 1)), (2, iv v2)]) rfl ?_
      refine g_iload_n C dR_bitsOf_11 rfl ?_
      refine g_iload_n C dR_bitsOf_12 rfl ?_
      refine g_iconst C dR_bitsOf_13 ?_
      refine g_isub C dR_bitsOf_14 ?_
      refine g_iand C dR_bitsOf_15 ?_
      refine g_name (fun x2_16 hx2_16 => ?_)
      replace h := h x2_16 hx2_16
      refine g_istore_n C dR_bitsOf_16 (by decide) rfl ?_
      refine g_locals (lv' := [(1, iv (v1 + 1)), (2, iv x2_16)]) rfl ?_
      refine g_goto C 4 dR_bitsOf_17 (by decide) ?_
      refine g_locals (lv' := [(1, iv (v1 + 1)), (2, iv x2_16)]) rfl ?_
      exact hr4 _ _  _ h
  have pL4 : ∀  (X4_20 : Int → gSt → Prop) (hX4_20 : ∀ (v1 : Int) (M : gSt), X4_20 v1 M → gG p l e (rmR 0 0) s m args below meth c Q D cl A (wR ad cI ci) 3 20 [(1, iv v1)] [] M) (n : Nat) (v1 : Int) (v2 : Int) (M : gSt), wL_RbitsOf_4 a1 k  X4_20 n v1 v2 M → gG p l e (rmR 0 0) s m args below meth c Q D cl A (wR ad cI ci) 3 4 [(1, iv v1), (2, iv v2)] [] M := by
    intro  X4_20 hX4_20 n
    induction n with
    | zero => intro v1 v2 M h; exact h.elim
    | succ n ih =>
      intro v1 v2 M h
      exact pC4  (wL_RbitsOf_4 a1 k  X4_20 n) X4_20 ih hX4_20 v1 v2 M h
  refine g_locals (lv' := [(0, iv a1)]) rfl ?_
  unfold w_RbitsOf at h
  refine g_iconst C dR_bitsOf_0 ?_
  refine g_istore_n C dR_bitsOf_1 (by decide) rfl ?_
  refine g_locals (lv' := [(0, iv a1), (1, iv 0)]) rfl ?_
  refine g_iload_n C dR_bitsOf_2 rfl ?_
  refine g_istore_n C dR_bitsOf_3 (by decide) rfl ?_
  refine g_locals (lv' := [(0, iv a1), (1, iv 0), (2, iv a1)]) rfl ?_
  refine g_locals (lv' := [(1, iv 0), (2, iv a1)]) rfl ?_
  obtain ⟨n, h⟩ := h
  refine pL4 _ ?_ n _ _ _ h
  · intro u1_4 M4 hN
    replace h := hN
    clear hN
    refine g_iload_n C dR_bitsOf_20 rfl ?_
    exact hR _ _ _ _ dR_bitsOf_21 rfl h
def wB_Rfits_91 (a1 : Int) (k : Int → gSt → Prop) (r32 : Int → Int → Int → Int → gSt → Prop) (X32_99 : Int → Int → Int → gSt → Prop) (v2 : Int) (v3 : Int) (v5 : Int) (s0 : Int) (M : gSt) : Prop :=
r32 v2 v3 s0 (v5 + 1) M
def wC_Rfits_32 (a1 : Int) (k : Int → gSt → Prop) (r32 : Int → Int → Int → Int → gSt → Prop) (X32_99 : Int → Int → Int → gSt → Prop) (v2 : Int) (v3 : Int) (v4 : Int) (v5 : Int) (M : gSt) : Prop :=

  (wrap (M 0 13) ≤ wrap v5 →
    X32_99 v2 v3 v4 M) ∧
  (wrap v5 < wrap (M 0 13) →
    (0 ≤ v5 ∧ v5 < 64) ∧ (∀ x2_50 : Int, x2_50 = xand v2 (M 8 v5) → ((0 ≤ v5 ∧ v5 < 64) ∧ (∀ x3_60 : Int, x3_60 = xor2 v3 (M 8 v5) → ((0 ≤ v5 ∧ v5 < 64) ∧ (w_RbitsOf (M 8 v5) M (fun r68c M68 => 
    (wrap r68c ≤ wrap v4 →
      wB_Rfits_91 a1 k r32 X32_99 x2_50 x3_60 v5 v4 M68) ∧
    (wrap v4 < wrap r68c →
      (0 ≤ v5 ∧ v5 < 64) ∧ (w_RbitsOf (M68 8 v5) M68 (fun r83c M83 => wB_Rfits_91 a1 k r32 X32_99 x2_50 x3_60 v5 r83c M83))))))))))
def wL_Rfits_32 (a1 : Int) (k : Int → gSt → Prop)  (X32_99 : Int → Int → Int → gSt → Prop) : Nat → Int → Int → Int → Int → gSt → Prop
  | 0 => fun _ _ _ _ _ => False
  | n + 1 => fun v2 v3 v4 v5 M => wC_Rfits_32 a1 k  (wL_Rfits_32 a1 k  X32_99 n) X32_99 v2 v3 v4 v5 M
def wB_Rfits_122 (a1 : Int) (k : Int → gSt → Prop)  (v2 : Int) (v3 : Int) (v4 : Int) (M : gSt) : Prop :=

  (¬ wrap a1 = 0 →

    (¬ wrap a1 = 1 →

      (¬ wrap a1 = 2 →

        (¬ wrap a1 = 3 →
          k ((M 1 3) - v4) M) ∧
        (wrap a1 = 3 →
          k v3 M)) ∧
      (wrap a1 = 2 →
        k v2 M)) ∧
    (wrap a1 = 1 →
      k (M 8 0) M)) ∧
  (wrap a1 = 0 →
    k (M 0 13) M)
def wB_Rfits_109 (a1 : Int) (k : Int → gSt → Prop)  (v2 : Int) (v3 : Int) (v4 : Int) (M : gSt) : Prop :=

  (¬ wrap (M 0 13) = 0 →
    wB_Rfits_122 a1 k  v2 v3 v4 M) ∧
  (wrap (M 0 13) = 0 →
    w_Rerror 2 M (fun r118c M118 => k r118c M118))
def w_Rfits (a1 : Int) (M : gSt) (k : Int → gSt → Prop) : Prop :=
w_Rin a1 0 4 M (fun r3c M3 => 
  (¬ wrap r3c = 0 →
    w_RfindFits  M3 (fun M16 => w_RallPapers  M16 (fun r20c M20 => ∃ n, wL_Rfits_32 a1 k  (fun u2_32 u3_32 u4_32 M32 =>

      (wrap a1 = 1 →
        wB_Rfits_109 a1 k  u2_32 u3_32 u4_32 M32) ∧
      (¬ wrap a1 = 1 →

        (¬ wrap a1 = 4 →
          wB_Rfits_122 a1 k  u2_32 u3_32 u4_32 M32) ∧
        (wrap a1 = 4 →
          wB_Rfits_109 a1 k  u2_32 u3_32 u4_32 M32))) n r20c 0 0 0 M20))) ∧
  (wrap r3c = 0 →
    w_Rerror 1 M3 (fun r11c M11 => k r11c M11)))
set_option maxHeartbeats 4000000 in
set_option maxRecDepth 100000 in
theorem m_Rfits {l : Launch} {D : va_G} {cl : List vw_C} {tys : List (ClassId × FieldType)} {ad : Nat → Nat} {cI : ClassId} {ci : Nat} {Z : (Nat → Prop) → State → Prop} (hci : cl[ci]? = some (RX9, TX9, 23)) {a1 : Int} {M : gSt} {k : Int → gSt → Prop} (h : w_Rfits a1 M k) : MOi l yX9_fits cX9_fits 6 .int (rmR 5 121) D cl ((cI, .int) :: tys) (wR ad cI ci) tR Z [.ref (ad 0), iv a1] M k := by
  refine moi_intro (by decide +kernel) (Nat.le_of_ble_eq_true rfl) wi_238 ?_
  intro p e s m args below meth c A Q C hR
  have pB91 : ∀ (r32 : Int → Int → Int → Int → gSt → Prop) (X32_99 : Int → Int → Int → gSt → Prop) (hr32 : ∀ (v2 : Int) (v3 : Int) (v4 : Int) (v5 : Int) (M : gSt), r32 v2 v3 v4 v5 M → gG p l e (rmR 5 121) s m args below meth c Q D cl A (wR ad cI ci) 6 32 [(0, .ref (ad 0)), (1, iv a1), (2, iv v2), (3, iv v3), (4, iv v4), (5, iv v5)] [] M) (hX32_99 : ∀ (v2 : Int) (v3 : Int) (v4 : Int) (M : gSt), X32_99 v2 v3 v4 M → gG p l e (rmR 5 121) s m args below meth c Q D cl A (wR ad cI ci) 6 99 [(0, .ref (ad 0)), (1, iv a1), (2, iv v2), (3, iv v3), (4, iv v4)] [] M) (v2 : Int) (v3 : Int) (v5 : Int) (s0 : Int) (M : gSt), wB_Rfits_91 a1 k r32 X32_99 v2 v3 v5 s0 M → gG p l e (rmR 5 121) s m args below meth c Q D cl A (wR ad cI ci) 6 91 [(0, .ref (ad 0)), (1, iv a1), (2, iv v2), (3, iv v3), (5, iv v5)] [iv s0] M := by
    intro r32 X32_99 hr32 hX32_99 v2 v3 v5 s0 M h
    unfold wB_Rfits_91 at h
    refine g_istore C dR_fits_91 (by decide) rfl ?_
    refine g_locals (lv' := [(0, .ref (ad 0)), (1, iv a1), (2, iv v2), (3, iv v3), (4, iv s0), (5, iv v5)]) rfl ?_
    refine g_iinc C dR_fits_93 rfl (by decide) rfl ?_
    refine g_locals (lv' := [(0, .ref (ad 0)), (1, iv a1), (2, iv v2), (3, iv v3), (4, iv s0), (5, iv (v5 + 1))]) rfl ?_
    refine g_goto C 32 dR_fits_96 (by decide) ?_
    refine g_locals (lv' := [(0, .ref (ad 0)), (1, iv a1), (2, iv v2), (3, iv v3), (4, iv s0), (5, iv (v5 + 1))]) rfl ?_
    exact hr32 _ _ _ _  _ h
  have pC32 : ∀ (r32 : Int → Int → Int → Int → gSt → Prop) (X32_99 : Int → Int → Int → gSt → Prop) (hr32 : ∀ (v2 : Int) (v3 : Int) (v4 : Int) (v5 : Int) (M : gSt), r32 v2 v3 v4 v5 M → gG p l e (rmR 5 121) s m args below meth c Q D cl A (wR ad cI ci) 6 32 [(0, .ref (ad 0)), (1, iv a1), (2, iv v2), (3, iv v3), (4, iv v4), (5, iv v5)] [] M) (hX32_99 : ∀ (v2 : Int) (v3 : Int) (v4 : Int) (M : gSt), X32_99 v2 v3 v4 M → gG p l e (rmR 5 121) s m args below meth c Q D cl A (wR ad cI ci) 6 99 [(0, .ref (ad 0)), (1, iv a1), (2, iv v2), (3, iv v3), (4, iv v4)] [] M) (v2 : Int) (v3 : Int) (v4 : Int) (v5 : Int) (M : gSt), wC_Rfits_32 a1 k r32 X32_99 v2 v3 v4 v5 M → gG p l e (rmR 5 121) s m args below meth c Q D cl A (wR ad cI ci) 6 32 [(0, .ref (ad 0)), (1, iv a1), (2, iv v2), (3, iv v3), (4, iv v4), (5, iv v5)] [] M := by
    intro r32 X32_99 hr32 hX32_99 v2 v3 v4 v5 M h
    unfold wC_Rfits_32 at h
    refine g_iload C dR_fits_32 rfl ?_
    refine g_aload_n C dR_fits_34 rfl ?_
    refine rf_many C hci dR_fits_35 ?_
    refine g_icmp_ge C 99 dR_fits_38 (by decide) (fun hc => ?_) (fun hc => ?_)
    · replace h := h.1 hc
      refine g_locals (lv' := [(0, .ref (ad 0)), (1, iv a1), (2, iv v2), (3, iv v3), (4, iv v4)]) rfl ?_
      exact hX32_99 _ _ _  _ h
    · replace h := h.2 hc
      refine g_iload_n C dR_fits_41 rfl ?_
      refine g_aload_n C dR_fits_42 rfl ?_
      refine rf_fit C hci dR_fits_43 ?_
      refine g_iload C dR_fits_46 rfl ?_
      refine g_iald C (n := 64) dR_fits_48 rfl (by decide) h.1 ?_
      replace h := h.2
      refine g_iand C dR_fits_49 ?_
      refine g_name (fun x2_50 hx2_50 => ?_)
      replace h := h x2_50 hx2_50
      refine g_istore_n C dR_fits_50 (by decide) rfl ?_
      refine g_locals (lv' := [(0, .ref (ad 0)), (1, iv a1), (2, iv x2_50), (3, iv v3), (4, iv v4), (5, iv v5)]) rfl ?_
      refine g_iload_n C dR_fits_51 rfl ?_
      refine g_aload_n C dR_fits_52 rfl ?_
      refine rf_fit C hci dR_fits_53 ?_
      refine g_iload C dR_fits_56 rfl ?_
      refine g_iald C (n := 64) dR_fits_58 rfl (by decide) h.1 ?_
      replace h := h.2
      refine g_ior C dR_fits_59 ?_
      refine g_name (fun x3_60 hx3_60 => ?_)
      replace h := h x3_60 hx3_60
      refine g_istore_n C dR_fits_60 (by decide) rfl ?_
      refine g_locals (lv' := [(0, .ref (ad 0)), (1, iv a1), (2, iv x2_50), (3, iv x3_60), (4, iv v4), (5, iv v5)]) rfl ?_
      refine g_aload_n C dR_fits_61 rfl ?_
      refine rf_fit C hci dR_fits_62 ?_
      refine g_iload C dR_fits_65 rfl ?_
      refine g_iald C (n := 64) dR_fits_67 rfl (by decide) h.1 ?_
      replace h := h.2
      refine g_callSi C (nargs := 1) (st := []) (m_RbitsOf hci h) gd_bitsOf (by decide +kernel) ⟨rfl, rfl⟩ dR_fits_68 ⟨by decide, by decide⟩ rfl rfl (Nat.le_of_ble_eq_true rfl) ?_
      intro r68c M68 hN
      replace h := hN
      clear hN
      refine g_iload C dR_fits_71 rfl ?_
      refine g_icmp_le C 89 dR_fits_73 (by decide) (fun hc => ?_) (fun hc => ?_)
      · replace h := h.1 hc
        refine g_iload C dR_fits_89 rfl ?_
        refine g_locals (lv' := [(0, .ref (ad 0)), (1, iv a1), (2, iv x2_50), (3, iv x3_60), (5, iv v5)]) rfl ?_
        exact pB91 r32 X32_99 hr32 hX32_99 _ _ _ _ _ h
      · replace h := h.2 hc
        refine g_aload_n C dR_fits_76 rfl ?_
        refine rf_fit C hci dR_fits_77 ?_
        refine g_iload C dR_fits_80 rfl ?_
        refine g_iald C (n := 64) dR_fits_82 rfl (by decide) h.1 ?_
        replace h := h.2
        refine g_callSi C (nargs := 1) (st := []) (m_RbitsOf hci h) gd_bitsOf (by decide +kernel) ⟨rfl, rfl⟩ dR_fits_83 ⟨by decide, by decide⟩ rfl rfl (Nat.le_of_ble_eq_true rfl) ?_
        intro r83c M83 hN
        replace h := hN
        clear hN
        refine g_goto C 91 dR_fits_86 (by decide) ?_
        refine g_locals (lv' := [(0, .ref (ad 0)), (1, iv a1), (2, iv x2_50), (3, iv x3_60), (5, iv v5)]) rfl ?_
        exact pB91 r32 X32_99 hr32 hX32_99 _ _ _ _ _ h
  have pL32 : ∀  (X32_99 : Int → Int → Int → gSt → Prop) (hX32_99 : ∀ (v2 : Int) (v3 : Int) (v4 : Int) (M : gSt), X32_99 v2 v3 v4 M → gG p l e (rmR 5 121) s m args below meth c Q D cl A (wR ad cI ci) 6 99 [(0, .ref (ad 0)), (1, iv a1), (2, iv v2), (3, iv v3), (4, iv v4)] [] M) (n : Nat) (v2 : Int) (v3 : Int) (v4 : Int) (v5 : Int) (M : gSt), wL_Rfits_32 a1 k  X32_99 n v2 v3 v4 v5 M → gG p l e (rmR 5 121) s m args below meth c Q D cl A (wR ad cI ci) 6 32 [(0, .ref (ad 0)), (1, iv a1), (2, iv v2), (3, iv v3), (4, iv v4), (5, iv v5)] [] M := by
    intro  X32_99 hX32_99 n
    induction n with
    | zero => intro v2 v3 v4 v5 M h; exact h.elim
    | succ n ih =>
      intro v2 v3 v4 v5 M h
      exact pC32  (wL_Rfits_32 a1 k  X32_99 n) X32_99 ih hX32_99 v2 v3 v4 v5 M h
  have pB122 : ∀   (v2 : Int) (v3 : Int) (v4 : Int) (M : gSt), wB_Rfits_122 a1 k  v2 v3 v4 M → gG p l e (rmR 5 121) s m args below meth c Q D cl A (wR ad cI ci) 6 122 [(0, .ref (ad 0)), (1, iv a1), (2, iv v2), (3, iv v3), (4, iv v4)] [] M := by
    intro   v2 v3 v4 M h
    unfold wB_Rfits_122 at h
    refine g_iload_n C dR_fits_122 rfl ?_
    refine g_if_ne C 133 dR_fits_123 (by decide) (fun hc => ?_) (fun hc => ?_)
    · replace h := h.1 hc
      refine g_iload_n C dR_fits_133 rfl ?_
      refine g_iconst C dR_fits_134 ?_
      refine g_icmp_ne C 147 dR_fits_135 (by decide) (fun hc => ?_) (fun hc => ?_)
      · replace h := h.1 hc
        refine g_iload_n C dR_fits_147 rfl ?_
        refine g_iconst C dR_fits_148 ?_
        refine g_icmp_ne C 156 dR_fits_149 (by decide) (fun hc => ?_) (fun hc => ?_)
        · replace h := h.1 hc
          refine g_iload_n C dR_fits_156 rfl ?_
          refine g_iconst C dR_fits_157 ?_
          refine g_icmp_ne C 165 dR_fits_158 (by decide) (fun hc => ?_) (fun hc => ?_)
          · replace h := h.1 hc
            refine g_aload_n C dR_fits_165 rfl ?_
            refine rf_s C hci dR_fits_166 ?_
            refine g_iconst C dR_fits_169 ?_
            refine g_iald C (n := 536) dR_fits_170 rfl (by decide) ⟨by decide, by decide⟩ ?_
            refine g_iload C dR_fits_171 rfl ?_
            refine g_isub C dR_fits_173 ?_
            exact hR _ _ _ _ dR_fits_174 rfl h
          · replace h := h.2 hc
            refine g_iload_n C dR_fits_161 rfl ?_
            refine g_goto C 174 dR_fits_162 (by decide) ?_
            exact hR _ _ _ _ dR_fits_174 rfl h
        · replace h := h.2 hc
          refine g_iload_n C dR_fits_152 rfl ?_
          refine g_goto C 174 dR_fits_153 (by decide) ?_
          exact hR _ _ _ _ dR_fits_174 rfl h
      · replace h := h.2 hc
        refine g_aload_n C dR_fits_138 rfl ?_
        refine rf_fit C hci dR_fits_139 ?_
        refine g_iconst C dR_fits_142 ?_
        refine g_iald C (n := 64) dR_fits_143 rfl (by decide) ⟨by decide, by decide⟩ ?_
        refine g_goto C 174 dR_fits_144 (by decide) ?_
        exact hR _ _ _ _ dR_fits_174 rfl h
    · replace h := h.2 hc
      refine g_aload_n C dR_fits_126 rfl ?_
      refine rf_many C hci dR_fits_127 ?_
      refine g_goto C 174 dR_fits_130 (by decide) ?_
      exact hR _ _ _ _ dR_fits_174 rfl h
  have pB109 : ∀   (v2 : Int) (v3 : Int) (v4 : Int) (M : gSt), wB_Rfits_109 a1 k  v2 v3 v4 M → gG p l e (rmR 5 121) s m args below meth c Q D cl A (wR ad cI ci) 6 109 [(0, .ref (ad 0)), (1, iv a1), (2, iv v2), (3, iv v3), (4, iv v4)] [] M := by
    intro   v2 v3 v4 M h
    unfold wB_Rfits_109 at h
    refine g_aload_n C dR_fits_109 rfl ?_
    refine rf_many C hci dR_fits_110 ?_
    refine g_if_ne C 122 dR_fits_113 (by decide) (fun hc => ?_) (fun hc => ?_)
    · replace h := h.1 hc
      refine g_locals (lv' := [(0, .ref (ad 0)), (1, iv a1), (2, iv v2), (3, iv v3), (4, iv v4)]) rfl ?_
      exact pB122 _ _ _ _ h
    · replace h := h.2 hc
      refine g_aload_n C dR_fits_116 rfl ?_
      refine g_iconst C dR_fits_117 ?_
      refine g_callVi C (nargs := 1) (o := 0) (st := []) (m_Rerror hci h) rfl (by decide) hci rfl gd_error (by decide +kernel) ⟨rfl, rfl⟩ dR_fits_118 ⟨by decide, by decide⟩ rfl rfl (Nat.le_of_ble_eq_true rfl) ?_
      intro r118c M118 hN
      replace h := hN
      clear hN
      exact hR _ _ _ _ dR_fits_121 rfl h
  refine g_locals (lv' := [(0, .ref (ad 0)), (1, iv a1)]) rfl ?_
  unfold w_Rfits at h
  refine g_iload_n C dR_fits_0 rfl ?_
  refine g_iconst C dR_fits_1 ?_
  refine g_iconst C dR_fits_2 ?_
  refine g_callSi C (nargs := 3) (st := []) (m_Rin hci h) gd_in (by decide +kernel) ⟨rfl, rfl⟩ dR_fits_3 ⟨by decide, by decide⟩ rfl rfl (Nat.le_of_ble_eq_true rfl) ?_
  intro r3c M3 hN
  replace h := hN
  clear hN
  refine g_if_ne C 15 dR_fits_6 (by decide) (fun hc => ?_) (fun hc => ?_)
  · replace h := h.1 hc
    refine g_aload_n C dR_fits_15 rfl ?_
    refine g_callVv C (nargs := 0) (o := 0) (st := []) (m_RfindFits hci h) rfl (by decide) hci rfl gd_findFits (by decide +kernel) ⟨rfl, rfl⟩ dR_fits_16 ⟨by decide, by decide⟩ rfl rfl (Nat.le_of_ble_eq_true rfl) ?_
    intro M16 hN
    replace h := hN
    clear hN
    refine g_aload_n C dR_fits_19 rfl ?_
    refine g_callVi C (nargs := 0) (o := 0) (st := []) (m_RallPapers hci h) rfl (by decide) hci rfl gd_allPapers (by decide +kernel) ⟨rfl, rfl⟩ dR_fits_20 ⟨by decide, by decide⟩ rfl rfl (Nat.le_of_ble_eq_true rfl) ?_
    intro r20c M20 hN
    replace h := hN
    clear hN
    refine g_istore_n C dR_fits_23 (by decide) rfl ?_
    refine g_locals (lv' := [(0, .ref (ad 0)), (1, iv a1), (2, iv r20c)]) rfl ?_
    refine g_iconst C dR_fits_24 ?_
    refine g_istore_n C dR_fits_25 (by decide) rfl ?_
    refine g_locals (lv' := [(0, .ref (ad 0)), (1, iv a1), (2, iv r20c), (3, iv 0)]) rfl ?_
    refine g_iconst C dR_fits_26 ?_
    refine g_istore C dR_fits_27 (by decide) rfl ?_
    refine g_locals (lv' := [(0, .ref (ad 0)), (1, iv a1), (2, iv r20c), (3, iv 0), (4, iv 0)]) rfl ?_
    refine g_iconst C dR_fits_29 ?_
    refine g_istore C dR_fits_30 (by decide) rfl ?_
    refine g_locals (lv' := [(0, .ref (ad 0)), (1, iv a1), (2, iv r20c), (3, iv 0), (4, iv 0), (5, iv 0)]) rfl ?_
    refine g_locals (lv' := [(0, .ref (ad 0)), (1, iv a1), (2, iv r20c), (3, iv 0), (4, iv 0), (5, iv 0)]) rfl ?_
    obtain ⟨n, h⟩ := h
    refine pL32 _ ?_ n _ _ _ _ _ h
    · intro u2_32 u3_32 u4_32 M32 hN
      replace h := hN
      clear hN
      refine g_iload_n C dR_fits_99 rfl ?_
      refine g_iconst C dR_fits_100 ?_
      refine g_icmp_eq C 109 dR_fits_101 (by decide) (fun hc => ?_) (fun hc => ?_)
      · replace h := h.1 hc
        refine g_locals (lv' := [(0, .ref (ad 0)), (1, iv a1), (2, iv u2_32), (3, iv u3_32), (4, iv u4_32)]) rfl ?_
        exact pB109 _ _ _ _ h
      · replace h := h.2 hc
        refine g_iload_n C dR_fits_104 rfl ?_
        refine g_iconst C dR_fits_105 ?_
        refine g_icmp_ne C 122 dR_fits_106 (by decide) (fun hc => ?_) (fun hc => ?_)
        · replace h := h.1 hc
          refine g_locals (lv' := [(0, .ref (ad 0)), (1, iv a1), (2, iv u2_32), (3, iv u3_32), (4, iv u4_32)]) rfl ?_
          exact pB122 _ _ _ _ h
        · replace h := h.2 hc
          refine g_locals (lv' := [(0, .ref (ad 0)), (1, iv a1), (2, iv u2_32), (3, iv u3_32), (4, iv u4_32)]) rfl ?_
          exact pB109 _ _ _ _ h
  · replace h := h.2 hc
    refine g_aload_n C dR_fits_9 rfl ?_
    refine g_iconst C dR_fits_10 ?_
    refine g_callVi C (nargs := 1) (o := 0) (st := []) (m_Rerror hci h) rfl (by decide) hci rfl gd_error (by decide +kernel) ⟨rfl, rfl⟩ dR_fits_11 ⟨by decide, by decide⟩ rfl rfl (Nat.le_of_ble_eq_true rfl) ?_
    intro r11c M11 hN
    replace h := hN
    clear hN
    exact hR _ _ _ _ dR_fits_14 rfl h
def wB_Rspan_26 (a1 : Int) (a2 : Int) (a3 : Int) (k : Int → gSt → Prop)   (M : gSt) : Prop :=
w_Rerror 1 M (fun r28c M28 => k r28c M28)
def wB_Rspan_132 (a1 : Int) (a2 : Int) (a3 : Int) (k : Int → gSt → Prop) (r69 : Int → Int → gSt → Prop) (X69_140 : Int → gSt → Prop) (v5 : Int) (s0 : Int) (M : gSt) : Prop :=
r69 s0 (v5 + 1) M
def wC_Rspan_69 (a1 : Int) (a2 : Int) (a3 : Int) (k : Int → gSt → Prop) (r69 : Int → Int → gSt → Prop) (X69_140 : Int → gSt → Prop) (v4 : Int) (v5 : Int) (M : gSt) : Prop :=

  (wrap (M 0 13) ≤ wrap v5 →
    X69_140 v4 M) ∧
  (wrap v5 < wrap (M 0 13) →
    (0 ≤ v5 ∧ v5 < 64) ∧ (w_Rafter (M 8 v5) a1 (6 + a2) M (fun r91c M91 => 
    (¬ wrap a3 = 1 →

      (wrap v4 ≤ wrap r91c →
        wB_Rspan_132 a1 a2 a3 k r69 X69_140 v5 v4 M91) ∧
      (wrap r91c < wrap v4 →
        wB_Rspan_132 a1 a2 a3 k r69 X69_140 v5 r91c M91)) ∧
    (wrap a3 = 1 →

      (wrap r91c ≤ wrap v4 →
        wB_Rspan_132 a1 a2 a3 k r69 X69_140 v5 v4 M91) ∧
      (wrap v4 < wrap r91c →
        wB_Rspan_132 a1 a2 a3 k r69 X69_140 v5 r91c M91)))))
def wL_Rspan_69 (a1 : Int) (a2 : Int) (a3 : Int) (k : Int → gSt → Prop)  (X69_140 : Int → gSt → Prop) : Nat → Int → Int → gSt → Prop
  | 0 => fun _ _ _ => False
  | n + 1 => fun v4 v5 M => wC_Rspan_69 a1 a2 a3 k  (wL_Rspan_69 a1 a2 a3 k  X69_140 n) X69_140 v4 v5 M
def w_Rspan (a1 : Int) (a2 : Int) (a3 : Int) (M : gSt) (k : Int → gSt → Prop) : Prop :=
w_RisThing a1 M (fun r2c M2 => 
  (wrap r2c = 0 →
    wB_Rspan_26 a1 a2 a3 k   M2) ∧
  (¬ wrap r2c = 0 →
    w_Rin a2 0 3 M2 (fun r11c M11 => 
    (wrap r11c = 0 →
      wB_Rspan_26 a1 a2 a3 k   M11) ∧
    (¬ wrap r11c = 0 →
      w_Rin a3 0 1 M11 (fun r20c M20 => 
      (¬ wrap r20c = 0 →
        w_RfindFits  M20 (fun M33 => 
        (¬ wrap (M33 0 13) = 0 →
          w_Rafter (M33 8 0) a1 (6 + a2) M33 (fun r61c M61 => ∃ n, wL_Rspan_69 a1 a2 a3 k  (fun u4_69 M69 =>
            k u4_69 M69) n r61c 1 M61)) ∧
        (wrap (M33 0 13) = 0 →
          w_Rerror 2 M33 (fun r45c M45 => k r45c M45)))) ∧
      (wrap r20c = 0 →
        wB_Rspan_26 a1 a2 a3 k   M20))))))
set_option maxHeartbeats 4000000 in
set_option maxRecDepth 100000 in
theorem m_Rspan {l : Launch} {D : va_G} {cl : List vw_C} {tys : List (ClassId × FieldType)} {ad : Nat → Nat} {cI : ClassId} {ci : Nat} {Z : (Nat → Prop) → State → Prop} (hci : cl[ci]? = some (RX9, TX9, 23)) {a1 : Int} {a2 : Int} {a3 : Int} {M : gSt} {k : Int → gSt → Prop} (h : w_Rspan a1 a2 a3 M k) : MOi l yX9_span cX9_span 7 .int (rmR 5 121) D cl ((cI, .int) :: tys) (wR ad cI ci) tR Z [.ref (ad 0), iv a1, iv a2, iv a3] M k := by
  refine moi_intro (by decide +kernel) (Nat.le_of_ble_eq_true rfl) wi_239 ?_
  intro p e s m args below meth c A Q C hR
  have pB26 : ∀    (M : gSt), wB_Rspan_26 a1 a2 a3 k   M → gG p l e (rmR 5 121) s m args below meth c Q D cl A (wR ad cI ci) 7 26 [(0, .ref (ad 0))] [] M := by
    intro    M h
    unfold wB_Rspan_26 at h
    refine g_aload_n C dR_span_26 rfl ?_
    refine g_iconst C dR_span_27 ?_
    refine g_callVi C (nargs := 1) (o := 0) (st := []) (m_Rerror hci h) rfl (by decide) hci rfl gd_error (by decide +kernel) ⟨rfl, rfl⟩ dR_span_28 ⟨by decide, by decide⟩ rfl rfl (Nat.le_of_ble_eq_true rfl) ?_
    intro r28c M28 hN
    replace h := hN
    clear hN
    exact hR _ _ _ _ dR_span_31 rfl h
  have pB132 : ∀ (r69 : Int → Int → gSt → Prop) (X69_140 : Int → gSt → Prop) (hr69 : ∀ (v4 : Int) (v5 : Int) (M : gSt), r69 v4 v5 M → gG p l e (rmR 5 121) s m args below meth c Q D cl A (wR ad cI ci) 7 69 [(0, .ref (ad 0)), (1, iv a1), (2, iv a2), (3, iv a3), (4, iv v4), (5, iv v5)] [] M) (hX69_140 : ∀ (v4 : Int) (M : gSt), X69_140 v4 M → gG p l e (rmR 5 121) s m args below meth c Q D cl A (wR ad cI ci) 7 140 [(4, iv v4)] [] M) (v5 : Int) (s0 : Int) (M : gSt), wB_Rspan_132 a1 a2 a3 k r69 X69_140 v5 s0 M → gG p l e (rmR 5 121) s m args below meth c Q D cl A (wR ad cI ci) 7 132 [(0, .ref (ad 0)), (1, iv a1), (2, iv a2), (3, iv a3), (5, iv v5)] [iv s0] M := by
    intro r69 X69_140 hr69 hX69_140 v5 s0 M h
    unfold wB_Rspan_132 at h
    refine g_istore C dR_span_132 (by decide) rfl ?_
    refine g_locals (lv' := [(0, .ref (ad 0)), (1, iv a1), (2, iv a2), (3, iv a3), (4, iv s0), (5, iv v5)]) rfl ?_
    refine g_iinc C dR_span_134 rfl (by decide) rfl ?_
    refine g_locals (lv' := [(0, .ref (ad 0)), (1, iv a1), (2, iv a2), (3, iv a3), (4, iv s0), (5, iv (v5 + 1))]) rfl ?_
    refine g_goto C 69 dR_span_137 (by decide) ?_
    refine g_locals (lv' := [(0, .ref (ad 0)), (1, iv a1), (2, iv a2), (3, iv a3), (4, iv s0), (5, iv (v5 + 1))]) rfl ?_
    exact hr69 _ _  _ h
  have pC69 : ∀ (r69 : Int → Int → gSt → Prop) (X69_140 : Int → gSt → Prop) (hr69 : ∀ (v4 : Int) (v5 : Int) (M : gSt), r69 v4 v5 M → gG p l e (rmR 5 121) s m args below meth c Q D cl A (wR ad cI ci) 7 69 [(0, .ref (ad 0)), (1, iv a1), (2, iv a2), (3, iv a3), (4, iv v4), (5, iv v5)] [] M) (hX69_140 : ∀ (v4 : Int) (M : gSt), X69_140 v4 M → gG p l e (rmR 5 121) s m args below meth c Q D cl A (wR ad cI ci) 7 140 [(4, iv v4)] [] M) (v4 : Int) (v5 : Int) (M : gSt), wC_Rspan_69 a1 a2 a3 k r69 X69_140 v4 v5 M → gG p l e (rmR 5 121) s m args below meth c Q D cl A (wR ad cI ci) 7 69 [(0, .ref (ad 0)), (1, iv a1), (2, iv a2), (3, iv a3), (4, iv v4), (5, iv v5)] [] M := by
    intro r69 X69_140 hr69 hX69_140 v4 v5 M h
    unfold wC_Rspan_69 at h
    refine g_iload C dR_span_69 rfl ?_
    refine g_aload_n C dR_span_71 rfl ?_
    refine rf_many C hci dR_span_72 ?_
    refine g_icmp_ge C 140 dR_span_75 (by decide) (fun hc => ?_) (fun hc => ?_)
    · replace h := h.1 hc
      refine g_locals (lv' := [(4, iv v4)]) rfl ?_
      exact hX69_140 _  _ h
    · replace h := h.2 hc
      refine g_aload_n C dR_span_78 rfl ?_
      refine g_aload_n C dR_span_79 rfl ?_
      refine rf_fit C hci dR_span_80 ?_
      refine g_iload C dR_span_83 rfl ?_
      refine g_iald C (n := 64) dR_span_85 rfl (by decide) h.1 ?_
      replace h := h.2
      refine g_iload_n C dR_span_86 rfl ?_
      refine g_bipush C dR_span_87 rfl ?_
      refine g_iload_n C dR_span_89 rfl ?_
      refine g_iadd C dR_span_90 ?_
      refine g_callVi C (nargs := 3) (o := 0) (st := []) (m_Rafter hci h) rfl (by decide) hci rfl gd_after (by decide +kernel) ⟨rfl, rfl⟩ dR_span_91 ⟨by decide, by decide⟩ rfl rfl (Nat.le_of_ble_eq_true rfl) ?_
      intro r91c M91 hN
      replace h := hN
      clear hN
      refine g_istore C dR_span_94 (by decide) rfl ?_
      refine g_locals (lv' := [(0, .ref (ad 0)), (1, iv a1), (2, iv a2), (3, iv a3), (4, iv v4), (5, iv v5), (6, iv r91c)]) rfl ?_
      refine g_iload_n C dR_span_96 rfl ?_
      refine g_iconst C dR_span_97 ?_
      refine g_icmp_ne C 118 dR_span_98 (by decide) (fun hc => ?_) (fun hc => ?_)
      · replace h := h.1 hc
        refine g_iload C dR_span_118 rfl ?_
        refine g_iload C dR_span_120 rfl ?_
        refine g_icmp_ge C 130 dR_span_122 (by decide) (fun hc => ?_) (fun hc => ?_)
        · replace h := h.1 hc
          refine g_iload C dR_span_130 rfl ?_
          refine g_locals (lv' := [(0, .ref (ad 0)), (1, iv a1), (2, iv a2), (3, iv a3), (5, iv v5)]) rfl ?_
          exact pB132 r69 X69_140 hr69 hX69_140 _ _ _ h
        · replace h := h.2 hc
          refine g_iload C dR_span_125 rfl ?_
          refine g_goto C 132 dR_span_127 (by decide) ?_
          refine g_locals (lv' := [(0, .ref (ad 0)), (1, iv a1), (2, iv a2), (3, iv a3), (5, iv v5)]) rfl ?_
          exact pB132 r69 X69_140 hr69 hX69_140 _ _ _ h
      · replace h := h.2 hc
        refine g_iload C dR_span_101 rfl ?_
        refine g_iload C dR_span_103 rfl ?_
        refine g_icmp_le C 113 dR_span_105 (by decide) (fun hc => ?_) (fun hc => ?_)
        · replace h := h.1 hc
          refine g_iload C dR_span_113 rfl ?_
          refine g_goto C 132 dR_span_115 (by decide) ?_
          refine g_locals (lv' := [(0, .ref (ad 0)), (1, iv a1), (2, iv a2), (3, iv a3), (5, iv v5)]) rfl ?_
          exact pB132 r69 X69_140 hr69 hX69_140 _ _ _ h
        · replace h := h.2 hc
          refine g_iload C dR_span_108 rfl ?_
          refine g_goto C 132 dR_span_110 (by decide) ?_
          refine g_locals (lv' := [(0, .ref (ad 0)), (1, iv a1), (2, iv a2), (3, iv a3), (5, iv v5)]) rfl ?_
          exact pB132 r69 X69_140 hr69 hX69_140 _ _ _ h
  have pL69 : ∀  (X69_140 : Int → gSt → Prop) (hX69_140 : ∀ (v4 : Int) (M : gSt), X69_140 v4 M → gG p l e (rmR 5 121) s m args below meth c Q D cl A (wR ad cI ci) 7 140 [(4, iv v4)] [] M) (n : Nat) (v4 : Int) (v5 : Int) (M : gSt), wL_Rspan_69 a1 a2 a3 k  X69_140 n v4 v5 M → gG p l e (rmR 5 121) s m args below meth c Q D cl A (wR ad cI ci) 7 69 [(0, .ref (ad 0)), (1, iv a1), (2, iv a2), (3, iv a3), (4, iv v4), (5, iv v5)] [] M := by
    intro  X69_140 hX69_140 n
    induction n with
    | zero => intro v4 v5 M h; exact h.elim
    | succ n ih =>
      intro v4 v5 M h
      exact pC69  (wL_Rspan_69 a1 a2 a3 k  X69_140 n) X69_140 ih hX69_140 v4 v5 M h
  refine g_locals (lv' := [(0, .ref (ad 0)), (1, iv a1), (2, iv a2), (3, iv a3)]) rfl ?_
  unfold w_Rspan at h
  refine g_aload_n C dR_span_0 rfl ?_
  refine g_iload_n C dR_span_1 rfl ?_
  refine g_callVi C (nargs := 1) (o := 0) (st := []) (m_RisThing hci h) rfl (by decide) hci rfl gd_isThing (by decide +kernel) ⟨rfl, rfl⟩ dR_span_2 ⟨by decide, by decide⟩ rfl rfl (Nat.le_of_ble_eq_true rfl) ?_
  intro r2c M2 hN
  replace h := hN
  clear hN
  refine g_if_eq C 26 dR_span_5 (by decide) (fun hc => ?_) (fun hc => ?_)
  · replace h := h.1 hc
    refine g_locals (lv' := [(0, .ref (ad 0))]) rfl ?_
    exact pB26  _ h
  · replace h := h.2 hc
    refine g_iload_n C dR_span_8 rfl ?_
    refine g_iconst C dR_span_9 ?_
    refine g_iconst C dR_span_10 ?_
    refine g_callSi C (nargs := 3) (st := []) (m_Rin hci h) gd_in (by decide +kernel) ⟨rfl, rfl⟩ dR_span_11 ⟨by decide, by decide⟩ rfl rfl (Nat.le_of_ble_eq_true rfl) ?_
    intro r11c M11 hN
    replace h := hN
    clear hN
    refine g_if_eq C 26 dR_span_14 (by decide) (fun hc => ?_) (fun hc => ?_)
    · replace h := h.1 hc
      refine g_locals (lv' := [(0, .ref (ad 0))]) rfl ?_
      exact pB26  _ h
    · replace h := h.2 hc
      refine g_iload_n C dR_span_17 rfl ?_
      refine g_iconst C dR_span_18 ?_
      refine g_iconst C dR_span_19 ?_
      refine g_callSi C (nargs := 3) (st := []) (m_Rin hci h) gd_in (by decide +kernel) ⟨rfl, rfl⟩ dR_span_20 ⟨by decide, by decide⟩ rfl rfl (Nat.le_of_ble_eq_true rfl) ?_
      intro r20c M20 hN
      replace h := hN
      clear hN
      refine g_if_ne C 32 dR_span_23 (by decide) (fun hc => ?_) (fun hc => ?_)
      · replace h := h.1 hc
        refine g_aload_n C dR_span_32 rfl ?_
        refine g_callVv C (nargs := 0) (o := 0) (st := []) (m_RfindFits hci h) rfl (by decide) hci rfl gd_findFits (by decide +kernel) ⟨rfl, rfl⟩ dR_span_33 ⟨by decide, by decide⟩ rfl rfl (Nat.le_of_ble_eq_true rfl) ?_
        intro M33 hN
        replace h := hN
        clear hN
        refine g_aload_n C dR_span_36 rfl ?_
        refine rf_many C hci dR_span_37 ?_
        refine g_if_ne C 49 dR_span_40 (by decide) (fun hc => ?_) (fun hc => ?_)
        · replace h := h.1 hc
          refine g_aload_n C dR_span_49 rfl ?_
          refine g_aload_n C dR_span_50 rfl ?_
          refine rf_fit C hci dR_span_51 ?_
          refine g_iconst C dR_span_54 ?_
          refine g_iald C (n := 64) dR_span_55 rfl (by decide) ⟨by decide, by decide⟩ ?_
          refine g_iload_n C dR_span_56 rfl ?_
          refine g_bipush C dR_span_57 rfl ?_
          refine g_iload_n C dR_span_59 rfl ?_
          refine g_iadd C dR_span_60 ?_
          refine g_callVi C (nargs := 3) (o := 0) (st := []) (m_Rafter hci h) rfl (by decide) hci rfl gd_after (by decide +kernel) ⟨rfl, rfl⟩ dR_span_61 ⟨by decide, by decide⟩ rfl rfl (Nat.le_of_ble_eq_true rfl) ?_
          intro r61c M61 hN
          replace h := hN
          clear hN
          refine g_istore C dR_span_64 (by decide) rfl ?_
          refine g_locals (lv' := [(0, .ref (ad 0)), (1, iv a1), (2, iv a2), (3, iv a3), (4, iv r61c)]) rfl ?_
          refine g_iconst C dR_span_66 ?_
          refine g_istore C dR_span_67 (by decide) rfl ?_
          refine g_locals (lv' := [(0, .ref (ad 0)), (1, iv a1), (2, iv a2), (3, iv a3), (4, iv r61c), (5, iv 1)]) rfl ?_
          refine g_locals (lv' := [(0, .ref (ad 0)), (1, iv a1), (2, iv a2), (3, iv a3), (4, iv r61c), (5, iv 1)]) rfl ?_
          obtain ⟨n, h⟩ := h
          refine pL69 _ ?_ n _ _ _ h
          · intro u4_69 M69 hN
            replace h := hN
            clear hN
            refine g_iload C dR_span_140 rfl ?_
            exact hR _ _ _ _ dR_span_142 rfl h
        · replace h := h.2 hc
          refine g_aload_n C dR_span_43 rfl ?_
          refine g_iconst C dR_span_44 ?_
          refine g_callVi C (nargs := 1) (o := 0) (st := []) (m_Rerror hci h) rfl (by decide) hci rfl gd_error (by decide +kernel) ⟨rfl, rfl⟩ dR_span_45 ⟨by decide, by decide⟩ rfl rfl (Nat.le_of_ble_eq_true rfl) ?_
          intro r45c M45 hN
          replace h := hN
          clear hN
          exact hR _ _ _ _ dR_span_48 rfl h
      · replace h := h.2 hc
        refine g_locals (lv' := [(0, .ref (ad 0))]) rfl ?_
        exact pB26  _ h
