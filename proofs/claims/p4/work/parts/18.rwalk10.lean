def wb_RmeltsBy (rc : Nat → List Int → gSt → (Int → gSt → Prop) → Prop) (a1 : Int) (a2 : Int) (M : gSt) (k : Int → gSt → Prop) : Prop :=

  (wrap a1 = 0 →
    w_Rbegins 12 M (fun M39 => w_RkindNow  M39 (fun r44c M44 => w_RweighsBy r44c a2 M44 (fun r48c M48 => w_RmNow  M48 (fun r52c M52 => k (r48c - r52c) M52))))) ∧
  (wrap a1 = 3 →
    w_Rbegins 40 M (fun M60 => w_Rabove 3 M60 (fun r65c M65 => rc 0 [r65c, Int.tdiv (wrap a2) 2] M65 (fun r71c M71 => k r71c M71)))) ∧
  (wrap a1 = 4 →
    w_Rbegins 51 M (fun M78 => w_Rabove 4 M78 (fun r83c M83 => rc 0 [r83c, a2] M83 (fun r87c M87 => k (xxor r87c (M87 0 17)) M87)))) ∧
  (¬ wrap a1 = 0 ∧ ¬ wrap a1 = 3 ∧ ¬ wrap a1 = 4 →
    w_Rabove a1 M (fun r98c M98 => rc 0 [r98c, a2] M98 (fun r102c M102 => k r102c M102)))
set_option maxHeartbeats 4000000 in
set_option maxRecDepth 100000 in
theorem mb_RmeltsBy {l : Launch} {D : va_G} {cl : List vw_C} {tys : List (ClassId × FieldType)} {ad : Nat → Nat} {cI : ClassId} {ci : Nat} {Z : (Nat → Prop) → State → Prop} (hci : cl[ci]? = some (RX9, TX9, 23)) {rc : Nat → List Int → gSt → (Int → gSt → Prop) → Prop} {a1 : Int} {a2 : Int} {d : Nat} (hrc0 : ∀ {a1 a2 : Int} {M : gSt} {k : Int → gSt → Prop}, rc 0 [a1, a2] M k → MOi l yX9_meltsBy cX9_meltsBy 3 .int (rmR (d + 19) (d * 22 + 417)) D cl ((cI, .int) :: tys) (wR ad cI ci) tR Z [.ref (ad 0), iv a1, iv a2] M k) {M : gSt} {k : Int → gSt → Prop} (h : wb_RmeltsBy rc a1 a2 M k) : MOi l yX9_meltsBy cX9_meltsBy 3 .int (rmR (d + 1 + 19) ((d + 1) * 22 + 417)) D cl ((cI, .int) :: tys) (wR ad cI ci) tR Z [.ref (ad 0), iv a1, iv a2] M k := by
  refine moi_intro (by decide +kernel) (Nat.le_of_ble_eq_true rfl) wi_282 ?_
  intro p e s m args below meth c A Q C hR
  refine g_locals (lv' := [(0, .ref (ad 0)), (1, iv a1), (2, iv a2)]) rfl ?_
  unfold wb_RmeltsBy at h
  refine g_iload_n C dR_meltsBy_0 rfl ?_
  by_cases hc0 : wrap a1 = 0
  · refine g_tableIn C 36 dR_meltsBy_1 (by omega) (by omega) (by rw [hc0] <;> rfl) (by decide) ?_
    replace h := h.1 hc0
    refine g_aload_n C dR_meltsBy_36 rfl ?_
    refine g_bipush C dR_meltsBy_37 rfl ?_
    refine g_callVv C (nargs := 1) (o := 0) (st := []) (m_Rbegins hci h) rfl (by decide) hci rfl gd_begins (by decide +kernel) ⟨rfl, rfl⟩ dR_meltsBy_39 ⟨by simp only [rmR]; omega, by simp only [rmR]; omega⟩ rfl rfl (Nat.le_of_ble_eq_true rfl) ?_
    intro M39 hN
    replace h := hN
    clear hN
    refine g_aload_n C dR_meltsBy_42 rfl ?_
    refine g_aload_n C dR_meltsBy_43 rfl ?_
    refine g_callVi C (nargs := 0) (o := 0) (st := [.ref (ad 0)]) (m_RkindNow hci h) rfl (by decide) hci rfl gd_kindNow (by decide +kernel) ⟨rfl, rfl⟩ dR_meltsBy_44 ⟨by simp only [rmR]; omega, by simp only [rmR]; omega⟩ rfl rfl (Nat.le_of_ble_eq_true rfl) ?_
    intro r44c M44 hN
    replace h := hN
    clear hN
    refine g_iload_n C dR_meltsBy_47 rfl ?_
    refine g_callVi C (nargs := 2) (o := 0) (st := []) (m_RweighsBy hci h) rfl (by decide) hci rfl gd_weighsBy (by decide +kernel) ⟨rfl, rfl⟩ dR_meltsBy_48 ⟨by simp only [rmR]; omega, by simp only [rmR]; omega⟩ rfl rfl (Nat.le_of_ble_eq_true rfl) ?_
    intro r48c M48 hN
    replace h := hN
    clear hN
    refine g_aload_n C dR_meltsBy_51 rfl ?_
    refine g_callVi C (nargs := 0) (o := 0) (st := [iv r48c]) (m_RmNow hci h) rfl (by decide) hci rfl gd_mNow (by decide +kernel) ⟨rfl, rfl⟩ dR_meltsBy_52 ⟨by simp only [rmR]; omega, by simp only [rmR]; omega⟩ rfl rfl (Nat.le_of_ble_eq_true rfl) ?_
    intro r52c M52 hN
    replace h := hN
    clear hN
    refine g_isub C dR_meltsBy_55 ?_
    exact hR _ _ _ _ dR_meltsBy_56 rfl h
  · by_cases hc3 : wrap a1 = 3
    · refine g_tableIn C 57 dR_meltsBy_1 (by omega) (by omega) (by rw [hc3] <;> rfl) (by decide) ?_
      replace h := h.2.1 hc3
      refine g_aload_n C dR_meltsBy_57 rfl ?_
      refine g_bipush C dR_meltsBy_58 rfl ?_
      refine g_callVv C (nargs := 1) (o := 0) (st := []) (m_Rbegins hci h) rfl (by decide) hci rfl gd_begins (by decide +kernel) ⟨rfl, rfl⟩ dR_meltsBy_60 ⟨by simp only [rmR]; omega, by simp only [rmR]; omega⟩ rfl rfl (Nat.le_of_ble_eq_true rfl) ?_
      intro M60 hN
      replace h := hN
      clear hN
      refine g_aload_n C dR_meltsBy_63 rfl ?_
      refine g_iconst C dR_meltsBy_64 ?_
      refine g_callSi C (nargs := 1) (st := [.ref (ad 0)]) (m_Rabove hci h) gd_above (by decide +kernel) ⟨rfl, rfl⟩ dR_meltsBy_65 ⟨by simp only [rmR]; omega, by simp only [rmR]; omega⟩ rfl rfl (Nat.le_of_ble_eq_true rfl) ?_
      intro r65c M65 hN
      replace h := hN
      clear hN
      refine g_iload_n C dR_meltsBy_68 rfl ?_
      refine g_iconst C dR_meltsBy_69 ?_
      refine g_idiv C dR_meltsBy_70 (by decide) ?_
      refine g_top (y := Int.tdiv (wrap a2) 2) rfl ?_
      refine g_callVi C (nargs := 2) (o := 0) (st := []) (hrc0 h) rfl (by decide) hci rfl gd_meltsBy (by decide +kernel) ⟨rfl, rfl⟩ dR_meltsBy_71 ⟨by simp only [rmR]; omega, by simp only [rmR]; omega⟩ rfl rfl (Nat.le_of_ble_eq_true rfl) ?_
      intro r71c M71 hN
      replace h := hN
      clear hN
      exact hR _ _ _ _ dR_meltsBy_74 rfl h
    · by_cases hc4 : wrap a1 = 4
      · refine g_tableIn C 75 dR_meltsBy_1 (by omega) (by omega) (by rw [hc4] <;> rfl) (by decide) ?_
        replace h := h.2.2.1 hc4
        refine g_aload_n C dR_meltsBy_75 rfl ?_
        refine g_bipush C dR_meltsBy_76 rfl ?_
        refine g_callVv C (nargs := 1) (o := 0) (st := []) (m_Rbegins hci h) rfl (by decide) hci rfl gd_begins (by decide +kernel) ⟨rfl, rfl⟩ dR_meltsBy_78 ⟨by simp only [rmR]; omega, by simp only [rmR]; omega⟩ rfl rfl (Nat.le_of_ble_eq_true rfl) ?_
        intro M78 hN
        replace h := hN
        clear hN
        refine g_aload_n C dR_meltsBy_81 rfl ?_
        refine g_iconst C dR_meltsBy_82 ?_
        refine g_callSi C (nargs := 1) (st := [.ref (ad 0)]) (m_Rabove hci h) gd_above (by decide +kernel) ⟨rfl, rfl⟩ dR_meltsBy_83 ⟨by simp only [rmR]; omega, by simp only [rmR]; omega⟩ rfl rfl (Nat.le_of_ble_eq_true rfl) ?_
        intro r83c M83 hN
        replace h := hN
        clear hN
        refine g_iload_n C dR_meltsBy_86 rfl ?_
        refine g_callVi C (nargs := 2) (o := 0) (st := []) (hrc0 h) rfl (by decide) hci rfl gd_meltsBy (by decide +kernel) ⟨rfl, rfl⟩ dR_meltsBy_87 ⟨by simp only [rmR]; omega, by simp only [rmR]; omega⟩ rfl rfl (Nat.le_of_ble_eq_true rfl) ?_
        intro r87c M87 hN
        replace h := hN
        clear hN
        refine g_aload_n C dR_meltsBy_90 rfl ?_
        refine rf_speaks C hci dR_meltsBy_91 ?_
        refine g_ixor C dR_meltsBy_94 ?_
        exact hR _ _ _ _ dR_meltsBy_95 rfl h
      · by_cases hin : 0 ≤ wrap a1 ∧ wrap a1 ≤ 4
        · refine g_tableIn C (off := 95) 96 dR_meltsBy_1 hin.1 hin.2 ?_ (by decide) ?_
          · have hj : (wrap a1 - 0).toNat < 5 := by omega
            have hq0 : ¬ (wrap a1 - 0).toNat = 0 := by omega
            have hq3 : ¬ (wrap a1 - 0).toNat = 3 := by omega
            have hq4 : ¬ (wrap a1 - 0).toNat = 4 := by omega
            generalize (wrap a1 - 0).toNat = j at *
            have key : ∀ j : Nat, j < 5 → (¬ j = 0 ∧ ¬ j = 3 ∧ ¬ j = 4) → (#[35, 95, 95, 56, 74] : Array Int)[j]? = some 95 := by decide
            exact key j hj ⟨hq0, hq3, hq4⟩
          · replace h := h.2.2.2 ⟨hc0, hc3, hc4⟩
            refine g_aload_n C dR_meltsBy_96 rfl ?_
            refine g_iload_n C dR_meltsBy_97 rfl ?_
            refine g_callSi C (nargs := 1) (st := [.ref (ad 0)]) (m_Rabove hci h) gd_above (by decide +kernel) ⟨rfl, rfl⟩ dR_meltsBy_98 ⟨by simp only [rmR]; omega, by simp only [rmR]; omega⟩ rfl rfl (Nat.le_of_ble_eq_true rfl) ?_
            intro r98c M98 hN
            replace h := hN
            clear hN
            refine g_iload_n C dR_meltsBy_101 rfl ?_
            refine g_callVi C (nargs := 2) (o := 0) (st := []) (hrc0 h) rfl (by decide) hci rfl gd_meltsBy (by decide +kernel) ⟨rfl, rfl⟩ dR_meltsBy_102 ⟨by simp only [rmR]; omega, by simp only [rmR]; omega⟩ rfl rfl (Nat.le_of_ble_eq_true rfl) ?_
            intro r102c M102 hN
            replace h := hN
            clear hN
            exact hR _ _ _ _ dR_meltsBy_105 rfl h
        · refine g_tableOut C 96 dR_meltsBy_1 (by omega) (by decide) ?_
          replace h := h.2.2.2 ⟨hc0, hc3, hc4⟩
          refine g_aload_n C dR_meltsBy_96 rfl ?_
          refine g_iload_n C dR_meltsBy_97 rfl ?_
          refine g_callSi C (nargs := 1) (st := [.ref (ad 0)]) (m_Rabove hci h) gd_above (by decide +kernel) ⟨rfl, rfl⟩ dR_meltsBy_98 ⟨by simp only [rmR]; omega, by simp only [rmR]; omega⟩ rfl rfl (Nat.le_of_ble_eq_true rfl) ?_
          intro r98c M98 hN
          replace h := hN
          clear hN
          refine g_iload_n C dR_meltsBy_101 rfl ?_
          refine g_callVi C (nargs := 2) (o := 0) (st := []) (hrc0 h) rfl (by decide) hci rfl gd_meltsBy (by decide +kernel) ⟨rfl, rfl⟩ dR_meltsBy_102 ⟨by simp only [rmR]; omega, by simp only [rmR]; omega⟩ rfl rfl (Nat.le_of_ble_eq_true rfl) ?_
          intro r102c M102 hN
          replace h := hN
          clear hN
          exact hR _ _ _ _ dR_meltsBy_105 rfl h
def wg_RmeltsBy : Nat → Nat → List Int → gSt → (Int → gSt → Prop) → Prop
  | 0 => fun _ _ _ _ => False
  | d + 1 => fun i xs M k => match i, xs with
    | 0, [a1, a2] => wb_RmeltsBy (wg_RmeltsBy d) a1 a2 M k
    | _, _ => False
theorem mg_RmeltsBy {l : Launch} {D : va_G} {cl : List vw_C} {tys : List (ClassId × FieldType)} {ad : Nat → Nat} {cI : ClassId} {ci : Nat} {Z : (Nat → Prop) → State → Prop} (hci : cl[ci]? = some (RX9, TX9, 23)) (d : Nat) : (∀ {a1 a2 : Int} {M : gSt} {k : Int → gSt → Prop}, wg_RmeltsBy d 0 [a1, a2] M k → MOi l yX9_meltsBy cX9_meltsBy 3 .int (rmR (d + 19) (d * 22 + 417)) D cl ((cI, .int) :: tys) (wR ad cI ci) tR Z [.ref (ad 0), iv a1, iv a2] M k) := by
  induction d with
  | zero => exact fun h => False.elim h
  | succ d ih => exact fun h => mb_RmeltsBy hci (rc := wg_RmeltsBy d) ih h
def w_RmeltsBy (a1 a2 : Int) (M : gSt) (k : Int → gSt → Prop) : Prop := wg_RmeltsBy 8 0 [a1, a2] M k
theorem m_RmeltsBy {l : Launch} {D : va_G} {cl : List vw_C} {tys : List (ClassId × FieldType)} {ad : Nat → Nat} {cI : ClassId} {ci : Nat} {Z : (Nat → Prop) → State → Prop} (hci : cl[ci]? = some (RX9, TX9, 23)) {a1 a2 : Int} {M : gSt} {k : Int → gSt → Prop} (h : w_RmeltsBy a1 a2 M k) : MOi l yX9_meltsBy cX9_meltsBy 3 .int (rmR 27 593) D cl ((cI, .int) :: tys) (wR ad cI ci) tR Z [.ref (ad 0), iv a1, iv a2] M k := (mg_RmeltsBy hci 8) h
def wB_RpartsBy_54 (rc : Nat → List Int → gSt → (Int → gSt → Prop) → Prop) (a1 : Int) (a2 : Int) (k : Int → gSt → Prop)  (v3 : Int) (s0 : Int) (M : gSt) : Prop :=
(s0 = 0 ∨ s0 = 1) ∧ (∀ M54 : gSt, M54 = wr M 0 18 s0 → (
  (¬ wrap v3 = 0 →

    (¬ wrap v3 = (-1) →
      (wrap v3 ≠ 0) ∧ (k (Int.tdiv (wrap a2) (wrap v3)) M54)) ∧
    (wrap v3 = (-1) →
      k (-a2) M54)) ∧
  (wrap v3 = 0 →
    k 0 M54)))
def wb_RpartsBy (rc : Nat → List Int → gSt → (Int → gSt → Prop) → Prop) (a1 : Int) (a2 : Int) (M : gSt) (k : Int → gSt → Prop) : Prop :=

  (wrap a1 = 0 →
    w_Rbegins 13 M (fun M31 => w_RmNow  M31 (fun r35c M35 => ∀ x3_43 : Int, x3_43 = r35c - (M35 0 17) → (
    (¬ wrap x3_43 = 0 →
      wB_RpartsBy_54 rc a1 a2 k  x3_43 0 M35) ∧
    (wrap x3_43 = 0 →
      wB_RpartsBy_54 rc a1 a2 k  x3_43 1 M35))))) ∧
  (wrap a1 = 1 →
    w_Rbegins 21 M (fun M82 => w_Rabove 1 M82 (fun r87c M87 => rc 0 [r87c, a2] M87 (fun r91c M91 => 
    (wrap (M91 0 18) = 0 →
      w_RkindNow  M91 (fun r111c M111 => w_RweighsBy r111c 1 M111 (fun r115c M115 => k (r91c + r115c) M115))) ∧
    (¬ wrap (M91 0 18) = 0 →
      k 0 M91))))) ∧
  (¬ wrap a1 = 0 ∧ ¬ wrap a1 = 1 →
    w_Rabove a1 M (fun r122c M122 => rc 0 [r122c, a2] M122 (fun r126c M126 => k r126c M126)))
set_option maxHeartbeats 4000000 in
set_option maxRecDepth 100000 in
theorem mb_RpartsBy {l : Launch} {D : va_G} {cl : List vw_C} {tys : List (ClassId × FieldType)} {ad : Nat → Nat} {cI : ClassId} {ci : Nat} {Z : (Nat → Prop) → State → Prop} (hci : cl[ci]? = some (RX9, TX9, 23)) {rc : Nat → List Int → gSt → (Int → gSt → Prop) → Prop} {a1 : Int} {a2 : Int} {d : Nat} (hrc0 : ∀ {a1 a2 : Int} {M : gSt} {k : Int → gSt → Prop}, rc 0 [a1, a2] M k → MOi l yX9_partsBy cX9_partsBy 5 .int (rmR (d + 19) (d * 24 + 417)) D cl ((cI, .int) :: tys) (wR ad cI ci) tR Z [.ref (ad 0), iv a1, iv a2] M k) {M : gSt} {k : Int → gSt → Prop} (h : wb_RpartsBy rc a1 a2 M k) : MOi l yX9_partsBy cX9_partsBy 5 .int (rmR (d + 1 + 19) ((d + 1) * 24 + 417)) D cl ((cI, .int) :: tys) (wR ad cI ci) tR Z [.ref (ad 0), iv a1, iv a2] M k := by
  refine moi_intro (by decide +kernel) (Nat.le_of_ble_eq_true rfl) wi_287 ?_
  intro p e s m args below meth c A Q C hR
  have pB54 : ∀   (v3 : Int) (s0 : Int) (M : gSt), wB_RpartsBy_54 rc a1 a2 k  v3 s0 M → gG p l e (rmR (d + 1 + 19) ((d + 1) * 24 + 417)) s m args below meth c Q D cl A (wR ad cI ci) 5 54 [(2, iv a2), (3, iv v3)] [iv s0, .ref (ad 0)] M := by
    intro   v3 s0 M h
    unfold wB_RpartsBy_54 at h
    refine rp_isParted C hci dR_partsBy_54 (zn_bool h.1) ?_
    replace h := h.2
    refine g_memname (fun M54 hM54 => ?_)
    replace h := h M54 hM54
    refine g_iload_n C dR_partsBy_57 rfl ?_
    refine g_if_ne C 65 dR_partsBy_58 (by decide) (fun hc => ?_) (fun hc => ?_)
    · replace h := h.1 hc
      refine g_iload_n C dR_partsBy_65 rfl ?_
      refine g_iconst C dR_partsBy_66 ?_
      refine g_icmp_ne C 75 dR_partsBy_67 (by decide) (fun hc => ?_) (fun hc => ?_)
      · replace h := h.1 hc
        refine g_iload_n C dR_partsBy_75 rfl ?_
        refine g_iload_n C dR_partsBy_76 rfl ?_
        refine g_idiv C dR_partsBy_77 h.1 ?_
        replace h := h.2
        refine g_top (y := Int.tdiv (wrap a2) (wrap v3)) rfl ?_
        exact hR _ _ _ _ dR_partsBy_78 rfl h
      · replace h := h.2 hc
        refine g_iload_n C dR_partsBy_70 rfl ?_
        refine g_ineg C dR_partsBy_71 ?_
        refine g_goto C 78 dR_partsBy_72 (by decide) ?_
        exact hR _ _ _ _ dR_partsBy_78 rfl h
    · replace h := h.2 hc
      refine g_iconst C dR_partsBy_61 ?_
      refine g_goto C 78 dR_partsBy_62 (by decide) ?_
      exact hR _ _ _ _ dR_partsBy_78 rfl h
  refine g_locals (lv' := [(0, .ref (ad 0)), (1, iv a1), (2, iv a2)]) rfl ?_
  unfold wb_RpartsBy at h
  refine g_iload_n C dR_partsBy_0 rfl ?_
  by_cases hc0 : wrap a1 = 0
  · refine g_lookup C 28 dR_partsBy_1 (by decide) (by rw [hc0] <;> rfl) (by decide) ?_
    replace h := h.1 hc0
    refine g_aload_n C dR_partsBy_28 rfl ?_
    refine g_bipush C dR_partsBy_29 rfl ?_
    refine g_callVv C (nargs := 1) (o := 0) (st := []) (m_Rbegins hci h) rfl (by decide) hci rfl gd_begins (by decide +kernel) ⟨rfl, rfl⟩ dR_partsBy_31 ⟨by simp only [rmR]; omega, by simp only [rmR]; omega⟩ rfl rfl (Nat.le_of_ble_eq_true rfl) ?_
    intro M31 hN
    replace h := hN
    clear hN
    refine g_aload_n C dR_partsBy_34 rfl ?_
    refine g_callVi C (nargs := 0) (o := 0) (st := []) (m_RmNow hci h) rfl (by decide) hci rfl gd_mNow (by decide +kernel) ⟨rfl, rfl⟩ dR_partsBy_35 ⟨by simp only [rmR]; omega, by simp only [rmR]; omega⟩ rfl rfl (Nat.le_of_ble_eq_true rfl) ?_
    intro r35c M35 hN
    replace h := hN
    clear hN
    refine g_aload_n C dR_partsBy_38 rfl ?_
    refine rf_speaks C hci dR_partsBy_39 ?_
    refine g_isub C dR_partsBy_42 ?_
    refine g_name (fun x3_43 hx3_43 => ?_)
    replace h := h x3_43 hx3_43
    refine g_istore_n C dR_partsBy_43 (by decide) rfl ?_
    refine g_locals (lv' := [(0, .ref (ad 0)), (1, iv a1), (2, iv a2), (3, iv x3_43)]) rfl ?_
    refine g_aload_n C dR_partsBy_44 rfl ?_
    refine g_iload_n C dR_partsBy_45 rfl ?_
    refine g_if_ne C 53 dR_partsBy_46 (by decide) (fun hc => ?_) (fun hc => ?_)
    · replace h := h.1 hc
      refine g_iconst C dR_partsBy_53 ?_
      refine g_locals (lv' := [(2, iv a2), (3, iv x3_43)]) rfl ?_
      exact pB54 _ _ _ h
    · replace h := h.2 hc
      refine g_iconst C dR_partsBy_49 ?_
      refine g_goto C 54 dR_partsBy_50 (by decide) ?_
      refine g_locals (lv' := [(2, iv a2), (3, iv x3_43)]) rfl ?_
      exact pB54 _ _ _ h
  · by_cases hc1 : wrap a1 = 1
    · refine g_lookup C 79 dR_partsBy_1 (by decide) (by rw [hc1] <;> rfl) (by decide) ?_
      replace h := h.2.1 hc1
      refine g_aload_n C dR_partsBy_79 rfl ?_
      refine g_bipush C dR_partsBy_80 rfl ?_
      refine g_callVv C (nargs := 1) (o := 0) (st := []) (m_Rbegins hci h) rfl (by decide) hci rfl gd_begins (by decide +kernel) ⟨rfl, rfl⟩ dR_partsBy_82 ⟨by simp only [rmR]; omega, by simp only [rmR]; omega⟩ rfl rfl (Nat.le_of_ble_eq_true rfl) ?_
      intro M82 hN
      replace h := hN
      clear hN
      refine g_aload_n C dR_partsBy_85 rfl ?_
      refine g_iconst C dR_partsBy_86 ?_
      refine g_callSi C (nargs := 1) (st := [.ref (ad 0)]) (m_Rabove hci h) gd_above (by decide +kernel) ⟨rfl, rfl⟩ dR_partsBy_87 ⟨by simp only [rmR]; omega, by simp only [rmR]; omega⟩ rfl rfl (Nat.le_of_ble_eq_true rfl) ?_
      intro r87c M87 hN
      replace h := hN
      clear hN
      refine g_iload_n C dR_partsBy_90 rfl ?_
      refine g_callVi C (nargs := 2) (o := 0) (st := []) (hrc0 h) rfl (by decide) hci rfl gd_partsBy (by decide +kernel) ⟨rfl, rfl⟩ dR_partsBy_91 ⟨by simp only [rmR]; omega, by simp only [rmR]; omega⟩ rfl rfl (Nat.le_of_ble_eq_true rfl) ?_
      intro r91c M91 hN
      replace h := hN
      clear hN
      refine g_istore C dR_partsBy_94 (by decide) rfl ?_
      refine g_locals (lv' := [(0, .ref (ad 0)), (1, iv a1), (2, iv a2), (4, iv r91c)]) rfl ?_
      refine g_aload_n C dR_partsBy_96 rfl ?_
      refine rf_isParted C hci dR_partsBy_97 ?_
      refine g_if_eq C 107 dR_partsBy_100 (by decide) (fun hc => ?_) (fun hc => ?_)
      · replace h := h.1 hc
        refine g_iload C dR_partsBy_107 rfl ?_
        refine g_aload_n C dR_partsBy_109 rfl ?_
        refine g_aload_n C dR_partsBy_110 rfl ?_
        refine g_callVi C (nargs := 0) (o := 0) (st := [.ref (ad 0), iv r91c]) (m_RkindNow hci h) rfl (by decide) hci rfl gd_kindNow (by decide +kernel) ⟨rfl, rfl⟩ dR_partsBy_111 ⟨by simp only [rmR]; omega, by simp only [rmR]; omega⟩ rfl rfl (Nat.le_of_ble_eq_true rfl) ?_
        intro r111c M111 hN
        replace h := hN
        clear hN
        refine g_iconst C dR_partsBy_114 ?_
        refine g_callVi C (nargs := 2) (o := 0) (st := [iv r91c]) (m_RweighsBy hci h) rfl (by decide) hci rfl gd_weighsBy (by decide +kernel) ⟨rfl, rfl⟩ dR_partsBy_115 ⟨by simp only [rmR]; omega, by simp only [rmR]; omega⟩ rfl rfl (Nat.le_of_ble_eq_true rfl) ?_
        intro r115c M115 hN
        replace h := hN
        clear hN
        refine g_iadd C dR_partsBy_118 ?_
        exact hR _ _ _ _ dR_partsBy_119 rfl h
      · replace h := h.2 hc
        refine g_iconst C dR_partsBy_103 ?_
        refine g_goto C 119 dR_partsBy_104 (by decide) ?_
        exact hR _ _ _ _ dR_partsBy_119 rfl h
    · refine g_lookup C (off := 119) 120 dR_partsBy_1 (by decide) (by simp [Op.lookupswitch.offset, Ne.symm hc0, Ne.symm hc1]) (by decide) ?_
      replace h := h.2.2 ⟨hc0, hc1⟩
      refine g_aload_n C dR_partsBy_120 rfl ?_
      refine g_iload_n C dR_partsBy_121 rfl ?_
      refine g_callSi C (nargs := 1) (st := [.ref (ad 0)]) (m_Rabove hci h) gd_above (by decide +kernel) ⟨rfl, rfl⟩ dR_partsBy_122 ⟨by simp only [rmR]; omega, by simp only [rmR]; omega⟩ rfl rfl (Nat.le_of_ble_eq_true rfl) ?_
      intro r122c M122 hN
      replace h := hN
      clear hN
      refine g_iload_n C dR_partsBy_125 rfl ?_
      refine g_callVi C (nargs := 2) (o := 0) (st := []) (hrc0 h) rfl (by decide) hci rfl gd_partsBy (by decide +kernel) ⟨rfl, rfl⟩ dR_partsBy_126 ⟨by simp only [rmR]; omega, by simp only [rmR]; omega⟩ rfl rfl (Nat.le_of_ble_eq_true rfl) ?_
      intro r126c M126 hN
      replace h := hN
      clear hN
      exact hR _ _ _ _ dR_partsBy_129 rfl h
def wg_RpartsBy : Nat → Nat → List Int → gSt → (Int → gSt → Prop) → Prop
  | 0 => fun _ _ _ _ => False
  | d + 1 => fun i xs M k => match i, xs with
    | 0, [a1, a2] => wb_RpartsBy (wg_RpartsBy d) a1 a2 M k
    | _, _ => False
theorem mg_RpartsBy {l : Launch} {D : va_G} {cl : List vw_C} {tys : List (ClassId × FieldType)} {ad : Nat → Nat} {cI : ClassId} {ci : Nat} {Z : (Nat → Prop) → State → Prop} (hci : cl[ci]? = some (RX9, TX9, 23)) (d : Nat) : (∀ {a1 a2 : Int} {M : gSt} {k : Int → gSt → Prop}, wg_RpartsBy d 0 [a1, a2] M k → MOi l yX9_partsBy cX9_partsBy 5 .int (rmR (d + 19) (d * 24 + 417)) D cl ((cI, .int) :: tys) (wR ad cI ci) tR Z [.ref (ad 0), iv a1, iv a2] M k) := by
  induction d with
  | zero => exact fun h => False.elim h
  | succ d ih => exact fun h => mb_RpartsBy hci (rc := wg_RpartsBy d) ih h
def w_RpartsBy (a1 a2 : Int) (M : gSt) (k : Int → gSt → Prop) : Prop := wg_RpartsBy 8 0 [a1, a2] M k
theorem m_RpartsBy {l : Launch} {D : va_G} {cl : List vw_C} {tys : List (ClassId × FieldType)} {ad : Nat → Nat} {cI : ClassId} {ci : Nat} {Z : (Nat → Prop) → State → Prop} (hci : cl[ci]? = some (RX9, TX9, 23)) {a1 a2 : Int} {M : gSt} {k : Int → gSt → Prop} (h : w_RpartsBy a1 a2 M k) : MOi l yX9_partsBy cX9_partsBy 5 .int (rmR 27 609) D cl ((cI, .int) :: tys) (wR ad cI ci) tR Z [.ref (ad 0), iv a1, iv a2] M k := (mg_RpartsBy hci 8) h
def wB_Rvoice_17 (a1 : Int) (a2 : Int) (a3 : Int) (k : Int → gSt → Prop)   (M : gSt) : Prop :=
w_Rerror 1 M (fun r19c M19 => k r19c M19)
def wB_Rvoice_95 (a1 : Int) (a2 : Int) (a3 : Int) (k : Int → gSt → Prop)  (s0 : Int) (M : gSt) : Prop :=

  (wrap (M 0 18) = 0 →
    k s0 M) ∧
  (¬ wrap (M 0 18) = 0 →
    w_Rerror 6 M (fun r107c M107 => k r107c M107))
def w_Rvoice (a1 : Int) (a2 : Int) (a3 : Int) (M : gSt) (k : Int → gSt → Prop) : Prop :=
w_RisThing a1 M (fun r2c M2 => 
  (wrap r2c = 0 →
    wB_Rvoice_17 a1 a2 a3 k   M2) ∧
  (¬ wrap r2c = 0 →
    w_Rin a2 0 3 M2 (fun r11c M11 => 
    (¬ wrap r11c = 0 →
      ∀ M25 : gSt, M25 = wr M11 0 16 0 → (∀ M30 : gSt, M30 = wr M25 0 17 a1 → (∀ M35 : gSt, M35 = wr M30 0 18 0 → (w_RkindNow  M35 (fun r39c M39 => 
      (¬ wrap a2 = 0 →

        (¬ wrap a2 = 1 →

          (¬ wrap a2 = 2 →
            w_RpartsBy r39c a3 M39 (fun r92c M92 => wB_Rvoice_95 a1 a2 a3 k  r92c M92)) ∧
          (wrap a2 = 2 →
            w_RmeltsBy r39c a3 M39 (fun r82c M82 => wB_Rvoice_95 a1 a2 a3 k  r82c M82))) ∧
        (wrap a2 = 1 →
          w_RweighsBy r39c a3 M39 (fun r67c M67 => wB_Rvoice_95 a1 a2 a3 k  r67c M67))) ∧
      (wrap a2 = 0 →
        w_RringsBy r39c a3 M39 (fun r52c M52 => wB_Rvoice_95 a1 a2 a3 k  r52c M52))))))) ∧
    (wrap r11c = 0 →
      wB_Rvoice_17 a1 a2 a3 k   M11))))
set_option maxHeartbeats 4000000 in
set_option maxRecDepth 100000 in
theorem m_Rvoice {l : Launch} {D : va_G} {cl : List vw_C} {tys : List (ClassId × FieldType)} {ad : Nat → Nat} {cI : ClassId} {ci : Nat} {Z : (Nat → Prop) → State → Prop} (hci : cl[ci]? = some (RX9, TX9, 23)) {a1 : Int} {a2 : Int} {a3 : Int} {M : gSt} {k : Int → gSt → Prop} (h : w_Rvoice a1 a2 a3 M k) : MOi l yX9_voice cX9_voice 6 .int (rmR 28 633) D cl ((cI, .int) :: tys) (wR ad cI ci) tR Z [.ref (ad 0), iv a1, iv a2, iv a3] M k := by
  refine moi_intro (by decide +kernel) (Nat.le_of_ble_eq_true rfl) wi_288 ?_
  intro p e s m args below meth c A Q C hR
  have pB17 : ∀    (M : gSt), wB_Rvoice_17 a1 a2 a3 k   M → gG p l e (rmR 28 633) s m args below meth c Q D cl A (wR ad cI ci) 6 17 [(0, .ref (ad 0))] [] M := by
    intro    M h
    unfold wB_Rvoice_17 at h
    refine g_aload_n C dR_voice_17 rfl ?_
    refine g_iconst C dR_voice_18 ?_
    refine g_callVi C (nargs := 1) (o := 0) (st := []) (m_Rerror hci h) rfl (by decide) hci rfl gd_error (by decide +kernel) ⟨rfl, rfl⟩ dR_voice_19 ⟨by decide, by decide⟩ rfl rfl (Nat.le_of_ble_eq_true rfl) ?_
    intro r19c M19 hN
    replace h := hN
    clear hN
    exact hR _ _ _ _ dR_voice_22 rfl h
  have pB95 : ∀   (s0 : Int) (M : gSt), wB_Rvoice_95 a1 a2 a3 k  s0 M → gG p l e (rmR 28 633) s m args below meth c Q D cl A (wR ad cI ci) 6 95 [(0, .ref (ad 0))] [iv s0] M := by
    intro   s0 M h
    unfold wB_Rvoice_95 at h
    refine g_istore C dR_voice_95 (by decide) rfl ?_
    refine g_locals (lv' := [(0, .ref (ad 0)), (5, iv s0)]) rfl ?_
    refine g_aload_n C dR_voice_97 rfl ?_
    refine rf_isParted C hci dR_voice_98 ?_
    refine g_if_eq C 113 dR_voice_101 (by decide) (fun hc => ?_) (fun hc => ?_)
    · replace h := h.1 hc
      refine g_iload C dR_voice_113 rfl ?_
      exact hR _ _ _ _ dR_voice_115 rfl h
    · replace h := h.2 hc
      refine g_aload_n C dR_voice_104 rfl ?_
      refine g_bipush C dR_voice_105 rfl ?_
      refine g_callVi C (nargs := 1) (o := 0) (st := []) (m_Rerror hci h) rfl (by decide) hci rfl gd_error (by decide +kernel) ⟨rfl, rfl⟩ dR_voice_107 ⟨by decide, by decide⟩ rfl rfl (Nat.le_of_ble_eq_true rfl) ?_
      intro r107c M107 hN
      replace h := hN
      clear hN
      refine g_goto C 115 dR_voice_110 (by decide) ?_
      exact hR _ _ _ _ dR_voice_115 rfl h
  refine g_locals (lv' := [(0, .ref (ad 0)), (1, iv a1), (2, iv a2), (3, iv a3)]) rfl ?_
  unfold w_Rvoice at h
  refine g_aload_n C dR_voice_0 rfl ?_
  refine g_iload_n C dR_voice_1 rfl ?_
  refine g_callVi C (nargs := 1) (o := 0) (st := []) (m_RisThing hci h) rfl (by decide) hci rfl gd_isThing (by decide +kernel) ⟨rfl, rfl⟩ dR_voice_2 ⟨by decide, by decide⟩ rfl rfl (Nat.le_of_ble_eq_true rfl) ?_
  intro r2c M2 hN
  replace h := hN
  clear hN
  refine g_if_eq C 17 dR_voice_5 (by decide) (fun hc => ?_) (fun hc => ?_)
  · replace h := h.1 hc
    refine g_locals (lv' := [(0, .ref (ad 0))]) rfl ?_
    exact pB17  _ h
  · replace h := h.2 hc
    refine g_iload_n C dR_voice_8 rfl ?_
    refine g_iconst C dR_voice_9 ?_
    refine g_iconst C dR_voice_10 ?_
    refine g_callSi C (nargs := 3) (st := []) (m_Rin hci h) gd_in (by decide +kernel) ⟨rfl, rfl⟩ dR_voice_11 ⟨by decide, by decide⟩ rfl rfl (Nat.le_of_ble_eq_true rfl) ?_
    intro r11c M11 hN
    replace h := hN
    clear hN
    refine g_if_ne C 23 dR_voice_14 (by decide) (fun hc => ?_) (fun hc => ?_)
    · replace h := h.1 hc
      refine g_aload_n C dR_voice_23 rfl ?_
      refine g_iconst C dR_voice_24 ?_
      refine rp_traced C hci dR_voice_25 ?_
      refine g_memname (fun M25 hM25 => ?_)
      replace h := h M25 hM25
      refine g_aload_n C dR_voice_28 rfl ?_
      refine g_iload_n C dR_voice_29 rfl ?_
      refine rp_speaks C hci dR_voice_30 ?_
      refine g_memname (fun M30 hM30 => ?_)
      replace h := h M30 hM30
      refine g_aload_n C dR_voice_33 rfl ?_
      refine g_iconst C dR_voice_34 ?_
      refine rp_isParted C hci dR_voice_35 ⟨rfl, rfl⟩ ?_
      refine g_memname (fun M35 hM35 => ?_)
      replace h := h M35 hM35
      refine g_aload_n C dR_voice_38 rfl ?_
      refine g_callVi C (nargs := 0) (o := 0) (st := []) (m_RkindNow hci h) rfl (by decide) hci rfl gd_kindNow (by decide +kernel) ⟨rfl, rfl⟩ dR_voice_39 ⟨by decide, by decide⟩ rfl rfl (Nat.le_of_ble_eq_true rfl) ?_
      intro r39c M39 hN
      replace h := hN
      clear hN
      refine g_istore C dR_voice_42 (by decide) rfl ?_
      refine g_locals (lv' := [(0, .ref (ad 0)), (1, iv a1), (2, iv a2), (3, iv a3), (4, iv r39c)]) rfl ?_
      refine g_iload_n C dR_voice_44 rfl ?_
      refine g_if_ne C 58 dR_voice_45 (by decide) (fun hc => ?_) (fun hc => ?_)
      · replace h := h.1 hc
        refine g_iload_n C dR_voice_58 rfl ?_
        refine g_iconst C dR_voice_59 ?_
        refine g_icmp_ne C 73 dR_voice_60 (by decide) (fun hc => ?_) (fun hc => ?_)
        · replace h := h.1 hc
          refine g_iload_n C dR_voice_73 rfl ?_
          refine g_iconst C dR_voice_74 ?_
          refine g_icmp_ne C 88 dR_voice_75 (by decide) (fun hc => ?_) (fun hc => ?_)
          · replace h := h.1 hc
            refine g_aload_n C dR_voice_88 rfl ?_
            refine g_iload C dR_voice_89 rfl ?_
            refine g_iload_n C dR_voice_91 rfl ?_
            refine g_callVi C (nargs := 2) (o := 0) (st := []) (m_RpartsBy hci h) rfl (by decide) hci rfl gd_partsBy (by decide +kernel) ⟨rfl, rfl⟩ dR_voice_92 ⟨by decide, by decide⟩ rfl rfl (Nat.le_of_ble_eq_true rfl) ?_
            intro r92c M92 hN
            replace h := hN
            clear hN
            refine g_locals (lv' := [(0, .ref (ad 0))]) rfl ?_
            exact pB95 _ _ h
          · replace h := h.2 hc
            refine g_aload_n C dR_voice_78 rfl ?_
            refine g_iload C dR_voice_79 rfl ?_
            refine g_iload_n C dR_voice_81 rfl ?_
            refine g_callVi C (nargs := 2) (o := 0) (st := []) (m_RmeltsBy hci h) rfl (by decide) hci rfl gd_meltsBy (by decide +kernel) ⟨rfl, rfl⟩ dR_voice_82 ⟨by decide, by decide⟩ rfl rfl (Nat.le_of_ble_eq_true rfl) ?_
            intro r82c M82 hN
            replace h := hN
            clear hN
            refine g_goto C 95 dR_voice_85 (by decide) ?_
            refine g_locals (lv' := [(0, .ref (ad 0))]) rfl ?_
            exact pB95 _ _ h
        · replace h := h.2 hc
          refine g_aload_n C dR_voice_63 rfl ?_
          refine g_iload C dR_voice_64 rfl ?_
          refine g_iload_n C dR_voice_66 rfl ?_
          refine g_callVi C (nargs := 2) (o := 0) (st := []) (m_RweighsBy hci h) rfl (by decide) hci rfl gd_weighsBy (by decide +kernel) ⟨rfl, rfl⟩ dR_voice_67 ⟨by decide, by decide⟩ rfl rfl (Nat.le_of_ble_eq_true rfl) ?_
          intro r67c M67 hN
          replace h := hN
          clear hN
          refine g_goto C 95 dR_voice_70 (by decide) ?_
          refine g_locals (lv' := [(0, .ref (ad 0))]) rfl ?_
          exact pB95 _ _ h
      · replace h := h.2 hc
        refine g_aload_n C dR_voice_48 rfl ?_
        refine g_iload C dR_voice_49 rfl ?_
        refine g_iload_n C dR_voice_51 rfl ?_
        refine g_callVi C (nargs := 2) (o := 0) (st := []) (m_RringsBy hci h) rfl (by decide) hci rfl gd_ringsBy (by decide +kernel) ⟨rfl, rfl⟩ dR_voice_52 ⟨by decide, by decide⟩ rfl rfl (Nat.le_of_ble_eq_true rfl) ?_
        intro r52c M52 hN
        replace h := hN
        clear hN
        refine g_goto C 95 dR_voice_55 (by decide) ?_
        refine g_locals (lv' := [(0, .ref (ad 0))]) rfl ?_
        exact pB95 _ _ h
    · replace h := h.2 hc
      refine g_locals (lv' := [(0, .ref (ad 0))]) rfl ?_
      exact pB17  _ h
def wC_Rwhole_9 (rc : Nat → List Int → gSt → (Int → gSt → Prop) → Prop)  (k : Int → gSt → Prop) (r9 : gSt → Prop) (X9_35 : gSt → Prop) (X9_47 : gSt → Prop)  (M : gSt) : Prop :=
w_Rlook  M (fun r10c M10 => 
  (¬ wrap r10c = 124 →
    X9_47  M10) ∧
  (wrap r10c = 124 →
    ∀ M25 : gSt, M25 = wr M10 0 5 ((M10 0 5) + 1) → (rc 1 [] M25 (fun r29c M29 => 
    (¬ wrap r29c = 0 →
      w_Rlays 3 124 M29 (fun M41 => r9  M41)) ∧
    (wrap r29c = 0 →
      X9_35  M29)))))
def wL_Rwhole_9 (rc : Nat → List Int → gSt → (Int → gSt → Prop) → Prop)  (k : Int → gSt → Prop)  (X9_35 : gSt → Prop) (X9_47 : gSt → Prop) : Nat → gSt → Prop
  | 0 => fun  _ => False
  | n + 1 => fun  M => wC_Rwhole_9 rc  k  (wL_Rwhole_9 rc  k  X9_35 X9_47 n) X9_35 X9_47  M
def wb_Rwhole (rc : Nat → List Int → gSt → (Int → gSt → Prop) → Prop)  (M : gSt) (k : Int → gSt → Prop) : Prop :=
rc 1 [] M (fun r1c M1 => 
  (¬ wrap r1c = 0 →
    ∃ n, wL_Rwhole_9 rc  k  (fun  M9 =>
      k 0 M9) (fun  M9 =>
      k 1 M9) n  M1) ∧
  (wrap r1c = 0 →
    k 0 M1))
set_option maxHeartbeats 4000000 in
set_option maxRecDepth 100000 in
theorem mb_Rwhole {l : Launch} {D : va_G} {cl : List vw_C} {tys : List (ClassId × FieldType)} {ad : Nat → Nat} {cI : ClassId} {ci : Nat} {Z : (Nat → Prop) → State → Prop} (hci : cl[ci]? = some (RX9, TX9, 23)) {rc : Nat → List Int → gSt → (Int → gSt → Prop) → Prop}  {d : Nat} (hrc0 : ∀ {M : gSt} {k : Int → gSt → Prop}, rc 0 [] M k → MOi l yX9_whole cX9_whole 1 .boolean (rmR (d + 1) (d * 23 + 22)) D cl ((cI, .int) :: tys) (wR ad cI ci) tR Z [.ref (ad 0)] M k) (hrc1 : ∀ {M : gSt} {k : Int → gSt → Prop}, rc 1 [] M k → MOi l yX9_both cX9_both 1 .boolean (rmR (d + 1) (d * 23 + 22)) D cl ((cI, .int) :: tys) (wR ad cI ci) tR Z [.ref (ad 0)] M k) (hrc2 : ∀ {M : gSt} {k : Int → gSt → Prop}, rc 2 [] M k → MOi l yX9_compared cX9_compared 2 .boolean (rmR (d + 1) (d * 23 + 22)) D cl ((cI, .int) :: tys) (wR ad cI ci) tR Z [.ref (ad 0)] M k) (hrc3 : ∀ {M : gSt} {k : Int → gSt → Prop}, rc 3 [] M k → MOi l yX9_sum cX9_sum 2 .boolean (rmR (d + 1) (d * 23 + 22)) D cl ((cI, .int) :: tys) (wR ad cI ci) tR Z [.ref (ad 0)] M k) (hrc4 : ∀ {M : gSt} {k : Int → gSt → Prop}, rc 4 [] M k → MOi l yX9_product cX9_product 2 .boolean (rmR (d + 1) (d * 23 + 22)) D cl ((cI, .int) :: tys) (wR ad cI ci) tR Z [.ref (ad 0)] M k) (hrc5 : ∀ {M : gSt} {k : Int → gSt → Prop}, rc 5 [] M k → MOi l yX9_one cX9_one 4 .boolean (rmR (d + 1) (d * 23 + 22)) D cl ((cI, .int) :: tys) (wR ad cI ci) tR Z [.ref (ad 0)] M k) {M : gSt} {k : Int → gSt → Prop} (h : wb_Rwhole rc  M k) : MOi l yX9_whole cX9_whole 1 .boolean (rmR (d + 1 + 1) ((d + 1) * 23 + 22)) D cl ((cI, .int) :: tys) (wR ad cI ci) tR Z [.ref (ad 0)] M k := by
  refine moi_intro (by decide +kernel) (Nat.le_of_ble_eq_true rfl) wi_159 ?_
  intro p e s m args below meth c A Q C hR
  have pC9 : ∀ (r9 : gSt → Prop) (X9_35 : gSt → Prop) (X9_47 : gSt → Prop) (hr9 : ∀  (M : gSt), r9  M → gG p l e (rmR (d + 1 + 1) ((d + 1) * 23 + 22)) s m args below meth c Q D cl A (wR ad cI ci) 1 9 [(0, .ref (ad 0))] [] M) (hX9_35 : ∀  (M : gSt), X9_35  M → gG p l e (rmR (d + 1 + 1) ((d + 1) * 23 + 22)) s m args below meth c Q D cl A (wR ad cI ci) 1 35 [] [] M) (hX9_47 : ∀  (M : gSt), X9_47  M → gG p l e (rmR (d + 1 + 1) ((d + 1) * 23 + 22)) s m args below meth c Q D cl A (wR ad cI ci) 1 47 [] [] M)  (M : gSt), wC_Rwhole_9 rc  k r9 X9_35 X9_47  M → gG p l e (rmR (d + 1 + 1) ((d + 1) * 23 + 22)) s m args below meth c Q D cl A (wR ad cI ci) 1 9 [(0, .ref (ad 0))] [] M := by
    intro r9 X9_35 X9_47 hr9 hX9_35 hX9_47  M h
    unfold wC_Rwhole_9 at h
    refine g_aload_n C dR_whole_9 rfl ?_
    refine g_callVi C (nargs := 0) (o := 0) (st := []) (m_Rlook hci h) rfl (by decide) hci rfl gd_look (by decide +kernel) ⟨rfl, rfl⟩ dR_whole_10 ⟨by simp only [rmR]; omega, by simp only [rmR]; omega⟩ rfl rfl (Nat.le_of_ble_eq_true rfl) ?_
    intro r10c M10 hN
    replace h := hN
    clear hN
    refine g_bipush C dR_whole_13 rfl ?_
    refine g_icmp_ne C 47 dR_whole_15 (by decide) (fun hc => ?_) (fun hc => ?_)
    · replace h := h.1 hc
      refine g_locals (lv' := []) rfl ?_
      exact hX9_47  _ h
    · replace h := h.2 hc
      refine g_aload_n C dR_whole_18 rfl ?_
      refine g_dup C dR_whole_19 rfl ?_
      refine rf_at C hci dR_whole_20 ?_
      refine g_iconst C dR_whole_23 ?_
      refine g_iadd C dR_whole_24 ?_
      refine rp_at C hci dR_whole_25 ?_
      refine g_memname (fun M25 hM25 => ?_)
      replace h := h M25 hM25
      refine g_aload_n C dR_whole_28 rfl ?_
      refine g_callVi C (nargs := 0) (o := 0) (st := []) (hrc1 h) rfl (by decide) hci rfl gd_both (by decide +kernel) ⟨rfl, rfl⟩ dR_whole_29 ⟨by simp only [rmR]; omega, by simp only [rmR]; omega⟩ rfl rfl (Nat.le_of_ble_eq_true rfl) ?_
      intro r29c M29 hN
      replace h := hN
      clear hN
      refine g_if_ne C 37 dR_whole_32 (by decide) (fun hc => ?_) (fun hc => ?_)
      · replace h := h.1 hc
        refine g_aload_n C dR_whole_37 rfl ?_
        refine g_iconst C dR_whole_38 ?_
        refine g_bipush C dR_whole_39 rfl ?_
        refine g_callVv C (nargs := 2) (o := 0) (st := []) (m_Rlays hci h) rfl (by decide) hci rfl gd_lays (by decide +kernel) ⟨rfl, rfl⟩ dR_whole_41 ⟨by simp only [rmR]; omega, by simp only [rmR]; omega⟩ rfl rfl (Nat.le_of_ble_eq_true rfl) ?_
        intro M41 hN
        replace h := hN
        clear hN
        refine g_goto C 9 dR_whole_44 (by decide) ?_
        refine g_locals (lv' := [(0, .ref (ad 0))]) rfl ?_
        exact hr9  _ h
      · replace h := h.2 hc
        refine g_locals (lv' := []) rfl ?_
        exact hX9_35  _ h
  have pL9 : ∀  (X9_35 : gSt → Prop) (X9_47 : gSt → Prop) (hX9_35 : ∀  (M : gSt), X9_35  M → gG p l e (rmR (d + 1 + 1) ((d + 1) * 23 + 22)) s m args below meth c Q D cl A (wR ad cI ci) 1 35 [] [] M) (hX9_47 : ∀  (M : gSt), X9_47  M → gG p l e (rmR (d + 1 + 1) ((d + 1) * 23 + 22)) s m args below meth c Q D cl A (wR ad cI ci) 1 47 [] [] M) (n : Nat)  (M : gSt), wL_Rwhole_9 rc  k  X9_35 X9_47 n  M → gG p l e (rmR (d + 1 + 1) ((d + 1) * 23 + 22)) s m args below meth c Q D cl A (wR ad cI ci) 1 9 [(0, .ref (ad 0))] [] M := by
    intro  X9_35 X9_47 hX9_35 hX9_47 n
    induction n with
    | zero => intro  M h; exact h.elim
    | succ n ih =>
      intro  M h
      exact pC9  (wL_Rwhole_9 rc  k  X9_35 X9_47 n) X9_35 X9_47 ih hX9_35 hX9_47  M h
  refine g_locals (lv' := [(0, .ref (ad 0))]) rfl ?_
  unfold wb_Rwhole at h
  refine g_aload_n C dR_whole_0 rfl ?_
  refine g_callVi C (nargs := 0) (o := 0) (st := []) (hrc1 h) rfl (by decide) hci rfl gd_both (by decide +kernel) ⟨rfl, rfl⟩ dR_whole_1 ⟨by simp only [rmR]; omega, by simp only [rmR]; omega⟩ rfl rfl (Nat.le_of_ble_eq_true rfl) ?_
  intro r1c M1 hN
  replace h := hN
  clear hN
  refine g_if_ne C 9 dR_whole_4 (by decide) (fun hc => ?_) (fun hc => ?_)
  · replace h := h.1 hc
    refine g_locals (lv' := [(0, .ref (ad 0))]) rfl ?_
    obtain ⟨n, h⟩ := h
    refine pL9 _ _ ?_ ?_ n  _ h
    · intro  M9 hN
      replace h := hN
      clear hN
      refine g_iconst C dR_whole_35 ?_
      exact hR _ _ _ _ dR_whole_36 rfl h
    · intro  M9 hN
      replace h := hN
      clear hN
      refine g_iconst C dR_whole_47 ?_
      exact hR _ _ _ _ dR_whole_48 rfl h
  · replace h := h.2 hc
    refine g_iconst C dR_whole_7 ?_
    exact hR _ _ _ _ dR_whole_8 rfl h
def wC_Rboth_9 (rc : Nat → List Int → gSt → (Int → gSt → Prop) → Prop)  (k : Int → gSt → Prop) (r9 : gSt → Prop) (X9_35 : gSt → Prop) (X9_47 : gSt → Prop)  (M : gSt) : Prop :=
w_Rlook  M (fun r10c M10 => 
  (¬ wrap r10c = 38 →
    X9_47  M10) ∧
  (wrap r10c = 38 →
    ∀ M25 : gSt, M25 = wr M10 0 5 ((M10 0 5) + 1) → (rc 2 [] M25 (fun r29c M29 => 
    (¬ wrap r29c = 0 →
      w_Rlays 3 38 M29 (fun M41 => r9  M41)) ∧
    (wrap r29c = 0 →
      X9_35  M29)))))
def wL_Rboth_9 (rc : Nat → List Int → gSt → (Int → gSt → Prop) → Prop)  (k : Int → gSt → Prop)  (X9_35 : gSt → Prop) (X9_47 : gSt → Prop) : Nat → gSt → Prop
  | 0 => fun  _ => False
  | n + 1 => fun  M => wC_Rboth_9 rc  k  (wL_Rboth_9 rc  k  X9_35 X9_47 n) X9_35 X9_47  M
def wb_Rboth (rc : Nat → List Int → gSt → (Int → gSt → Prop) → Prop)  (M : gSt) (k : Int → gSt → Prop) : Prop :=
rc 2 [] M (fun r1c M1 => 
  (¬ wrap r1c = 0 →
    ∃ n, wL_Rboth_9 rc  k  (fun  M9 =>
      k 0 M9) (fun  M9 =>
      k 1 M9) n  M1) ∧
  (wrap r1c = 0 →
    k 0 M1))
set_option maxHeartbeats 4000000 in
set_option maxRecDepth 100000 in
theorem mb_Rboth {l : Launch} {D : va_G} {cl : List vw_C} {tys : List (ClassId × FieldType)} {ad : Nat → Nat} {cI : ClassId} {ci : Nat} {Z : (Nat → Prop) → State → Prop} (hci : cl[ci]? = some (RX9, TX9, 23)) {rc : Nat → List Int → gSt → (Int → gSt → Prop) → Prop}  {d : Nat} (hrc0 : ∀ {M : gSt} {k : Int → gSt → Prop}, rc 0 [] M k → MOi l yX9_whole cX9_whole 1 .boolean (rmR (d + 1) (d * 23 + 22)) D cl ((cI, .int) :: tys) (wR ad cI ci) tR Z [.ref (ad 0)] M k) (hrc1 : ∀ {M : gSt} {k : Int → gSt → Prop}, rc 1 [] M k → MOi l yX9_both cX9_both 1 .boolean (rmR (d + 1) (d * 23 + 22)) D cl ((cI, .int) :: tys) (wR ad cI ci) tR Z [.ref (ad 0)] M k) (hrc2 : ∀ {M : gSt} {k : Int → gSt → Prop}, rc 2 [] M k → MOi l yX9_compared cX9_compared 2 .boolean (rmR (d + 1) (d * 23 + 22)) D cl ((cI, .int) :: tys) (wR ad cI ci) tR Z [.ref (ad 0)] M k) (hrc3 : ∀ {M : gSt} {k : Int → gSt → Prop}, rc 3 [] M k → MOi l yX9_sum cX9_sum 2 .boolean (rmR (d + 1) (d * 23 + 22)) D cl ((cI, .int) :: tys) (wR ad cI ci) tR Z [.ref (ad 0)] M k) (hrc4 : ∀ {M : gSt} {k : Int → gSt → Prop}, rc 4 [] M k → MOi l yX9_product cX9_product 2 .boolean (rmR (d + 1) (d * 23 + 22)) D cl ((cI, .int) :: tys) (wR ad cI ci) tR Z [.ref (ad 0)] M k) (hrc5 : ∀ {M : gSt} {k : Int → gSt → Prop}, rc 5 [] M k → MOi l yX9_one cX9_one 4 .boolean (rmR (d + 1) (d * 23 + 22)) D cl ((cI, .int) :: tys) (wR ad cI ci) tR Z [.ref (ad 0)] M k) {M : gSt} {k : Int → gSt → Prop} (h : wb_Rboth rc  M k) : MOi l yX9_both cX9_both 1 .boolean (rmR (d + 1 + 1) ((d + 1) * 23 + 22)) D cl ((cI, .int) :: tys) (wR ad cI ci) tR Z [.ref (ad 0)] M k := by
  refine moi_intro (by decide +kernel) (Nat.le_of_ble_eq_true rfl) wi_163 ?_
  intro p e s m args below meth c A Q C hR
  have pC9 : ∀ (r9 : gSt → Prop) (X9_35 : gSt → Prop) (X9_47 : gSt → Prop) (hr9 : ∀  (M : gSt), r9  M → gG p l e (rmR (d + 1 + 1) ((d + 1) * 23 + 22)) s m args below meth c Q D cl A (wR ad cI ci) 1 9 [(0, .ref (ad 0))] [] M) (hX9_35 : ∀  (M : gSt), X9_35  M → gG p l e (rmR (d + 1 + 1) ((d + 1) * 23 + 22)) s m args below meth c Q D cl A (wR ad cI ci) 1 35 [] [] M) (hX9_47 : ∀  (M : gSt), X9_47  M → gG p l e (rmR (d + 1 + 1) ((d + 1) * 23 + 22)) s m args below meth c Q D cl A (wR ad cI ci) 1 47 [] [] M)  (M : gSt), wC_Rboth_9 rc  k r9 X9_35 X9_47  M → gG p l e (rmR (d + 1 + 1) ((d + 1) * 23 + 22)) s m args below meth c Q D cl A (wR ad cI ci) 1 9 [(0, .ref (ad 0))] [] M := by
    intro r9 X9_35 X9_47 hr9 hX9_35 hX9_47  M h
    unfold wC_Rboth_9 at h
    refine g_aload_n C dR_both_9 rfl ?_
    refine g_callVi C (nargs := 0) (o := 0) (st := []) (m_Rlook hci h) rfl (by decide) hci rfl gd_look (by decide +kernel) ⟨rfl, rfl⟩ dR_both_10 ⟨by simp only [rmR]; omega, by simp only [rmR]; omega⟩ rfl rfl (Nat.le_of_ble_eq_true rfl) ?_
    intro r10c M10 hN
    replace h := hN
    clear hN
    refine g_bipush C dR_both_13 rfl ?_
    refine g_icmp_ne C 47 dR_both_15 (by decide) (fun hc => ?_) (fun hc => ?_)
    · replace h := h.1 hc
      refine g_locals (lv' := []) rfl ?_
      exact hX9_47  _ h
    · replace h := h.2 hc
      refine g_aload_n C dR_both_18 rfl ?_
      refine g_dup C dR_both_19 rfl ?_
      refine rf_at C hci dR_both_20 ?_
      refine g_iconst C dR_both_23 ?_
      refine g_iadd C dR_both_24 ?_
      refine rp_at C hci dR_both_25 ?_
      refine g_memname (fun M25 hM25 => ?_)
      replace h := h M25 hM25
      refine g_aload_n C dR_both_28 rfl ?_
      refine g_callVi C (nargs := 0) (o := 0) (st := []) (hrc2 h) rfl (by decide) hci rfl gd_compared (by decide +kernel) ⟨rfl, rfl⟩ dR_both_29 ⟨by simp only [rmR]; omega, by simp only [rmR]; omega⟩ rfl rfl (Nat.le_of_ble_eq_true rfl) ?_
      intro r29c M29 hN
      replace h := hN
      clear hN
      refine g_if_ne C 37 dR_both_32 (by decide) (fun hc => ?_) (fun hc => ?_)
      · replace h := h.1 hc
        refine g_aload_n C dR_both_37 rfl ?_
        refine g_iconst C dR_both_38 ?_
        refine g_bipush C dR_both_39 rfl ?_
        refine g_callVv C (nargs := 2) (o := 0) (st := []) (m_Rlays hci h) rfl (by decide) hci rfl gd_lays (by decide +kernel) ⟨rfl, rfl⟩ dR_both_41 ⟨by simp only [rmR]; omega, by simp only [rmR]; omega⟩ rfl rfl (Nat.le_of_ble_eq_true rfl) ?_
        intro M41 hN
        replace h := hN
        clear hN
        refine g_goto C 9 dR_both_44 (by decide) ?_
        refine g_locals (lv' := [(0, .ref (ad 0))]) rfl ?_
        exact hr9  _ h
      · replace h := h.2 hc
        refine g_locals (lv' := []) rfl ?_
        exact hX9_35  _ h
  have pL9 : ∀  (X9_35 : gSt → Prop) (X9_47 : gSt → Prop) (hX9_35 : ∀  (M : gSt), X9_35  M → gG p l e (rmR (d + 1 + 1) ((d + 1) * 23 + 22)) s m args below meth c Q D cl A (wR ad cI ci) 1 35 [] [] M) (hX9_47 : ∀  (M : gSt), X9_47  M → gG p l e (rmR (d + 1 + 1) ((d + 1) * 23 + 22)) s m args below meth c Q D cl A (wR ad cI ci) 1 47 [] [] M) (n : Nat)  (M : gSt), wL_Rboth_9 rc  k  X9_35 X9_47 n  M → gG p l e (rmR (d + 1 + 1) ((d + 1) * 23 + 22)) s m args below meth c Q D cl A (wR ad cI ci) 1 9 [(0, .ref (ad 0))] [] M := by
    intro  X9_35 X9_47 hX9_35 hX9_47 n
    induction n with
    | zero => intro  M h; exact h.elim
    | succ n ih =>
      intro  M h
      exact pC9  (wL_Rboth_9 rc  k  X9_35 X9_47 n) X9_35 X9_47 ih hX9_35 hX9_47  M h
  refine g_locals (lv' := [(0, .ref (ad 0))]) rfl ?_
  unfold wb_Rboth at h
  refine g_aload_n C dR_both_0 rfl ?_
  refine g_callVi C (nargs := 0) (o := 0) (st := []) (hrc2 h) rfl (by decide) hci rfl gd_compared (by decide +kernel) ⟨rfl, rfl⟩ dR_both_1 ⟨by simp only [rmR]; omega, by simp only [rmR]; omega⟩ rfl rfl (Nat.le_of_ble_eq_true rfl) ?_
  intro r1c M1 hN
  replace h := hN
  clear hN
  refine g_if_ne C 9 dR_both_4 (by decide) (fun hc => ?_) (fun hc => ?_)
  · replace h := h.1 hc
    refine g_locals (lv' := [(0, .ref (ad 0))]) rfl ?_
    obtain ⟨n, h⟩ := h
    refine pL9 _ _ ?_ ?_ n  _ h
    · intro  M9 hN
      replace h := hN
      clear hN
      refine g_iconst C dR_both_35 ?_
      exact hR _ _ _ _ dR_both_36 rfl h
    · intro  M9 hN
      replace h := hN
      clear hN
      refine g_iconst C dR_both_47 ?_
      exact hR _ _ _ _ dR_both_48 rfl h
  · replace h := h.2 hc
    refine g_iconst C dR_both_7 ?_
    exact hR _ _ _ _ dR_both_8 rfl h
def wB_Rcompared_34 (rc : Nat → List Int → gSt → (Int → gSt → Prop) → Prop)  (k : Int → gSt → Prop)  (v1 : Int) (M : gSt) : Prop :=
∀ M41 : gSt, M41 = wr M 0 5 ((M 0 5) + 1) → (rc 3 [] M41 (fun r45c M45 => 
  (¬ wrap r45c = 0 →
    w_Rlays 3 v1 M45 (fun M56 => k 1 M56)) ∧
  (wrap r45c = 0 →
    k 0 M45)))
def wb_Rcompared (rc : Nat → List Int → gSt → (Int → gSt → Prop) → Prop)  (M : gSt) (k : Int → gSt → Prop) : Prop :=
rc 3 [] M (fun r1c M1 => 
  (¬ wrap r1c = 0 →
    w_Rlook  M1 (fun r10c M10 => 
    (wrap r10c = 60 →
      wB_Rcompared_34 rc  k  r10c M10) ∧
    (¬ wrap r10c = 60 →

      (wrap r10c = 61 →
        wB_Rcompared_34 rc  k  r10c M10) ∧
      (¬ wrap r10c = 61 →

        (wrap r10c = 62 →
          wB_Rcompared_34 rc  k  r10c M10) ∧
        (¬ wrap r10c = 62 →
          k 1 M10))))) ∧
  (wrap r1c = 0 →
    k 0 M1))
set_option maxHeartbeats 4000000 in
set_option maxRecDepth 100000 in
theorem mb_Rcompared {l : Launch} {D : va_G} {cl : List vw_C} {tys : List (ClassId × FieldType)} {ad : Nat → Nat} {cI : ClassId} {ci : Nat} {Z : (Nat → Prop) → State → Prop} (hci : cl[ci]? = some (RX9, TX9, 23)) {rc : Nat → List Int → gSt → (Int → gSt → Prop) → Prop}  {d : Nat} (hrc0 : ∀ {M : gSt} {k : Int → gSt → Prop}, rc 0 [] M k → MOi l yX9_whole cX9_whole 1 .boolean (rmR (d + 1) (d * 23 + 22)) D cl ((cI, .int) :: tys) (wR ad cI ci) tR Z [.ref (ad 0)] M k) (hrc1 : ∀ {M : gSt} {k : Int → gSt → Prop}, rc 1 [] M k → MOi l yX9_both cX9_both 1 .boolean (rmR (d + 1) (d * 23 + 22)) D cl ((cI, .int) :: tys) (wR ad cI ci) tR Z [.ref (ad 0)] M k) (hrc2 : ∀ {M : gSt} {k : Int → gSt → Prop}, rc 2 [] M k → MOi l yX9_compared cX9_compared 2 .boolean (rmR (d + 1) (d * 23 + 22)) D cl ((cI, .int) :: tys) (wR ad cI ci) tR Z [.ref (ad 0)] M k) (hrc3 : ∀ {M : gSt} {k : Int → gSt → Prop}, rc 3 [] M k → MOi l yX9_sum cX9_sum 2 .boolean (rmR (d + 1) (d * 23 + 22)) D cl ((cI, .int) :: tys) (wR ad cI ci) tR Z [.ref (ad 0)] M k) (hrc4 : ∀ {M : gSt} {k : Int → gSt → Prop}, rc 4 [] M k → MOi l yX9_product cX9_product 2 .boolean (rmR (d + 1) (d * 23 + 22)) D cl ((cI, .int) :: tys) (wR ad cI ci) tR Z [.ref (ad 0)] M k) (hrc5 : ∀ {M : gSt} {k : Int → gSt → Prop}, rc 5 [] M k → MOi l yX9_one cX9_one 4 .boolean (rmR (d + 1) (d * 23 + 22)) D cl ((cI, .int) :: tys) (wR ad cI ci) tR Z [.ref (ad 0)] M k) {M : gSt} {k : Int → gSt → Prop} (h : wb_Rcompared rc  M k) : MOi l yX9_compared cX9_compared 2 .boolean (rmR (d + 1 + 1) ((d + 1) * 23 + 22)) D cl ((cI, .int) :: tys) (wR ad cI ci) tR Z [.ref (ad 0)] M k := by
  refine moi_intro (by decide +kernel) (Nat.le_of_ble_eq_true rfl) wi_137 ?_
  intro p e s m args below meth c A Q C hR
  have pB34 : ∀   (v1 : Int) (M : gSt), wB_Rcompared_34 rc  k  v1 M → gG p l e (rmR (d + 1 + 1) ((d + 1) * 23 + 22)) s m args below meth c Q D cl A (wR ad cI ci) 2 34 [(0, .ref (ad 0)), (1, iv v1)] [] M := by
    intro   v1 M h
    unfold wB_Rcompared_34 at h
    refine g_aload_n C dR_compared_34 rfl ?_
    refine g_dup C dR_compared_35 rfl ?_
    refine rf_at C hci dR_compared_36 ?_
    refine g_iconst C dR_compared_39 ?_
    refine g_iadd C dR_compared_40 ?_
    refine rp_at C hci dR_compared_41 ?_
    refine g_memname (fun M41 hM41 => ?_)
    replace h := h M41 hM41
    refine g_aload_n C dR_compared_44 rfl ?_
    refine g_callVi C (nargs := 0) (o := 0) (st := []) (hrc3 h) rfl (by decide) hci rfl gd_sum (by decide +kernel) ⟨rfl, rfl⟩ dR_compared_45 ⟨by simp only [rmR]; omega, by simp only [rmR]; omega⟩ rfl rfl (Nat.le_of_ble_eq_true rfl) ?_
    intro r45c M45 hN
    replace h := hN
    clear hN
    refine g_if_ne C 53 dR_compared_48 (by decide) (fun hc => ?_) (fun hc => ?_)
    · replace h := h.1 hc
      refine g_aload_n C dR_compared_53 rfl ?_
      refine g_iconst C dR_compared_54 ?_
      refine g_iload_n C dR_compared_55 rfl ?_
      refine g_callVv C (nargs := 2) (o := 0) (st := []) (m_Rlays hci h) rfl (by decide) hci rfl gd_lays (by decide +kernel) ⟨rfl, rfl⟩ dR_compared_56 ⟨by simp only [rmR]; omega, by simp only [rmR]; omega⟩ rfl rfl (Nat.le_of_ble_eq_true rfl) ?_
      intro M56 hN
      replace h := hN
      clear hN
      refine g_iconst C dR_compared_59 ?_
      exact hR _ _ _ _ dR_compared_60 rfl h
    · replace h := h.2 hc
      refine g_iconst C dR_compared_51 ?_
      exact hR _ _ _ _ dR_compared_52 rfl h
  refine g_locals (lv' := [(0, .ref (ad 0))]) rfl ?_
  unfold wb_Rcompared at h
  refine g_aload_n C dR_compared_0 rfl ?_
  refine g_callVi C (nargs := 0) (o := 0) (st := []) (hrc3 h) rfl (by decide) hci rfl gd_sum (by decide +kernel) ⟨rfl, rfl⟩ dR_compared_1 ⟨by simp only [rmR]; omega, by simp only [rmR]; omega⟩ rfl rfl (Nat.le_of_ble_eq_true rfl) ?_
  intro r1c M1 hN
  replace h := hN
  clear hN
  refine g_if_ne C 9 dR_compared_4 (by decide) (fun hc => ?_) (fun hc => ?_)
  · replace h := h.1 hc
    refine g_aload_n C dR_compared_9 rfl ?_
    refine g_callVi C (nargs := 0) (o := 0) (st := []) (m_Rlook hci h) rfl (by decide) hci rfl gd_look (by decide +kernel) ⟨rfl, rfl⟩ dR_compared_10 ⟨by simp only [rmR]; omega, by simp only [rmR]; omega⟩ rfl rfl (Nat.le_of_ble_eq_true rfl) ?_
    intro r10c M10 hN
    replace h := hN
    clear hN
    refine g_istore_n C dR_compared_13 (by decide) rfl ?_
    refine g_locals (lv' := [(0, .ref (ad 0)), (1, iv r10c)]) rfl ?_
    refine g_iload_n C dR_compared_14 rfl ?_
    refine g_bipush C dR_compared_15 rfl ?_
    refine g_icmp_eq C 34 dR_compared_17 (by decide) (fun hc => ?_) (fun hc => ?_)
    · replace h := h.1 hc
      refine g_locals (lv' := [(0, .ref (ad 0)), (1, iv r10c)]) rfl ?_
      exact pB34 _ _ h
    · replace h := h.2 hc
      refine g_iload_n C dR_compared_20 rfl ?_
      refine g_bipush C dR_compared_21 rfl ?_
      refine g_icmp_eq C 34 dR_compared_23 (by decide) (fun hc => ?_) (fun hc => ?_)
      · replace h := h.1 hc
        refine g_locals (lv' := [(0, .ref (ad 0)), (1, iv r10c)]) rfl ?_
        exact pB34 _ _ h
      · replace h := h.2 hc
        refine g_iload_n C dR_compared_26 rfl ?_
        refine g_bipush C dR_compared_27 rfl ?_
        refine g_icmp_eq C 34 dR_compared_29 (by decide) (fun hc => ?_) (fun hc => ?_)
        · replace h := h.1 hc
          refine g_locals (lv' := [(0, .ref (ad 0)), (1, iv r10c)]) rfl ?_
          exact pB34 _ _ h
        · replace h := h.2 hc
          refine g_iconst C dR_compared_32 ?_
          exact hR _ _ _ _ dR_compared_33 rfl h
  · replace h := h.2 hc
    refine g_iconst C dR_compared_7 ?_
    exact hR _ _ _ _ dR_compared_8 rfl h
def wB_Rsum_27 (rc : Nat → List Int → gSt → (Int → gSt → Prop) → Prop)  (k : Int → gSt → Prop) (r9 : gSt → Prop) (X9_49 : gSt → Prop) (X9_60 : gSt → Prop)  (M : gSt) : Prop :=
w_Rlook  M (fun r28c M28 => ∀ M39 : gSt, M39 = wr M28 0 5 ((M28 0 5) + 1) → (rc 4 [] M39 (fun r43c M43 => 
  (¬ wrap r43c = 0 →
    w_Rlays 3 r28c M43 (fun M54 => r9  M54)) ∧
  (wrap r43c = 0 →
    X9_49  M43))))
def wC_Rsum_9 (rc : Nat → List Int → gSt → (Int → gSt → Prop) → Prop)  (k : Int → gSt → Prop) (r9 : gSt → Prop) (X9_49 : gSt → Prop) (X9_60 : gSt → Prop)  (M : gSt) : Prop :=
w_Rlook  M (fun r10c M10 => 
  (wrap r10c = 43 →
    wB_Rsum_27 rc  k r9 X9_49 X9_60  M10) ∧
  (¬ wrap r10c = 43 →
    w_Rlook  M10 (fun r19c M19 => 
    (¬ wrap r19c = 45 →
      X9_60  M19) ∧
    (wrap r19c = 45 →
      wB_Rsum_27 rc  k r9 X9_49 X9_60  M19))))
def wL_Rsum_9 (rc : Nat → List Int → gSt → (Int → gSt → Prop) → Prop)  (k : Int → gSt → Prop)  (X9_49 : gSt → Prop) (X9_60 : gSt → Prop) : Nat → gSt → Prop
  | 0 => fun  _ => False
  | n + 1 => fun  M => wC_Rsum_9 rc  k  (wL_Rsum_9 rc  k  X9_49 X9_60 n) X9_49 X9_60  M
def wb_Rsum (rc : Nat → List Int → gSt → (Int → gSt → Prop) → Prop)  (M : gSt) (k : Int → gSt → Prop) : Prop :=
rc 4 [] M (fun r1c M1 => 
  (¬ wrap r1c = 0 →
    ∃ n, wL_Rsum_9 rc  k  (fun  M9 =>
      k 0 M9) (fun  M9 =>
      k 1 M9) n  M1) ∧
  (wrap r1c = 0 →
    k 0 M1))
set_option maxHeartbeats 4000000 in
set_option maxRecDepth 100000 in
theorem mb_Rsum {l : Launch} {D : va_G} {cl : List vw_C} {tys : List (ClassId × FieldType)} {ad : Nat → Nat} {cI : ClassId} {ci : Nat} {Z : (Nat → Prop) → State → Prop} (hci : cl[ci]? = some (RX9, TX9, 23)) {rc : Nat → List Int → gSt → (Int → gSt → Prop) → Prop}  {d : Nat} (hrc0 : ∀ {M : gSt} {k : Int → gSt → Prop}, rc 0 [] M k → MOi l yX9_whole cX9_whole 1 .boolean (rmR (d + 1) (d * 23 + 22)) D cl ((cI, .int) :: tys) (wR ad cI ci) tR Z [.ref (ad 0)] M k) (hrc1 : ∀ {M : gSt} {k : Int → gSt → Prop}, rc 1 [] M k → MOi l yX9_both cX9_both 1 .boolean (rmR (d + 1) (d * 23 + 22)) D cl ((cI, .int) :: tys) (wR ad cI ci) tR Z [.ref (ad 0)] M k) (hrc2 : ∀ {M : gSt} {k : Int → gSt → Prop}, rc 2 [] M k → MOi l yX9_compared cX9_compared 2 .boolean (rmR (d + 1) (d * 23 + 22)) D cl ((cI, .int) :: tys) (wR ad cI ci) tR Z [.ref (ad 0)] M k) (hrc3 : ∀ {M : gSt} {k : Int → gSt → Prop}, rc 3 [] M k → MOi l yX9_sum cX9_sum 2 .boolean (rmR (d + 1) (d * 23 + 22)) D cl ((cI, .int) :: tys) (wR ad cI ci) tR Z [.ref (ad 0)] M k) (hrc4 : ∀ {M : gSt} {k : Int → gSt → Prop}, rc 4 [] M k → MOi l yX9_product cX9_product 2 .boolean (rmR (d + 1) (d * 23 + 22)) D cl ((cI, .int) :: tys) (wR ad cI ci) tR Z [.ref (ad 0)] M k) (hrc5 : ∀ {M : gSt} {k : Int → gSt → Prop}, rc 5 [] M k → MOi l yX9_one cX9_one 4 .boolean (rmR (d + 1) (d * 23 + 22)) D cl ((cI, .int) :: tys) (wR ad cI ci) tR Z [.ref (ad 0)] M k) {M : gSt} {k : Int → gSt → Prop} (h : wb_Rsum rc  M k) : MOi l yX9_sum cX9_sum 2 .boolean (rmR (d + 1 + 1) ((d + 1) * 23 + 22)) D cl ((cI, .int) :: tys) (wR ad cI ci) tR Z [.ref (ad 0)] M k := by
  refine moi_intro (by decide +kernel) (Nat.le_of_ble_eq_true rfl) wi_155 ?_
  intro p e s m args below meth c A Q C hR
  have pB27 : ∀ (r9 : gSt → Prop) (X9_49 : gSt → Prop) (X9_60 : gSt → Prop) (hr9 : ∀  (M : gSt), r9  M → gG p l e (rmR (d + 1 + 1) ((d + 1) * 23 + 22)) s m args below meth c Q D cl A (wR ad cI ci) 2 9 [(0, .ref (ad 0))] [] M) (hX9_49 : ∀  (M : gSt), X9_49  M → gG p l e (rmR (d + 1 + 1) ((d + 1) * 23 + 22)) s m args below meth c Q D cl A (wR ad cI ci) 2 49 [] [] M) (hX9_60 : ∀  (M : gSt), X9_60  M → gG p l e (rmR (d + 1 + 1) ((d + 1) * 23 + 22)) s m args below meth c Q D cl A (wR ad cI ci) 2 60 [] [] M)  (M : gSt), wB_Rsum_27 rc  k r9 X9_49 X9_60  M → gG p l e (rmR (d + 1 + 1) ((d + 1) * 23 + 22)) s m args below meth c Q D cl A (wR ad cI ci) 2 27 [(0, .ref (ad 0))] [] M := by
    intro r9 X9_49 X9_60 hr9 hX9_49 hX9_60  M h
    unfold wB_Rsum_27 at h
    refine g_aload_n C dR_sum_27 rfl ?_
    refine g_callVi C (nargs := 0) (o := 0) (st := []) (m_Rlook hci h) rfl (by decide) hci rfl gd_look (by decide +kernel) ⟨rfl, rfl⟩ dR_sum_28 ⟨by simp only [rmR]; omega, by simp only [rmR]; omega⟩ rfl rfl (Nat.le_of_ble_eq_true rfl) ?_
    intro r28c M28 hN
    replace h := hN
    clear hN
    refine g_istore_n C dR_sum_31 (by decide) rfl ?_
    refine g_locals (lv' := [(0, .ref (ad 0)), (1, iv r28c)]) rfl ?_
    refine g_aload_n C dR_sum_32 rfl ?_
    refine g_dup C dR_sum_33 rfl ?_
    refine rf_at C hci dR_sum_34 ?_
    refine g_iconst C dR_sum_37 ?_
    refine g_iadd C dR_sum_38 ?_
    refine rp_at C hci dR_sum_39 ?_
    refine g_memname (fun M39 hM39 => ?_)
    replace h := h M39 hM39
    refine g_aload_n C dR_sum_42 rfl ?_
    refine g_callVi C (nargs := 0) (o := 0) (st := []) (hrc4 h) rfl (by decide) hci rfl gd_product (by decide +kernel) ⟨rfl, rfl⟩ dR_sum_43 ⟨by simp only [rmR]; omega, by simp only [rmR]; omega⟩ rfl rfl (Nat.le_of_ble_eq_true rfl) ?_
    intro r43c M43 hN
    replace h := hN
    clear hN
    refine g_if_ne C 51 dR_sum_46 (by decide) (fun hc => ?_) (fun hc => ?_)
    · replace h := h.1 hc
      refine g_aload_n C dR_sum_51 rfl ?_
      refine g_iconst C dR_sum_52 ?_
      refine g_iload_n C dR_sum_53 rfl ?_
      refine g_callVv C (nargs := 2) (o := 0) (st := []) (m_Rlays hci h) rfl (by decide) hci rfl gd_lays (by decide +kernel) ⟨rfl, rfl⟩ dR_sum_54 ⟨by simp only [rmR]; omega, by simp only [rmR]; omega⟩ rfl rfl (Nat.le_of_ble_eq_true rfl) ?_
      intro M54 hN
      replace h := hN
      clear hN
      refine g_goto C 9 dR_sum_57 (by decide) ?_
      refine g_locals (lv' := [(0, .ref (ad 0))]) rfl ?_
      exact hr9  _ h
    · replace h := h.2 hc
      refine g_locals (lv' := []) rfl ?_
      exact hX9_49  _ h
  have pC9 : ∀ (r9 : gSt → Prop) (X9_49 : gSt → Prop) (X9_60 : gSt → Prop) (hr9 : ∀  (M : gSt), r9  M → gG p l e (rmR (d + 1 + 1) ((d + 1) * 23 + 22)) s m args below meth c Q D cl A (wR ad cI ci) 2 9 [(0, .ref (ad 0))] [] M) (hX9_49 : ∀  (M : gSt), X9_49  M → gG p l e (rmR (d + 1 + 1) ((d + 1) * 23 + 22)) s m args below meth c Q D cl A (wR ad cI ci) 2 49 [] [] M) (hX9_60 : ∀  (M : gSt), X9_60  M → gG p l e (rmR (d + 1 + 1) ((d + 1) * 23 + 22)) s m args below meth c Q D cl A (wR ad cI ci) 2 60 [] [] M)  (M : gSt), wC_Rsum_9 rc  k r9 X9_49 X9_60  M → gG p l e (rmR (d + 1 + 1) ((d + 1) * 23 + 22)) s m args below meth c Q D cl A (wR ad cI ci) 2 9 [(0, .ref (ad 0))] [] M := by
    intro r9 X9_49 X9_60 hr9 hX9_49 hX9_60  M h
    unfold wC_Rsum_9 at h
    refine g_aload_n C dR_sum_9 rfl ?_
    refine g_callVi C (nargs := 0) (o := 0) (st := []) (m_Rlook hci h) rfl (by decide) hci rfl gd_look (by decide +kernel) ⟨rfl, rfl⟩ dR_sum_10 ⟨by simp only [rmR]; omega, by simp only [rmR]; omega⟩ rfl rfl (Nat.le_of_ble_eq_true rfl) ?_
    intro r10c M10 hN
    replace h := hN
    clear hN
    refine g_bipush C dR_sum_13 rfl ?_
    refine g_icmp_eq C 27 dR_sum_15 (by decide) (fun hc => ?_) (fun hc => ?_)
    · replace h := h.1 hc
      refine g_locals (lv' := [(0, .ref (ad 0))]) rfl ?_
      exact pB27 r9 X9_49 X9_60 hr9 hX9_49 hX9_60 _ h
    · replace h := h.2 hc
      refine g_aload_n C dR_sum_18 rfl ?_
      refine g_callVi C (nargs := 0) (o := 0) (st := []) (m_Rlook hci h) rfl (by decide) hci rfl gd_look (by decide +kernel) ⟨rfl, rfl⟩ dR_sum_19 ⟨by simp only [rmR]; omega, by simp only [rmR]; omega⟩ rfl rfl (Nat.le_of_ble_eq_true rfl) ?_
      intro r19c M19 hN
      replace h := hN
      clear hN
      refine g_bipush C dR_sum_22 rfl ?_
      refine g_icmp_ne C 60 dR_sum_24 (by decide) (fun hc => ?_) (fun hc => ?_)
      · replace h := h.1 hc
        refine g_locals (lv' := []) rfl ?_
        exact hX9_60  _ h
      · replace h := h.2 hc
        refine g_locals (lv' := [(0, .ref (ad 0))]) rfl ?_
        exact pB27 r9 X9_49 X9_60 hr9 hX9_49 hX9_60 _ h
  have pL9 : ∀  (X9_49 : gSt → Prop) (X9_60 : gSt → Prop) (hX9_49 : ∀  (M : gSt), X9_49  M → gG p l e (rmR (d + 1 + 1) ((d + 1) * 23 + 22)) s m args below meth c Q D cl A (wR ad cI ci) 2 49 [] [] M) (hX9_60 : ∀  (M : gSt), X9_60  M → gG p l e (rmR (d + 1 + 1) ((d + 1) * 23 + 22)) s m args below meth c Q D cl A (wR ad cI ci) 2 60 [] [] M) (n : Nat)  (M : gSt), wL_Rsum_9 rc  k  X9_49 X9_60 n  M → gG p l e (rmR (d + 1 + 1) ((d + 1) * 23 + 22)) s m args below meth c Q D cl A (wR ad cI ci) 2 9 [(0, .ref (ad 0))] [] M := by
    intro  X9_49 X9_60 hX9_49 hX9_60 n
    induction n with
    | zero => intro  M h; exact h.elim
    | succ n ih =>
      intro  M h
      exact pC9  (wL_Rsum_9 rc  k  X9_49 X9_60 n) X9_49 X9_60 ih hX9_49 hX9_60  M h
  refine g_locals (lv' := [(0, .ref (ad 0))]) rfl ?_
  unfold wb_Rsum at h
  refine g_aload_n C dR_sum_0 rfl ?_
  refine g_callVi C (nargs := 0) (o := 0) (st := []) (hrc4 h) rfl (by decide) hci rfl gd_product (by decide +kernel) ⟨rfl, rfl⟩ dR_sum_1 ⟨by simp only [rmR]; omega, by simp only [rmR]; omega⟩ rfl rfl (Nat.le_of_ble_eq_true rfl) ?_
  intro r1c M1 hN
  replace h := hN
  clear hN
  refine g_if_ne C 9 dR_sum_4 (by decide) (fun hc => ?_) (fun hc => ?_)
  · replace h := h.1 hc
    refine g_locals (lv' := [(0, .ref (ad 0))]) rfl ?_
    obtain ⟨n, h⟩ := h
    refine pL9 _ _ ?_ ?_ n  _ h
    · intro  M9 hN
      replace h := hN
      clear hN
      refine g_iconst C dR_sum_49 ?_
      exact hR _ _ _ _ dR_sum_50 rfl h
    · intro  M9 hN
      replace h := hN
      clear hN
      refine g_iconst C dR_sum_60 ?_
      exact hR _ _ _ _ dR_sum_61 rfl h
  · replace h := h.2 hc
    refine g_iconst C dR_sum_7 ?_
    exact hR _ _ _ _ dR_sum_8 rfl h
def wB_Rproduct_36 (rc : Nat → List Int → gSt → (Int → gSt → Prop) → Prop)  (k : Int → gSt → Prop) (r9 : gSt → Prop) (X9_58 : gSt → Prop) (X9_69 : gSt → Prop)  (M : gSt) : Prop :=
w_Rlook  M (fun r37c M37 => ∀ M48 : gSt, M48 = wr M37 0 5 ((M37 0 5) + 1) → (rc 5 [] M48 (fun r52c M52 => 
  (¬ wrap r52c = 0 →
    w_Rlays 3 r37c M52 (fun M63 => r9  M63)) ∧
  (wrap r52c = 0 →
    X9_58  M52))))
def wC_Rproduct_9 (rc : Nat → List Int → gSt → (Int → gSt → Prop) → Prop)  (k : Int → gSt → Prop) (r9 : gSt → Prop) (X9_58 : gSt → Prop) (X9_69 : gSt → Prop)  (M : gSt) : Prop :=
w_Rlook  M (fun r10c M10 => 
  (wrap r10c = 42 →
    wB_Rproduct_36 rc  k r9 X9_58 X9_69  M10) ∧
  (¬ wrap r10c = 42 →
    w_Rlook  M10 (fun r19c M19 => 
    (wrap r19c = 47 →
      wB_Rproduct_36 rc  k r9 X9_58 X9_69  M19) ∧
    (¬ wrap r19c = 47 →
      w_Rlook  M19 (fun r28c M28 => 
      (¬ wrap r28c = 37 →
        X9_69  M28) ∧
      (wrap r28c = 37 →
        wB_Rproduct_36 rc  k r9 X9_58 X9_69  M28))))))
def wL_Rproduct_9 (rc : Nat → List Int → gSt → (Int → gSt → Prop) → Prop)  (k : Int → gSt → Prop)  (X9_58 : gSt → Prop) (X9_69 : gSt → Prop) : Nat → gSt → Prop
  | 0 => fun  _ => False
  | n + 1 => fun  M => wC_Rproduct_9 rc  k  (wL_Rproduct_9 rc  k  X9_58 X9_69 n) X9_58 X9_69  M
def wb_Rproduct (rc : Nat → List Int → gSt → (Int → gSt → Prop) → Prop)  (M : gSt) (k : Int → gSt → Prop) : Prop :=
rc 5 [] M (fun r1c M1 => 
  (¬ wrap r1c = 0 →
    ∃ n, wL_Rproduct_9 rc  k  (fun  M9 =>
      k 0 M9) (fun  M9 =>
      k 1 M9) n  M1) ∧
  (wrap r1c = 0 →
    k 0 M1))
set_option maxHeartbeats 4000000 in
set_option maxRecDepth 100000 in
theorem mb_Rproduct {l : Launch} {D : va_G} {cl : List vw_C} {tys : List (ClassId × FieldType)} {ad : Nat → Nat} {cI : ClassId} {ci : Nat} {Z : (Nat → Prop) → State → Prop} (hci : cl[ci]? = some (RX9, TX9, 23)) {rc : Nat → List Int → gSt → (Int → gSt → Prop) → Prop}  {d : Nat} (hrc0 : ∀ {M : gSt} {k : Int → gSt → Prop}, rc 0 [] M k → MOi l yX9_whole cX9_whole 1 .boolean (rmR (d + 1) (d * 23 + 22)) D cl ((cI, .int) :: tys) (wR ad cI ci) tR Z [.ref (ad 0)] M k) (hrc1 : ∀ {M : gSt} {k : Int → gSt → Prop}, rc 1 [] M k → MOi l yX9_both cX9_both 1 .boolean (rmR (d + 1) (d * 23 + 22)) D cl ((cI, .int) :: tys) (wR ad cI ci) tR Z [.ref (ad 0)] M k) (hrc2 : ∀ {M : gSt} {k : Int → gSt → Prop}, rc 2 [] M k → MOi l yX9_compared cX9_compared 2 .boolean (rmR (d + 1) (d * 23 + 22)) D cl ((cI, .int) :: tys) (wR ad cI ci) tR Z [.ref (ad 0)] M k) (hrc3 : ∀ {M : gSt} {k : Int → gSt → Prop}, rc 3 [] M k → MOi l yX9_sum cX9_sum 2 .boolean (rmR (d + 1) (d * 23 + 22)) D cl ((cI, .int) :: tys) (wR ad cI ci) tR Z [.ref (ad 0)] M k) (hrc4 : ∀ {M : gSt} {k : Int → gSt → Prop}, rc 4 [] M k → MOi l yX9_product cX9_product 2 .boolean (rmR (d + 1) (d * 23 + 22)) D cl ((cI, .int) :: tys) (wR ad cI ci) tR Z [.ref (ad 0)] M k) (hrc5 : ∀ {M : gSt} {k : Int → gSt → Prop}, rc 5 [] M k → MOi l yX9_one cX9_one 4 .boolean (rmR (d + 1) (d * 23 + 22)) D cl ((cI, .int) :: tys) (wR ad cI ci) tR Z [.ref (ad 0)] M k) {M : gSt} {k : Int → gSt → Prop} (h : wb_Rproduct rc  M k) : MOi l yX9_product cX9_product 2 .boolean (rmR (d + 1 + 1) ((d + 1) * 23 + 22)) D cl ((cI, .int) :: tys) (wR ad cI ci) tR Z [.ref (ad 0)] M k := by
  refine moi_intro (by decide +kernel) (Nat.le_of_ble_eq_true rfl) wi_154 ?_
  intro p e s m args below meth c A Q C hR
  have pB36 : ∀ (r9 : gSt → Prop) (X9_58 : gSt → Prop) (X9_69 : gSt → Prop) (hr9 : ∀  (M : gSt), r9  M → gG p l e (rmR (d + 1 + 1) ((d + 1) * 23 + 22)) s m args below meth c Q D cl A (wR ad cI ci) 2 9 [(0, .ref (ad 0))] [] M) (hX9_58 : ∀  (M : gSt), X9_58  M → gG p l e (rmR (d + 1 + 1) ((d + 1) * 23 + 22)) s m args below meth c Q D cl A (wR ad cI ci) 2 58 [] [] M) (hX9_69 : ∀  (M : gSt), X9_69  M → gG p l e (rmR (d + 1 + 1) ((d + 1) * 23 + 22)) s m args below meth c Q D cl A (wR ad cI ci) 2 69 [] [] M)  (M : gSt), wB_Rproduct_36 rc  k r9 X9_58 X9_69  M → gG p l e (rmR (d + 1 + 1) ((d + 1) * 23 + 22)) s m args below meth c Q D cl A (wR ad cI ci) 2 36 [(0, .ref (ad 0))] [] M := by
    intro r9 X9_58 X9_69 hr9 hX9_58 hX9_69  M h
    unfold wB_Rproduct_36 at h
    refine g_aload_n C dR_product_36 rfl ?_
    refine g_callVi C (nargs := 0) (o := 0) (st := []) (m_Rlook hci h) rfl (by decide) hci rfl gd_look (by decide +kernel) ⟨rfl, rfl⟩ dR_product_37 ⟨by simp only [rmR]; omega, by simp only [rmR]; omega⟩ rfl rfl (Nat.le_of_ble_eq_true rfl) ?_
    intro r37c M37 hN
    replace h := hN
    clear hN
    refine g_istore_n C dR_product_40 (by decide) rfl ?_
    refine g_locals (lv' := [(0, .ref (ad 0)), (1, iv r37c)]) rfl ?_
    refine g_aload_n C dR_product_41 rfl ?_
    refine g_dup C dR_product_42 rfl ?_
    refine rf_at C hci dR_product_43 ?_
    refine g_iconst C dR_product_46 ?_
    refine g_iadd C dR_product_47 ?_
    refine rp_at C hci dR_product_48 ?_
    refine g_memname (fun M48 hM48 => ?_)
    replace h := h M48 hM48
    refine g_aload_n C dR_product_51 rfl ?_
    refine g_callVi C (nargs := 0) (o := 0) (st := []) (hrc5 h) rfl (by decide) hci rfl gd_one (by decide +kernel) ⟨rfl, rfl⟩ dR_product_52 ⟨by simp only [rmR]; omega, by simp only [rmR]; omega⟩ rfl rfl (Nat.le_of_ble_eq_true rfl) ?_
    intro r52c M52 hN
    replace h := hN
    clear hN
    refine g_if_ne C 60 dR_product_55 (by decide) (fun hc => ?_) (fun hc => ?_)
    · replace h := h.1 hc
      refine g_aload_n C dR_product_60 rfl ?_
      refine g_iconst C dR_product_61 ?_
      refine g_iload_n C dR_product_62 rfl ?_
      refine g_callVv C (nargs := 2) (o := 0) (st := []) (m_Rlays hci h) rfl (by decide) hci rfl gd_lays (by decide +kernel) ⟨rfl, rfl⟩ dR_product_63 ⟨by simp only [rmR]; omega, by simp only [rmR]; omega⟩ rfl rfl (Nat.le_of_ble_eq_true rfl) ?_
      intro M63 hN
      replace h := hN
      clear hN
      refine g_goto C 9 dR_product_66 (by decide) ?_
      refine g_locals (lv' := [(0, .ref (ad 0))]) rfl ?_
      exact hr9  _ h
    · replace h := h.2 hc
      refine g_locals (lv' := []) rfl ?_
      exact hX9_58  _ h
  have pC9 : ∀ (r9 : gSt → Prop) (X9_58 : gSt → Prop) (X9_69 : gSt → Prop) (hr9 : ∀  (M : gSt), r9  M → gG p l e (rmR (d + 1 + 1) ((d + 1) * 23 + 22)) s m args below meth c Q D cl A (wR ad cI ci) 2 9 [(0, .ref (ad 0))] [] M) (hX9_58 : ∀  (M : gSt), X9_58  M → gG p l e (rmR (d + 1 + 1) ((d + 1) * 23 + 22)) s m args below meth c Q D cl A (wR ad cI ci) 2 58 [] [] M) (hX9_69 : ∀  (M : gSt), X9_69  M → gG p l e (rmR (d + 1 + 1) ((d + 1) * 23 + 22)) s m args below meth c Q D cl A (wR ad cI ci) 2 69 [] [] M)  (M : gSt), wC_Rproduct_9 rc  k r9 X9_58 X9_69  M → gG p l e (rmR (d + 1 + 1) ((d + 1) * 23 + 22)) s m args below meth c Q D cl A (wR ad cI ci) 2 9 [(0, .ref (ad 0))] [] M := by
    intro r9 X9_58 X9_69 hr9 hX9_58 hX9_69  M h
    unfold wC_Rproduct_9 at h
    refine g_aload_n C dR_product_9 rfl ?_
    refine g_callVi C (nargs := 0) (o := 0) (st := []) (m_Rlook hci h) rfl (by decide) hci rfl gd_look (by decide +kernel) ⟨rfl, rfl⟩ dR_product_10 ⟨by simp only [rmR]; omega, by simp only [rmR]; omega⟩ rfl rfl (Nat.le_of_ble_eq_true rfl) ?_
    intro r10c M10 hN
    replace h := hN
    clear hN
    refine g_bipush C dR_product_13 rfl ?_
    refine g_icmp_eq C 36 dR_product_15 (by decide) (fun hc => ?_) (fun hc => ?_)
    · replace h := h.1 hc
      refine g_locals (lv' := [(0, .ref (ad 0))]) rfl ?_
      exact pB36 r9 X9_58 X9_69 hr9 hX9_58 hX9_69 _ h
    · replace h := h.2 hc
      refine g_aload_n C dR_product_18 rfl ?_
      refine g_callVi C (nargs := 0) (o := 0) (st := []) (m_Rlook hci h) rfl (by decide) hci rfl gd_look (by decide +kernel) ⟨rfl, rfl⟩ dR_product_19 ⟨by simp only [rmR]; omega, by simp only [rmR]; omega⟩ rfl rfl (Nat.le_of_ble_eq_true rfl) ?_
      intro r19c M19 hN
      replace h := hN
      clear hN
      refine g_bipush C dR_product_22 rfl ?_
      refine g_icmp_eq C 36 dR_product_24 (by decide) (fun hc => ?_) (fun hc => ?_)
      · replace h := h.1 hc
        refine g_locals (lv' := [(0, .ref (ad 0))]) rfl ?_
        exact pB36 r9 X9_58 X9_69 hr9 hX9_58 hX9_69 _ h
      · replace h := h.2 hc
        refine g_aload_n C dR_product_27 rfl ?_
        refine g_callVi C (nargs := 0) (o := 0) (st := []) (m_Rlook hci h) rfl (by decide) hci rfl gd_look (by decide +kernel) ⟨rfl, rfl⟩ dR_product_28 ⟨by simp only [rmR]; omega, by simp only [rmR]; omega⟩ rfl rfl (Nat.le_of_ble_eq_true rfl) ?_
        intro r28c M28 hN
        replace h := hN
        clear hN
        refine g_bipush C dR_product_31 rfl ?_
        refine g_icmp_ne C 69 dR_product_33 (by decide) (fun hc => ?_) (fun hc => ?_)
        · replace h := h.1 hc
          refine g_locals (lv' := []) rfl ?_
          exact hX9_69  _ h
        · replace h := h.2 hc
          refine g_locals (lv' := [(0, .ref (ad 0))]) rfl ?_
          exact pB36 r9 X9_58 X9_69 hr9 hX9_58 hX9_69 _ h
  have pL9 : ∀  (X9_58 : gSt → Prop) (X9_69 : gSt → Prop) (hX9_58 : ∀  (M : gSt), X9_58  M → gG p l e (rmR (d + 1 + 1) ((d + 1) * 23 + 22)) s m args below meth c Q D cl A (wR ad cI ci) 2 58 [] [] M) (hX9_69 : ∀  (M : gSt), X9_69  M → gG p l e (rmR (d + 1 + 1) ((d + 1) * 23 + 22)) s m args below meth c Q D cl A (wR ad cI ci) 2 69 [] [] M) (n : Nat)  (M : gSt), wL_Rproduct_9 rc  k  X9_58 X9_69 n  M → gG p l e (rmR (d + 1 + 1) ((d + 1) * 23 + 22)) s m args below meth c Q D cl A (wR ad cI ci) 2 9 [(0, .ref (ad 0))] [] M := by
    intro  X9_58 X9_69 hX9_58 hX9_69 n
    induction n with
    | zero => intro  M h; exact h.elim
    | succ n ih =>
      intro  M h
      exact pC9  (wL_Rproduct_9 rc  k  X9_58 X9_69 n) X9_58 X9_69 ih hX9_58 hX9_69  M h
  refine g_locals (lv' := [(0, .ref (ad 0))]) rfl ?_
  unfold wb_Rproduct at h
  refine g_aload_n C dR_product_0 rfl ?_
  refine g_callVi C (nargs := 0) (o := 0) (st := []) (hrc5 h) rfl (by decide) hci rfl gd_one (by decide +kernel) ⟨rfl, rfl⟩ dR_product_1 ⟨by simp only [rmR]; omega, by simp only [rmR]; omega⟩ rfl rfl (Nat.le_of_ble_eq_true rfl) ?_
  intro r1c M1 hN
  replace h := hN
  clear hN
  refine g_if_ne C 9 dR_product_4 (by decide) (fun hc => ?_) (fun hc => ?_)
  · replace h := h.1 hc
    refine g_locals (lv' := [(0, .ref (ad 0))]) rfl ?_
    obtain ⟨n, h⟩ := h
    refine pL9 _ _ ?_ ?_ n  _ h
    · intro  M9 hN
      replace h := hN
      clear hN
      refine g_iconst C dR_product_58 ?_
      exact hR _ _ _ _ dR_product_59 rfl h
    · intro  M9 hN
      replace h := hN
      clear hN
      refine g_iconst C dR_product_69 ?_
      exact hR _ _ _ _ dR_product_70 rfl h
  · replace h := h.2 hc
    refine g_iconst C dR_product_7 ?_
    exact hR _ _ _ _ dR_product_8 rfl h
def wC_Rone_46 (rc : Nat → List Int → gSt → (Int → gSt → Prop) → Prop)  (k : Int → gSt → Prop) (r46 : Int → Int → gSt → Prop) (X46_94 : Int → gSt → Prop) (v2 : Int) (v3 : Int) (M : gSt) : Prop :=

  (4 ≤ wrap v3 →
    X46_94 v2 M) ∧
  (wrap v3 < 4 →
    w_Rlook  M (fun r52c M52 => w_Rin r52c 48 57 M52 (fun r59c M59 => 
    (wrap r59c = 0 →
      X46_94 v2 M59) ∧
    (¬ wrap r59c = 0 →
      w_Rlook  M59 (fun r70c M70 => ∀ x2_77 : Int, x2_77 = ((10 * v2) + r70c) - 48 → (∀ M85 : gSt, M85 = wr M70 0 5 ((M70 0 5) + 1) → (r46 x2_77 (v3 + 1) M85)))))))
def wL_Rone_46 (rc : Nat → List Int → gSt → (Int → gSt → Prop) → Prop)  (k : Int → gSt → Prop)  (X46_94 : Int → gSt → Prop) : Nat → Int → Int → gSt → Prop
  | 0 => fun _ _ _ => False
  | n + 1 => fun v2 v3 M => wC_Rone_46 rc  k  (wL_Rone_46 rc  k  X46_94 n) X46_94 v2 v3 M
def wB_Rone_94 (rc : Nat → List Int → gSt → (Int → gSt → Prop) → Prop)  (k : Int → gSt → Prop)  (v2 : Int) (M : gSt) : Prop :=
w_Rlays 0 v2 M (fun M97 => k 1 M97)
def wb_Rone (rc : Nat → List Int → gSt → (Int → gSt → Prop) → Prop)  (M : gSt) (k : Int → gSt → Prop) : Prop :=
w_Rlook  M (fun r1c M1 => w_RisName r1c M1 (fun r7c M7 => 
  (wrap r7c = 0 →
    w_Rin r1c 48 57 M7 (fun r36c M36 => 
    (wrap r36c = 0 →

      (¬ wrap r1c = 33 →

        (¬ wrap r1c = 40 →
          k 0 M36) ∧
        (wrap r1c = 40 →
          w_Ropens  M36 (fun r149c M149 => 
          (wrap r149c = 0 →
            k 0 M149) ∧
          (¬ wrap r149c = 0 →
            rc 0 [] M149 (fun r156c M156 => 
            (wrap r156c = 0 →
              k 0 M156) ∧
            (¬ wrap r156c = 0 →
              w_Rlook  M156 (fun r163c M163 => 
              (wrap r163c = 41 →
                ∀ M180 : gSt, M180 = wr M163 0 5 ((M163 0 5) + 1) → (∀ M190 : gSt, M190 = wr M180 0 6 ((M180 0 6) - 1) → (k 1 M190))) ∧
              (¬ wrap r163c = 41 →
                k 0 M163)))))))) ∧
      (wrap r1c = 33 →
        w_Ropens  M36 (fun r109c M109 => 
        (wrap r109c = 0 →
          k 0 M109) ∧
        (¬ wrap r109c = 0 →
          rc 5 [] M109 (fun r116c M116 => 
          (¬ wrap r116c = 0 →
            ∀ M131 : gSt, M131 = wr M116 0 6 ((M116 0 6) - 1) → (w_Rlays 2 0 M131 (fun M137 => k 1 M137))) ∧
          (wrap r116c = 0 →
            k 0 M116)))))) ∧
    (¬ wrap r36c = 0 →
      ∃ n, wL_Rone_46 rc  k  (fun u2_46 M46 =>
        wB_Rone_94 rc  k  u2_46 M46) n 0 0 M36))) ∧
  (¬ wrap r7c = 0 →
    ∀ M20 : gSt, M20 = wr M7 0 5 ((M7 0 5) + 1) → (w_Rlays 1 r1c M20 (fun M26 => k 1 M26)))))
set_option maxHeartbeats 4000000 in
set_option maxRecDepth 100000 in
theorem mb_Rone {l : Launch} {D : va_G} {cl : List vw_C} {tys : List (ClassId × FieldType)} {ad : Nat → Nat} {cI : ClassId} {ci : Nat} {Z : (Nat → Prop) → State → Prop} (hci : cl[ci]? = some (RX9, TX9, 23)) {rc : Nat → List Int → gSt → (Int → gSt → Prop) → Prop}  {d : Nat} (hrc0 : ∀ {M : gSt} {k : Int → gSt → Prop}, rc 0 [] M k → MOi l yX9_whole cX9_whole 1 .boolean (rmR (d + 1) (d * 23 + 22)) D cl ((cI, .int) :: tys) (wR ad cI ci) tR Z [.ref (ad 0)] M k) (hrc1 : ∀ {M : gSt} {k : Int → gSt → Prop}, rc 1 [] M k → MOi l yX9_both cX9_both 1 .boolean (rmR (d + 1) (d * 23 + 22)) D cl ((cI, .int) :: tys) (wR ad cI ci) tR Z [.ref (ad 0)] M k) (hrc2 : ∀ {M : gSt} {k : Int → gSt → Prop}, rc 2 [] M k → MOi l yX9_compared cX9_compared 2 .boolean (rmR (d + 1) (d * 23 + 22)) D cl ((cI, .int) :: tys) (wR ad cI ci) tR Z [.ref (ad 0)] M k) (hrc3 : ∀ {M : gSt} {k : Int → gSt → Prop}, rc 3 [] M k → MOi l yX9_sum cX9_sum 2 .boolean (rmR (d + 1) (d * 23 + 22)) D cl ((cI, .int) :: tys) (wR ad cI ci) tR Z [.ref (ad 0)] M k) (hrc4 : ∀ {M : gSt} {k : Int → gSt → Prop}, rc 4 [] M k → MOi l yX9_product cX9_product 2 .boolean (rmR (d + 1) (d * 23 + 22)) D cl ((cI, .int) :: tys) (wR ad cI ci) tR Z [.ref (ad 0)] M k) (hrc5 : ∀ {M : gSt} {k : Int → gSt → Prop}, rc 5 [] M k → MOi l yX9_one cX9_one 4 .boolean (rmR (d + 1) (d * 23 + 22)) D cl ((cI, .int) :: tys) (wR ad cI ci) tR Z [.ref (ad 0)] M k) {M : gSt} {k : Int → gSt → Prop} (h : wb_Rone rc  M k) : MOi l yX9_one cX9_one 4 .boolean (rmR (d + 1 + 1) ((d + 1) * 23 + 22)) D cl ((cI, .int) :: tys) (wR ad cI ci) tR Z [.ref (ad 0)] M k := by
  refine moi_intro (by decide +kernel) (Nat.le_of_ble_eq_true rfl) wi_141 ?_
  intro p e s m args below meth c A Q C hR
  have pC46 : ∀ (r46 : Int → Int → gSt → Prop) (X46_94 : Int → gSt → Prop) (hr46 : ∀ (v2 : Int) (v3 : Int) (M : gSt), r46 v2 v3 M → gG p l e (rmR (d + 1 + 1) ((d + 1) * 23 + 22)) s m args below meth c Q D cl A (wR ad cI ci) 4 46 [(0, .ref (ad 0)), (2, iv v2), (3, iv v3)] [] M) (hX46_94 : ∀ (v2 : Int) (M : gSt), X46_94 v2 M → gG p l e (rmR (d + 1 + 1) ((d + 1) * 23 + 22)) s m args below meth c Q D cl A (wR ad cI ci) 4 94 [(0, .ref (ad 0)), (2, iv v2)] [] M) (v2 : Int) (v3 : Int) (M : gSt), wC_Rone_46 rc  k r46 X46_94 v2 v3 M → gG p l e (rmR (d + 1 + 1) ((d + 1) * 23 + 22)) s m args below meth c Q D cl A (wR ad cI ci) 4 46 [(0, .ref (ad 0)), (2, iv v2), (3, iv v3)] [] M := by
    intro r46 X46_94 hr46 hX46_94 v2 v3 M h
    unfold wC_Rone_46 at h
    refine g_iload_n C dR_one_46 rfl ?_
    refine g_iconst C dR_one_47 ?_
    refine g_icmp_ge C 94 dR_one_48 (by decide) (fun hc => ?_) (fun hc => ?_)
    · replace h := h.1 hc
      refine g_locals (lv' := [(0, .ref (ad 0)), (2, iv v2)]) rfl ?_
      exact hX46_94 _  _ h
    · replace h := h.2 hc
      refine g_aload_n C dR_one_51 rfl ?_
      refine g_callVi C (nargs := 0) (o := 0) (st := []) (m_Rlook hci h) rfl (by decide) hci rfl gd_look (by decide +kernel) ⟨rfl, rfl⟩ dR_one_52 ⟨by simp only [rmR]; omega, by simp only [rmR]; omega⟩ rfl rfl (Nat.le_of_ble_eq_true rfl) ?_
      intro r52c M52 hN
      replace h := hN
      clear hN
      refine g_bipush C dR_one_55 rfl ?_
      refine g_bipush C dR_one_57 rfl ?_
      refine g_callSi C (nargs := 3) (st := []) (m_Rin hci h) gd_in (by decide +kernel) ⟨rfl, rfl⟩ dR_one_59 ⟨by simp only [rmR]; omega, by simp only [rmR]; omega⟩ rfl rfl (Nat.le_of_ble_eq_true rfl) ?_
      intro r59c M59 hN
      replace h := hN
      clear hN
      refine g_if_eq C 94 dR_one_62 (by decide) (fun hc => ?_) (fun hc => ?_)
      · replace h := h.1 hc
        refine g_locals (lv' := [(0, .ref (ad 0)), (2, iv v2)]) rfl ?_
        exact hX46_94 _  _ h
      · replace h := h.2 hc
        refine g_bipush C dR_one_65 rfl ?_
        refine g_iload_n C dR_one_67 rfl ?_
        refine g_imul C dR_one_68 ?_
        refine g_aload_n C dR_one_69 rfl ?_
        refine g_callVi C (nargs := 0) (o := 0) (st := [iv (10 * v2)]) (m_Rlook hci h) rfl (by decide) hci rfl gd_look (by decide +kernel) ⟨rfl, rfl⟩ dR_one_70 ⟨by simp only [rmR]; omega, by simp only [rmR]; omega⟩ rfl rfl (Nat.le_of_ble_eq_true rfl) ?_
        intro r70c M70 hN
        replace h := hN
        clear hN
        refine g_iadd C dR_one_73 ?_
        refine g_bipush C dR_one_74 rfl ?_
        refine g_isub C dR_one_76 ?_
        refine g_name (fun x2_77 hx2_77 => ?_)
        replace h := h x2_77 hx2_77
        refine g_istore_n C dR_one_77 (by decide) rfl ?_
        refine g_locals (lv' := [(0, .ref (ad 0)), (2, iv x2_77), (3, iv v3)]) rfl ?_
        refine g_aload_n C dR_one_78 rfl ?_
        refine g_dup C dR_one_79 rfl ?_
        refine rf_at C hci dR_one_80 ?_
        refine g_iconst C dR_one_83 ?_
        refine g_iadd C dR_one_84 ?_
        refine rp_at C hci dR_one_85 ?_
        refine g_memname (fun M85 hM85 => ?_)
        replace h := h M85 hM85
        refine g_iinc C dR_one_88 rfl (by decide) rfl ?_
        refine g_locals (lv' := [(0, .ref (ad 0)), (2, iv x2_77), (3, iv (v3 + 1))]) rfl ?_
        refine g_goto C 46 dR_one_91 (by decide) ?_
        refine g_locals (lv' := [(0, .ref (ad 0)), (2, iv x2_77), (3, iv (v3 + 1))]) rfl ?_
        exact hr46 _ _  _ h
  have pL46 : ∀  (X46_94 : Int → gSt → Prop) (hX46_94 : ∀ (v2 : Int) (M : gSt), X46_94 v2 M → gG p l e (rmR (d + 1 + 1) ((d + 1) * 23 + 22)) s m args below meth c Q D cl A (wR ad cI ci) 4 94 [(0, .ref (ad 0)), (2, iv v2)] [] M) (n : Nat) (v2 : Int) (v3 : Int) (M : gSt), wL_Rone_46 rc  k  X46_94 n v2 v3 M → gG p l e (rmR (d + 1 + 1) ((d + 1) * 23 + 22)) s m args below meth c Q D cl A (wR ad cI ci) 4 46 [(0, .ref (ad 0)), (2, iv v2), (3, iv v3)] [] M := by
    intro  X46_94 hX46_94 n
    induction n with
    | zero => intro v2 v3 M h; exact h.elim
    | succ n ih =>
      intro v2 v3 M h
      exact pC46  (wL_Rone_46 rc  k  X46_94 n) X46_94 ih hX46_94 v2 v3 M h
  have pB94 : ∀   (v2 : Int) (M : gSt), wB_Rone_94 rc  k  v2 M → gG p l e (rmR (d + 1 + 1) ((d + 1) * 23 + 22)) s m args below meth c Q D cl A (wR ad cI ci) 4 94 [(0, .ref (ad 0)), (2, iv v2)] [] M := by
    intro   v2 M h
    unfold wB_Rone_94 at h
    refine g_aload_n C dR_one_94 rfl ?_
    refine g_iconst C dR_one_95 ?_
    refine g_iload_n C dR_one_96 rfl ?_
    refine g_callVv C (nargs := 2) (o := 0) (st := []) (m_Rlays hci h) rfl (by decide) hci rfl gd_lays (by decide +kernel) ⟨rfl, rfl⟩ dR_one_97 ⟨by simp only [rmR]; omega, by simp only [rmR]; omega⟩ rfl rfl (Nat.le_of_ble_eq_true rfl) ?_
    intro M97 hN
    replace h := hN
    clear hN
    refine g_iconst C dR_one_100 ?_
    exact hR _ _ _ _ dR_one_101 rfl h
  refine g_locals (lv' := [(0, .ref (ad 0))]) rfl ?_
  unfold wb_Rone at h
  refine g_aload_n C dR_one_0 rfl ?_
  refine g_callVi C (nargs := 0) (o := 0) (st := []) (m_Rlook hci h) rfl (by decide) hci rfl gd_look (by decide +kernel) ⟨rfl, rfl⟩ dR_one_1 ⟨by simp only [rmR]; omega, by simp only [rmR]; omega⟩ rfl rfl (Nat.le_of_ble_eq_true rfl) ?_
  intro r1c M1 hN
  replace h := hN
  clear hN
  refine g_istore_n C dR_one_4 (by decide) rfl ?_
  refine g_locals (lv' := [(0, .ref (ad 0)), (1, iv r1c)]) rfl ?_
  refine g_aload_n C dR_one_5 rfl ?_
  refine g_iload_n C dR_one_6 rfl ?_
  refine g_callVi C (nargs := 1) (o := 0) (st := []) (m_RisName hci h) rfl (by decide) hci rfl gd_isName (by decide +kernel) ⟨rfl, rfl⟩ dR_one_7 ⟨by simp only [rmR]; omega, by simp only [rmR]; omega⟩ rfl rfl (Nat.le_of_ble_eq_true rfl) ?_
  intro r7c M7 hN
  replace h := hN
  clear hN
  refine g_if_eq C 31 dR_one_10 (by decide) (fun hc => ?_) (fun hc => ?_)
  · replace h := h.1 hc
    refine g_iload_n C dR_one_31 rfl ?_
    refine g_bipush C dR_one_32 rfl ?_
    refine g_bipush C dR_one_34 rfl ?_
    refine g_callSi C (nargs := 3) (st := []) (m_Rin hci h) gd_in (by decide +kernel) ⟨rfl, rfl⟩ dR_one_36 ⟨by simp only [rmR]; omega, by simp only [rmR]; omega⟩ rfl rfl (Nat.le_of_ble_eq_true rfl) ?_
    intro r36c M36 hN
    replace h := hN
    clear hN
    refine g_if_eq C 102 dR_one_39 (by decide) (fun hc => ?_) (fun hc => ?_)
    · replace h := h.1 hc
      refine g_iload_n C dR_one_102 rfl ?_
      refine g_bipush C dR_one_103 rfl ?_
      refine g_icmp_ne C 142 dR_one_105 (by decide) (fun hc => ?_) (fun hc => ?_)
      · replace h := h.1 hc
        refine g_iload_n C dR_one_142 rfl ?_
        refine g_bipush C dR_one_143 rfl ?_
        refine g_icmp_ne C 171 dR_one_145 (by decide) (fun hc => ?_) (fun hc => ?_)
        · replace h := h.1 hc
          refine g_iconst C dR_one_171 ?_
          exact hR _ _ _ _ dR_one_172 rfl h
        · replace h := h.2 hc
          refine g_aload_n C dR_one_148 rfl ?_
          refine g_callVi C (nargs := 0) (o := 0) (st := []) (m_Ropens hci h) rfl (by decide) hci rfl gd_opens (by decide +kernel) ⟨rfl, rfl⟩ dR_one_149 ⟨by simp only [rmR]; omega, by simp only [rmR]; omega⟩ rfl rfl (Nat.le_of_ble_eq_true rfl) ?_
          intro r149c M149 hN
          replace h := hN
          clear hN
          refine g_if_eq C 171 dR_one_152 (by decide) (fun hc => ?_) (fun hc => ?_)
          · replace h := h.1 hc
            refine g_iconst C dR_one_171 ?_
            exact hR _ _ _ _ dR_one_172 rfl h
          · replace h := h.2 hc
            refine g_aload_n C dR_one_155 rfl ?_
            refine g_callVi C (nargs := 0) (o := 0) (st := []) (hrc0 h) rfl (by decide) hci rfl gd_whole (by decide +kernel) ⟨rfl, rfl⟩ dR_one_156 ⟨by simp only [rmR]; omega, by simp only [rmR]; omega⟩ rfl rfl (Nat.le_of_ble_eq_true rfl) ?_
            intro r156c M156 hN
            replace h := hN
            clear hN
            refine g_if_eq C 171 dR_one_159 (by decide) (fun hc => ?_) (fun hc => ?_)
            · replace h := h.1 hc
              refine g_iconst C dR_one_171 ?_
              exact hR _ _ _ _ dR_one_172 rfl h
            · replace h := h.2 hc
              refine g_aload_n C dR_one_162 rfl ?_
              refine g_callVi C (nargs := 0) (o := 0) (st := []) (m_Rlook hci h) rfl (by decide) hci rfl gd_look (by decide +kernel) ⟨rfl, rfl⟩ dR_one_163 ⟨by simp only [rmR]; omega, by simp only [rmR]; omega⟩ rfl rfl (Nat.le_of_ble_eq_true rfl) ?_
              intro r163c M163 hN
              replace h := hN
              clear hN
              refine g_bipush C dR_one_166 rfl ?_
              refine g_icmp_eq C 173 dR_one_168 (by decide) (fun hc => ?_) (fun hc => ?_)
              · replace h := h.1 hc
                refine g_aload_n C dR_one_173 rfl ?_
                refine g_dup C dR_one_174 rfl ?_
                refine rf_at C hci dR_one_175 ?_
                refine g_iconst C dR_one_178 ?_
                refine g_iadd C dR_one_179 ?_
                refine rp_at C hci dR_one_180 ?_
                refine g_memname (fun M180 hM180 => ?_)
                replace h := h M180 hM180
                refine g_aload_n C dR_one_183 rfl ?_
                refine g_dup C dR_one_184 rfl ?_
                refine rf_open C hci dR_one_185 ?_
                refine g_iconst C dR_one_188 ?_
                refine g_isub C dR_one_189 ?_
                refine rp_open C hci dR_one_190 ?_
                refine g_memname (fun M190 hM190 => ?_)
                replace h := h M190 hM190
                refine g_iconst C dR_one_193 ?_
                exact hR _ _ _ _ dR_one_194 rfl h
              · replace h := h.2 hc
                refine g_iconst C dR_one_171 ?_
                exact hR _ _ _ _ dR_one_172 rfl h
      · replace h := h.2 hc
        refine g_aload_n C dR_one_108 rfl ?_
        refine g_callVi C (nargs := 0) (o := 0) (st := []) (m_Ropens hci h) rfl (by decide) hci rfl gd_opens (by decide +kernel) ⟨rfl, rfl⟩ dR_one_109 ⟨by simp only [rmR]; omega, by simp only [rmR]; omega⟩ rfl rfl (Nat.le_of_ble_eq_true rfl) ?_
        intro r109c M109 hN
        replace h := hN
        clear hN
        refine g_if_eq C 122 dR_one_112 (by decide) (fun hc => ?_) (fun hc => ?_)
        · replace h := h.1 hc
          refine g_iconst C dR_one_122 ?_
          exact hR _ _ _ _ dR_one_123 rfl h
        · replace h := h.2 hc
          refine g_aload_n C dR_one_115 rfl ?_
          refine g_callVi C (nargs := 0) (o := 0) (st := []) (hrc5 h) rfl (by decide) hci rfl gd_one (by decide +kernel) ⟨rfl, rfl⟩ dR_one_116 ⟨by simp only [rmR]; omega, by simp only [rmR]; omega⟩ rfl rfl (Nat.le_of_ble_eq_true rfl) ?_
          intro r116c M116 hN
          replace h := hN
          clear hN
          refine g_if_ne C 124 dR_one_119 (by decide) (fun hc => ?_) (fun hc => ?_)
          · replace h := h.1 hc
            refine g_aload_n C dR_one_124 rfl ?_
            refine g_dup C dR_one_125 rfl ?_
            refine rf_open C hci dR_one_126 ?_
            refine g_iconst C dR_one_129 ?_
            refine g_isub C dR_one_130 ?_
            refine rp_open C hci dR_one_131 ?_
            refine g_memname (fun M131 hM131 => ?_)
            replace h := h M131 hM131
            refine g_aload_n C dR_one_134 rfl ?_
            refine g_iconst C dR_one_135 ?_
            refine g_iconst C dR_one_136 ?_
            refine g_callVv C (nargs := 2) (o := 0) (st := []) (m_Rlays hci h) rfl (by decide) hci rfl gd_lays (by decide +kernel) ⟨rfl, rfl⟩ dR_one_137 ⟨by simp only [rmR]; omega, by simp only [rmR]; omega⟩ rfl rfl (Nat.le_of_ble_eq_true rfl) ?_
            intro M137 hN
            replace h := hN
            clear hN
            refine g_iconst C dR_one_140 ?_
            exact hR _ _ _ _ dR_one_141 rfl h
          · replace h := h.2 hc
            refine g_iconst C dR_one_122 ?_
            exact hR _ _ _ _ dR_one_123 rfl h
    · replace h := h.2 hc
      refine g_iconst C dR_one_42 ?_
      refine g_istore_n C dR_one_43 (by decide) rfl ?_
      refine g_locals (lv' := [(0, .ref (ad 0)), (1, iv r1c), (2, iv 0)]) rfl ?_
      refine g_iconst C dR_one_44 ?_
      refine g_istore_n C dR_one_45 (by decide) rfl ?_
      refine g_locals (lv' := [(0, .ref (ad 0)), (1, iv r1c), (2, iv 0), (3, iv 0)]) rfl ?_
      refine g_locals (lv' := [(0, .ref (ad 0)), (2, iv 0), (3, iv 0)]) rfl ?_
      obtain ⟨n, h⟩ := h
      refine pL46 _ ?_ n _ _ _ h
      · intro u2_46 M46 hN
        replace h := hN
        clear hN
        refine g_locals (lv' := [(0, .ref (ad 0)), (2, iv u2_46)]) rfl ?_
        exact pB94 _ _ h
  · replace h := h.2 hc
    refine g_aload_n C dR_one_13 rfl ?_
    refine g_dup C dR_one_14 rfl ?_
    refine rf_at C hci dR_one_15 ?_
    refine g_iconst C dR_one_18 ?_
    refine g_iadd C dR_one_19 ?_
    refine rp_at C hci dR_one_20 ?_
    refine g_memname (fun M20 hM20 => ?_)
    replace h := h M20 hM20
    refine g_aload_n C dR_one_23 rfl ?_
    refine g_iconst C dR_one_24 ?_
    refine g_iload_n C dR_one_25 rfl ?_
    refine g_callVv C (nargs := 2) (o := 0) (st := []) (m_Rlays hci h) rfl (by decide) hci rfl gd_lays (by decide +kernel) ⟨rfl, rfl⟩ dR_one_26 ⟨by simp only [rmR]; omega, by simp only [rmR]; omega⟩ rfl rfl (Nat.le_of_ble_eq_true rfl) ?_
    intro M26 hN
    replace h := hN
    clear hN
    refine g_iconst C dR_one_29 ?_
    exact hR _ _ _ _ dR_one_30 rfl h
def wg_Rparse : Nat → Nat → List Int → gSt → (Int → gSt → Prop) → Prop
  | 0 => fun _ _ _ _ => False
  | d + 1 => fun i xs M k => match i, xs with
    | 0, [] => wb_Rwhole (wg_Rparse d)  M k
    | 1, [] => wb_Rboth (wg_Rparse d)  M k
    | 2, [] => wb_Rcompared (wg_Rparse d)  M k
    | 3, [] => wb_Rsum (wg_Rparse d)  M k
    | 4, [] => wb_Rproduct (wg_Rparse d)  M k
    | 5, [] => wb_Rone (wg_Rparse d)  M k
    | _, _ => False
theorem mg_Rparse {l : Launch} {D : va_G} {cl : List vw_C} {tys : List (ClassId × FieldType)} {ad : Nat → Nat} {cI : ClassId} {ci : Nat} {Z : (Nat → Prop) → State → Prop} (hci : cl[ci]? = some (RX9, TX9, 23)) (d : Nat) : (∀ {M : gSt} {k : Int → gSt → Prop}, wg_Rparse d 0 [] M k → MOi l yX9_whole cX9_whole 1 .boolean (rmR (d + 1) (d * 23 + 22)) D cl ((cI, .int) :: tys) (wR ad cI ci) tR Z [.ref (ad 0)] M k) ∧ (∀ {M : gSt} {k : Int → gSt → Prop}, wg_Rparse d 1 [] M k → MOi l yX9_both cX9_both 1 .boolean (rmR (d + 1) (d * 23 + 22)) D cl ((cI, .int) :: tys) (wR ad cI ci) tR Z [.ref (ad 0)] M k) ∧ (∀ {M : gSt} {k : Int → gSt → Prop}, wg_Rparse d 2 [] M k → MOi l yX9_compared cX9_compared 2 .boolean (rmR (d + 1) (d * 23 + 22)) D cl ((cI, .int) :: tys) (wR ad cI ci) tR Z [.ref (ad 0)] M k) ∧ (∀ {M : gSt} {k : Int → gSt → Prop}, wg_Rparse d 3 [] M k → MOi l yX9_sum cX9_sum 2 .boolean (rmR (d + 1) (d * 23 + 22)) D cl ((cI, .int) :: tys) (wR ad cI ci) tR Z [.ref (ad 0)] M k) ∧ (∀ {M : gSt} {k : Int → gSt → Prop}, wg_Rparse d 4 [] M k → MOi l yX9_product cX9_product 2 .boolean (rmR (d + 1) (d * 23 + 22)) D cl ((cI, .int) :: tys) (wR ad cI ci) tR Z [.ref (ad 0)] M k) ∧ (∀ {M : gSt} {k : Int → gSt → Prop}, wg_Rparse d 5 [] M k → MOi l yX9_one cX9_one 4 .boolean (rmR (d + 1) (d * 23 + 22)) D cl ((cI, .int) :: tys) (wR ad cI ci) tR Z [.ref (ad 0)] M k) := by
  induction d with
  | zero => exact ⟨fun h => False.elim h, fun h => False.elim h, fun h => False.elim h, fun h => False.elim h, fun h => False.elim h, fun h => False.elim h⟩
  | succ d ih =>
    obtain ⟨h0, h1, h2, h3, h4, h5⟩ := ih
    exact ⟨fun h => mb_Rwhole hci (rc := wg_Rparse d) h0 h1 h2 h3 h4 h5 h, fun h => mb_Rboth hci (rc := wg_Rparse d) h0 h1 h2 h3 h4 h5 h, fun h => mb_Rcompared hci (rc := wg_Rparse d) h0 h1 h2 h3 h4 h5 h, fun h => mb_Rsum hci (rc := wg_Rparse d) h0 h1 h2 h3 h4 h5 h, fun h => mb_Rproduct hci (rc := wg_Rparse d) h0 h1 h2 h3 h4 h5 h, fun h => mb_Rone hci (rc := wg_Rparse d) h0 h1 h2 h3 h4 h5 h⟩
def w_Rwhole (M : gSt) (k : Int → gSt → Prop) : Prop := wg_Rparse 60 0 [] M k
theorem m_Rwhole {l : Launch} {D : va_G} {cl : List vw_C} {tys : List (ClassId × FieldType)} {ad : Nat → Nat} {cI : ClassId} {ci : Nat} {Z : (Nat → Prop) → State → Prop} (hci : cl[ci]? = some (RX9, TX9, 23)) {M : gSt} {k : Int → gSt → Prop} (h : w_Rwhole  M k) : MOi l yX9_whole cX9_whole 1 .boolean (rmR 61 1402) D cl ((cI, .int) :: tys) (wR ad cI ci) tR Z [.ref (ad 0)] M k := (mg_Rparse hci 60).1 h
def w_Rboth (M : gSt) (k : Int → gSt → Prop) : Prop := wg_Rparse 60 1 [] M k
theorem m_Rboth {l : Launch} {D : va_G} {cl : List vw_C} {tys : List (ClassId × FieldType)} {ad : Nat → Nat} {cI : ClassId} {ci : Nat} {Z : (Nat → Prop) → State → Prop} (hci : cl[ci]? = some (RX9, TX9, 23)) {M : gSt} {k : Int → gSt → Prop} (h : w_Rboth  M k) : MOi l yX9_both cX9_both 1 .boolean (rmR 61 1402) D cl ((cI, .int) :: tys) (wR ad cI ci) tR Z [.ref (ad 0)] M k := (mg_Rparse hci 60).2.1 h
def w_Rcompared (M : gSt) (k : Int → gSt → Prop) : Prop := wg_Rparse 60 2 [] M k
theorem m_Rcompared {l : Launch} {D : va_G} {cl : List vw_C} {tys : List (ClassId × FieldType)} {ad : Nat → Nat} {cI : ClassId} {ci : Nat} {Z : (Nat → Prop) → State → Prop} (hci : cl[ci]? = some (RX9, TX9, 23)) {M : gSt} {k : Int → gSt → Prop} (h : w_Rcompared  M k) : MOi l yX9_compared cX9_compared 2 .boolean (rmR 61 1402) D cl ((cI, .int) :: tys) (wR ad cI ci) tR Z [.ref (ad 0)] M k := (mg_Rparse hci 60).2.2.1 h
def w_Rsum (M : gSt) (k : Int → gSt → Prop) : Prop := wg_Rparse 60 3 [] M k
theorem m_Rsum {l : Launch} {D : va_G} {cl : List vw_C} {tys : List (ClassId × FieldType)} {ad : Nat → Nat} {cI : ClassId} {ci : Nat} {Z : (Nat → Prop) → State → Prop} (hci : cl[ci]? = some (RX9, TX9, 23)) {M : gSt} {k : Int → gSt → Prop} (h : w_Rsum  M k) : MOi l yX9_sum cX9_sum 2 .boolean (rmR 61 1402) D cl ((cI, .int) :: tys) (wR ad cI ci) tR Z [.ref (ad 0)] M k := (mg_Rparse hci 60).2.2.2.1 h
def w_Rproduct (M : gSt) (k : Int → gSt → Prop) : Prop := wg_Rparse 60 4 [] M k
theorem m_Rproduct {l : Launch} {D : va_G} {cl : List vw_C} {tys : List (ClassId × FieldType)} {ad : Nat → Nat} {cI : ClassId} {ci : Nat} {Z : (Nat → Prop) → State → Prop} (hci : cl[ci]? = some (RX9, TX9, 23)) {M : gSt} {k : Int → gSt → Prop} (h : w_Rproduct  M k) : MOi l yX9_product cX9_product 2 .boolean (rmR 61 1402) D cl ((cI, .int) :: tys) (wR ad cI ci) tR Z [.ref (ad 0)] M k := (mg_Rparse hci 60).2.2.2.2.1 h
def w_Rone (M : gSt) (k : Int → gSt → Prop) : Prop := wg_Rparse 60 5 [] M k
theorem m_Rone {l : Launch} {D : va_G} {cl : List vw_C} {tys : List (ClassId × FieldType)} {ad : Nat → Nat} {cI : ClassId} {ci : Nat} {Z : (Nat → Prop) → State → Prop} (hci : cl[ci]? = some (RX9, TX9, 23)) {M : gSt} {k : Int → gSt → Prop} (h : w_Rone  M k) : MOi l yX9_one cX9_one 4 .boolean (rmR 61 1402) D cl ((cI, .int) :: tys) (wR ad cI ci) tR Z [.ref (ad 0)] M k := (mg_Rparse hci 60).2.2.2.2.2 h
