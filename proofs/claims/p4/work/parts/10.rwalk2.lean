def w_Rrings (a1 : Int) (M : gSt) (k : Int → gSt → Prop) : Prop :=
w_Rthousandths a1 M (fun r2c M2 => w_RhasText 0 M2 (fun r8c M8 => 
  (¬ wrap r8c = 0 →
    w_Rits a1 2 M8 (fun r43c M43 => ∀ M46 : gSt, M46 = wr M43 6 103 r43c → (∀ M54 : gSt, M54 = wr M46 6 115 r2c → (w_Rits a1 1 M54 (fun r64c M64 => ∀ M67 : gSt, M67 = wr M64 6 109 r64c → (w_Rworked 0 M67 (fun r70c M70 => w_Rheld r70c 0 9999 M70 (fun r77c M77 => k r77c M77)))))))) ∧
  (wrap r8c = 0 →
    w_Rits a1 1 M8 (fun r22c M22 => w_Rheld ((1000 - r2c) + r22c) 0 9999 M22 (fun r30c M30 => k r30c M30)))))
set_option maxHeartbeats 4000000 in
set_option maxRecDepth 100000 in
theorem m_Rrings {l : Launch} {D : va_G} {cl : List vw_C} {tys : List (ClassId × FieldType)} {ad : Nat → Nat} {cI : ClassId} {ci : Nat} {Z : (Nat → Prop) → State → Prop} (hci : cl[ci]? = some (RX9, TX9, 23)) {a1 : Int} {M : gSt} {k : Int → gSt → Prop} (h : w_Rrings a1 M k) : MOi l yX9_rings cX9_rings 3 .int (rmR 2 48) D cl ((cI, .int) :: tys) (wR ad cI ci) tR Z [.ref (ad 0), iv a1] M k := by
  refine moi_intro (by decide +kernel) (Nat.le_of_ble_eq_true rfl) wi_66 ?_
  intro p e s m args below meth c A Q C hR
  refine g_locals (lv' := [(0, .ref (ad 0)), (1, iv a1)]) rfl ?_
  unfold w_Rrings at h
  refine g_aload_n C dR_rings_0 rfl ?_
  refine g_iload_n C dR_rings_1 rfl ?_
  refine g_callVi C (nargs := 1) (o := 0) (st := []) (m_Rthousandths hci h) rfl (by decide) hci rfl gd_thousandths (by decide +kernel) ⟨rfl, rfl⟩ dR_rings_2 ⟨by decide, by decide⟩ rfl rfl (Nat.le_of_ble_eq_true rfl) ?_
  intro r2c M2 hN
  replace h := hN
  clear hN
  refine g_istore_n C dR_rings_5 (by decide) rfl ?_
  refine g_locals (lv' := [(0, .ref (ad 0)), (1, iv a1), (2, iv r2c)]) rfl ?_
  refine g_aload_n C dR_rings_6 rfl ?_
  refine g_iconst C dR_rings_7 ?_
  refine g_callVi C (nargs := 1) (o := 0) (st := []) (m_RhasText hci h) rfl (by decide) hci rfl gd_hasText (by decide +kernel) ⟨rfl, rfl⟩ dR_rings_8 ⟨by decide, by decide⟩ rfl rfl (Nat.le_of_ble_eq_true rfl) ?_
  intro r8c M8 hN
  replace h := hN
  clear hN
  refine g_if_ne C 34 dR_rings_11 (by decide) (fun hc => ?_) (fun hc => ?_)
  · replace h := h.1 hc
    refine g_aload_n C dR_rings_34 rfl ?_
    refine rf_named C hci dR_rings_35 ?_
    refine g_bipush C dR_rings_38 rfl ?_
    refine g_aload_n C dR_rings_40 rfl ?_
    refine g_iload_n C dR_rings_41 rfl ?_
    refine g_iconst C dR_rings_42 ?_
    refine g_callVi C (nargs := 2) (o := 0) (st := [iv 103, .ref (ad 6)]) (m_Rits hci h) rfl (by decide) hci rfl gd_its (by decide +kernel) ⟨rfl, rfl⟩ dR_rings_43 ⟨by decide, by decide⟩ rfl rfl (Nat.le_of_ble_eq_true rfl) ?_
    intro r43c M43 hN
    replace h := hN
    clear hN
    refine g_iast C (n := 128) dR_rings_46 rfl (by decide) ⟨by decide, by decide⟩ ?_
    refine g_memname (fun M46 hM46 => ?_)
    replace h := h M46 hM46
    refine g_aload_n C dR_rings_47 rfl ?_
    refine rf_named C hci dR_rings_48 ?_
    refine g_bipush C dR_rings_51 rfl ?_
    refine g_iload_n C dR_rings_53 rfl ?_
    refine g_iast C (n := 128) dR_rings_54 rfl (by decide) ⟨by decide, by decide⟩ ?_
    refine g_memname (fun M54 hM54 => ?_)
    replace h := h M54 hM54
    refine g_aload_n C dR_rings_55 rfl ?_
    refine rf_named C hci dR_rings_56 ?_
    refine g_bipush C dR_rings_59 rfl ?_
    refine g_aload_n C dR_rings_61 rfl ?_
    refine g_iload_n C dR_rings_62 rfl ?_
    refine g_iconst C dR_rings_63 ?_
    refine g_callVi C (nargs := 2) (o := 0) (st := [iv 109, .ref (ad 6)]) (m_Rits hci h) rfl (by decide) hci rfl gd_its (by decide +kernel) ⟨rfl, rfl⟩ dR_rings_64 ⟨by decide, by decide⟩ rfl rfl (Nat.le_of_ble_eq_true rfl) ?_
    intro r64c M64 hN
    replace h := hN
    clear hN
    refine g_iast C (n := 128) dR_rings_67 rfl (by decide) ⟨by decide, by decide⟩ ?_
    refine g_memname (fun M67 hM67 => ?_)
    replace h := h M67 hM67
    refine g_aload_n C dR_rings_68 rfl ?_
    refine g_iconst C dR_rings_69 ?_
    refine g_callVi C (nargs := 1) (o := 0) (st := []) (m_Rworked hci h) rfl (by decide) hci rfl gd_worked (by decide +kernel) ⟨rfl, rfl⟩ dR_rings_70 ⟨by decide, by decide⟩ rfl rfl (Nat.le_of_ble_eq_true rfl) ?_
    intro r70c M70 hN
    replace h := hN
    clear hN
    refine g_iconst C dR_rings_73 ?_
    refine g_sipush C dR_rings_74 rfl ?_
    refine g_callSi C (nargs := 3) (st := []) (m_Rheld hci h) gd_held (by decide +kernel) ⟨rfl, rfl⟩ dR_rings_77 ⟨by decide, by decide⟩ rfl rfl (Nat.le_of_ble_eq_true rfl) ?_
    intro r77c M77 hN
    replace h := hN
    clear hN
    exact hR _ _ _ _ dR_rings_80 rfl h
  · replace h := h.2 hc
    refine g_sipush C dR_rings_14 rfl ?_
    refine g_iload_n C dR_rings_17 rfl ?_
    refine g_isub C dR_rings_18 ?_
    refine g_aload_n C dR_rings_19 rfl ?_
    refine g_iload_n C dR_rings_20 rfl ?_
    refine g_iconst C dR_rings_21 ?_
    refine g_callVi C (nargs := 2) (o := 0) (st := [iv (1000 - r2c)]) (m_Rits hci h) rfl (by decide) hci rfl gd_its (by decide +kernel) ⟨rfl, rfl⟩ dR_rings_22 ⟨by decide, by decide⟩ rfl rfl (Nat.le_of_ble_eq_true rfl) ?_
    intro r22c M22 hN
    replace h := hN
    clear hN
    refine g_iadd C dR_rings_25 ?_
    refine g_iconst C dR_rings_26 ?_
    refine g_sipush C dR_rings_27 rfl ?_
    refine g_callSi C (nargs := 3) (st := []) (m_Rheld hci h) gd_held (by decide +kernel) ⟨rfl, rfl⟩ dR_rings_30 ⟨by decide, by decide⟩ rfl rfl (Nat.le_of_ble_eq_true rfl) ?_
    intro r30c M30 hN
    replace h := hN
    clear hN
    exact hR _ _ _ _ dR_rings_33 rfl h
def w_Rtone (a1 : Int) (M : gSt) (k : Int → gSt → Prop) : Prop :=
w_Rthousandths a1 M (fun r5c M5 => ∀ x2_9 : Int, x2_9 = 1000 - r5c → (w_Rits a1 1 M5 (fun r13c M13 => w_Rits a1 0 M13 (fun r20c M20 => 
  (wrap r20c = 1 →
    w_Rrings a1 M20 (fun r62c M62 => k r62c M62)) ∧
  (wrap r20c = 2 →
    k ((Int.tdiv (wrap x2_9) 2) + r13c) M20) ∧
  (wrap r20c = 3 →
    k (x2_9 - (2 * r13c)) M20) ∧
  (wrap r20c = 4 →
    w_Rrings a1 M20 (fun r80c M80 => k (r80c + (2 * r13c)) M80)) ∧
  (wrap r20c = 5 →
    w_Rits a1 2 M20 (fun r96c M96 => k (((Int.tdiv (wrap x2_9) 2) + r13c) + (Int.tdiv (wrap r96c) 1000)) M96)) ∧
  (wrap r20c = 6 →
    k (0 - (x2_9 - (2 * r13c))) M20) ∧
  (¬ wrap r20c = 1 ∧ ¬ wrap r20c = 2 ∧ ¬ wrap r20c = 3 ∧ ¬ wrap r20c = 4 ∧ ¬ wrap r20c = 5 ∧ ¬ wrap r20c = 6 →
    k x2_9 M20)))))
set_option maxHeartbeats 4000000 in
set_option maxRecDepth 100000 in
theorem m_Rtone {l : Launch} {D : va_G} {cl : List vw_C} {tys : List (ClassId × FieldType)} {ad : Nat → Nat} {cI : ClassId} {ci : Nat} {Z : (Nat → Prop) → State → Prop} (hci : cl[ci]? = some (RX9, TX9, 23)) {a1 : Int} {M : gSt} {k : Int → gSt → Prop} (h : w_Rtone a1 M k) : MOi l yX9_tone cX9_tone 4 .int (rmR 3 70) D cl ((cI, .int) :: tys) (wR ad cI ci) tR Z [.ref (ad 0), iv a1] M k := by
  refine moi_intro (by decide +kernel) (Nat.le_of_ble_eq_true rfl) wi_70 ?_
  intro p e s m args below meth c A Q C hR
  refine g_locals (lv' := [(0, .ref (ad 0)), (1, iv a1)]) rfl ?_
  unfold w_Rtone at h
  refine g_sipush C dR_tone_0 rfl ?_
  refine g_aload_n C dR_tone_3 rfl ?_
  refine g_iload_n C dR_tone_4 rfl ?_
  refine g_callVi C (nargs := 1) (o := 0) (st := [iv 1000]) (m_Rthousandths hci h) rfl (by decide) hci rfl gd_thousandths (by decide +kernel) ⟨rfl, rfl⟩ dR_tone_5 ⟨by decide, by decide⟩ rfl rfl (Nat.le_of_ble_eq_true rfl) ?_
  intro r5c M5 hN
  replace h := hN
  clear hN
  refine g_isub C dR_tone_8 ?_
  refine g_name (fun x2_9 hx2_9 => ?_)
  replace h := h x2_9 hx2_9
  refine g_istore_n C dR_tone_9 (by decide) rfl ?_
  refine g_locals (lv' := [(0, .ref (ad 0)), (1, iv a1), (2, iv x2_9)]) rfl ?_
  refine g_aload_n C dR_tone_10 rfl ?_
  refine g_iload_n C dR_tone_11 rfl ?_
  refine g_iconst C dR_tone_12 ?_
  refine g_callVi C (nargs := 2) (o := 0) (st := []) (m_Rits hci h) rfl (by decide) hci rfl gd_its (by decide +kernel) ⟨rfl, rfl⟩ dR_tone_13 ⟨by decide, by decide⟩ rfl rfl (Nat.le_of_ble_eq_true rfl) ?_
  intro r13c M13 hN
  replace h := hN
  clear hN
  refine g_istore_n C dR_tone_16 (by decide) rfl ?_
  refine g_locals (lv' := [(0, .ref (ad 0)), (1, iv a1), (2, iv x2_9), (3, iv r13c)]) rfl ?_
  refine g_aload_n C dR_tone_17 rfl ?_
  refine g_iload_n C dR_tone_18 rfl ?_
  refine g_iconst C dR_tone_19 ?_
  refine g_callVi C (nargs := 2) (o := 0) (st := []) (m_Rits hci h) rfl (by decide) hci rfl gd_its (by decide +kernel) ⟨rfl, rfl⟩ dR_tone_20 ⟨by decide, by decide⟩ rfl rfl (Nat.le_of_ble_eq_true rfl) ?_
  intro r20c M20 hN
  replace h := hN
  clear hN
  by_cases hc1 : wrap r20c = 1
  · refine g_tableIn C 60 dR_tone_23 (by omega) (by omega) (by rw [hc1] <;> rfl) (by decide) ?_
    replace h := h.1 hc1
    refine g_aload_n C dR_tone_60 rfl ?_
    refine g_iload_n C dR_tone_61 rfl ?_
    refine g_callVi C (nargs := 1) (o := 0) (st := []) (m_Rrings hci h) rfl (by decide) hci rfl gd_rings (by decide +kernel) ⟨rfl, rfl⟩ dR_tone_62 ⟨by decide, by decide⟩ rfl rfl (Nat.le_of_ble_eq_true rfl) ?_
    intro r62c M62 hN
    replace h := hN
    clear hN
    exact hR _ _ _ _ dR_tone_65 rfl h
  · by_cases hc2 : wrap r20c = 2
    · refine g_tableIn C 66 dR_tone_23 (by omega) (by omega) (by rw [hc2] <;> rfl) (by decide) ?_
      replace h := h.2.1 hc2
      refine g_iload_n C dR_tone_66 rfl ?_
      refine g_iconst C dR_tone_67 ?_
      refine g_idiv C dR_tone_68 (by decide) ?_
      refine g_top (y := Int.tdiv (wrap x2_9) 2) rfl ?_
      refine g_iload_n C dR_tone_69 rfl ?_
      refine g_iadd C dR_tone_70 ?_
      exact hR _ _ _ _ dR_tone_71 rfl h
    · by_cases hc3 : wrap r20c = 3
      · refine g_tableIn C 72 dR_tone_23 (by omega) (by omega) (by rw [hc3] <;> rfl) (by decide) ?_
        replace h := h.2.2.1 hc3
        refine g_iload_n C dR_tone_72 rfl ?_
        refine g_iconst C dR_tone_73 ?_
        refine g_iload_n C dR_tone_74 rfl ?_
        refine g_imul C dR_tone_75 ?_
        refine g_isub C dR_tone_76 ?_
        exact hR _ _ _ _ dR_tone_77 rfl h
      · by_cases hc4 : wrap r20c = 4
        · refine g_tableIn C 78 dR_tone_23 (by omega) (by omega) (by rw [hc4] <;> rfl) (by decide) ?_
          replace h := h.2.2.2.1 hc4
          refine g_aload_n C dR_tone_78 rfl ?_
          refine g_iload_n C dR_tone_79 rfl ?_
          refine g_callVi C (nargs := 1) (o := 0) (st := []) (m_Rrings hci h) rfl (by decide) hci rfl gd_rings (by decide +kernel) ⟨rfl, rfl⟩ dR_tone_80 ⟨by decide, by decide⟩ rfl rfl (Nat.le_of_ble_eq_true rfl) ?_
          intro r80c M80 hN
          replace h := hN
          clear hN
          refine g_iconst C dR_tone_83 ?_
          refine g_iload_n C dR_tone_84 rfl ?_
          refine g_imul C dR_tone_85 ?_
          refine g_iadd C dR_tone_86 ?_
          exact hR _ _ _ _ dR_tone_87 rfl h
        · by_cases hc5 : wrap r20c = 5
          · refine g_tableIn C 88 dR_tone_23 (by omega) (by omega) (by rw [hc5] <;> rfl) (by decide) ?_
            replace h := h.2.2.2.2.1 hc5
            refine g_iload_n C dR_tone_88 rfl ?_
            refine g_iconst C dR_tone_89 ?_
            refine g_idiv C dR_tone_90 (by decide) ?_
            refine g_top (y := Int.tdiv (wrap x2_9) 2) rfl ?_
            refine g_iload_n C dR_tone_91 rfl ?_
            refine g_iadd C dR_tone_92 ?_
            refine g_aload_n C dR_tone_93 rfl ?_
            refine g_iload_n C dR_tone_94 rfl ?_
            refine g_iconst C dR_tone_95 ?_
            refine g_callVi C (nargs := 2) (o := 0) (st := [iv ((Int.tdiv (wrap x2_9) 2) + r13c)]) (m_Rits hci h) rfl (by decide) hci rfl gd_its (by decide +kernel) ⟨rfl, rfl⟩ dR_tone_96 ⟨by decide, by decide⟩ rfl rfl (Nat.le_of_ble_eq_true rfl) ?_
            intro r96c M96 hN
            replace h := hN
            clear hN
            refine g_sipush C dR_tone_99 rfl ?_
            refine g_idiv C dR_tone_102 (by decide) ?_
            refine g_top (y := Int.tdiv (wrap r96c) 1000) rfl ?_
            refine g_iadd C dR_tone_103 ?_
            exact hR _ _ _ _ dR_tone_104 rfl h
          · by_cases hc6 : wrap r20c = 6
            · refine g_tableIn C 105 dR_tone_23 (by omega) (by omega) (by rw [hc6] <;> rfl) (by decide) ?_
              replace h := h.2.2.2.2.2.1 hc6
              refine g_iconst C dR_tone_105 ?_
              refine g_iload_n C dR_tone_106 rfl ?_
              refine g_iconst C dR_tone_107 ?_
              refine g_iload_n C dR_tone_108 rfl ?_
              refine g_imul C dR_tone_109 ?_
              refine g_isub C dR_tone_110 ?_
              refine g_isub C dR_tone_111 ?_
              exact hR _ _ _ _ dR_tone_112 rfl h
            · refine g_tableOut C 113 dR_tone_23 (by omega) (by decide) ?_
              replace h := h.2.2.2.2.2.2 ⟨hc1, hc2, hc3, hc4, hc5, hc6⟩
              refine g_iload_n C dR_tone_113 rfl ?_
              exact hR _ _ _ _ dR_tone_114 rfl h
def w_Rtold1 (a1 : Int) (a2 : Int) (M : gSt) (k : Int → gSt → Prop) : Prop :=

  (¬ wrap a2 = 10 →
    w_Rits a1 a2 M (fun r17c M17 => k r17c M17)) ∧
  (wrap a2 = 10 →
    w_Rtone a1 M (fun r8c M8 => k r8c M8))
set_option maxHeartbeats 4000000 in
set_option maxRecDepth 100000 in
theorem m_Rtold1 {l : Launch} {D : va_G} {cl : List vw_C} {tys : List (ClassId × FieldType)} {ad : Nat → Nat} {cI : ClassId} {ci : Nat} {Z : (Nat → Prop) → State → Prop} (hci : cl[ci]? = some (RX9, TX9, 23)) {a1 : Int} {a2 : Int} {M : gSt} {k : Int → gSt → Prop} (h : w_Rtold1 a1 a2 M k) : MOi l yX9_told1 cX9_told1 3 .int (rmR 4 93) D cl ((cI, .int) :: tys) (wR ad cI ci) tR Z [.ref (ad 0), iv a1, iv a2] M k := by
  refine moi_intro (by decide +kernel) (Nat.le_of_ble_eq_true rfl) wi_74 ?_
  intro p e s m args below meth c A Q C hR
  refine g_locals (lv' := [(0, .ref (ad 0)), (1, iv a1), (2, iv a2)]) rfl ?_
  unfold w_Rtold1 at h
  refine g_iload_n C dR_told1_0 rfl ?_
  refine g_bipush C dR_told1_1 rfl ?_
  refine g_icmp_ne C 14 dR_told1_3 (by decide) (fun hc => ?_) (fun hc => ?_)
  · replace h := h.1 hc
    refine g_aload_n C dR_told1_14 rfl ?_
    refine g_iload_n C dR_told1_15 rfl ?_
    refine g_iload_n C dR_told1_16 rfl ?_
    refine g_callVi C (nargs := 2) (o := 0) (st := []) (m_Rits hci h) rfl (by decide) hci rfl gd_its (by decide +kernel) ⟨rfl, rfl⟩ dR_told1_17 ⟨by decide, by decide⟩ rfl rfl (Nat.le_of_ble_eq_true rfl) ?_
    intro r17c M17 hN
    replace h := hN
    clear hN
    exact hR _ _ _ _ dR_told1_20 rfl h
  · replace h := h.2 hc
    refine g_aload_n C dR_told1_6 rfl ?_
    refine g_iload_n C dR_told1_7 rfl ?_
    refine g_callVi C (nargs := 1) (o := 0) (st := []) (m_Rtone hci h) rfl (by decide) hci rfl gd_tone (by decide +kernel) ⟨rfl, rfl⟩ dR_told1_8 ⟨by decide, by decide⟩ rfl rfl (Nat.le_of_ble_eq_true rfl) ?_
    intro r8c M8 hN
    replace h := hN
    clear hN
    refine g_goto C 20 dR_told1_11 (by decide) ?_
    exact hR _ _ _ _ dR_told1_20 rfl h
def wB_RthingIs_27 (a1 : Int) (a2 : Int) (k : Int → gSt → Prop)   (M : gSt) : Prop :=
w_Rerror 1 M (fun r29c M29 => k r29c M29)
def w_RthingIs (a1 : Int) (a2 : Int) (M : gSt) (k : Int → gSt → Prop) : Prop :=
w_RisThing a1 M (fun r2c M2 => 
  (wrap r2c = 0 →
    wB_RthingIs_27 a1 a2 k   M2) ∧
  (¬ wrap r2c = 0 →
    w_Rin a2 0 10 M2 (fun r12c M12 => 
    (wrap r12c = 0 →
      wB_RthingIs_27 a1 a2 k   M12) ∧
    (¬ wrap r12c = 0 →
      w_Rtold1 a1 a2 M12 (fun r21c M21 => k r21c M21)))))
set_option maxHeartbeats 4000000 in
set_option maxRecDepth 100000 in
theorem m_RthingIs {l : Launch} {D : va_G} {cl : List vw_C} {tys : List (ClassId × FieldType)} {ad : Nat → Nat} {cI : ClassId} {ci : Nat} {Z : (Nat → Prop) → State → Prop} (hci : cl[ci]? = some (RX9, TX9, 23)) {a1 : Int} {a2 : Int} {M : gSt} {k : Int → gSt → Prop} (h : w_RthingIs a1 a2 M k) : MOi l yX9_thingIs cX9_thingIs 3 .int (rmR 5 115) D cl ((cI, .int) :: tys) (wR ad cI ci) tR Z [.ref (ad 0), iv a1, iv a2] M k := by
  refine moi_intro (by decide +kernel) (Nat.le_of_ble_eq_true rfl) wi_81 ?_
  intro p e s m args below meth c A Q C hR
  have pB27 : ∀    (M : gSt), wB_RthingIs_27 a1 a2 k   M → gG p l e (rmR 5 115) s m args below meth c Q D cl A (wR ad cI ci) 3 27 [(0, .ref (ad 0))] [] M := by
    intro    M h
    unfold wB_RthingIs_27 at h
    refine g_aload_n C dR_thingIs_27 rfl ?_
    refine g_iconst C dR_thingIs_28 ?_
    refine g_callVi C (nargs := 1) (o := 0) (st := []) (m_Rerror hci h) rfl (by decide) hci rfl gd_error (by decide +kernel) ⟨rfl, rfl⟩ dR_thingIs_29 ⟨by decide, by decide⟩ rfl rfl (Nat.le_of_ble_eq_true rfl) ?_
    intro r29c M29 hN
    replace h := hN
    clear hN
    exact hR _ _ _ _ dR_thingIs_32 rfl h
  refine g_locals (lv' := [(0, .ref (ad 0)), (1, iv a1), (2, iv a2)]) rfl ?_
  unfold w_RthingIs at h
  refine g_aload_n C dR_thingIs_0 rfl ?_
  refine g_iload_n C dR_thingIs_1 rfl ?_
  refine g_callVi C (nargs := 1) (o := 0) (st := []) (m_RisThing hci h) rfl (by decide) hci rfl gd_isThing (by decide +kernel) ⟨rfl, rfl⟩ dR_thingIs_2 ⟨by decide, by decide⟩ rfl rfl (Nat.le_of_ble_eq_true rfl) ?_
  intro r2c M2 hN
  replace h := hN
  clear hN
  refine g_if_eq C 27 dR_thingIs_5 (by decide) (fun hc => ?_) (fun hc => ?_)
  · replace h := h.1 hc
    refine g_locals (lv' := [(0, .ref (ad 0))]) rfl ?_
    exact pB27  _ h
  · replace h := h.2 hc
    refine g_iload_n C dR_thingIs_8 rfl ?_
    refine g_iconst C dR_thingIs_9 ?_
    refine g_bipush C dR_thingIs_10 rfl ?_
    refine g_callSi C (nargs := 3) (st := []) (m_Rin hci h) gd_in (by decide +kernel) ⟨rfl, rfl⟩ dR_thingIs_12 ⟨by decide, by decide⟩ rfl rfl (Nat.le_of_ble_eq_true rfl) ?_
    intro r12c M12 hN
    replace h := hN
    clear hN
    refine g_if_eq C 27 dR_thingIs_15 (by decide) (fun hc => ?_) (fun hc => ?_)
    · replace h := h.1 hc
      refine g_locals (lv' := [(0, .ref (ad 0))]) rfl ?_
      exact pB27  _ h
    · replace h := h.2 hc
      refine g_aload_n C dR_thingIs_18 rfl ?_
      refine g_iload_n C dR_thingIs_19 rfl ?_
      refine g_iload_n C dR_thingIs_20 rfl ?_
      refine g_callVi C (nargs := 2) (o := 0) (st := []) (m_Rtold1 hci h) rfl (by decide) hci rfl gd_told1 (by decide +kernel) ⟨rfl, rfl⟩ dR_thingIs_21 ⟨by decide, by decide⟩ rfl rfl (Nat.le_of_ble_eq_true rfl) ?_
      intro r21c M21 hN
      replace h := hN
      clear hN
      refine g_goto C 32 dR_thingIs_24 (by decide) ?_
      exact hR _ _ _ _ dR_thingIs_32 rfl h
def wB_RisUnder_29 (a1 : Int) (a2 : Int) (k : Int → gSt → Prop)   (M : gSt) : Prop :=

  (¬ wrap a2 = 3 →
    k 0 M) ∧
  (wrap a2 = 3 →

    (¬ wrap a1 = 6 →
      k 0 M) ∧
    (wrap a1 = 6 →
      k 1 M))
def wB_RisUnder_19 (a1 : Int) (a2 : Int) (k : Int → gSt → Prop)   (M : gSt) : Prop :=

  (¬ wrap a2 = 2 →
    wB_RisUnder_29 a1 a2 k   M) ∧
  (wrap a2 = 2 →

    (wrap a1 = 5 →
      k 1 M) ∧
    (¬ wrap a1 = 5 →
      wB_RisUnder_29 a1 a2 k   M))
def w_RisUnder (a1 : Int) (a2 : Int) (M : gSt) (k : Int → gSt → Prop) : Prop :=

  (wrap a2 = 0 →
    k 1 M) ∧
  (¬ wrap a2 = 0 →

    (wrap a1 = wrap a2 →
      k 1 M) ∧
    (¬ wrap a1 = wrap a2 →

      (¬ wrap a2 = 1 →
        wB_RisUnder_19 a1 a2 k   M) ∧
      (wrap a2 = 1 →

        (wrap a1 = 4 →
          k 1 M) ∧
        (¬ wrap a1 = 4 →
          wB_RisUnder_19 a1 a2 k   M))))
set_option maxHeartbeats 4000000 in
set_option maxRecDepth 100000 in
theorem m_RisUnder {l : Launch} {D : va_G} {cl : List vw_C} {tys : List (ClassId × FieldType)} {ad : Nat → Nat} {cI : ClassId} {ci : Nat} {Z : (Nat → Prop) → State → Prop} (hci : cl[ci]? = some (RX9, TX9, 23)) {a1 : Int} {a2 : Int} {M : gSt} {k : Int → gSt → Prop} (h : w_RisUnder a1 a2 M k) : MOi l yX9_isUnder cX9_isUnder 2 .boolean (rmR 0 0) D cl ((cI, .int) :: tys) (wR ad cI ci) tR Z [iv a1, iv a2] M k := by
  refine moi_intro (by decide +kernel) (Nat.le_of_ble_eq_true rfl) wi_82 ?_
  intro p e s m args below meth c A Q C hR
  have pB29 : ∀    (M : gSt), wB_RisUnder_29 a1 a2 k   M → gG p l e (rmR 0 0) s m args below meth c Q D cl A (wR ad cI ci) 2 29 [(0, iv a1), (1, iv a2)] [] M := by
    intro    M h
    unfold wB_RisUnder_29 at h
    refine g_iload_n C dR_isUnder_29 rfl ?_
    refine g_iconst C dR_isUnder_30 ?_
    refine g_icmp_ne C 44 dR_isUnder_31 (by decide) (fun hc => ?_) (fun hc => ?_)
    · replace h := h.1 hc
      refine g_iconst C dR_isUnder_44 ?_
      exact hR _ _ _ _ dR_isUnder_45 rfl h
    · replace h := h.2 hc
      refine g_iload_n C dR_isUnder_34 rfl ?_
      refine g_bipush C dR_isUnder_35 rfl ?_
      refine g_icmp_ne C 44 dR_isUnder_37 (by decide) (fun hc => ?_) (fun hc => ?_)
      · replace h := h.1 hc
        refine g_iconst C dR_isUnder_44 ?_
        exact hR _ _ _ _ dR_isUnder_45 rfl h
      · replace h := h.2 hc
        refine g_iconst C dR_isUnder_40 ?_
        refine g_goto C 45 dR_isUnder_41 (by decide) ?_
        exact hR _ _ _ _ dR_isUnder_45 rfl h
  have pB19 : ∀    (M : gSt), wB_RisUnder_19 a1 a2 k   M → gG p l e (rmR 0 0) s m args below meth c Q D cl A (wR ad cI ci) 2 19 [(0, iv a1), (1, iv a2)] [] M := by
    intro    M h
    unfold wB_RisUnder_19 at h
    refine g_iload_n C dR_isUnder_19 rfl ?_
    refine g_iconst C dR_isUnder_20 ?_
    refine g_icmp_ne C 29 dR_isUnder_21 (by decide) (fun hc => ?_) (fun hc => ?_)
    · replace h := h.1 hc
      refine g_locals (lv' := [(0, iv a1), (1, iv a2)]) rfl ?_
      exact pB29  _ h
    · replace h := h.2 hc
      refine g_iload_n C dR_isUnder_24 rfl ?_
      refine g_iconst C dR_isUnder_25 ?_
      refine g_icmp_eq C 40 dR_isUnder_26 (by decide) (fun hc => ?_) (fun hc => ?_)
      · replace h := h.1 hc
        refine g_iconst C dR_isUnder_40 ?_
        refine g_goto C 45 dR_isUnder_41 (by decide) ?_
        exact hR _ _ _ _ dR_isUnder_45 rfl h
      · replace h := h.2 hc
        refine g_locals (lv' := [(0, iv a1), (1, iv a2)]) rfl ?_
        exact pB29  _ h
  refine g_locals (lv' := [(0, iv a1), (1, iv a2)]) rfl ?_
  unfold w_RisUnder at h
  refine g_iload_n C dR_isUnder_0 rfl ?_
  refine g_if_eq C 40 dR_isUnder_1 (by decide) (fun hc => ?_) (fun hc => ?_)
  · replace h := h.1 hc
    refine g_iconst C dR_isUnder_40 ?_
    refine g_goto C 45 dR_isUnder_41 (by decide) ?_
    exact hR _ _ _ _ dR_isUnder_45 rfl h
  · replace h := h.2 hc
    refine g_iload_n C dR_isUnder_4 rfl ?_
    refine g_iload_n C dR_isUnder_5 rfl ?_
    refine g_icmp_eq C 40 dR_isUnder_6 (by decide) (fun hc => ?_) (fun hc => ?_)
    · replace h := h.1 hc
      refine g_iconst C dR_isUnder_40 ?_
      refine g_goto C 45 dR_isUnder_41 (by decide) ?_
      exact hR _ _ _ _ dR_isUnder_45 rfl h
    · replace h := h.2 hc
      refine g_iload_n C dR_isUnder_9 rfl ?_
      refine g_iconst C dR_isUnder_10 ?_
      refine g_icmp_ne C 19 dR_isUnder_11 (by decide) (fun hc => ?_) (fun hc => ?_)
      · replace h := h.1 hc
        refine g_locals (lv' := [(0, iv a1), (1, iv a2)]) rfl ?_
        exact pB19  _ h
      · replace h := h.2 hc
        refine g_iload_n C dR_isUnder_14 rfl ?_
        refine g_iconst C dR_isUnder_15 ?_
        refine g_icmp_eq C 40 dR_isUnder_16 (by decide) (fun hc => ?_) (fun hc => ?_)
        · replace h := h.1 hc
          refine g_iconst C dR_isUnder_40 ?_
          refine g_goto C 45 dR_isUnder_41 (by decide) ?_
          exact hR _ _ _ _ dR_isUnder_45 rfl h
        · replace h := h.2 hc
          refine g_locals (lv' := [(0, iv a1), (1, iv a2)]) rfl ?_
          exact pB19  _ h
def wB_Ras_18 (a1 : Int) (a2 : Int) (k : Int → gSt → Prop)   (M : gSt) : Prop :=
w_Rerror 1 M (fun r20c M20 => k r20c M20)
def w_Ras (a1 : Int) (a2 : Int) (M : gSt) (k : Int → gSt → Prop) : Prop :=
w_RisThing a1 M (fun r2c M2 => 
  (wrap r2c = 0 →
    wB_Ras_18 a1 a2 k   M2) ∧
  (¬ wrap r2c = 0 →
    w_Rin a2 0 6 M2 (fun r12c M12 => 
    (¬ wrap r12c = 0 →
      w_Rits a1 0 M12 (fun r27c M27 => w_RisUnder r27c a2 M27 (fun r31c M31 => 
      (wrap r31c = 0 →
        w_Rerror 5 M31 (fun r48c M48 => k r48c M48)) ∧
      (¬ wrap r31c = 0 →
        w_Rits a1 2 M31 (fun r40c M40 => k r40c M40))))) ∧
    (wrap r12c = 0 →
      wB_Ras_18 a1 a2 k   M12))))
set_option maxHeartbeats 4000000 in
set_option maxRecDepth 100000 in
theorem m_Ras {l : Launch} {D : va_G} {cl : List vw_C} {tys : List (ClassId × FieldType)} {ad : Nat → Nat} {cI : ClassId} {ci : Nat} {Z : (Nat → Prop) → State → Prop} (hci : cl[ci]? = some (RX9, TX9, 23)) {a1 : Int} {a2 : Int} {M : gSt} {k : Int → gSt → Prop} (h : w_Ras a1 a2 M k) : MOi l yX9_as cX9_as 3 .int (rmR 2 43) D cl ((cI, .int) :: tys) (wR ad cI ci) tR Z [.ref (ad 0), iv a1, iv a2] M k := by
  refine moi_intro (by decide +kernel) (Nat.le_of_ble_eq_true rfl) wi_85 ?_
  intro p e s m args below meth c A Q C hR
  have pB18 : ∀    (M : gSt), wB_Ras_18 a1 a2 k   M → gG p l e (rmR 2 43) s m args below meth c Q D cl A (wR ad cI ci) 3 18 [(0, .ref (ad 0))] [] M := by
    intro    M h
    unfold wB_Ras_18 at h
    refine g_aload_n C dR_as_18 rfl ?_
    refine g_iconst C dR_as_19 ?_
    refine g_callVi C (nargs := 1) (o := 0) (st := []) (m_Rerror hci h) rfl (by decide) hci rfl gd_error (by decide +kernel) ⟨rfl, rfl⟩ dR_as_20 ⟨by decide, by decide⟩ rfl rfl (Nat.le_of_ble_eq_true rfl) ?_
    intro r20c M20 hN
    replace h := hN
    clear hN
    exact hR _ _ _ _ dR_as_23 rfl h
  refine g_locals (lv' := [(0, .ref (ad 0)), (1, iv a1), (2, iv a2)]) rfl ?_
  unfold w_Ras at h
  refine g_aload_n C dR_as_0 rfl ?_
  refine g_iload_n C dR_as_1 rfl ?_
  refine g_callVi C (nargs := 1) (o := 0) (st := []) (m_RisThing hci h) rfl (by decide) hci rfl gd_isThing (by decide +kernel) ⟨rfl, rfl⟩ dR_as_2 ⟨by decide, by decide⟩ rfl rfl (Nat.le_of_ble_eq_true rfl) ?_
  intro r2c M2 hN
  replace h := hN
  clear hN
  refine g_if_eq C 18 dR_as_5 (by decide) (fun hc => ?_) (fun hc => ?_)
  · replace h := h.1 hc
    refine g_locals (lv' := [(0, .ref (ad 0))]) rfl ?_
    exact pB18  _ h
  · replace h := h.2 hc
    refine g_iload_n C dR_as_8 rfl ?_
    refine g_iconst C dR_as_9 ?_
    refine g_bipush C dR_as_10 rfl ?_
    refine g_callSi C (nargs := 3) (st := []) (m_Rin hci h) gd_in (by decide +kernel) ⟨rfl, rfl⟩ dR_as_12 ⟨by decide, by decide⟩ rfl rfl (Nat.le_of_ble_eq_true rfl) ?_
    intro r12c M12 hN
    replace h := hN
    clear hN
    refine g_if_ne C 24 dR_as_15 (by decide) (fun hc => ?_) (fun hc => ?_)
    · replace h := h.1 hc
      refine g_aload_n C dR_as_24 rfl ?_
      refine g_iload_n C dR_as_25 rfl ?_
      refine g_iconst C dR_as_26 ?_
      refine g_callVi C (nargs := 2) (o := 0) (st := []) (m_Rits hci h) rfl (by decide) hci rfl gd_its (by decide +kernel) ⟨rfl, rfl⟩ dR_as_27 ⟨by decide, by decide⟩ rfl rfl (Nat.le_of_ble_eq_true rfl) ?_
      intro r27c M27 hN
      replace h := hN
      clear hN
      refine g_iload_n C dR_as_30 rfl ?_
      refine g_callSi C (nargs := 2) (st := []) (m_RisUnder hci h) gd_isUnder (by decide +kernel) ⟨rfl, rfl⟩ dR_as_31 ⟨by decide, by decide⟩ rfl rfl (Nat.le_of_ble_eq_true rfl) ?_
      intro r31c M31 hN
      replace h := hN
      clear hN
      refine g_if_eq C 46 dR_as_34 (by decide) (fun hc => ?_) (fun hc => ?_)
      · replace h := h.1 hc
        refine g_aload_n C dR_as_46 rfl ?_
        refine g_iconst C dR_as_47 ?_
        refine g_callVi C (nargs := 1) (o := 0) (st := []) (m_Rerror hci h) rfl (by decide) hci rfl gd_error (by decide +kernel) ⟨rfl, rfl⟩ dR_as_48 ⟨by decide, by decide⟩ rfl rfl (Nat.le_of_ble_eq_true rfl) ?_
        intro r48c M48 hN
        replace h := hN
        clear hN
        exact hR _ _ _ _ dR_as_51 rfl h
      · replace h := h.2 hc
        refine g_aload_n C dR_as_37 rfl ?_
        refine g_iload_n C dR_as_38 rfl ?_
        refine g_iconst C dR_as_39 ?_
        refine g_callVi C (nargs := 2) (o := 0) (st := []) (m_Rits hci h) rfl (by decide) hci rfl gd_its (by decide +kernel) ⟨rfl, rfl⟩ dR_as_40 ⟨by decide, by decide⟩ rfl rfl (Nat.le_of_ble_eq_true rfl) ?_
        intro r40c M40 hN
        replace h := hN
        clear hN
        refine g_goto C 51 dR_as_43 (by decide) ?_
        exact hR _ _ _ _ dR_as_51 rfl h
    · replace h := h.2 hc
      refine g_locals (lv' := [(0, .ref (ad 0))]) rfl ?_
      exact pB18  _ h
def wB_Rset_22 (a1 : Int) (a2 : Int) (a3 : Int) (k : Int → gSt → Prop)   (M : gSt) : Prop :=
w_Rerror 1 M (fun r24c M24 => k r24c M24)
def wB_Rset_55 (a1 : Int) (a2 : Int) (a3 : Int) (k : Int → gSt → Prop)  (s0 : Int) (s1 : Int) (s2 : Int) (M : gSt) : Prop :=
w_Rin s2 s1 s0 M (fun r55c M55 => 
  (¬ wrap r55c = 0 →
    w_Rits a1 a2 M55 (fun r70c M70 => w_Rlays1 a1 a2 a3 M70 (fun M79 => k r70c M79))) ∧
  (wrap r55c = 0 →
    w_Rerror 1 M55 (fun r63c M63 => k r63c M63)))
def w_Rset (a1 : Int) (a2 : Int) (a3 : Int) (M : gSt) (k : Int → gSt → Prop) : Prop :=
w_RisThing a1 M (fun r2c M2 => 
  (wrap r2c = 0 →
    wB_Rset_22 a1 a2 a3 k   M2) ∧
  (¬ wrap r2c = 0 →
    w_Rin a2 0 5 M2 (fun r11c M11 => 
    (wrap r11c = 0 →
      wB_Rset_22 a1 a2 a3 k   M11) ∧
    (¬ wrap r11c = 0 →

      (¬ wrap a2 = 2 →

        (¬ wrap a2 = 0 →

          (¬ wrap a2 = 1 →
            w_Rits a1 2 M11 (fun r52c M52 => wB_Rset_55 a1 a2 a3 k  r52c 0 a3 M52)) ∧
          (wrap a2 = 1 →
            wB_Rset_55 a1 a2 a3 k  99 0 a3 M11)) ∧
        (wrap a2 = 0 →
          wB_Rset_55 a1 a2 a3 k  6 0 a3 M11)) ∧
      (wrap a2 = 2 →
        wB_Rset_22 a1 a2 a3 k   M11)))))
set_option maxHeartbeats 4000000 in
set_option maxRecDepth 100000 in
theorem m_Rset {l : Launch} {D : va_G} {cl : List vw_C} {tys : List (ClassId × FieldType)} {ad : Nat → Nat} {cI : ClassId} {ci : Nat} {Z : (Nat → Prop) → State → Prop} (hci : cl[ci]? = some (RX9, TX9, 23)) {a1 : Int} {a2 : Int} {a3 : Int} {M : gSt} {k : Int → gSt → Prop} (h : w_Rset a1 a2 a3 M k) : MOi l yX9_set cX9_set 5 .int (rmR 2 43) D cl ((cI, .int) :: tys) (wR ad cI ci) tR Z [.ref (ad 0), iv a1, iv a2, iv a3] M k := by
  refine moi_intro (by decide +kernel) (Nat.le_of_ble_eq_true rfl) wi_86 ?_
  intro p e s m args below meth c A Q C hR
  have pB22 : ∀    (M : gSt), wB_Rset_22 a1 a2 a3 k   M → gG p l e (rmR 2 43) s m args below meth c Q D cl A (wR ad cI ci) 5 22 [(0, .ref (ad 0))] [] M := by
    intro    M h
    unfold wB_Rset_22 at h
    refine g_aload_n C dR_set_22 rfl ?_
    refine g_iconst C dR_set_23 ?_
    refine g_callVi C (nargs := 1) (o := 0) (st := []) (m_Rerror hci h) rfl (by decide) hci rfl gd_error (by decide +kernel) ⟨rfl, rfl⟩ dR_set_24 ⟨by decide, by decide⟩ rfl rfl (Nat.le_of_ble_eq_true rfl) ?_
    intro r24c M24 hN
    replace h := hN
    clear hN
    exact hR _ _ _ _ dR_set_27 rfl h
  have pB55 : ∀   (s0 : Int) (s1 : Int) (s2 : Int) (M : gSt), wB_Rset_55 a1 a2 a3 k  s0 s1 s2 M → gG p l e (rmR 2 43) s m args below meth c Q D cl A (wR ad cI ci) 5 55 [(0, .ref (ad 0)), (1, iv a1), (2, iv a2), (3, iv a3)] [iv s0, iv s1, iv s2] M := by
    intro   s0 s1 s2 M h
    unfold wB_Rset_55 at h
    refine g_callSi C (nargs := 3) (st := []) (m_Rin hci h) gd_in (by decide +kernel) ⟨rfl, rfl⟩ dR_set_55 ⟨by decide, by decide⟩ rfl rfl (Nat.le_of_ble_eq_true rfl) ?_
    intro r55c M55 hN
    replace h := hN
    clear hN
    refine g_if_ne C 67 dR_set_58 (by decide) (fun hc => ?_) (fun hc => ?_)
    · replace h := h.1 hc
      refine g_aload_n C dR_set_67 rfl ?_
      refine g_iload_n C dR_set_68 rfl ?_
      refine g_iload_n C dR_set_69 rfl ?_
      refine g_callVi C (nargs := 2) (o := 0) (st := []) (m_Rits hci h) rfl (by decide) hci rfl gd_its (by decide +kernel) ⟨rfl, rfl⟩ dR_set_70 ⟨by decide, by decide⟩ rfl rfl (Nat.le_of_ble_eq_true rfl) ?_
      intro r70c M70 hN
      replace h := hN
      clear hN
      refine g_istore C dR_set_73 (by decide) rfl ?_
      refine g_locals (lv' := [(0, .ref (ad 0)), (1, iv a1), (2, iv a2), (3, iv a3), (4, iv r70c)]) rfl ?_
      refine g_aload_n C dR_set_75 rfl ?_
      refine g_iload_n C dR_set_76 rfl ?_
      refine g_iload_n C dR_set_77 rfl ?_
      refine g_iload_n C dR_set_78 rfl ?_
      refine g_callVv C (nargs := 3) (o := 0) (st := []) (m_Rlays1 hci h) rfl (by decide) hci rfl gd_lays1 (by decide +kernel) ⟨rfl, rfl⟩ dR_set_79 ⟨by decide, by decide⟩ rfl rfl (Nat.le_of_ble_eq_true rfl) ?_
      intro M79 hN
      replace h := hN
      clear hN
      refine g_iload C dR_set_82 rfl ?_
      exact hR _ _ _ _ dR_set_84 rfl h
    · replace h := h.2 hc
      refine g_aload_n C dR_set_61 rfl ?_
      refine g_iconst C dR_set_62 ?_
      refine g_callVi C (nargs := 1) (o := 0) (st := []) (m_Rerror hci h) rfl (by decide) hci rfl gd_error (by decide +kernel) ⟨rfl, rfl⟩ dR_set_63 ⟨by decide, by decide⟩ rfl rfl (Nat.le_of_ble_eq_true rfl) ?_
      intro r63c M63 hN
      replace h := hN
      clear hN
      exact hR _ _ _ _ dR_set_66 rfl h
  refine g_locals (lv' := [(0, .ref (ad 0)), (1, iv a1), (2, iv a2), (3, iv a3)]) rfl ?_
  unfold w_Rset at h
  refine g_aload_n C dR_set_0 rfl ?_
  refine g_iload_n C dR_set_1 rfl ?_
  refine g_callVi C (nargs := 1) (o := 0) (st := []) (m_RisThing hci h) rfl (by decide) hci rfl gd_isThing (by decide +kernel) ⟨rfl, rfl⟩ dR_set_2 ⟨by decide, by decide⟩ rfl rfl (Nat.le_of_ble_eq_true rfl) ?_
  intro r2c M2 hN
  replace h := hN
  clear hN
  refine g_if_eq C 22 dR_set_5 (by decide) (fun hc => ?_) (fun hc => ?_)
  · replace h := h.1 hc
    refine g_locals (lv' := [(0, .ref (ad 0))]) rfl ?_
    exact pB22  _ h
  · replace h := h.2 hc
    refine g_iload_n C dR_set_8 rfl ?_
    refine g_iconst C dR_set_9 ?_
    refine g_iconst C dR_set_10 ?_
    refine g_callSi C (nargs := 3) (st := []) (m_Rin hci h) gd_in (by decide +kernel) ⟨rfl, rfl⟩ dR_set_11 ⟨by decide, by decide⟩ rfl rfl (Nat.le_of_ble_eq_true rfl) ?_
    intro r11c M11 hN
    replace h := hN
    clear hN
    refine g_if_eq C 22 dR_set_14 (by decide) (fun hc => ?_) (fun hc => ?_)
    · replace h := h.1 hc
      refine g_locals (lv' := [(0, .ref (ad 0))]) rfl ?_
      exact pB22  _ h
    · replace h := h.2 hc
      refine g_iload_n C dR_set_17 rfl ?_
      refine g_iconst C dR_set_18 ?_
      refine g_icmp_ne C 28 dR_set_19 (by decide) (fun hc => ?_) (fun hc => ?_)
      · replace h := h.1 hc
        refine g_iload_n C dR_set_28 rfl ?_
        refine g_iconst C dR_set_29 ?_
        refine g_iload_n C dR_set_30 rfl ?_
        refine g_if_ne C 39 dR_set_31 (by decide) (fun hc => ?_) (fun hc => ?_)
        · replace h := h.1 hc
          refine g_iload_n C dR_set_39 rfl ?_
          refine g_iconst C dR_set_40 ?_
          refine g_icmp_ne C 49 dR_set_41 (by decide) (fun hc => ?_) (fun hc => ?_)
          · replace h := h.1 hc
            refine g_aload_n C dR_set_49 rfl ?_
            refine g_iload_n C dR_set_50 rfl ?_
            refine g_iconst C dR_set_51 ?_
            refine g_callVi C (nargs := 2) (o := 0) (st := [iv 0, iv a3]) (m_Rits hci h) rfl (by decide) hci rfl gd_its (by decide +kernel) ⟨rfl, rfl⟩ dR_set_52 ⟨by decide, by decide⟩ rfl rfl (Nat.le_of_ble_eq_true rfl) ?_
            intro r52c M52 hN
            replace h := hN
            clear hN
            refine g_locals (lv' := [(0, .ref (ad 0)), (1, iv a1), (2, iv a2), (3, iv a3)]) rfl ?_
            exact pB55 _ _ _ _ h
          · replace h := h.2 hc
            refine g_bipush C dR_set_44 rfl ?_
            refine g_goto C 55 dR_set_46 (by decide) ?_
            refine g_locals (lv' := [(0, .ref (ad 0)), (1, iv a1), (2, iv a2), (3, iv a3)]) rfl ?_
            exact pB55 _ _ _ _ h
        · replace h := h.2 hc
          refine g_bipush C dR_set_34 rfl ?_
          refine g_goto C 55 dR_set_36 (by decide) ?_
          refine g_locals (lv' := [(0, .ref (ad 0)), (1, iv a1), (2, iv a2), (3, iv a3)]) rfl ?_
          exact pB55 _ _ _ _ h
      · replace h := h.2 hc
        refine g_locals (lv' := [(0, .ref (ad 0))]) rfl ?_
        exact pB22  _ h
def wB_Rmoves_88 (a1 : Int) (a2 : Int) (a3 : Int) (k : gSt → Prop) (r29 : Int → Int → Int → gSt → Prop) (X29_97 : Int → Int → gSt → Prop) (v4 : Int) (v6 : Int) (v8 : Int) (s0 : Int) (s1 : Int) (s2 : Int) (M : gSt) : Prop :=
w_Rlays1 s2 s1 s0 M (fun M88 => r29 v4 v6 (v8 + 1) M88)
def wC_Rmoves_29 (a1 : Int) (a2 : Int) (a3 : Int) (k : gSt → Prop) (r29 : Int → Int → Int → gSt → Prop) (X29_97 : Int → Int → gSt → Prop) (v4 : Int) (v6 : Int) (v8 : Int) (M : gSt) : Prop :=

  (10 ≤ wrap v8 →
    X29_97 v4 v6 M) ∧
  (wrap v8 < 10 →
    w_Rits a1 v8 M (fun r42c M42 => w_Rits a2 v8 M42 (fun r53c M53 => ∀ x9_59 : Int, x9_59 = (v4 * (wrap r42c)) + (v6 * (wrap r53c)) → (
    (¬ wrap (ycmp (v4 + v6) 0) = 0 →
      (wrapL (v4 + v6) ≠ 0) ∧ (wB_Rmoves_88 a1 a2 a3 k r29 X29_97 v4 v6 v8 (Int.tdiv (wrapL x9_59) (wrapL (v4 + v6))) v8 a2 M53)) ∧
    (wrap (ycmp (v4 + v6) 0) = 0 →
      wB_Rmoves_88 a1 a2 a3 k r29 X29_97 v4 v6 v8 0 v8 a2 M53)))))
def wL_Rmoves_29 (a1 : Int) (a2 : Int) (a3 : Int) (k : gSt → Prop)  (X29_97 : Int → Int → gSt → Prop) : Nat → Int → Int → Int → gSt → Prop
  | 0 => fun _ _ _ _ => False
  | n + 1 => fun v4 v6 v8 M => wC_Rmoves_29 a1 a2 a3 k  (wL_Rmoves_29 a1 a2 a3 k  X29_97 n) X29_97 v4 v6 v8 M
def wC_Rmoves_134 (a1 : Int) (a2 : Int) (a3 : Int) (k : gSt → Prop) (r134 : Int → Int → Int → gSt → Prop) (X134_204 : Int → gSt → Prop) (v4 : Int) (v8 : Int) (v9 : Int) (M : gSt) : Prop :=

  (5 < wrap v9 →
    X134_204 v4 M) ∧
  (wrap v9 ≤ 5 →
    w_Rits a1 v9 M (fun r144c M144 => ∀ x10_156 : Int, x10_156 = Int.tdiv (wrapL ((wrap r144c) * (wrap a3))) 8 → (w_Rits a1 v9 M144 (fun r166c M166 => w_Rlays1 a1 v9 (r166c - x10_156) M166 (fun M172 => w_Rits a2 v9 M172 (fun r183c M183 => w_Rheld (r183c + x10_156) 0 v8 M183 (fun r192c M192 => w_Rlays1 a2 v9 r192c M192 (fun M195 => r134 v4 v8 (v9 + 1) M195))))))))
def wL_Rmoves_134 (a1 : Int) (a2 : Int) (a3 : Int) (k : gSt → Prop)  (X134_204 : Int → gSt → Prop) : Nat → Int → Int → Int → gSt → Prop
  | 0 => fun _ _ _ _ => False
  | n + 1 => fun v4 v8 v9 M => wC_Rmoves_134 a1 a2 a3 k  (wL_Rmoves_134 a1 a2 a3 k  X134_204 n) X134_204 v4 v8 v9 M
def wB_Rmoves_120 (a1 : Int) (a2 : Int) (a3 : Int) (k : gSt → Prop)  (v4 : Int) (s0 : Int) (M : gSt) : Prop :=
w_Rlays1 a2 2 s0 M (fun M128 => ∃ n, wL_Rmoves_134 a1 a2 a3 k  (fun u4_134 M134 =>
    w_Rits a1 2 M134 (fun r210c M210 => w_Rlays1 a1 2 (r210c - u4_134) M210 (fun M217 => k M217))) n v4 s0 3 M128)
def w_Rmoves (a1 : Int) (a2 : Int) (a3 : Int) (M : gSt) (k : gSt → Prop) : Prop :=
w_Rits a1 2 M (fun r3c M3 => ∀ x4_14 : Int, x4_14 = Int.tdiv (wrapL ((wrap r3c) * (wrap a3))) 8 → (w_Rits a2 2 M3 (fun r19c M19 => ∀ x6_23 : Int, x6_23 = wrap r19c → (∃ n, wL_Rmoves_29 a1 a2 a3 k  (fun u4_29 u6_29 M29 =>

    (wrap (ycmp (u4_29 + u6_29) 9999999) ≤ 0 →
      wB_Rmoves_120 a1 a2 a3 k  u4_29 (u4_29 + u6_29) M29) ∧
    (0 < wrap (ycmp (u4_29 + u6_29) 9999999) →
      wB_Rmoves_120 a1 a2 a3 k  u4_29 9999999 M29)) n x4_14 x6_23 6 M19))))
set_option maxHeartbeats 4000000 in
set_option maxRecDepth 100000 in
theorem m_Rmoves {l : Launch} {D : va_G} {cl : List vw_C} {tys : List (ClassId × FieldType)} {ad : Nat → Nat} {cI : ClassId} {ci : Nat} {Z : (Nat → Prop) → State → Prop} (hci : cl[ci]? = some (RX9, TX9, 23)) {a1 : Int} {a2 : Int} {a3 : Int} {M : gSt} {k : gSt → Prop} (h : w_Rmoves a1 a2 a3 M k) : MOv l yX9_moves cX9_moves 11 (rmR 1 23) D cl ((cI, .int) :: tys) (wR ad cI ci) tR Z [.ref (ad 0), iv a1, iv a2, iv a3] M k := by
  refine mov_intro (by decide +kernel) (Nat.le_of_ble_eq_true rfl) wi_89 ?_
  intro p e s m args below meth c A Q C hR
  have pB88 : ∀ (r29 : Int → Int → Int → gSt → Prop) (X29_97 : Int → Int → gSt → Prop) (hr29 : ∀ (v4 : Int) (v6 : Int) (v8 : Int) (M : gSt), r29 v4 v6 v8 M → gG p l e (rmR 1 23) s m args below meth c Q D cl A (wR ad cI ci) 11 29 [(0, .ref (ad 0)), (1, iv a1), (2, iv a2), (3, iv a3), (4, jv v4), (6, jv v6), (8, iv v8)] [] M) (hX29_97 : ∀ (v4 : Int) (v6 : Int) (M : gSt), X29_97 v4 v6 M → gG p l e (rmR 1 23) s m args below meth c Q D cl A (wR ad cI ci) 11 97 [(0, .ref (ad 0)), (1, iv a1), (2, iv a2), (3, iv a3), (4, jv v4), (6, jv v6)] [] M) (v4 : Int) (v6 : Int) (v8 : Int) (s0 : Int) (s1 : Int) (s2 : Int) (M : gSt), wB_Rmoves_88 a1 a2 a3 k r29 X29_97 v4 v6 v8 s0 s1 s2 M → gG p l e (rmR 1 23) s m args below meth c Q D cl A (wR ad cI ci) 11 88 [(0, .ref (ad 0)), (1, iv a1), (2, iv a2), (3, iv a3), (4, jv v4), (6, jv v6), (8, iv v8)] [iv s0, iv s1, iv s2, .ref (ad 0)] M := by
    intro r29 X29_97 hr29 hX29_97 v4 v6 v8 s0 s1 s2 M h
    unfold wB_Rmoves_88 at h
    refine g_callVv C (nargs := 3) (o := 0) (st := []) (m_Rlays1 hci h) rfl (by decide) hci rfl gd_lays1 (by decide +kernel) ⟨rfl, rfl⟩ dR_moves_88 ⟨by decide, by decide⟩ rfl rfl (Nat.le_of_ble_eq_true rfl) ?_
    intro M88 hN
    replace h := hN
    clear hN
    refine g_iinc C dR_moves_91 rfl (by decide) rfl ?_
    refine g_locals (lv' := [(0, .ref (ad 0)), (1, iv a1), (2, iv a2), (3, iv a3), (4, jv v4), (6, jv v6), (8, iv (v8 + 1))]) rfl ?_
    refine g_goto C 29 dR_moves_94 (by decide) ?_
    refine g_locals (lv' := [(0, .ref (ad 0)), (1, iv a1), (2, iv a2), (3, iv a3), (4, jv v4), (6, jv v6), (8, iv (v8 + 1))]) rfl ?_
    exact hr29 _ _ _  _ h
  have pC29 : ∀ (r29 : Int → Int → Int → gSt → Prop) (X29_97 : Int → Int → gSt → Prop) (hr29 : ∀ (v4 : Int) (v6 : Int) (v8 : Int) (M : gSt), r29 v4 v6 v8 M → gG p l e (rmR 1 23) s m args below meth c Q D cl A (wR ad cI ci) 11 29 [(0, .ref (ad 0)), (1, iv a1), (2, iv a2), (3, iv a3), (4, jv v4), (6, jv v6), (8, iv v8)] [] M) (hX29_97 : ∀ (v4 : Int) (v6 : Int) (M : gSt), X29_97 v4 v6 M → gG p l e (rmR 1 23) s m args below meth c Q D cl A (wR ad cI ci) 11 97 [(0, .ref (ad 0)), (1, iv a1), (2, iv a2), (3, iv a3), (4, jv v4), (6, jv v6)] [] M) (v4 : Int) (v6 : Int) (v8 : Int) (M : gSt), wC_Rmoves_29 a1 a2 a3 k r29 X29_97 v4 v6 v8 M → gG p l e (rmR 1 23) s m args below meth c Q D cl A (wR ad cI ci) 11 29 [(0, .ref (ad 0)), (1, iv a1), (2, iv a2), (3, iv a3), (4, jv v4), (6, jv v6), (8, iv v8)] [] M := by
    intro r29 X29_97 hr29 hX29_97 v4 v6 v8 M h
    unfold wC_Rmoves_29 at h
    refine g_iload C dR_moves_29 rfl ?_
    refine g_bipush C dR_moves_31 rfl ?_
    refine g_icmp_ge C 97 dR_moves_33 (by decide) (fun hc => ?_) (fun hc => ?_)
    · replace h := h.1 hc
      refine g_locals (lv' := [(0, .ref (ad 0)), (1, iv a1), (2, iv a2), (3, iv a3), (4, jv v4), (6, jv v6)]) rfl ?_
      exact hX29_97 _ _  _ h
    · replace h := h.2 hc
      refine g_lload C dR_moves_36 rfl ?_
      refine g_aload_n C dR_moves_38 rfl ?_
      refine g_iload_n C dR_moves_39 rfl ?_
      refine g_iload C dR_moves_40 rfl ?_
      refine g_callVi C (nargs := 2) (o := 0) (st := [jv v4]) (m_Rits hci h) rfl (by decide) hci rfl gd_its (by decide +kernel) ⟨rfl, rfl⟩ dR_moves_42 ⟨by decide, by decide⟩ rfl rfl (Nat.le_of_ble_eq_true rfl) ?_
      intro r42c M42 hN
      replace h := hN
      clear hN
      refine g_i2l C dR_moves_45 ?_
      refine g_lmul C dR_moves_46 ?_
      refine g_lload C dR_moves_47 rfl ?_
      refine g_aload_n C dR_moves_49 rfl ?_
      refine g_iload_n C dR_moves_50 rfl ?_
      refine g_iload C dR_moves_51 rfl ?_
      refine g_callVi C (nargs := 2) (o := 0) (st := [jv v6, jv (v4 * (wrap r42c))]) (m_Rits hci h) rfl (by decide) hci rfl gd_its (by decide +kernel) ⟨rfl, rfl⟩ dR_moves_53 ⟨by decide, by decide⟩ rfl rfl (Nat.le_of_ble_eq_true rfl) ?_
      intro r53c M53 hN
      replace h := hN
      clear hN
      refine g_i2l C dR_moves_56 ?_
      refine g_lmul C dR_moves_57 ?_
      refine g_ladd C dR_moves_58 ?_
      refine g_nameL (fun x9_59 hx9_59 => ?_)
      replace h := h x9_59 hx9_59
      refine g_lstore C dR_moves_59 (by decide) rfl ?_
      refine g_locals (lv' := [(0, .ref (ad 0)), (1, iv a1), (2, iv a2), (3, iv a3), (4, jv v4), (6, jv v6), (8, iv v8), (9, jv x9_59)]) rfl ?_
      refine g_aload_n C dR_moves_61 rfl ?_
      refine g_iload_n C dR_moves_62 rfl ?_
      refine g_iload C dR_moves_63 rfl ?_
      refine g_lload C dR_moves_65 rfl ?_
      refine g_lload C dR_moves_67 rfl ?_
      refine g_ladd C dR_moves_69 ?_
      refine g_lconst C 0 rfl dR_moves_70 ?_
      refine g_lcmp C dR_moves_71 ?_
      refine g_if_ne C 79 dR_moves_72 (by decide) (fun hc => ?_) (fun hc => ?_)
      · replace h := h.1 hc
        refine g_lload C dR_moves_79 rfl ?_
        refine g_lload C dR_moves_81 rfl ?_
        refine g_lload C dR_moves_83 rfl ?_
        refine g_ladd C dR_moves_85 ?_
        refine g_ldiv C dR_moves_86 h.1 ?_
        replace h := h.2
        refine g_topL (y := Int.tdiv (wrapL x9_59) (wrapL (v4 + v6))) rfl ?_
        refine g_l2i C dR_moves_87 ?_
        refine g_locals (lv' := [(0, .ref (ad 0)), (1, iv a1), (2, iv a2), (3, iv a3), (4, jv v4), (6, jv v6), (8, iv v8)]) rfl ?_
        exact pB88 r29 X29_97 hr29 hX29_97 _ _ _ _ _ _ _ h
      · replace h := h.2 hc
        refine g_iconst C dR_moves_75 ?_
        refine g_goto C 88 dR_moves_76 (by decide) ?_
        refine g_locals (lv' := [(0, .ref (ad 0)), (1, iv a1), (2, iv a2), (3, iv a3), (4, jv v4), (6, jv v6), (8, iv v8)]) rfl ?_
        exact pB88 r29 X29_97 hr29 hX29_97 _ _ _ _ _ _ _ h
  have pL29 : ∀  (X29_97 : Int → Int → gSt → Prop) (hX29_97 : ∀ (v4 : Int) (v6 : Int) (M : gSt), X29_97 v4 v6 M → gG p l e (rmR 1 23) s m args below meth c Q D cl A (wR ad cI ci) 11 97 [(0, .ref (ad 0)), (1, iv a1), (2, iv a2), (3, iv a3), (4, jv v4), (6, jv v6)] [] M) (n : Nat) (v4 : Int) (v6 : Int) (v8 : Int) (M : gSt), wL_Rmoves_29 a1 a2 a3 k  X29_97 n v4 v6 v8 M → gG p l e (rmR 1 23) s m args below meth c Q D cl A (wR ad cI ci) 11 29 [(0, .ref (ad 0)), (1, iv a1), (2, iv a2), (3, iv a3), (4, jv v4), (6, jv v6), (8, iv v8)] [] M := by
    intro  X29_97 hX29_97 n
    induction n with
    | zero => intro v4 v6 v8 M h; exact h.elim
    | succ n ih =>
      intro v4 v6 v8 M h
      exact pC29  (wL_Rmoves_29 a1 a2 a3 k  X29_97 n) X29_97 ih hX29_97 v4 v6 v8 M h
  have pC134 : ∀ (r134 : Int → Int → Int → gSt → Prop) (X134_204 : Int → gSt → Prop) (hr134 : ∀ (v4 : Int) (v8 : Int) (v9 : Int) (M : gSt), r134 v4 v8 v9 M → gG p l e (rmR 1 23) s m args below meth c Q D cl A (wR ad cI ci) 11 134 [(0, .ref (ad 0)), (1, iv a1), (2, iv a2), (3, iv a3), (4, jv v4), (8, iv v8), (9, iv v9)] [] M) (hX134_204 : ∀ (v4 : Int) (M : gSt), X134_204 v4 M → gG p l e (rmR 1 23) s m args below meth c Q D cl A (wR ad cI ci) 11 204 [(0, .ref (ad 0)), (1, iv a1), (4, jv v4)] [] M) (v4 : Int) (v8 : Int) (v9 : Int) (M : gSt), wC_Rmoves_134 a1 a2 a3 k r134 X134_204 v4 v8 v9 M → gG p l e (rmR 1 23) s m args below meth c Q D cl A (wR ad cI ci) 11 134 [(0, .ref (ad 0)), (1, iv a1), (2, iv a2), (3, iv a3), (4, jv v4), (8, iv v8), (9, iv v9)] [] M := by
    intro r134 X134_204 hr134 hX134_204 v4 v8 v9 M h
    unfold wC_Rmoves_134 at h
    refine g_iload C dR_moves_134 rfl ?_
    refine g_iconst C dR_moves_136 ?_
    refine g_icmp_gt C 204 dR_moves_137 (by decide) (fun hc => ?_) (fun hc => ?_)
    · replace h := h.1 hc
      refine g_locals (lv' := [(0, .ref (ad 0)), (1, iv a1), (4, jv v4)]) rfl ?_
      exact hX134_204 _  _ h
    · replace h := h.2 hc
      refine g_aload_n C dR_moves_140 rfl ?_
      refine g_iload_n C dR_moves_141 rfl ?_
      refine g_iload C dR_moves_142 rfl ?_
      refine g_callVi C (nargs := 2) (o := 0) (st := []) (m_Rits hci h) rfl (by decide) hci rfl gd_its (by decide +kernel) ⟨rfl, rfl⟩ dR_moves_144 ⟨by decide, by decide⟩ rfl rfl (Nat.le_of_ble_eq_true rfl) ?_
      intro r144c M144 hN
      replace h := hN
      clear hN
      refine g_i2l C dR_moves_147 ?_
      refine g_iload_n C dR_moves_148 rfl ?_
      refine g_i2l C dR_moves_149 ?_
      refine g_lmul C dR_moves_150 ?_
      refine g_ldc2 C 8 wi_87 rfl dR_moves_151 ?_
      refine g_ldiv C dR_moves_154 (by decide) ?_
      refine g_topL (y := Int.tdiv (wrapL ((wrap r144c) * (wrap a3))) 8) rfl ?_
      refine g_l2i C dR_moves_155 ?_
      refine g_name (fun x10_156 hx10_156 => ?_)
      replace h := h x10_156 hx10_156
      refine g_istore C dR_moves_156 (by decide) rfl ?_
      refine g_locals (lv' := [(0, .ref (ad 0)), (1, iv a1), (2, iv a2), (3, iv a3), (4, jv v4), (8, iv v8), (9, iv v9), (10, iv x10_156)]) rfl ?_
      refine g_aload_n C dR_moves_158 rfl ?_
      refine g_iload_n C dR_moves_159 rfl ?_
      refine g_iload C dR_moves_160 rfl ?_
      refine g_aload_n C dR_moves_162 rfl ?_
      refine g_iload_n C dR_moves_163 rfl ?_
      refine g_iload C dR_moves_164 rfl ?_
      refine g_callVi C (nargs := 2) (o := 0) (st := [iv v9, iv a1, .ref (ad 0)]) (m_Rits hci h) rfl (by decide) hci rfl gd_its (by decide +kernel) ⟨rfl, rfl⟩ dR_moves_166 ⟨by decide, by decide⟩ rfl rfl (Nat.le_of_ble_eq_true rfl) ?_
      intro r166c M166 hN
      replace h := hN
      clear hN
      refine g_iload C dR_moves_169 rfl ?_
      refine g_isub C dR_moves_171 ?_
      refine g_callVv C (nargs := 3) (o := 0) (st := []) (m_Rlays1 hci h) rfl (by decide) hci rfl gd_lays1 (by decide +kernel) ⟨rfl, rfl⟩ dR_moves_172 ⟨by decide, by decide⟩ rfl rfl (Nat.le_of_ble_eq_true rfl) ?_
      intro M172 hN
      replace h := hN
      clear hN
      refine g_aload_n C dR_moves_175 rfl ?_
      refine g_iload_n C dR_moves_176 rfl ?_
      refine g_iload C dR_moves_177 rfl ?_
      refine g_aload_n C dR_moves_179 rfl ?_
      refine g_iload_n C dR_moves_180 rfl ?_
      refine g_iload C dR_moves_181 rfl ?_
      refine g_callVi C (nargs := 2) (o := 0) (st := [iv v9, iv a2, .ref (ad 0)]) (m_Rits hci h) rfl (by decide) hci rfl gd_its (by decide +kernel) ⟨rfl, rfl⟩ dR_moves_183 ⟨by decide, by decide⟩ rfl rfl (Nat.le_of_ble_eq_true rfl) ?_
      intro r183c M183 hN
      replace h := hN
      clear hN
      refine g_iload C dR_moves_186 rfl ?_
      refine g_iadd C dR_moves_188 ?_
      refine g_iconst C dR_moves_189 ?_
      refine g_iload C dR_moves_190 rfl ?_
      refine g_callSi C (nargs := 3) (st := [iv v9, iv a2, .ref (ad 0)]) (m_Rheld hci h) gd_held (by decide +kernel) ⟨rfl, rfl⟩ dR_moves_192 ⟨by decide, by decide⟩ rfl rfl (Nat.le_of_ble_eq_true rfl) ?_
      intro r192c M192 hN
      replace h := hN
      clear hN
      refine g_callVv C (nargs := 3) (o := 0) (st := []) (m_Rlays1 hci h) rfl (by decide) hci rfl gd_lays1 (by decide +kernel) ⟨rfl, rfl⟩ dR_moves_195 ⟨by decide, by decide⟩ rfl rfl (Nat.le_of_ble_eq_true rfl) ?_
      intro M195 hN
      replace h := hN
      clear hN
      refine g_iinc C dR_moves_198 rfl (by decide) rfl ?_
      refine g_locals (lv' := [(0, .ref (ad 0)), (1, iv a1), (2, iv a2), (3, iv a3), (4, jv v4), (8, iv v8), (9, iv (v9 + 1)), (10, iv x10_156)]) rfl ?_
      refine g_goto C 134 dR_moves_201 (by decide) ?_
      refine g_locals (lv' := [(0, .ref (ad 0)), (1, iv a1), (2, iv a2), (3, iv a3), (4, jv v4), (8, iv v8), (9, iv (v9 + 1))]) rfl ?_
      exact hr134 _ _ _  _ h
  have pL134 : ∀  (X134_204 : Int → gSt → Prop) (hX134_204 : ∀ (v4 : Int) (M : gSt), X134_204 v4 M → gG p l e (rmR 1 23) s m args below meth c Q D cl A (wR ad cI ci) 11 204 [(0, .ref (ad 0)), (1, iv a1), (4, jv v4)] [] M) (n : Nat) (v4 : Int) (v8 : Int) (v9 : Int) (M : gSt), wL_Rmoves_134 a1 a2 a3 k  X134_204 n v4 v8 v9 M → gG p l e (rmR 1 23) s m args below meth c Q D cl A (wR ad cI ci) 11 134 [(0, .ref (ad 0)), (1, iv a1), (2, iv a2), (3, iv a3), (4, jv v4), (8, iv v8), (9, iv v9)] [] M := by
    intro  X134_204 hX134_204 n
    induction n with
    | zero => intro v4 v8 v9 M h; exact h.elim
    | succ n ih =>
      intro v4 v8 v9 M h
      exact pC134  (wL_Rmoves_134 a1 a2 a3 k  X134_204 n) X134_204 ih hX134_204 v4 v8 v9 M h
  have pB120 : ∀   (v4 : Int) (s0 : Int) (M : gSt), wB_Rmoves_120 a1 a2 a3 k  v4 s0 M → gG p l e (rmR 1 23) s m args below meth c Q D cl A (wR ad cI ci) 11 120 [(0, .ref (ad 0)), (1, iv a1), (2, iv a2), (3, iv a3), (4, jv v4)] [jv s0] M := by
    intro   v4 s0 M h
    unfold wB_Rmoves_120 at h
    refine g_l2i C dR_moves_120 ?_
    refine g_istore C dR_moves_121 (by decide) rfl ?_
    refine g_locals (lv' := [(0, .ref (ad 0)), (1, iv a1), (2, iv a2), (3, iv a3), (4, jv v4), (8, iv s0)]) rfl ?_
    refine g_aload_n C dR_moves_123 rfl ?_
    refine g_iload_n C dR_moves_124 rfl ?_
    refine g_iconst C dR_moves_125 ?_
    refine g_iload C dR_moves_126 rfl ?_
    refine g_callVv C (nargs := 3) (o := 0) (st := []) (m_Rlays1 hci h) rfl (by decide) hci rfl gd_lays1 (by decide +kernel) ⟨rfl, rfl⟩ dR_moves_128 ⟨by decide, by decide⟩ rfl rfl (Nat.le_of_ble_eq_true rfl) ?_
    intro M128 hN
    replace h := hN
    clear hN
    refine g_iconst C dR_moves_131 ?_
    refine g_istore C dR_moves_132 (by decide) rfl ?_
    refine g_locals (lv' := [(0, .ref (ad 0)), (1, iv a1), (2, iv a2), (3, iv a3), (4, jv v4), (8, iv s0), (9, iv 3)]) rfl ?_
    refine g_locals (lv' := [(0, .ref (ad 0)), (1, iv a1), (2, iv a2), (3, iv a3), (4, jv v4), (8, iv s0), (9, iv 3)]) rfl ?_
    obtain ⟨n, h⟩ := h
    refine pL134 _ ?_ n _ _ _ _ h
    · intro u4_134 M134 hN
      replace h := hN
      clear hN
      refine g_aload_n C dR_moves_204 rfl ?_
      refine g_iload_n C dR_moves_205 rfl ?_
      refine g_iconst C dR_moves_206 ?_
      refine g_aload_n C dR_moves_207 rfl ?_
      refine g_iload_n C dR_moves_208 rfl ?_
      refine g_iconst C dR_moves_209 ?_
      refine g_callVi C (nargs := 2) (o := 0) (st := [iv 2, iv a1, .ref (ad 0)]) (m_Rits hci h) rfl (by decide) hci rfl gd_its (by decide +kernel) ⟨rfl, rfl⟩ dR_moves_210 ⟨by decide, by decide⟩ rfl rfl (Nat.le_of_ble_eq_true rfl) ?_
      intro r210c M210 hN
      replace h := hN
      clear hN
      refine g_lload C dR_moves_213 rfl ?_
      refine g_l2i C dR_moves_215 ?_
      refine g_isub C dR_moves_216 ?_
      refine g_callVv C (nargs := 3) (o := 0) (st := []) (m_Rlays1 hci h) rfl (by decide) hci rfl gd_lays1 (by decide +kernel) ⟨rfl, rfl⟩ dR_moves_217 ⟨by decide, by decide⟩ rfl rfl (Nat.le_of_ble_eq_true rfl) ?_
      intro M217 hN
      replace h := hN
      clear hN
      exact hR _ _ _ dR_moves_220 h
  refine g_locals (lv' := [(0, .ref (ad 0)), (1, iv a1), (2, iv a2), (3, iv a3)]) rfl ?_
  unfold w_Rmoves at h
  refine g_aload_n C dR_moves_0 rfl ?_
  refine g_iload_n C dR_moves_1 rfl ?_
  refine g_iconst C dR_moves_2 ?_
  refine g_callVi C (nargs := 2) (o := 0) (st := []) (m_Rits hci h) rfl (by decide) hci rfl gd_its (by decide +kernel) ⟨rfl, rfl⟩ dR_moves_3 ⟨by decide, by decide⟩ rfl rfl (Nat.le_of_ble_eq_true rfl) ?_
  intro r3c M3 hN
  replace h := hN
  clear hN
  refine g_i2l C dR_moves_6 ?_
  refine g_iload_n C dR_moves_7 rfl ?_
  refine g_i2l C dR_moves_8 ?_
  refine g_lmul C dR_moves_9 ?_
  refine g_ldc2 C 8 wi_87 rfl dR_moves_10 ?_
  refine g_ldiv C dR_moves_13 (by decide) ?_
  refine g_topL (y := Int.tdiv (wrapL ((wrap r3c) * (wrap a3))) 8) rfl ?_
  refine g_nameL (fun x4_14 hx4_14 => ?_)
  replace h := h x4_14 hx4_14
  refine g_lstore C dR_moves_14 (by decide) rfl ?_
  refine g_locals (lv' := [(0, .ref (ad 0)), (1, iv a1), (2, iv a2), (3, iv a3), (4, jv x4_14)]) rfl ?_
  refine g_aload_n C dR_moves_16 rfl ?_
  refine g_iload_n C dR_moves_17 rfl ?_
  refine g_iconst C dR_moves_18 ?_
  refine g_callVi C (nargs := 2) (o := 0) (st := []) (m_Rits hci h) rfl (by decide) hci rfl gd_its (by decide +kernel) ⟨rfl, rfl⟩ dR_moves_19 ⟨by decide, by decide⟩ rfl rfl (Nat.le_of_ble_eq_true rfl) ?_
  intro r19c M19 hN
  replace h := hN
  clear hN
  refine g_i2l C dR_moves_22 ?_
  refine g_nameL (fun x6_23 hx6_23 => ?_)
  replace h := h x6_23 hx6_23
  refine g_lstore C dR_moves_23 (by decide) rfl ?_
  refine g_locals (lv' := [(0, .ref (ad 0)), (1, iv a1), (2, iv a2), (3, iv a3), (4, jv x4_14), (6, jv x6_23)]) rfl ?_
  refine g_bipush C dR_moves_25 rfl ?_
  refine g_istore C dR_moves_27 (by decide) rfl ?_
  refine g_locals (lv' := [(0, .ref (ad 0)), (1, iv a1), (2, iv a2), (3, iv a3), (4, jv x4_14), (6, jv x6_23), (8, iv 6)]) rfl ?_
  refine g_locals (lv' := [(0, .ref (ad 0)), (1, iv a1), (2, iv a2), (3, iv a3), (4, jv x4_14), (6, jv x6_23), (8, iv 6)]) rfl ?_
  obtain ⟨n, h⟩ := h
  refine pL29 _ ?_ n _ _ _ _ h
  · intro u4_29 u6_29 M29 hN
    replace h := hN
    clear hN
    refine g_lload C dR_moves_97 rfl ?_
    refine g_lload C dR_moves_99 rfl ?_
    refine g_ladd C dR_moves_101 ?_
    refine g_ldc2 C 9999999 wi_88 rfl dR_moves_102 ?_
    refine g_lcmp C dR_moves_105 ?_
    refine g_if_le C 115 dR_moves_106 (by decide) (fun hc => ?_) (fun hc => ?_)
    · replace h := h.1 hc
      refine g_lload C dR_moves_115 rfl ?_
      refine g_lload C dR_moves_117 rfl ?_
      refine g_ladd C dR_moves_119 ?_
      refine g_locals (lv' := [(0, .ref (ad 0)), (1, iv a1), (2, iv a2), (3, iv a3), (4, jv u4_29)]) rfl ?_
      exact pB120 _ _ _ h
    · replace h := h.2 hc
      refine g_ldc2 C 9999999 wi_88 rfl dR_moves_109 ?_
      refine g_goto C 120 dR_moves_112 (by decide) ?_
      refine g_locals (lv' := [(0, .ref (ad 0)), (1, iv a1), (2, iv a2), (3, iv a3), (4, jv u4_29)]) rfl ?_
      exact pB120 _ _ _ h
