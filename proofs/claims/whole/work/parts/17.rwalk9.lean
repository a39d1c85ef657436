def w_Rcount (a1 : Int) (M : gSt) (k : Int → gSt → Prop) : Prop :=

  (wrap a1 = 0 →
    k (M 1 0) M) ∧
  (wrap a1 = 1 →
    k (M 1 1) M) ∧
  (wrap a1 = 2 →
    k (M 1 2) M) ∧
  (wrap a1 = 3 →
    k (M 1 3) M) ∧
  (wrap a1 = 4 →
    k (M 1 4) M) ∧
  (wrap a1 = 5 →
    w_RallGrams  M (fun r96c M96 => k r96c M96)) ∧
  (wrap a1 = 6 →
    k (M 1 5) M) ∧
  (wrap a1 = 7 →
    k (M 1 6) M) ∧
  (wrap a1 = 8 →
    k (M 1 7) M) ∧
  (wrap a1 = 9 →
    k (M 0 16) M) ∧
  (wrap a1 = 10 →
    k (M 1 8) M) ∧
  (¬ wrap a1 = 0 ∧ ¬ wrap a1 = 1 ∧ ¬ wrap a1 = 2 ∧ ¬ wrap a1 = 3 ∧ ¬ wrap a1 = 4 ∧ ¬ wrap a1 = 5 ∧ ¬ wrap a1 = 6 ∧ ¬ wrap a1 = 7 ∧ ¬ wrap a1 = 8 ∧ ¬ wrap a1 = 9 ∧ ¬ wrap a1 = 10 →
    w_Rerror 1 M (fun r138c M138 => k r138c M138))
set_option maxHeartbeats 4000000 in
set_option maxRecDepth 100000 in
theorem m_Rcount {l : Launch} {D : va_G} {cl : List vw_C} {tys : List (ClassId × FieldType)} {ad : Nat → Nat} {cI : ClassId} {ci : Nat} (hci : cl[ci]? = some (RX9, TX9, 23)) {a1 : Int} {M : gSt} {k : Int → gSt → Prop} (h : w_Rcount a1 M k) : MOi l yX9_count cX9_count 2 .int (rmR 2 44) D cl ((cI, .int) :: tys) (wR ad cI ci) tR [.ref (ad 0), iv a1] M k := by
  refine moi_intro (by decide +kernel) (Nat.le_of_ble_eq_true rfl) wi_307 ?_
  intro p e s m args below meth c A Q C hR
  refine g_locals (lv' := [(0, .ref (ad 0)), (1, iv a1)]) rfl ?_
  unfold w_Rcount at h
  refine g_iload_n C dR_count_0 rfl ?_
  by_cases hc0 : wrap a1 = 0
  · refine g_tableIn C 60 dR_count_1 (by omega) (by omega) (by rw [hc0]; rfl) (by decide) ?_
    replace h := h.1 hc0
    refine g_aload_n C dR_count_60 rfl ?_
    refine rf_s C hci dR_count_61 ?_
    refine g_iconst C dR_count_64 ?_
    refine g_iald C (n := 536) dR_count_65 rfl (by decide) ⟨by decide, by decide⟩ ?_
    exact hR _ _ _ _ dR_count_66 rfl h
  · by_cases hc1 : wrap a1 = 1
    · refine g_tableIn C 67 dR_count_1 (by omega) (by omega) (by rw [hc1]; rfl) (by decide) ?_
      replace h := h.2.1 hc1
      refine g_aload_n C dR_count_67 rfl ?_
      refine rf_s C hci dR_count_68 ?_
      refine g_iconst C dR_count_71 ?_
      refine g_iald C (n := 536) dR_count_72 rfl (by decide) ⟨by decide, by decide⟩ ?_
      exact hR _ _ _ _ dR_count_73 rfl h
    · by_cases hc2 : wrap a1 = 2
      · refine g_tableIn C 74 dR_count_1 (by omega) (by omega) (by rw [hc2]; rfl) (by decide) ?_
        replace h := h.2.2.1 hc2
        refine g_aload_n C dR_count_74 rfl ?_
        refine rf_s C hci dR_count_75 ?_
        refine g_iconst C dR_count_78 ?_
        refine g_iald C (n := 536) dR_count_79 rfl (by decide) ⟨by decide, by decide⟩ ?_
        exact hR _ _ _ _ dR_count_80 rfl h
      · by_cases hc3 : wrap a1 = 3
        · refine g_tableIn C 81 dR_count_1 (by omega) (by omega) (by rw [hc3]; rfl) (by decide) ?_
          replace h := h.2.2.2.1 hc3
          refine g_aload_n C dR_count_81 rfl ?_
          refine rf_s C hci dR_count_82 ?_
          refine g_iconst C dR_count_85 ?_
          refine g_iald C (n := 536) dR_count_86 rfl (by decide) ⟨by decide, by decide⟩ ?_
          exact hR _ _ _ _ dR_count_87 rfl h
        · by_cases hc4 : wrap a1 = 4
          · refine g_tableIn C 88 dR_count_1 (by omega) (by omega) (by rw [hc4]; rfl) (by decide) ?_
            replace h := h.2.2.2.2.1 hc4
            refine g_aload_n C dR_count_88 rfl ?_
            refine rf_s C hci dR_count_89 ?_
            refine g_iconst C dR_count_92 ?_
            refine g_iald C (n := 536) dR_count_93 rfl (by decide) ⟨by decide, by decide⟩ ?_
            exact hR _ _ _ _ dR_count_94 rfl h
          · by_cases hc5 : wrap a1 = 5
            · refine g_tableIn C 95 dR_count_1 (by omega) (by omega) (by rw [hc5]; rfl) (by decide) ?_
              replace h := h.2.2.2.2.2.1 hc5
              refine g_aload_n C dR_count_95 rfl ?_
              refine g_callVi C (nargs := 0) (o := 0) (st := []) (m_RallGrams hci h) rfl (by decide) hci rfl gd_allGrams (by decide +kernel) ⟨rfl, rfl⟩ dR_count_96 ⟨by decide, by decide⟩ rfl rfl (Nat.le_of_ble_eq_true rfl) ?_
              intro r96c M96 h
              exact hR _ _ _ _ dR_count_99 rfl h
            · by_cases hc6 : wrap a1 = 6
              · refine g_tableIn C 100 dR_count_1 (by omega) (by omega) (by rw [hc6]; rfl) (by decide) ?_
                replace h := h.2.2.2.2.2.2.1 hc6
                refine g_aload_n C dR_count_100 rfl ?_
                refine rf_s C hci dR_count_101 ?_
                refine g_iconst C dR_count_104 ?_
                refine g_iald C (n := 536) dR_count_105 rfl (by decide) ⟨by decide, by decide⟩ ?_
                exact hR _ _ _ _ dR_count_106 rfl h
              · by_cases hc7 : wrap a1 = 7
                · refine g_tableIn C 107 dR_count_1 (by omega) (by omega) (by rw [hc7]; rfl) (by decide) ?_
                  replace h := h.2.2.2.2.2.2.2.1 hc7
                  refine g_aload_n C dR_count_107 rfl ?_
                  refine rf_s C hci dR_count_108 ?_
                  refine g_bipush C dR_count_111 rfl ?_
                  refine g_iald C (n := 536) dR_count_113 rfl (by decide) ⟨by decide, by decide⟩ ?_
                  exact hR _ _ _ _ dR_count_114 rfl h
                · by_cases hc8 : wrap a1 = 8
                  · refine g_tableIn C 115 dR_count_1 (by omega) (by omega) (by rw [hc8]; rfl) (by decide) ?_
                    replace h := h.2.2.2.2.2.2.2.2.1 hc8
                    refine g_aload_n C dR_count_115 rfl ?_
                    refine rf_s C hci dR_count_116 ?_
                    refine g_bipush C dR_count_119 rfl ?_
                    refine g_iald C (n := 536) dR_count_121 rfl (by decide) ⟨by decide, by decide⟩ ?_
                    exact hR _ _ _ _ dR_count_122 rfl h
                  · by_cases hc9 : wrap a1 = 9
                    · refine g_tableIn C 123 dR_count_1 (by omega) (by omega) (by rw [hc9]; rfl) (by decide) ?_
                      replace h := h.2.2.2.2.2.2.2.2.2.1 hc9
                      refine g_aload_n C dR_count_123 rfl ?_
                      refine rf_traced C hci dR_count_124 ?_
                      exact hR _ _ _ _ dR_count_127 rfl h
                    · by_cases hc10 : wrap a1 = 10
                      · refine g_tableIn C 128 dR_count_1 (by omega) (by omega) (by rw [hc10]; rfl) (by decide) ?_
                        replace h := h.2.2.2.2.2.2.2.2.2.2.1 hc10
                        refine g_aload_n C dR_count_128 rfl ?_
                        refine rf_s C hci dR_count_129 ?_
                        refine g_bipush C dR_count_132 rfl ?_
                        refine g_iald C (n := 536) dR_count_134 rfl (by decide) ⟨by decide, by decide⟩ ?_
                        exact hR _ _ _ _ dR_count_135 rfl h
                      · refine g_tableOut C 136 dR_count_1 (by omega) (by decide) ?_
                        replace h := h.2.2.2.2.2.2.2.2.2.2.2 ⟨hc0, hc1, hc2, hc3, hc4, hc5, hc6, hc7, hc8, hc9, hc10⟩
                        refine g_aload_n C dR_count_136 rfl ?_
                        refine g_iconst C dR_count_137 ?_
                        refine g_callVi C (nargs := 1) (o := 0) (st := []) (m_Rerror hci h) rfl (by decide) hci rfl gd_error (by decide +kernel) ⟨rfl, rfl⟩ dR_count_138 ⟨by decide, by decide⟩ rfl rfl (Nat.le_of_ble_eq_true rfl) ?_
                        intro r138c M138 h
                        exact hR _ _ _ _ dR_count_141 rfl h
def w_Rtold (a1 : Int) (M : gSt) (k : Int → gSt → Prop) : Prop :=
w_Rin a1 1 6 M (fun r4c M4 => 
  (wrap r4c = 0 →
    w_Rerror 1 M4 (fun r21c M21 => k r21c M21)) ∧
  (¬ wrap r4c = 0 →
    (0 ≤ a1 ∧ a1 < 7) ∧ (k (M4 4 a1) M4)))
set_option maxHeartbeats 4000000 in
set_option maxRecDepth 100000 in
theorem m_Rtold {l : Launch} {D : va_G} {cl : List vw_C} {tys : List (ClassId × FieldType)} {ad : Nat → Nat} {cI : ClassId} {ci : Nat} (hci : cl[ci]? = some (RX9, TX9, 23)) {a1 : Int} {M : gSt} {k : Int → gSt → Prop} (h : w_Rtold a1 M k) : MOi l yX9_told cX9_told 2 .int (rmR 1 22) D cl ((cI, .int) :: tys) (wR ad cI ci) tR [.ref (ad 0), iv a1] M k := by
  refine moi_intro (by decide +kernel) (Nat.le_of_ble_eq_true rfl) wi_308 ?_
  intro p e s m args below meth c A Q C hR
  refine g_locals (lv' := [(0, .ref (ad 0)), (1, iv a1)]) rfl ?_
  unfold w_Rtold at h
  refine g_iload_n C dR_told_0 rfl ?_
  refine g_iconst C dR_told_1 ?_
  refine g_bipush C dR_told_2 rfl ?_
  refine g_callSi C (nargs := 3) (st := []) (m_Rin hci h) gd_in (by decide +kernel) ⟨rfl, rfl⟩ dR_told_4 ⟨by decide, by decide⟩ rfl rfl (Nat.le_of_ble_eq_true rfl) ?_
  intro r4c M4 h
  refine g_if_eq C 19 dR_told_7 (by decide) (fun hc => ?_) (fun hc => ?_)
  · replace h := h.1 hc
    refine g_aload_n C dR_told_19 rfl ?_
    refine g_iconst C dR_told_20 ?_
    refine g_callVi C (nargs := 1) (o := 0) (st := []) (m_Rerror hci h) rfl (by decide) hci rfl gd_error (by decide +kernel) ⟨rfl, rfl⟩ dR_told_21 ⟨by decide, by decide⟩ rfl rfl (Nat.le_of_ble_eq_true rfl) ?_
    intro r21c M21 h
    exact hR _ _ _ _ dR_told_24 rfl h
  · replace h := h.2 hc
    refine g_aload_n C dR_told_10 rfl ?_
    refine rf_errors C hci dR_told_11 ?_
    refine g_iload_n C dR_told_14 rfl ?_
    refine g_iald C (n := 7) dR_told_15 rfl (by decide) h.1 ?_
    replace h := h.2
    refine g_goto C 24 dR_told_16 (by decide) ?_
    exact hR _ _ _ _ dR_told_24 rfl h
