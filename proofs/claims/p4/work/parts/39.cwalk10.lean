def w_X8_isHistory (a1 : Int) (M : gSt) (k : Int → gSt → Prop) : Prop :=
  w_X8_allPapers  M (fun r3c M3 => w_X8_within a1 0 r3c M3 (fun r6c M6 => (r6c = 0 ∨ r6c = 1) ∧ (k r6c M6)))
set_option maxHeartbeats 4000000 in
set_option maxRecDepth 100000 in
theorem m_X8_isHistory {l : Launch} {D : va_G} {tys : List (ClassId × FieldType)} {ad : Nat → Nat} {cI cS : ClassId} {a1 : Int} {M : gSt} {k : Int → gSt → Prop} (h : w_X8_isHistory a1 M k) : MOi l yX8_isHistory cX8_isHistory 2 .boolean (rmR 2 40) D clC ((cI, .int) :: (cS, .object "OldBronze$Sheet") :: tys) (wC ad cI cS) tC zC [.ref (ad 0), iv a1] M k := by
  refine moi_intro (by decide +kernel) (Nat.le_of_ble_eq_true rfl) wc_509 ?_
  intro p e s m args below meth c A Q C hR
  unfold w_X8_isHistory at h
  refine g_locals (lv' := [(0, .ref (ad 0)), (1, iv a1)]) rfl ?_
  refine g_iload_n C dX8_isHistory_0 rfl ?_
  refine g_iconst C dX8_isHistory_1 ?_
  refine g_aload_n C dX8_isHistory_2 rfl ?_
  refine g_callVi C (nargs := 0) (o := 0) (st := [iv 0, iv a1]) (m_X8_allPapers h) pl_0.1 pl_0.2.1 rfl rfl gc_X8_201 (by decide +kernel) ⟨rfl, rfl⟩ dX8_isHistory_3 ⟨by decide, by decide⟩ rfl rfl (Nat.le_of_ble_eq_true rfl) ?_
  intro r3c M3 hN
  replace h := hN
  clear hN
  refine g_callSi C (nargs := 3) (st := []) (m_X8_within h) gc_X8_63 (by decide +kernel) ⟨rfl, rfl⟩ dX8_isHistory_6 ⟨by decide, by decide⟩ rfl rfl (Nat.le_of_ble_eq_true rfl) ?_
  intro r6c M6 hN
  replace h := hN
  clear hN
  exact hR _ _ _ _ dX8_isHistory_9 (zn_bool h.1).1 h.2
def wB_X8_by_32 (a1 : Int) (a2 : Int) (a3 : Int) (k : Int → gSt → Prop)   (M : gSt) : Prop :=
w_X8_refuse 1 M (fun r34c M34 => k r34c M34)
def w_X8_by (a1 : Int) (a2 : Int) (a3 : Int) (M : gSt) (k : Int → gSt → Prop) : Prop :=
  w_X8_isHistory a1 M (fun r2c M2 => 
  (wrap r2c = 0 →
    wB_X8_by_32 a1 a2 a3 k   M2) ∧
  (¬ wrap r2c = 0 →
    w_X0_has 2 a2 M2 (fun r16c M16 => 
    (wrap r16c = 0 →
      wB_X8_by_32 a1 a2 a3 k   M16) ∧
    (¬ wrap r16c = 0 →
      w_X8_within a3 2 9 M16 (fun r26c M26 => 
      (¬ wrap r26c = 0 →
        w_X2_follow 41 1 a1 M26 (fun M47 => w_X2_numberBehind 41 a2 a3 M47 (fun r56c M56 => k r56c M56))) ∧
      (wrap r26c = 0 →
        wB_X8_by_32 a1 a2 a3 k   M26))))))
set_option maxHeartbeats 4000000 in
set_option maxRecDepth 100000 in
theorem m_X8_by {l : Launch} {D : va_G} {tys : List (ClassId × FieldType)} {ad : Nat → Nat} {cI cS : ClassId} {a1 : Int} {a2 : Int} {a3 : Int} {M : gSt} {k : Int → gSt → Prop} (h : w_X8_by a1 a2 a3 M k) : MOi l yX8_by cX8_by 4 .int (rmR 6 147) D clC ((cI, .int) :: (cS, .object "OldBronze$Sheet") :: tys) (wC ad cI cS) tC zC [.ref (ad 0), iv a1, iv a2, iv a3] M k := by
  refine moi_intro (by decide +kernel) (Nat.le_of_ble_eq_true rfl) wc_520 ?_
  intro p e s m args below meth c A Q C hR
  unfold w_X8_by at h
  have pB32 : ∀    (M : gSt), wB_X8_by_32 a1 a2 a3 k   M → gG p l e (rmR 6 147) s m args below meth c Q D clC A (wC ad cI cS) 4 32 [(0, .ref (ad 0))] [] M := by
    intro    M h
    unfold wB_X8_by_32 at h
    refine g_aload_n C dX8_by_32 rfl ?_
    refine g_iconst C dX8_by_33 ?_
    refine g_callVi C (nargs := 1) (o := 0) (st := []) (m_X8_refuse h) pl_0.1 pl_0.2.1 rfl rfl gc_X8_67 (by decide +kernel) ⟨rfl, rfl⟩ dX8_by_34 ⟨by decide, by decide⟩ rfl rfl (Nat.le_of_ble_eq_true rfl) ?_
    intro r34c M34 hN
    replace h := hN
    clear hN
    exact hR _ _ _ _ dX8_by_37 rfl h
  refine g_locals (lv' := [(0, .ref (ad 0)), (1, iv a1), (2, iv a2), (3, iv a3)]) rfl ?_
  refine g_aload_n C dX8_by_0 rfl ?_
  refine g_iload_n C dX8_by_1 rfl ?_
  refine g_callVi C (nargs := 1) (o := 0) (st := []) (m_X8_isHistory h) pl_0.1 pl_0.2.1 rfl rfl gc_X8_187 (by decide +kernel) ⟨rfl, rfl⟩ dX8_by_2 ⟨by decide, by decide⟩ rfl rfl (Nat.le_of_ble_eq_true rfl) ?_
  intro r2c M2 hN
  replace h := hN
  clear hN
  refine g_if_eq C 32 dX8_by_5 (by decide) (fun hc => ?_) (fun hc => ?_)
  · replace h := h.1 hc
    refine g_locals (lv' := [(0, .ref (ad 0))]) rfl ?_
    exact pB32  _ h
  · replace h := h.2 hc
    refine g_aload_n C dX8_by_8 rfl ?_
    refine cf_X8_12 C pl_0 dX8_by_9 ?_
    refine cf_X8_71 C pl_1 dX8_by_12 ?_
    refine g_iload_n C dX8_by_15 rfl ?_
    refine g_callVi C (nargs := 1) (o := 2) (st := []) (m_X0_has h) pl_2.1 pl_2.2.1 rfl rfl gc_X8_82 (by decide +kernel) ⟨rfl, rfl⟩ dX8_by_16 ⟨by decide, by decide⟩ rfl rfl (Nat.le_of_ble_eq_true rfl) ?_
    intro r16c M16 hN
    replace h := hN
    clear hN
    refine g_if_eq C 32 dX8_by_19 (by decide) (fun hc => ?_) (fun hc => ?_)
    · replace h := h.1 hc
      refine g_locals (lv' := [(0, .ref (ad 0))]) rfl ?_
      exact pB32  _ h
    · replace h := h.2 hc
      refine g_iload_n C dX8_by_22 rfl ?_
      refine g_iconst C dX8_by_23 ?_
      refine g_bipush C dX8_by_24 rfl ?_
      refine g_callSi C (nargs := 3) (st := []) (m_X8_within h) gc_X8_63 (by decide +kernel) ⟨rfl, rfl⟩ dX8_by_26 ⟨by decide, by decide⟩ rfl rfl (Nat.le_of_ble_eq_true rfl) ?_
      intro r26c M26 hN
      replace h := hN
      clear hN
      refine g_if_ne C 38 dX8_by_29 (by decide) (fun hc => ?_) (fun hc => ?_)
      · replace h := h.1 hc
        refine g_aload_n C dX8_by_38 rfl ?_
        refine cf_X8_29 C pl_0 dX8_by_39 ?_
        refine g_aload_n C dX8_by_42 rfl ?_
        refine cf_X8_12 C pl_0 dX8_by_43 ?_
        refine g_iload_n C dX8_by_46 rfl ?_
        refine g_callVv C (nargs := 2) (o := 41) (st := []) (m_X2_follow h) pl_41.1 pl_41.2.1 rfl rfl gc_X8_190 (by decide +kernel) ⟨rfl, rfl⟩ dX8_by_47 ⟨by decide, by decide⟩ rfl rfl (Nat.le_of_ble_eq_true rfl) ?_
        intro M47 hN
        replace h := hN
        clear hN
        refine g_aload_n C dX8_by_50 rfl ?_
        refine cf_X8_29 C pl_0 dX8_by_51 ?_
        refine g_iload_n C dX8_by_54 rfl ?_
        refine g_iload_n C dX8_by_55 rfl ?_
        refine g_callVi C (nargs := 2) (o := 41) (st := []) (m_X2_numberBehind h) pl_41.1 pl_41.2.1 rfl rfl gc_X8_194 (by decide +kernel) ⟨rfl, rfl⟩ dX8_by_56 ⟨by decide, by decide⟩ rfl rfl (Nat.le_of_ble_eq_true rfl) ?_
        intro r56c M56 hN
        replace h := hN
        clear hN
        exact hR _ _ _ _ dX8_by_59 rfl h
      · replace h := h.2 hc
        refine g_locals (lv' := [(0, .ref (ad 0))]) rfl ?_
        exact pB32  _ h
def wB_X8_fits_57 (a1 : Int) (k : Int → gSt → Prop)  (v2 : Int) (M : gSt) : Prop :=

  (wrap a1 = 0 →
    w_X2_size 41 M (fun r92c M92 => k r92c M92)) ∧
  (wrap a1 = 1 →
    w_X2_fitting 41 0 M (fun r101c M101 => k r101c M101)) ∧
  (wrap a1 = 2 →
    w_X2_inAll 41 v2 M (fun r110c M110 => k r110c M110)) ∧
  (wrap a1 = 3 →
    w_X2_inAny 41 M (fun r118c M118 => k r118c M118)) ∧
  (¬ wrap a1 = 0 ∧ ¬ wrap a1 = 1 ∧ ¬ wrap a1 = 2 ∧ ¬ wrap a1 = 3 →
    w_X4_size 8 M (fun r129c M129 => w_X2_mostPapers 41 M129 (fun r136c M136 => k (r129c - r136c) M136)))
def wB_X8_fits_51 (a1 : Int) (k : Int → gSt → Prop)   (M : gSt) : Prop :=
w_X8_refuse 2 M (fun r53c M53 => k r53c M53)
def w_X8_fits (a1 : Int) (M : gSt) (k : Int → gSt → Prop) : Prop :=
  w_X8_within a1 0 4 M (fun r3c M3 => 
  (¬ wrap r3c = 0 →
    w_X2_find 41 1 M3 (fun M23 => w_X8_allPapers  M23 (fun r27c M27 => w_X2_size 41 M27 (fun r35c M35 => 
    (¬ wrap r35c = 0 →
      wB_X8_fits_57 a1 k  r27c M35) ∧
    (wrap r35c = 0 →

      (wrap a1 = 1 →
        wB_X8_fits_51 a1 k   M35) ∧
      (¬ wrap a1 = 1 →

        (¬ wrap a1 = 4 →
          wB_X8_fits_57 a1 k  r27c M35) ∧
        (wrap a1 = 4 →
          wB_X8_fits_51 a1 k   M35))))))) ∧
  (wrap r3c = 0 →
    w_X8_refuse 1 M3 (fun r11c M11 => k r11c M11)))
set_option maxHeartbeats 4000000 in
set_option maxRecDepth 100000 in
theorem m_X8_fits {l : Launch} {D : va_G} {tys : List (ClassId × FieldType)} {ad : Nat → Nat} {cI cS : ClassId} {a1 : Int} {M : gSt} {k : Int → gSt → Prop} (h : w_X8_fits a1 M k) : MOi l yX8_fits cX8_fits 3 .int (rmR 7 169) D clC ((cI, .int) :: (cS, .object "OldBronze$Sheet") :: tys) (wC ad cI cS) tC zC [.ref (ad 0), iv a1] M k := by
  refine moi_intro (by decide +kernel) (Nat.le_of_ble_eq_true rfl) wc_537 ?_
  intro p e s m args below meth c A Q C hR
  unfold w_X8_fits at h
  have pB57 : ∀   (v2 : Int) (M : gSt), wB_X8_fits_57 a1 k  v2 M → gG p l e (rmR 7 169) s m args below meth c Q D clC A (wC ad cI cS) 3 57 [(0, .ref (ad 0)), (1, iv a1), (2, iv v2)] [] M := by
    intro   v2 M h
    unfold wB_X8_fits_57 at h
    refine g_iload_n C dX8_fits_57 rfl ?_
    by_cases hc0 : wrap a1 = 0
    · refine g_tableIn C 88 dX8_fits_58 (by omega) (by omega) (by rw [hc0] <;> rfl) (by decide) ?_
      replace h := h.1 hc0
      refine g_aload_n C dX8_fits_88 rfl ?_
      refine cf_X8_29 C pl_0 dX8_fits_89 ?_
      refine g_callVi C (nargs := 0) (o := 41) (st := []) (m_X2_size h) pl_41.1 pl_41.2.1 rfl rfl gc_X8_204 (by decide +kernel) ⟨rfl, rfl⟩ dX8_fits_92 ⟨by decide, by decide⟩ rfl rfl (Nat.le_of_ble_eq_true rfl) ?_
      intro r92c M92 hN
      replace h := hN
      clear hN
      exact hR _ _ _ _ dX8_fits_95 rfl h
    · by_cases hc1 : wrap a1 = 1
      · refine g_tableIn C 96 dX8_fits_58 (by omega) (by omega) (by rw [hc1] <;> rfl) (by decide) ?_
        replace h := h.2.1 hc1
        refine g_aload_n C dX8_fits_96 rfl ?_
        refine cf_X8_29 C pl_0 dX8_fits_97 ?_
        refine g_iconst C dX8_fits_100 ?_
        refine g_callVi C (nargs := 1) (o := 41) (st := []) (m_X2_fitting h) pl_41.1 pl_41.2.1 rfl rfl gc_X8_205 (by decide +kernel) ⟨rfl, rfl⟩ dX8_fits_101 ⟨by decide, by decide⟩ rfl rfl (Nat.le_of_ble_eq_true rfl) ?_
        intro r101c M101 hN
        replace h := hN
        clear hN
        exact hR _ _ _ _ dX8_fits_104 rfl h
      · by_cases hc2 : wrap a1 = 2
        · refine g_tableIn C 105 dX8_fits_58 (by omega) (by omega) (by rw [hc2] <;> rfl) (by decide) ?_
          replace h := h.2.2.1 hc2
          refine g_aload_n C dX8_fits_105 rfl ?_
          refine cf_X8_29 C pl_0 dX8_fits_106 ?_
          refine g_iload_n C dX8_fits_109 rfl ?_
          refine g_callVi C (nargs := 1) (o := 41) (st := []) (m_X2_inAll h) pl_41.1 pl_41.2.1 rfl rfl gc_X8_208 (by decide +kernel) ⟨rfl, rfl⟩ dX8_fits_110 ⟨by decide, by decide⟩ rfl rfl (Nat.le_of_ble_eq_true rfl) ?_
          intro r110c M110 hN
          replace h := hN
          clear hN
          exact hR _ _ _ _ dX8_fits_113 rfl h
        · by_cases hc3 : wrap a1 = 3
          · refine g_tableIn C 114 dX8_fits_58 (by omega) (by omega) (by rw [hc3] <;> rfl) (by decide) ?_
            replace h := h.2.2.2.1 hc3
            refine g_aload_n C dX8_fits_114 rfl ?_
            refine cf_X8_29 C pl_0 dX8_fits_115 ?_
            refine g_callVi C (nargs := 0) (o := 41) (st := []) (m_X2_inAny h) pl_41.1 pl_41.2.1 rfl rfl gc_X8_211 (by decide +kernel) ⟨rfl, rfl⟩ dX8_fits_118 ⟨by decide, by decide⟩ rfl rfl (Nat.le_of_ble_eq_true rfl) ?_
            intro r118c M118 hN
            replace h := hN
            clear hN
            exact hR _ _ _ _ dX8_fits_121 rfl h
          · refine g_tableOut C 122 dX8_fits_58 (by omega) (by decide) ?_
            replace h := h.2.2.2.2 ⟨hc0, hc1, hc2, hc3⟩
            refine g_aload_n C dX8_fits_122 rfl ?_
            refine cf_X8_12 C pl_0 dX8_fits_123 ?_
            refine cf_X8_181 C pl_1 dX8_fits_126 ?_
            refine g_callVi C (nargs := 0) (o := 8) (st := []) (m_X4_size h) pl_8.1 pl_8.2.1 rfl rfl gc_X8_143 (by decide +kernel) ⟨rfl, rfl⟩ dX8_fits_129 ⟨by decide, by decide⟩ rfl rfl (Nat.le_of_ble_eq_true rfl) ?_
            intro r129c M129 hN
            replace h := hN
            clear hN
            refine g_aload_n C dX8_fits_132 rfl ?_
            refine cf_X8_29 C pl_0 dX8_fits_133 ?_
            refine g_callVi C (nargs := 0) (o := 41) (st := [iv r129c]) (m_X2_mostPapers h) pl_41.1 pl_41.2.1 rfl rfl gc_X8_214 (by decide +kernel) ⟨rfl, rfl⟩ dX8_fits_136 ⟨by decide, by decide⟩ rfl rfl (Nat.le_of_ble_eq_true rfl) ?_
            intro r136c M136 hN
            replace h := hN
            clear hN
            refine g_isub C dX8_fits_139 ?_
            exact hR _ _ _ _ dX8_fits_140 rfl h
  have pB51 : ∀    (M : gSt), wB_X8_fits_51 a1 k   M → gG p l e (rmR 7 169) s m args below meth c Q D clC A (wC ad cI cS) 3 51 [(0, .ref (ad 0))] [] M := by
    intro    M h
    unfold wB_X8_fits_51 at h
    refine g_aload_n C dX8_fits_51 rfl ?_
    refine g_iconst C dX8_fits_52 ?_
    refine g_callVi C (nargs := 1) (o := 0) (st := []) (m_X8_refuse h) pl_0.1 pl_0.2.1 rfl rfl gc_X8_67 (by decide +kernel) ⟨rfl, rfl⟩ dX8_fits_53 ⟨by decide, by decide⟩ rfl rfl (Nat.le_of_ble_eq_true rfl) ?_
    intro r53c M53 hN
    replace h := hN
    clear hN
    exact hR _ _ _ _ dX8_fits_56 rfl h
  refine g_locals (lv' := [(0, .ref (ad 0)), (1, iv a1)]) rfl ?_
  refine g_iload_n C dX8_fits_0 rfl ?_
  refine g_iconst C dX8_fits_1 ?_
  refine g_iconst C dX8_fits_2 ?_
  refine g_callSi C (nargs := 3) (st := []) (m_X8_within h) gc_X8_63 (by decide +kernel) ⟨rfl, rfl⟩ dX8_fits_3 ⟨by decide, by decide⟩ rfl rfl (Nat.le_of_ble_eq_true rfl) ?_
  intro r3c M3 hN
  replace h := hN
  clear hN
  refine g_if_ne C 15 dX8_fits_6 (by decide) (fun hc => ?_) (fun hc => ?_)
  · replace h := h.1 hc
    refine g_aload_n C dX8_fits_15 rfl ?_
    refine cf_X8_29 C pl_0 dX8_fits_16 ?_
    refine g_aload_n C dX8_fits_19 rfl ?_
    refine cf_X8_12 C pl_0 dX8_fits_20 ?_
    refine g_callVv C (nargs := 1) (o := 41) (st := []) (m_X2_find h) pl_41.1 pl_41.2.1 rfl rfl gc_X8_197 (by decide +kernel) ⟨rfl, rfl⟩ dX8_fits_23 ⟨by decide, by decide⟩ rfl rfl (Nat.le_of_ble_eq_true rfl) ?_
    intro M23 hN
    replace h := hN
    clear hN
    refine g_aload_n C dX8_fits_26 rfl ?_
    refine g_callVi C (nargs := 0) (o := 0) (st := []) (m_X8_allPapers h) pl_0.1 pl_0.2.1 rfl rfl gc_X8_201 (by decide +kernel) ⟨rfl, rfl⟩ dX8_fits_27 ⟨by decide, by decide⟩ rfl rfl (Nat.le_of_ble_eq_true rfl) ?_
    intro r27c M27 hN
    replace h := hN
    clear hN
    refine g_istore_n C dX8_fits_30 (by decide) rfl ?_
    refine g_locals (lv' := [(0, .ref (ad 0)), (1, iv a1), (2, iv r27c)]) rfl ?_
    refine g_aload_n C dX8_fits_31 rfl ?_
    refine cf_X8_29 C pl_0 dX8_fits_32 ?_
    refine g_callVi C (nargs := 0) (o := 41) (st := []) (m_X2_size h) pl_41.1 pl_41.2.1 rfl rfl gc_X8_204 (by decide +kernel) ⟨rfl, rfl⟩ dX8_fits_35 ⟨by decide, by decide⟩ rfl rfl (Nat.le_of_ble_eq_true rfl) ?_
    intro r35c M35 hN
    replace h := hN
    clear hN
    refine g_if_ne C 57 dX8_fits_38 (by decide) (fun hc => ?_) (fun hc => ?_)
    · replace h := h.1 hc
      refine g_locals (lv' := [(0, .ref (ad 0)), (1, iv a1), (2, iv r27c)]) rfl ?_
      exact pB57 _ _ h
    · replace h := h.2 hc
      refine g_iload_n C dX8_fits_41 rfl ?_
      refine g_iconst C dX8_fits_42 ?_
      refine g_icmp_eq C 51 dX8_fits_43 (by decide) (fun hc => ?_) (fun hc => ?_)
      · replace h := h.1 hc
        refine g_locals (lv' := [(0, .ref (ad 0))]) rfl ?_
        exact pB51  _ h
      · replace h := h.2 hc
        refine g_iload_n C dX8_fits_46 rfl ?_
        refine g_iconst C dX8_fits_47 ?_
        refine g_icmp_ne C 57 dX8_fits_48 (by decide) (fun hc => ?_) (fun hc => ?_)
        · replace h := h.1 hc
          refine g_locals (lv' := [(0, .ref (ad 0)), (1, iv a1), (2, iv r27c)]) rfl ?_
          exact pB57 _ _ h
        · replace h := h.2 hc
          refine g_locals (lv' := [(0, .ref (ad 0))]) rfl ?_
          exact pB51  _ h
  · replace h := h.2 hc
    refine g_aload_n C dX8_fits_9 rfl ?_
    refine g_iconst C dX8_fits_10 ?_
    refine g_callVi C (nargs := 1) (o := 0) (st := []) (m_X8_refuse h) pl_0.1 pl_0.2.1 rfl rfl gc_X8_67 (by decide +kernel) ⟨rfl, rfl⟩ dX8_fits_11 ⟨by decide, by decide⟩ rfl rfl (Nat.le_of_ble_eq_true rfl) ?_
    intro r11c M11 hN
    replace h := hN
    clear hN
    exact hR _ _ _ _ dX8_fits_14 rfl h
def wB_X8_span_32 (a1 : Int) (a2 : Int) (a3 : Int) (k : Int → gSt → Prop)   (M : gSt) : Prop :=
w_X8_refuse 1 M (fun r34c M34 => k r34c M34)
def wB_X8_span_88 (a1 : Int) (a2 : Int) (a3 : Int) (k : Int → gSt → Prop)  (s0 : Int) (s1 : Int) (s2 : Int) (M : gSt) : Prop :=
w_X2_outermost 41 1 s2 s1 s0 M (fun r88c M88 => k r88c M88)
def w_X8_span (a1 : Int) (a2 : Int) (a3 : Int) (M : gSt) (k : Int → gSt → Prop) : Prop :=
  w_X0_has 2 a1 M (fun r8c M8 => 
  (wrap r8c = 0 →
    wB_X8_span_32 a1 a2 a3 k   M8) ∧
  (¬ wrap r8c = 0 →
    w_X8_within a2 0 3 M8 (fun r17c M17 => 
    (wrap r17c = 0 →
      wB_X8_span_32 a1 a2 a3 k   M17) ∧
    (¬ wrap r17c = 0 →
      w_X8_within a3 0 1 M17 (fun r26c M26 => 
      (¬ wrap r26c = 0 →
        w_X2_find 41 1 M26 (fun M46 => w_X2_size 41 M46 (fun r53c M53 => 
        (¬ wrap r53c = 0 →

          (¬ wrap a3 = 1 →
            wB_X8_span_88 a1 a2 a3 k  0 (6 + a2) a1 M53) ∧
          (wrap a3 = 1 →
            wB_X8_span_88 a1 a2 a3 k  1 (6 + a2) a1 M53)) ∧
        (wrap r53c = 0 →
          w_X8_refuse 2 M53 (fun r61c M61 => k r61c M61))))) ∧
      (wrap r26c = 0 →
        wB_X8_span_32 a1 a2 a3 k   M26))))))
set_option maxHeartbeats 4000000 in
set_option maxRecDepth 100000 in
theorem m_X8_span {l : Launch} {D : va_G} {tys : List (ClassId × FieldType)} {ad : Nat → Nat} {cI cS : ClassId} {a1 : Int} {a2 : Int} {a3 : Int} {M : gSt} {k : Int → gSt → Prop} (h : w_X8_span a1 a2 a3 M k) : MOi l yX8_span cX8_span 4 .int (rmR 7 174) D clC ((cI, .int) :: (cS, .object "OldBronze$Sheet") :: tys) (wC ad cI cS) tC zC [.ref (ad 0), iv a1, iv a2, iv a3] M k := by
  refine moi_intro (by decide +kernel) (Nat.le_of_ble_eq_true rfl) wc_541 ?_
  intro p e s m args below meth c A Q C hR
  unfold w_X8_span at h
  have pB32 : ∀    (M : gSt), wB_X8_span_32 a1 a2 a3 k   M → gG p l e (rmR 7 174) s m args below meth c Q D clC A (wC ad cI cS) 4 32 [(0, .ref (ad 0))] [] M := by
    intro    M h
    unfold wB_X8_span_32 at h
    refine g_aload_n C dX8_span_32 rfl ?_
    refine g_iconst C dX8_span_33 ?_
    refine g_callVi C (nargs := 1) (o := 0) (st := []) (m_X8_refuse h) pl_0.1 pl_0.2.1 rfl rfl gc_X8_67 (by decide +kernel) ⟨rfl, rfl⟩ dX8_span_34 ⟨by decide, by decide⟩ rfl rfl (Nat.le_of_ble_eq_true rfl) ?_
    intro r34c M34 hN
    replace h := hN
    clear hN
    exact hR _ _ _ _ dX8_span_37 rfl h
  have pB88 : ∀   (s0 : Int) (s1 : Int) (s2 : Int) (M : gSt), wB_X8_span_88 a1 a2 a3 k  s0 s1 s2 M → gG p l e (rmR 7 174) s m args below meth c Q D clC A (wC ad cI cS) 4 88 [] [iv s0, iv s1, iv s2, .ref (ad 1), .ref (ad 41)] M := by
    intro   s0 s1 s2 M h
    unfold wB_X8_span_88 at h
    refine g_callVi C (nargs := 4) (o := 41) (st := []) (m_X2_outermost h) pl_41.1 pl_41.2.1 rfl rfl gc_X8_217 (by decide +kernel) ⟨rfl, rfl⟩ dX8_span_88 ⟨by decide, by decide⟩ rfl rfl (Nat.le_of_ble_eq_true rfl) ?_
    intro r88c M88 hN
    replace h := hN
    clear hN
    exact hR _ _ _ _ dX8_span_91 rfl h
  refine g_locals (lv' := [(0, .ref (ad 0)), (1, iv a1), (2, iv a2), (3, iv a3)]) rfl ?_
  refine g_aload_n C dX8_span_0 rfl ?_
  refine cf_X8_12 C pl_0 dX8_span_1 ?_
  refine cf_X8_71 C pl_1 dX8_span_4 ?_
  refine g_iload_n C dX8_span_7 rfl ?_
  refine g_callVi C (nargs := 1) (o := 2) (st := []) (m_X0_has h) pl_2.1 pl_2.2.1 rfl rfl gc_X8_82 (by decide +kernel) ⟨rfl, rfl⟩ dX8_span_8 ⟨by decide, by decide⟩ rfl rfl (Nat.le_of_ble_eq_true rfl) ?_
  intro r8c M8 hN
  replace h := hN
  clear hN
  refine g_if_eq C 32 dX8_span_11 (by decide) (fun hc => ?_) (fun hc => ?_)
  · replace h := h.1 hc
    refine g_locals (lv' := [(0, .ref (ad 0))]) rfl ?_
    exact pB32  _ h
  · replace h := h.2 hc
    refine g_iload_n C dX8_span_14 rfl ?_
    refine g_iconst C dX8_span_15 ?_
    refine g_iconst C dX8_span_16 ?_
    refine g_callSi C (nargs := 3) (st := []) (m_X8_within h) gc_X8_63 (by decide +kernel) ⟨rfl, rfl⟩ dX8_span_17 ⟨by decide, by decide⟩ rfl rfl (Nat.le_of_ble_eq_true rfl) ?_
    intro r17c M17 hN
    replace h := hN
    clear hN
    refine g_if_eq C 32 dX8_span_20 (by decide) (fun hc => ?_) (fun hc => ?_)
    · replace h := h.1 hc
      refine g_locals (lv' := [(0, .ref (ad 0))]) rfl ?_
      exact pB32  _ h
    · replace h := h.2 hc
      refine g_iload_n C dX8_span_23 rfl ?_
      refine g_iconst C dX8_span_24 ?_
      refine g_iconst C dX8_span_25 ?_
      refine g_callSi C (nargs := 3) (st := []) (m_X8_within h) gc_X8_63 (by decide +kernel) ⟨rfl, rfl⟩ dX8_span_26 ⟨by decide, by decide⟩ rfl rfl (Nat.le_of_ble_eq_true rfl) ?_
      intro r26c M26 hN
      replace h := hN
      clear hN
      refine g_if_ne C 38 dX8_span_29 (by decide) (fun hc => ?_) (fun hc => ?_)
      · replace h := h.1 hc
        refine g_aload_n C dX8_span_38 rfl ?_
        refine cf_X8_29 C pl_0 dX8_span_39 ?_
        refine g_aload_n C dX8_span_42 rfl ?_
        refine cf_X8_12 C pl_0 dX8_span_43 ?_
        refine g_callVv C (nargs := 1) (o := 41) (st := []) (m_X2_find h) pl_41.1 pl_41.2.1 rfl rfl gc_X8_197 (by decide +kernel) ⟨rfl, rfl⟩ dX8_span_46 ⟨by decide, by decide⟩ rfl rfl (Nat.le_of_ble_eq_true rfl) ?_
        intro M46 hN
        replace h := hN
        clear hN
        refine g_aload_n C dX8_span_49 rfl ?_
        refine cf_X8_29 C pl_0 dX8_span_50 ?_
        refine g_callVi C (nargs := 0) (o := 41) (st := []) (m_X2_size h) pl_41.1 pl_41.2.1 rfl rfl gc_X8_204 (by decide +kernel) ⟨rfl, rfl⟩ dX8_span_53 ⟨by decide, by decide⟩ rfl rfl (Nat.le_of_ble_eq_true rfl) ?_
        intro r53c M53 hN
        replace h := hN
        clear hN
        refine g_if_ne C 65 dX8_span_56 (by decide) (fun hc => ?_) (fun hc => ?_)
        · replace h := h.1 hc
          refine g_aload_n C dX8_span_65 rfl ?_
          refine cf_X8_29 C pl_0 dX8_span_66 ?_
          refine g_aload_n C dX8_span_69 rfl ?_
          refine cf_X8_12 C pl_0 dX8_span_70 ?_
          refine g_iload_n C dX8_span_73 rfl ?_
          refine g_bipush C dX8_span_74 rfl ?_
          refine g_iload_n C dX8_span_76 rfl ?_
          refine g_iadd C dX8_span_77 ?_
          refine g_iload_n C dX8_span_78 rfl ?_
          refine g_iconst C dX8_span_79 ?_
          refine g_icmp_ne C 87 dX8_span_80 (by decide) (fun hc => ?_) (fun hc => ?_)
          · replace h := h.1 hc
            refine g_iconst C dX8_span_87 ?_
            refine g_locals (lv' := []) rfl ?_
            exact pB88 _ _ _ _ h
          · replace h := h.2 hc
            refine g_iconst C dX8_span_83 ?_
            refine g_goto C 88 dX8_span_84 (by decide) ?_
            refine g_locals (lv' := []) rfl ?_
            exact pB88 _ _ _ _ h
        · replace h := h.2 hc
          refine g_aload_n C dX8_span_59 rfl ?_
          refine g_iconst C dX8_span_60 ?_
          refine g_callVi C (nargs := 1) (o := 0) (st := []) (m_X8_refuse h) pl_0.1 pl_0.2.1 rfl rfl gc_X8_67 (by decide +kernel) ⟨rfl, rfl⟩ dX8_span_61 ⟨by decide, by decide⟩ rfl rfl (Nat.le_of_ble_eq_true rfl) ?_
          intro r61c M61 hN
          replace h := hN
          clear hN
          exact hR _ _ _ _ dX8_span_64 rfl h
      · replace h := h.2 hc
        refine g_locals (lv' := [(0, .ref (ad 0))]) rfl ?_
        exact pB32  _ h
def wB_X8_next_34  (k : Int → gSt → Prop)   (M : gSt) : Prop :=
w_X8_refuse 2 M (fun r36c M36 => k r36c M36)
def w_X8_next  (M : gSt) (k : Int → gSt → Prop) : Prop :=
  w_X2_find 41 1 M (fun M8 => w_X2_size 41 M8 (fun r15c M15 => 
  (wrap r15c = 0 →
    wB_X8_next_34  k   M15) ∧
  (¬ wrap r15c = 0 →
    w_X0_size 2 M15 (fun r28c M28 => 
    (¬ wrap r28c = 0 →
      w_X0_size 2 M28 (fun r51c M51 => w_X2_bestParted 41 r51c M51 (fun r54c M54 => k r54c M54))) ∧
    (wrap r28c = 0 →
      wB_X8_next_34  k   M28)))))
set_option maxHeartbeats 4000000 in
set_option maxRecDepth 100000 in
theorem m_X8_next {l : Launch} {D : va_G} {tys : List (ClassId × FieldType)} {ad : Nat → Nat} {cI cS : ClassId}  {M : gSt} {k : Int → gSt → Prop} (h : w_X8_next  M k) : MOi l yX8_next cX8_next 1 .int (rmR 7 169) D clC ((cI, .int) :: (cS, .object "OldBronze$Sheet") :: tys) (wC ad cI cS) tC zC [.ref (ad 0)] M k := by
  refine moi_intro (by decide +kernel) (Nat.le_of_ble_eq_true rfl) wc_548 ?_
  intro p e s m args below meth c A Q C hR
  unfold w_X8_next at h
  have pB34 : ∀    (M : gSt), wB_X8_next_34  k   M → gG p l e (rmR 7 169) s m args below meth c Q D clC A (wC ad cI cS) 1 34 [(0, .ref (ad 0))] [] M := by
    intro    M h
    unfold wB_X8_next_34 at h
    refine g_aload_n C dX8_next_34 rfl ?_
    refine g_iconst C dX8_next_35 ?_
    refine g_callVi C (nargs := 1) (o := 0) (st := []) (m_X8_refuse h) pl_0.1 pl_0.2.1 rfl rfl gc_X8_67 (by decide +kernel) ⟨rfl, rfl⟩ dX8_next_36 ⟨by decide, by decide⟩ rfl rfl (Nat.le_of_ble_eq_true rfl) ?_
    intro r36c M36 hN
    replace h := hN
    clear hN
    exact hR _ _ _ _ dX8_next_39 rfl h
  refine g_locals (lv' := [(0, .ref (ad 0))]) rfl ?_
  refine g_aload_n C dX8_next_0 rfl ?_
  refine cf_X8_29 C pl_0 dX8_next_1 ?_
  refine g_aload_n C dX8_next_4 rfl ?_
  refine cf_X8_12 C pl_0 dX8_next_5 ?_
  refine g_callVv C (nargs := 1) (o := 41) (st := []) (m_X2_find h) pl_41.1 pl_41.2.1 rfl rfl gc_X8_197 (by decide +kernel) ⟨rfl, rfl⟩ dX8_next_8 ⟨by decide, by decide⟩ rfl rfl (Nat.le_of_ble_eq_true rfl) ?_
  intro M8 hN
  replace h := hN
  clear hN
  refine g_aload_n C dX8_next_11 rfl ?_
  refine cf_X8_29 C pl_0 dX8_next_12 ?_
  refine g_callVi C (nargs := 0) (o := 41) (st := []) (m_X2_size h) pl_41.1 pl_41.2.1 rfl rfl gc_X8_204 (by decide +kernel) ⟨rfl, rfl⟩ dX8_next_15 ⟨by decide, by decide⟩ rfl rfl (Nat.le_of_ble_eq_true rfl) ?_
  intro r15c M15 hN
  replace h := hN
  clear hN
  refine g_if_eq C 34 dX8_next_18 (by decide) (fun hc => ?_) (fun hc => ?_)
  · replace h := h.1 hc
    refine g_locals (lv' := [(0, .ref (ad 0))]) rfl ?_
    exact pB34  _ h
  · replace h := h.2 hc
    refine g_aload_n C dX8_next_21 rfl ?_
    refine cf_X8_12 C pl_0 dX8_next_22 ?_
    refine cf_X8_71 C pl_1 dX8_next_25 ?_
    refine g_callVi C (nargs := 0) (o := 2) (st := []) (m_X0_size h) pl_2.1 pl_2.2.1 rfl rfl gc_X8_221 (by decide +kernel) ⟨rfl, rfl⟩ dX8_next_28 ⟨by decide, by decide⟩ rfl rfl (Nat.le_of_ble_eq_true rfl) ?_
    intro r28c M28 hN
    replace h := hN
    clear hN
    refine g_if_ne C 40 dX8_next_31 (by decide) (fun hc => ?_) (fun hc => ?_)
    · replace h := h.1 hc
      refine g_aload_n C dX8_next_40 rfl ?_
      refine cf_X8_29 C pl_0 dX8_next_41 ?_
      refine g_aload_n C dX8_next_44 rfl ?_
      refine cf_X8_12 C pl_0 dX8_next_45 ?_
      refine cf_X8_71 C pl_1 dX8_next_48 ?_
      refine g_callVi C (nargs := 0) (o := 2) (st := [.ref (ad 41)]) (m_X0_size h) pl_2.1 pl_2.2.1 rfl rfl gc_X8_221 (by decide +kernel) ⟨rfl, rfl⟩ dX8_next_51 ⟨by decide, by decide⟩ rfl rfl (Nat.le_of_ble_eq_true rfl) ?_
      intro r51c M51 hN
      replace h := hN
      clear hN
      refine g_callVi C (nargs := 1) (o := 41) (st := []) (m_X2_bestParted h) pl_41.1 pl_41.2.1 rfl rfl gc_X8_222 (by decide +kernel) ⟨rfl, rfl⟩ dX8_next_54 ⟨by decide, by decide⟩ rfl rfl (Nat.le_of_ble_eq_true rfl) ?_
      intro r54c M54 hN
      replace h := hN
      clear hN
      exact hR _ _ _ _ dX8_next_57 rfl h
    · replace h := h.2 hc
      refine g_locals (lv' := [(0, .ref (ad 0))]) rfl ?_
      exact pB34  _ h
def wB_X8_most_27 (a1 : Int) (a2 : Int) (a3 : Int) (k : Int → gSt → Prop)   (M : gSt) : Prop :=
w_X8_refuse 1 M (fun r29c M29 => k r29c M29)
def w_X8_most (a1 : Int) (a2 : Int) (a3 : Int) (M : gSt) (k : Int → gSt → Prop) : Prop :=
  w_X8_within a1 0 3 M (fun r3c M3 => 
  (wrap r3c = 0 →
    wB_X8_most_27 a1 a2 a3 k   M3) ∧
  (¬ wrap r3c = 0 →
    w_X8_within a2 0 3 M3 (fun r12c M12 => 
    (wrap r12c = 0 →
      wB_X8_most_27 a1 a2 a3 k   M12) ∧
    (¬ wrap r12c = 0 →
      w_X8_within a3 0 1 M12 (fun r21c M21 => 
      (¬ wrap r21c = 0 →
        w_X0_mostOf 2 (6 + a1) a2 M21 (fun r45c M45 => 
        (¬ wrap a3 = 0 →
          w_X0_together 2 r45c (6 + a1) M45 (fun r73c M73 => k (xmax 0 r73c) M73)) ∧
        (wrap a3 = 0 →
          k r45c M45))) ∧
      (wrap r21c = 0 →
        wB_X8_most_27 a1 a2 a3 k   M21))))))
set_option maxHeartbeats 4000000 in
set_option maxRecDepth 100000 in
theorem m_X8_most {l : Launch} {D : va_G} {tys : List (ClassId × FieldType)} {ad : Nat → Nat} {cI cS : ClassId} {a1 : Int} {a2 : Int} {a3 : Int} {M : gSt} {k : Int → gSt → Prop} (h : w_X8_most a1 a2 a3 M k) : MOi l yX8_most cX8_most 5 .int (rmR 4 100) D clC ((cI, .int) :: (cS, .object "OldBronze$Sheet") :: tys) (wC ad cI cS) tC zC [.ref (ad 0), iv a1, iv a2, iv a3] M k := by
  refine moi_intro (by decide +kernel) (Nat.le_of_ble_eq_true rfl) wc_554 ?_
  intro p e s m args below meth c A Q C hR
  unfold w_X8_most at h
  have pB27 : ∀    (M : gSt), wB_X8_most_27 a1 a2 a3 k   M → gG p l e (rmR 4 100) s m args below meth c Q D clC A (wC ad cI cS) 5 27 [(0, .ref (ad 0))] [] M := by
    intro    M h
    unfold wB_X8_most_27 at h
    refine g_aload_n C dX8_most_27 rfl ?_
    refine g_iconst C dX8_most_28 ?_
    refine g_callVi C (nargs := 1) (o := 0) (st := []) (m_X8_refuse h) pl_0.1 pl_0.2.1 rfl rfl gc_X8_67 (by decide +kernel) ⟨rfl, rfl⟩ dX8_most_29 ⟨by decide, by decide⟩ rfl rfl (Nat.le_of_ble_eq_true rfl) ?_
    intro r29c M29 hN
    replace h := hN
    clear hN
    exact hR _ _ _ _ dX8_most_32 rfl h
  refine g_locals (lv' := [(0, .ref (ad 0)), (1, iv a1), (2, iv a2), (3, iv a3)]) rfl ?_
  refine g_iload_n C dX8_most_0 rfl ?_
  refine g_iconst C dX8_most_1 ?_
  refine g_iconst C dX8_most_2 ?_
  refine g_callSi C (nargs := 3) (st := []) (m_X8_within h) gc_X8_63 (by decide +kernel) ⟨rfl, rfl⟩ dX8_most_3 ⟨by decide, by decide⟩ rfl rfl (Nat.le_of_ble_eq_true rfl) ?_
  intro r3c M3 hN
  replace h := hN
  clear hN
  refine g_if_eq C 27 dX8_most_6 (by decide) (fun hc => ?_) (fun hc => ?_)
  · replace h := h.1 hc
    refine g_locals (lv' := [(0, .ref (ad 0))]) rfl ?_
    exact pB27  _ h
  · replace h := h.2 hc
    refine g_iload_n C dX8_most_9 rfl ?_
    refine g_iconst C dX8_most_10 ?_
    refine g_iconst C dX8_most_11 ?_
    refine g_callSi C (nargs := 3) (st := []) (m_X8_within h) gc_X8_63 (by decide +kernel) ⟨rfl, rfl⟩ dX8_most_12 ⟨by decide, by decide⟩ rfl rfl (Nat.le_of_ble_eq_true rfl) ?_
    intro r12c M12 hN
    replace h := hN
    clear hN
    refine g_if_eq C 27 dX8_most_15 (by decide) (fun hc => ?_) (fun hc => ?_)
    · replace h := h.1 hc
      refine g_locals (lv' := [(0, .ref (ad 0))]) rfl ?_
      exact pB27  _ h
    · replace h := h.2 hc
      refine g_iload_n C dX8_most_18 rfl ?_
      refine g_iconst C dX8_most_19 ?_
      refine g_iconst C dX8_most_20 ?_
      refine g_callSi C (nargs := 3) (st := []) (m_X8_within h) gc_X8_63 (by decide +kernel) ⟨rfl, rfl⟩ dX8_most_21 ⟨by decide, by decide⟩ rfl rfl (Nat.le_of_ble_eq_true rfl) ?_
      intro r21c M21 hN
      replace h := hN
      clear hN
      refine g_if_ne C 33 dX8_most_24 (by decide) (fun hc => ?_) (fun hc => ?_)
      · replace h := h.1 hc
        refine g_aload_n C dX8_most_33 rfl ?_
        refine cf_X8_12 C pl_0 dX8_most_34 ?_
        refine cf_X8_71 C pl_1 dX8_most_37 ?_
        refine g_bipush C dX8_most_40 rfl ?_
        refine g_iload_n C dX8_most_42 rfl ?_
        refine g_iadd C dX8_most_43 ?_
        refine g_iload_n C dX8_most_44 rfl ?_
        refine g_callVi C (nargs := 2) (o := 2) (st := []) (m_X0_mostOf h) pl_2.1 pl_2.2.1 rfl rfl gc_X8_225 (by decide +kernel) ⟨rfl, rfl⟩ dX8_most_45 ⟨by decide, by decide⟩ rfl rfl (Nat.le_of_ble_eq_true rfl) ?_
        intro r45c M45 hN
        replace h := hN
        clear hN
        refine g_istore C dX8_most_48 (by decide) rfl ?_
        refine g_locals (lv' := [(0, .ref (ad 0)), (1, iv a1), (2, iv a2), (3, iv a3), (4, iv r45c)]) rfl ?_
        refine g_iload_n C dX8_most_50 rfl ?_
        refine g_if_ne C 59 dX8_most_51 (by decide) (fun hc => ?_) (fun hc => ?_)
        · replace h := h.1 hc
          refine g_iconst C dX8_most_59 ?_
          refine g_aload_n C dX8_most_60 rfl ?_
          refine cf_X8_12 C pl_0 dX8_most_61 ?_
          refine cf_X8_71 C pl_1 dX8_most_64 ?_
          refine g_iload C dX8_most_67 rfl ?_
          refine g_bipush C dX8_most_69 rfl ?_
          refine g_iload_n C dX8_most_71 rfl ?_
          refine g_iadd C dX8_most_72 ?_
          refine g_callVi C (nargs := 2) (o := 2) (st := [iv 0]) (m_X0_together h) pl_2.1 pl_2.2.1 rfl rfl gc_X8_228 (by decide +kernel) ⟨rfl, rfl⟩ dX8_most_73 ⟨by decide, by decide⟩ rfl rfl (Nat.le_of_ble_eq_true rfl) ?_
          intro r73c M73 hN
          replace h := hN
          clear hN
          refine g_mmax C (st := []) dX8_most_76 wc_549 wc_91 wc_62 wc_92 (by decide) (Nat.le_of_ble_eq_true rfl) ?_
          exact hR _ _ _ _ dX8_most_79 rfl h
        · replace h := h.2 hc
          refine g_iload C dX8_most_54 rfl ?_
          refine g_goto C 79 dX8_most_56 (by decide) ?_
          exact hR _ _ _ _ dX8_most_79 rfl h
      · replace h := h.2 hc
        refine g_locals (lv' := [(0, .ref (ad 0))]) rfl ?_
        exact pB27  _ h
def wB_X8_voice_23 (a1 : Int) (a2 : Int) (a3 : Int) (k : Int → gSt → Prop)   (M : gSt) : Prop :=
w_X8_refuse 1 M (fun r25c M25 => k r25c M25)
def w_X8_voice (a1 : Int) (a2 : Int) (a3 : Int) (M : gSt) (k : Int → gSt → Prop) : Prop :=
  w_X0_has 2 a1 M (fun r8c M8 => 
  (wrap r8c = 0 →
    wB_X8_voice_23 a1 a2 a3 k   M8) ∧
  (¬ wrap r8c = 0 →
    w_X8_within a2 0 3 M8 (fun r17c M17 => 
    (¬ wrap r17c = 0 →
      w_X0_number 2 a1 0 M17 (fun r42c M42 => w_X0_number 2 a1 1 M42 (fun r55c M55 => w_X6_begin 52 r42c a1 r55c M55 (fun M58 => w_X6_own 52 a2 a3 0 M58 (fun r68c M68 => w_X6_isParted 52 M68 (fun r77c M77 => 
      (wrap r77c = 0 →
        k r68c M77) ∧
      (¬ wrap r77c = 0 →
        w_X8_refuse 6 M77 (fun r86c M86 => k r86c M86)))))))) ∧
    (wrap r17c = 0 →
      wB_X8_voice_23 a1 a2 a3 k   M17))))
set_option maxHeartbeats 4000000 in
set_option maxRecDepth 100000 in
theorem m_X8_voice {l : Launch} {D : va_G} {tys : List (ClassId × FieldType)} {ad : Nat → Nat} {cI cS : ClassId} {a1 : Int} {a2 : Int} {a3 : Int} {M : gSt} {k : Int → gSt → Prop} (h : w_X8_voice a1 a2 a3 M k) : MOi l yX8_voice cX8_voice 5 .int (rmR 63 1629) D clC ((cI, .int) :: (cS, .object "OldBronze$Sheet") :: tys) (wC ad cI cS) tC zC [.ref (ad 0), iv a1, iv a2, iv a3] M k := by
  refine moi_intro (by decide +kernel) (Nat.le_of_ble_eq_true rfl) wc_561 ?_
  intro p e s m args below meth c A Q C hR
  unfold w_X8_voice at h
  have pB23 : ∀    (M : gSt), wB_X8_voice_23 a1 a2 a3 k   M → gG p l e (rmR 63 1629) s m args below meth c Q D clC A (wC ad cI cS) 5 23 [(0, .ref (ad 0))] [] M := by
    intro    M h
    unfold wB_X8_voice_23 at h
    refine g_aload_n C dX8_voice_23 rfl ?_
    refine g_iconst C dX8_voice_24 ?_
    refine g_callVi C (nargs := 1) (o := 0) (st := []) (m_X8_refuse h) pl_0.1 pl_0.2.1 rfl rfl gc_X8_67 (by decide +kernel) ⟨rfl, rfl⟩ dX8_voice_25 ⟨by decide, by decide⟩ rfl rfl (Nat.le_of_ble_eq_true rfl) ?_
    intro r25c M25 hN
    replace h := hN
    clear hN
    exact hR _ _ _ _ dX8_voice_28 rfl h
  refine g_locals (lv' := [(0, .ref (ad 0)), (1, iv a1), (2, iv a2), (3, iv a3)]) rfl ?_
  refine g_aload_n C dX8_voice_0 rfl ?_
  refine cf_X8_12 C pl_0 dX8_voice_1 ?_
  refine cf_X8_71 C pl_1 dX8_voice_4 ?_
  refine g_iload_n C dX8_voice_7 rfl ?_
  refine g_callVi C (nargs := 1) (o := 2) (st := []) (m_X0_has h) pl_2.1 pl_2.2.1 rfl rfl gc_X8_82 (by decide +kernel) ⟨rfl, rfl⟩ dX8_voice_8 ⟨by decide, by decide⟩ rfl rfl (Nat.le_of_ble_eq_true rfl) ?_
  intro r8c M8 hN
  replace h := hN
  clear hN
  refine g_if_eq C 23 dX8_voice_11 (by decide) (fun hc => ?_) (fun hc => ?_)
  · replace h := h.1 hc
    refine g_locals (lv' := [(0, .ref (ad 0))]) rfl ?_
    exact pB23  _ h
  · replace h := h.2 hc
    refine g_iload_n C dX8_voice_14 rfl ?_
    refine g_iconst C dX8_voice_15 ?_
    refine g_iconst C dX8_voice_16 ?_
    refine g_callSi C (nargs := 3) (st := []) (m_X8_within h) gc_X8_63 (by decide +kernel) ⟨rfl, rfl⟩ dX8_voice_17 ⟨by decide, by decide⟩ rfl rfl (Nat.le_of_ble_eq_true rfl) ?_
    intro r17c M17 hN
    replace h := hN
    clear hN
    refine g_if_ne C 29 dX8_voice_20 (by decide) (fun hc => ?_) (fun hc => ?_)
    · replace h := h.1 hc
      refine g_aload_n C dX8_voice_29 rfl ?_
      refine cf_X8_43 C pl_0 dX8_voice_30 ?_
      refine g_aload_n C dX8_voice_33 rfl ?_
      refine cf_X8_12 C pl_0 dX8_voice_34 ?_
      refine cf_X8_71 C pl_1 dX8_voice_37 ?_
      refine g_iload_n C dX8_voice_40 rfl ?_
      refine g_iconst C dX8_voice_41 ?_
      refine g_callVi C (nargs := 2) (o := 2) (st := [.ref (ad 52)]) (m_X0_number h) pl_2.1 pl_2.2.1 rfl rfl gc_X8_89 (by decide +kernel) ⟨rfl, rfl⟩ dX8_voice_42 ⟨by decide, by decide⟩ rfl rfl (Nat.le_of_ble_eq_true rfl) ?_
      intro r42c M42 hN
      replace h := hN
      clear hN
      refine g_iload_n C dX8_voice_45 rfl ?_
      refine g_aload_n C dX8_voice_46 rfl ?_
      refine cf_X8_12 C pl_0 dX8_voice_47 ?_
      refine cf_X8_71 C pl_1 dX8_voice_50 ?_
      refine g_iload_n C dX8_voice_53 rfl ?_
      refine g_iconst C dX8_voice_54 ?_
      refine g_callVi C (nargs := 2) (o := 2) (st := [iv a1, iv r42c, .ref (ad 52)]) (m_X0_number h) pl_2.1 pl_2.2.1 rfl rfl gc_X8_89 (by decide +kernel) ⟨rfl, rfl⟩ dX8_voice_55 ⟨by decide, by decide⟩ rfl rfl (Nat.le_of_ble_eq_true rfl) ?_
      intro r55c M55 hN
      replace h := hN
      clear hN
      refine g_callVv C (nargs := 3) (o := 52) (st := []) (m_X6_begin h) pl_52.1 pl_52.2 rfl rfl gc_X8_236 (by decide +kernel) ⟨rfl, rfl⟩ dX8_voice_58 ⟨by decide, by decide⟩ rfl rfl (Nat.le_of_ble_eq_true rfl) ?_
      intro M58 hN
      replace h := hN
      clear hN
      refine g_aload_n C dX8_voice_61 rfl ?_
      refine cf_X8_43 C pl_0 dX8_voice_62 ?_
      refine g_iload_n C dX8_voice_65 rfl ?_
      refine g_iload_n C dX8_voice_66 rfl ?_
      refine g_iconst C dX8_voice_67 ?_
      refine g_callNi C (nargs := 3) (o := 52) (st := []) (m_X6_own h) pl_52.1 pl_52.2 rfl rfl zn_13 (gc_code wc_381) wc_365 wc_376 wc_377 (by decide +kernel) ⟨rfl, rfl⟩ dX8_voice_68 ⟨by decide, by decide⟩ rfl rfl (Nat.le_of_ble_eq_true rfl) ?_
      intro r68c M68 hN
      replace h := hN
      clear hN
      refine g_istore C dX8_voice_71 (by decide) rfl ?_
      refine g_locals (lv' := [(0, .ref (ad 0)), (1, iv a1), (2, iv a2), (3, iv a3), (4, iv r68c)]) rfl ?_
      refine g_aload_n C dX8_voice_73 rfl ?_
      refine cf_X8_43 C pl_0 dX8_voice_74 ?_
      refine g_callVi C (nargs := 0) (o := 52) (st := []) (m_X6_isParted h) pl_52.1 pl_52.2 rfl rfl gc_X8_242 (by decide +kernel) ⟨rfl, rfl⟩ dX8_voice_77 ⟨by decide, by decide⟩ rfl rfl (Nat.le_of_ble_eq_true rfl) ?_
      intro r77c M77 hN
      replace h := hN
      clear hN
      refine g_if_eq C 92 dX8_voice_80 (by decide) (fun hc => ?_) (fun hc => ?_)
      · replace h := h.1 hc
        refine g_iload C dX8_voice_92 rfl ?_
        exact hR _ _ _ _ dX8_voice_94 rfl h
      · replace h := h.2 hc
        refine g_aload_n C dX8_voice_83 rfl ?_
        refine g_bipush C dX8_voice_84 rfl ?_
        refine g_callVi C (nargs := 1) (o := 0) (st := []) (m_X8_refuse h) pl_0.1 pl_0.2.1 rfl rfl gc_X8_67 (by decide +kernel) ⟨rfl, rfl⟩ dX8_voice_86 ⟨by decide, by decide⟩ rfl rfl (Nat.le_of_ble_eq_true rfl) ?_
        intro r86c M86 hN
        replace h := hN
        clear hN
        refine g_goto C 94 dX8_voice_89 (by decide) ?_
        exact hR _ _ _ _ dX8_voice_94 rfl h
    · replace h := h.2 hc
      refine g_locals (lv' := [(0, .ref (ad 0))]) rfl ?_
      exact pB23  _ h
def w_X8_body (a1 : Int) (M : gSt) (k : Int → gSt → Prop) : Prop :=
  w_X6_trace 52 M (fun r4c M4 => ∃ q4 : Nat, r4c = some q4 ∧ (w_X4_has q4 a1 M4 (fun r8c M8 => 
  (wrap r8c = 0 →
    w_X8_refuse 2 M8 (fun r31c M31 => k r31c M31)) ∧
  (¬ wrap r8c = 0 →
    w_X6_trace 52 M8 (fun r18c M18 => ∃ q18 : Nat, r18c = some q18 ∧ (w_X4_at q18 a1 0 M18 (fun r23c M23 => k r23c M23)))))))
set_option maxHeartbeats 4000000 in
set_option maxRecDepth 100000 in
theorem m_X8_body {l : Launch} {D : va_G} {tys : List (ClassId × FieldType)} {ad : Nat → Nat} {cI cS : ClassId} {a1 : Int} {M : gSt} {k : Int → gSt → Prop} (h : w_X8_body a1 M k) : MOi l yX8_body cX8_body 2 .int (rmR 1 24) D clC ((cI, .int) :: (cS, .object "OldBronze$Sheet") :: tys) (wC ad cI cS) tC zC [.ref (ad 0), iv a1] M k := by
  refine moi_intro (by decide +kernel) (Nat.le_of_ble_eq_true rfl) wc_565 ?_
  intro p e s m args below meth c A Q C hR
  unfold w_X8_body at h
  refine g_locals (lv' := [(0, .ref (ad 0)), (1, iv a1)]) rfl ?_
  refine g_aload_n C dX8_body_0 rfl ?_
  refine cf_X8_43 C pl_0 dX8_body_1 ?_
  refine g_callVr C (nargs := 0) (o := 52) (st := []) (m_X6_trace h) pl_52.1 pl_52.2 rfl rfl gc_X8_246 (by decide +kernel) ⟨rfl, rfl⟩ dX8_body_4 ⟨by decide, by decide⟩ rfl rfl (Nat.le_of_ble_eq_true rfl) ?_
  intro r4c M4 hN
  replace h := hN
  clear hN
  obtain ⟨q4, hq4, h⟩ := h
  subst hq4
  refine g_iload_n C dX8_body_7 rfl ?_
  refine g_callVi C (nargs := 1) (o := q4) (st := []) (m_X4_has h) (show isRows q4 from h.1).1 (show isRows q4 from h.1).2.1 rfl rfl gc_X8_165 (by decide +kernel) ⟨rfl, rfl⟩ dX8_body_8 ⟨by decide, by decide⟩ rfl rfl (Nat.le_of_ble_eq_true rfl) ?_
  intro r8c M8 hN
  replace h := hN
  clear hN
  refine g_if_eq C 29 dX8_body_11 (by decide) (fun hc => ?_) (fun hc => ?_)
  · replace h := h.1 hc
    refine g_aload_n C dX8_body_29 rfl ?_
    refine g_iconst C dX8_body_30 ?_
    refine g_callVi C (nargs := 1) (o := 0) (st := []) (m_X8_refuse h) pl_0.1 pl_0.2.1 rfl rfl gc_X8_67 (by decide +kernel) ⟨rfl, rfl⟩ dX8_body_31 ⟨by decide, by decide⟩ rfl rfl (Nat.le_of_ble_eq_true rfl) ?_
    intro r31c M31 hN
    replace h := hN
    clear hN
    exact hR _ _ _ _ dX8_body_34 rfl h
  · replace h := h.2 hc
    refine g_aload_n C dX8_body_14 rfl ?_
    refine cf_X8_43 C pl_0 dX8_body_15 ?_
    refine g_callVr C (nargs := 0) (o := 52) (st := []) (m_X6_trace h) pl_52.1 pl_52.2 rfl rfl gc_X8_246 (by decide +kernel) ⟨rfl, rfl⟩ dX8_body_18 ⟨by decide, by decide⟩ rfl rfl (Nat.le_of_ble_eq_true rfl) ?_
    intro r18c M18 hN
    replace h := hN
    clear hN
    obtain ⟨q18, hq18, h⟩ := h
    subst hq18
    refine g_iload_n C dX8_body_21 rfl ?_
    refine g_iconst C dX8_body_22 ?_
    refine g_callVi C (nargs := 2) (o := q18) (st := []) (m_X4_at h) (show isRows q18 from h.1).1 (show isRows q18 from h.1).2.1 rfl rfl gc_X8_169 (by decide +kernel) ⟨rfl, rfl⟩ dX8_body_23 ⟨by decide, by decide⟩ rfl rfl (Nat.le_of_ble_eq_true rfl) ?_
    intro r23c M23 hN
    replace h := hN
    clear hN
    refine g_goto C 34 dX8_body_26 (by decide) ?_
    exact hR _ _ _ _ dX8_body_34 rfl h
def w_X8_sheetAt (a1 : Int) (M : gSt) (k : Option Nat → gSt → Prop) : Prop :=
  
  (wrap a1 < 0 →
    k none M) ∧
  (0 ≤ wrap a1 →

    (4 ≤ wrap a1 →
      k none M) ∧
    (wrap a1 < 4 →
      ∃ q18 : Nat, ((0 : Int) ≤ a1 ∧ a1 < 4) ∧ ([56, 58, 60, 62] : List Nat)[Int.toNat a1]? = some q18 ∧ (k (some q18) M)))
set_option maxHeartbeats 4000000 in
set_option maxRecDepth 100000 in
theorem m_X8_sheetAt {l : Launch} {D : va_G} {tys : List (ClassId × FieldType)} {ad : Nat → Nat} {cI cS : ClassId} {a1 : Int} {M : gSt} {k : Option Nat → gSt → Prop} (h : w_X8_sheetAt a1 M k) : MOr l yX8_sheetAt cX8_sheetAt 2 (.object "OldBronze$Sheet") (rmR 0 0) D clC ((cI, .int) :: (cS, .object "OldBronze$Sheet") :: tys) ad (wC ad cI cS) tC zC [.ref (ad 0), iv a1] M k := by
  refine mor_intro (by decide +kernel) (Nat.le_of_ble_eq_true rfl) wc_566 (Or.inl ⟨_, rfl⟩) ?_
  intro p e s m args below meth c A Q C hR
  unfold w_X8_sheetAt at h
  refine g_locals (lv' := [(0, .ref (ad 0)), (1, iv a1)]) rfl ?_
  refine g_iload_n C dX8_sheetAt_0 rfl ?_
  refine g_if_lt C 22 dX8_sheetAt_1 (by decide) (fun hc => ?_) (fun hc => ?_)
  · replace h := h.1 hc
    refine g_aconst_null (ad := ad) C dX8_sheetAt_22 ?_
    exact hR _ _ none _ _ dX8_sheetAt_23 rfl h
  · replace h := h.2 hc
    refine g_iload_n C dX8_sheetAt_4 rfl ?_
    refine g_aload_n C dX8_sheetAt_5 rfl ?_
    refine cf_X8_49 C pl_0 dX8_sheetAt_6 ?_
    refine g_aalen C dX8_sheetAt_9 (ps := [56, 58, 60, 62]) rfl (by decide) ?_
    refine g_top (y := 4) rfl ?_
    refine g_icmp_ge C 22 dX8_sheetAt_10 (by decide) (fun hc => ?_) (fun hc => ?_)
    · replace h := h.1 hc
      refine g_aconst_null (ad := ad) C dX8_sheetAt_22 ?_
      exact hR _ _ none _ _ dX8_sheetAt_23 rfl h
    · replace h := h.2 hc
      refine g_aload_n C dX8_sheetAt_13 rfl ?_
      refine cf_X8_49 C pl_0 dX8_sheetAt_14 ?_
      refine g_iload_n C dX8_sheetAt_17 rfl ?_
      obtain ⟨q18, hi18, hq18, h⟩ := h
      refine g_aald C dX8_sheetAt_18 (ps := [56, 58, 60, 62]) rfl ⟨by decide, by decide⟩ hi18 hq18 ?_
      refine g_goto C 23 dX8_sheetAt_19 (by decide) ?_
      exact hR _ _ (some q18) _ _ dX8_sheetAt_23 rfl h
def wB_X8_sheet_34 (a1 : Int) (a2 : Int) (a3 : Int) (k : Int → gSt → Prop)   (M : gSt) : Prop :=
w_X8_refuse 1 M (fun r36c M36 => k r36c M36)
def wB_X8_sheet_82 (a1 : Int) (a2 : Int) (a3 : Int) (k : Int → gSt → Prop)  (s0 : Int) (s1 : Int) (s2 : Nat) (M : gSt) : Prop :=
w_X5_begin s2 s1 s0 M (fun M82 => k 1 M82)
def wB_X8_sheet_70 (a1 : Int) (a2 : Int) (a3 : Int) (k : Int → gSt → Prop)  (v4 : Nat) (M : gSt) : Prop :=

  (¬ wrap a2 = 0 →
    wB_X8_sheet_82 a1 a2 a3 k  a3 a2 v4 M) ∧
  (wrap a2 = 0 →
    wB_X8_sheet_82 a1 a2 a3 k  0 a2 v4 M)
def wB_X8_sheet_54 (a1 : Int) (a2 : Int) (a3 : Int) (k : Int → gSt → Prop)  (v4 : Nat) (M : gSt) : Prop :=

  (wrap a2 = 0 →
    wB_X8_sheet_70 a1 a2 a3 k  v4 M) ∧
  (¬ wrap a2 = 0 →

    (wrap a3 ≤ 24 →
      wB_X8_sheet_70 a1 a2 a3 k  v4 M) ∧
    (24 < wrap a3 →
      w_X8_refuse 1 M (fun r66c M66 => k r66c M66)))
def wB_X8_sheet_40 (a1 : Int) (a2 : Int) (a3 : Int) (k : Int → gSt → Prop)  (v4 : Nat) (M : gSt) : Prop :=

  (wrap a2 = 0 →
    wB_X8_sheet_54 a1 a2 a3 k  v4 M) ∧
  (¬ wrap a2 = 0 →

    (0 ≤ wrap a3 →
      wB_X8_sheet_54 a1 a2 a3 k  v4 M) ∧
    (wrap a3 < 0 →
      w_X8_refuse 3 M (fun r50c M50 => k r50c M50)))
def w_X8_sheet (a1 : Int) (a2 : Int) (a3 : Int) (M : gSt) (k : Int → gSt → Prop) : Prop :=
  w_X8_sheetAt a1 M (fun r2c M2 => 
  (r2c = none →
    wB_X8_sheet_34 a1 a2 a3 k   M2) ∧
  (∀ q9 : Nat, r2c = some q9 →

    (wrap a2 = 0 →
      wB_X8_sheet_40 a1 a2 a3 k  q9 M2) ∧
    (¬ wrap a2 = 0 →

      (wrap a2 = 8 →
        wB_X8_sheet_40 a1 a2 a3 k  q9 M2) ∧
      (¬ wrap a2 = 8 →

        (wrap a2 = 16 →
          wB_X8_sheet_40 a1 a2 a3 k  q9 M2) ∧
        (¬ wrap a2 = 16 →

          (wrap a2 = 32 →
            wB_X8_sheet_40 a1 a2 a3 k  q9 M2) ∧
          (¬ wrap a2 = 32 →
            wB_X8_sheet_34 a1 a2 a3 k   M2))))))
set_option maxHeartbeats 4000000 in
set_option maxRecDepth 100000 in
theorem m_X8_sheet {l : Launch} {D : va_G} {tys : List (ClassId × FieldType)} {ad : Nat → Nat} {cI cS : ClassId} {a1 : Int} {a2 : Int} {a3 : Int} {M : gSt} {k : Int → gSt → Prop} (h : w_X8_sheet a1 a2 a3 M k) : MOi l yX8_sheet cX8_sheet 5 .int (rmR 2 62) D clC ((cI, .int) :: (cS, .object "OldBronze$Sheet") :: tys) (wC ad cI cS) tC zC [.ref (ad 0), iv a1, iv a2, iv a3] M k := by
  refine moi_intro (by decide +kernel) (Nat.le_of_ble_eq_true rfl) wc_573 ?_
  intro p e s m args below meth c A Q C hR
  unfold w_X8_sheet at h
  have pB34 : ∀    (M : gSt), wB_X8_sheet_34 a1 a2 a3 k   M → gG p l e (rmR 2 62) s m args below meth c Q D clC A (wC ad cI cS) 5 34 [(0, .ref (ad 0))] [] M := by
    intro    M h
    unfold wB_X8_sheet_34 at h
    refine g_aload_n C dX8_sheet_34 rfl ?_
    refine g_iconst C dX8_sheet_35 ?_
    refine g_callVi C (nargs := 1) (o := 0) (st := []) (m_X8_refuse h) pl_0.1 pl_0.2.1 rfl rfl gc_X8_67 (by decide +kernel) ⟨rfl, rfl⟩ dX8_sheet_36 ⟨by decide, by decide⟩ rfl rfl (Nat.le_of_ble_eq_true rfl) ?_
    intro r36c M36 hN
    replace h := hN
    clear hN
    exact hR _ _ _ _ dX8_sheet_39 rfl h
  have pB82 : ∀   (s0 : Int) (s1 : Int) (s2 : Nat) (M : gSt), wB_X8_sheet_82 a1 a2 a3 k  s0 s1 s2 M → gG p l e (rmR 2 62) s m args below meth c Q D clC A (wC ad cI cS) 5 82 [] [iv s0, iv s1, .ref (ad s2)] M := by
    intro   s0 s1 s2 M h
    unfold wB_X8_sheet_82 at h
    refine g_callVv C (nargs := 2) (o := s2) (st := []) (m_X5_begin h) (show isSheet s2 from h.1).1 (show isSheet s2 from h.1).2.1 rfl rfl gc_X8_254 (by decide +kernel) ⟨rfl, rfl⟩ dX8_sheet_82 ⟨by decide, by decide⟩ rfl rfl (Nat.le_of_ble_eq_true rfl) ?_
    intro M82 hN
    replace h := hN
    clear hN
    refine g_iconst C dX8_sheet_85 ?_
    exact hR _ _ _ _ dX8_sheet_86 rfl h
  have pB70 : ∀   (v4 : Nat) (M : gSt), wB_X8_sheet_70 a1 a2 a3 k  v4 M → gG p l e (rmR 2 62) s m args below meth c Q D clC A (wC ad cI cS) 5 70 [(2, iv a2), (3, iv a3), (4, .ref (ad v4))] [] M := by
    intro   v4 M h
    unfold wB_X8_sheet_70 at h
    refine g_aload C dX8_sheet_70 rfl ?_
    refine g_iload_n C dX8_sheet_72 rfl ?_
    refine g_iload_n C dX8_sheet_73 rfl ?_
    refine g_if_ne C 81 dX8_sheet_74 (by decide) (fun hc => ?_) (fun hc => ?_)
    · replace h := h.1 hc
      refine g_iload_n C dX8_sheet_81 rfl ?_
      refine g_locals (lv' := []) rfl ?_
      exact pB82 _ _ _ _ h
    · replace h := h.2 hc
      refine g_iconst C dX8_sheet_77 ?_
      refine g_goto C 82 dX8_sheet_78 (by decide) ?_
      refine g_locals (lv' := []) rfl ?_
      exact pB82 _ _ _ _ h
  have pB54 : ∀   (v4 : Nat) (M : gSt), wB_X8_sheet_54 a1 a2 a3 k  v4 M → gG p l e (rmR 2 62) s m args below meth c Q D clC A (wC ad cI cS) 5 54 [(0, .ref (ad 0)), (2, iv a2), (3, iv a3), (4, .ref (ad v4))] [] M := by
    intro   v4 M h
    unfold wB_X8_sheet_54 at h
    refine g_iload_n C dX8_sheet_54 rfl ?_
    refine g_if_eq C 70 dX8_sheet_55 (by decide) (fun hc => ?_) (fun hc => ?_)
    · replace h := h.1 hc
      refine g_locals (lv' := [(2, iv a2), (3, iv a3), (4, .ref (ad v4))]) rfl ?_
      exact pB70 _ _ h
    · replace h := h.2 hc
      refine g_iload_n C dX8_sheet_58 rfl ?_
      refine g_bipush C dX8_sheet_59 rfl ?_
      refine g_icmp_le C 70 dX8_sheet_61 (by decide) (fun hc => ?_) (fun hc => ?_)
      · replace h := h.1 hc
        refine g_locals (lv' := [(2, iv a2), (3, iv a3), (4, .ref (ad v4))]) rfl ?_
        exact pB70 _ _ h
      · replace h := h.2 hc
        refine g_aload_n C dX8_sheet_64 rfl ?_
        refine g_iconst C dX8_sheet_65 ?_
        refine g_callVi C (nargs := 1) (o := 0) (st := []) (m_X8_refuse h) pl_0.1 pl_0.2.1 rfl rfl gc_X8_67 (by decide +kernel) ⟨rfl, rfl⟩ dX8_sheet_66 ⟨by decide, by decide⟩ rfl rfl (Nat.le_of_ble_eq_true rfl) ?_
        intro r66c M66 hN
        replace h := hN
        clear hN
        exact hR _ _ _ _ dX8_sheet_69 rfl h
  have pB40 : ∀   (v4 : Nat) (M : gSt), wB_X8_sheet_40 a1 a2 a3 k  v4 M → gG p l e (rmR 2 62) s m args below meth c Q D clC A (wC ad cI cS) 5 40 [(0, .ref (ad 0)), (2, iv a2), (3, iv a3), (4, .ref (ad v4))] [] M := by
    intro   v4 M h
    unfold wB_X8_sheet_40 at h
    refine g_iload_n C dX8_sheet_40 rfl ?_
    refine g_if_eq C 54 dX8_sheet_41 (by decide) (fun hc => ?_) (fun hc => ?_)
    · replace h := h.1 hc
      refine g_locals (lv' := [(0, .ref (ad 0)), (2, iv a2), (3, iv a3), (4, .ref (ad v4))]) rfl ?_
      exact pB54 _ _ h
    · replace h := h.2 hc
      refine g_iload_n C dX8_sheet_44 rfl ?_
      refine g_if_ge C 54 dX8_sheet_45 (by decide) (fun hc => ?_) (fun hc => ?_)
      · replace h := h.1 hc
        refine g_locals (lv' := [(0, .ref (ad 0)), (2, iv a2), (3, iv a3), (4, .ref (ad v4))]) rfl ?_
        exact pB54 _ _ h
      · replace h := h.2 hc
        refine g_aload_n C dX8_sheet_48 rfl ?_
        refine g_iconst C dX8_sheet_49 ?_
        refine g_callVi C (nargs := 1) (o := 0) (st := []) (m_X8_refuse h) pl_0.1 pl_0.2.1 rfl rfl gc_X8_67 (by decide +kernel) ⟨rfl, rfl⟩ dX8_sheet_50 ⟨by decide, by decide⟩ rfl rfl (Nat.le_of_ble_eq_true rfl) ?_
        intro r50c M50 hN
        replace h := hN
        clear hN
        exact hR _ _ _ _ dX8_sheet_53 rfl h
  refine g_locals (lv' := [(0, .ref (ad 0)), (1, iv a1), (2, iv a2), (3, iv a3)]) rfl ?_
  refine g_aload_n C dX8_sheet_0 rfl ?_
  refine g_iload_n C dX8_sheet_1 rfl ?_
  refine g_callVr C (nargs := 1) (o := 0) (st := []) (m_X8_sheetAt h) pl_0.1 pl_0.2.1 rfl rfl gc_X8_250 (by decide +kernel) ⟨rfl, rfl⟩ dX8_sheet_2 ⟨by decide, by decide⟩ rfl rfl (Nat.le_of_ble_eq_true rfl) ?_
  intro r2c M2 hN
  replace h := hN
  clear hN
  refine g_astoreO' C dX8_sheet_5 (by decide) rfl ?_
  refine g_locals (lv' := [(0, .ref (ad 0)), (1, iv a1), (2, iv a2), (3, iv a3), (4, orv ad r2c)]) rfl ?_
  refine g_aloadO' C dX8_sheet_7 rfl ?_
  refine g_ifnull C 34 dX8_sheet_9 (by decide) (fun hc => ?_) (fun q9 hc => ?_)
  · replace h := h.1 hc
    refine g_locals (lv' := [(0, .ref (ad 0)), (1, iv a1), (2, iv a2), (3, iv a3)]) rfl ?_
    refine g_locals (lv' := [(0, .ref (ad 0))]) rfl ?_
    exact pB34  _ h
  · replace h := h.2 q9 hc
    subst hc
    refine g_locals (lv' := [(0, .ref (ad 0)), (1, iv a1), (2, iv a2), (3, iv a3), (4, .ref (ad q9))]) rfl ?_
    refine g_iload_n C dX8_sheet_12 rfl ?_
    refine g_if_eq C 40 dX8_sheet_13 (by decide) (fun hc => ?_) (fun hc => ?_)
    · replace h := h.1 hc
      refine g_locals (lv' := [(0, .ref (ad 0)), (2, iv a2), (3, iv a3), (4, .ref (ad q9))]) rfl ?_
      exact pB40 _ _ h
    · replace h := h.2 hc
      refine g_iload_n C dX8_sheet_16 rfl ?_
      refine g_bipush C dX8_sheet_17 rfl ?_
      refine g_icmp_eq C 40 dX8_sheet_19 (by decide) (fun hc => ?_) (fun hc => ?_)
      · replace h := h.1 hc
        refine g_locals (lv' := [(0, .ref (ad 0)), (2, iv a2), (3, iv a3), (4, .ref (ad q9))]) rfl ?_
        exact pB40 _ _ h
      · replace h := h.2 hc
        refine g_iload_n C dX8_sheet_22 rfl ?_
        refine g_bipush C dX8_sheet_23 rfl ?_
        refine g_icmp_eq C 40 dX8_sheet_25 (by decide) (fun hc => ?_) (fun hc => ?_)
        · replace h := h.1 hc
          refine g_locals (lv' := [(0, .ref (ad 0)), (2, iv a2), (3, iv a3), (4, .ref (ad q9))]) rfl ?_
          exact pB40 _ _ h
        · replace h := h.2 hc
          refine g_iload_n C dX8_sheet_28 rfl ?_
          refine g_bipush C dX8_sheet_29 rfl ?_
          refine g_icmp_eq C 40 dX8_sheet_31 (by decide) (fun hc => ?_) (fun hc => ?_)
          · replace h := h.1 hc
            refine g_locals (lv' := [(0, .ref (ad 0)), (2, iv a2), (3, iv a3), (4, .ref (ad q9))]) rfl ?_
            exact pB40 _ _ h
          · replace h := h.2 hc
            refine g_locals (lv' := [(0, .ref (ad 0))]) rfl ?_
            exact pB34  _ h
