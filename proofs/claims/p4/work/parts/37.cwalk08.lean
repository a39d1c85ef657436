def w_X8_isKindAndM (a1 : Int) (M : gSt) (k : Int → gSt → Prop) : Prop :=
  w_X8_within a1 0 699 M (fun r5c M5 => (r5c = 0 ∨ r5c = 1) ∧ (k r5c M5))
set_option maxHeartbeats 4000000 in
set_option maxRecDepth 100000 in
theorem m_X8_isKindAndM {l : Launch} {D : va_G} {tys : List (ClassId × FieldType)} {ad : Nat → Nat} {cI cS : ClassId} {a1 : Int} {M : gSt} {k : Int → gSt → Prop} (h : w_X8_isKindAndM a1 M k) : MOi l yX8_isKindAndM cX8_isKindAndM 1 .boolean (rmR 1 22) D clC ((cI, .int) :: (cS, .object "OldBronze$Sheet") :: tys) (wC ad cI cS) tC zC [iv a1] M k := by
  refine moi_intro (by decide +kernel) (Nat.le_of_ble_eq_true rfl) wc_408 ?_
  intro p e s m args below meth c A Q C hR
  unfold w_X8_isKindAndM at h
  refine g_locals (lv' := [(0, iv a1)]) rfl ?_
  refine g_iload_n C dX8_isKindAndM_0 rfl ?_
  refine g_iconst C dX8_isKindAndM_1 ?_
  refine g_sipush C dX8_isKindAndM_2 rfl ?_
  refine g_callSi C (nargs := 3) (st := []) (m_X8_within h) gc_X8_63 (by decide +kernel) ⟨rfl, rfl⟩ dX8_isKindAndM_5 ⟨by decide, by decide⟩ rfl rfl (Nat.le_of_ble_eq_true rfl) ?_
  intro r5c M5 hN
  replace h := hN
  clear hN
  exact hR _ _ _ _ dX8_isKindAndM_8 (zn_bool h.1).1 h.2
def w_X8_refuse (a1 : Int) (M : gSt) (k : Int → gSt → Prop) : Prop :=
  
  (wrap a1 < 0 →
    k ((-1000000000) - a1) M) ∧
  (0 ≤ wrap a1 →

    (7 ≤ wrap a1 →
      k ((-1000000000) - a1) M) ∧
    (wrap a1 < 7 →
      ((0 : Int) ≤ a1 ∧ a1 < 7) ∧ (((0 : Int) ≤ a1 ∧ a1 < 7) ∧ (∀ M22 : gSt, M22 = wr M 64 a1 ((M 64 a1) + 1) → (k ((-1000000000) - a1) M22)))))
set_option maxHeartbeats 4000000 in
set_option maxRecDepth 100000 in
theorem m_X8_refuse {l : Launch} {D : va_G} {tys : List (ClassId × FieldType)} {ad : Nat → Nat} {cI cS : ClassId} {a1 : Int} {M : gSt} {k : Int → gSt → Prop} (h : w_X8_refuse a1 M k) : MOi l yX8_refuse cX8_refuse 2 .int (rmR 0 0) D clC ((cI, .int) :: (cS, .object "OldBronze$Sheet") :: tys) (wC ad cI cS) tC zC [.ref (ad 0), iv a1] M k := by
  refine moi_intro (by decide +kernel) (Nat.le_of_ble_eq_true rfl) wc_410 ?_
  intro p e s m args below meth c A Q C hR
  unfold w_X8_refuse at h
  refine g_locals (lv' := [(0, .ref (ad 0)), (1, iv a1)]) rfl ?_
  refine g_iload_n C dX8_refuse_0 rfl ?_
  refine g_if_lt C 23 dX8_refuse_1 (by decide) (fun hc => ?_) (fun hc => ?_)
  · replace h := h.1 hc
    refine g_ldcw C (-1000000000) wc_411 rfl dX8_refuse_23 ?_
    refine g_iload_n C dX8_refuse_26 rfl ?_
    refine g_isub C dX8_refuse_27 ?_
    exact hR _ _ _ _ dX8_refuse_28 rfl h
  · replace h := h.2 hc
    refine g_iload_n C dX8_refuse_4 rfl ?_
    refine g_aload_n C dX8_refuse_5 rfl ?_
    refine cf_X8_53 C pl_0 dX8_refuse_6 ?_
    refine g_alen C (n := 7) dX8_refuse_9 pl_64.1 pl_64.2.1 ?_
    refine g_top (y := 7) rfl ?_
    refine g_icmp_ge C 23 dX8_refuse_10 (by decide) (fun hc => ?_) (fun hc => ?_)
    · replace h := h.1 hc
      refine g_ldcw C (-1000000000) wc_411 rfl dX8_refuse_23 ?_
      refine g_iload_n C dX8_refuse_26 rfl ?_
      refine g_isub C dX8_refuse_27 ?_
      exact hR _ _ _ _ dX8_refuse_28 rfl h
    · replace h := h.2 hc
      refine g_aload_n C dX8_refuse_13 rfl ?_
      refine cf_X8_53 C pl_0 dX8_refuse_14 ?_
      refine g_iload_n C dX8_refuse_17 rfl ?_
      refine g_dup2 C dX8_refuse_18 rfl rfl ?_
      refine g_iald C (n := 7) dX8_refuse_19 pl_64.1 pl_64.2 h.1 ?_
      replace h := h.2
      refine g_iconst C dX8_refuse_20 ?_
      refine g_iadd C dX8_refuse_21 ?_
      refine g_iast C (n := 7) dX8_refuse_22 pl_64.1 pl_64.2 h.1 ?_
      replace h := h.2
      refine g_memname (fun M22 hM22 => ?_)
      replace h := h M22 hM22
      refine g_ldcw C (-1000000000) wc_411 rfl dX8_refuse_23 ?_
      refine g_iload_n C dX8_refuse_26 rfl ?_
      refine g_isub C dX8_refuse_27 ?_
      exact hR _ _ _ _ dX8_refuse_28 rfl h
def wB_X8_thing_17 (a1 : Int) (a2 : Int) (k : Int → gSt → Prop)   (M : gSt) : Prop :=
w_X8_refuse 1 M (fun r19c M19 => k r19c M19)
def w_X8_thing (a1 : Int) (a2 : Int) (M : gSt) (k : Int → gSt → Prop) : Prop :=
  w_X8_isKindAndM a1 M (fun r1c M1 => 
  (wrap r1c = 0 →
    wB_X8_thing_17 a1 a2 k   M1) ∧
  (¬ wrap r1c = 0 →
    w_X8_within a2 0 9999999 M1 (fun r11c M11 => 
    (¬ wrap r11c = 0 →
      w_X0_room 2 M11 (fun r30c M30 => 
      (1 ≤ wrap r30c →
        w_X0_addFirst 2 a1 a2 M30 (fun r52c M52 => k r52c M52)) ∧
      (wrap r30c < 1 →
        w_X8_refuse 4 M30 (fun r39c M39 => k r39c M39)))) ∧
    (wrap r11c = 0 →
      wB_X8_thing_17 a1 a2 k   M11))))
set_option maxHeartbeats 4000000 in
set_option maxRecDepth 100000 in
theorem m_X8_thing {l : Launch} {D : va_G} {tys : List (ClassId × FieldType)} {ad : Nat → Nat} {cI cS : ClassId} {a1 : Int} {a2 : Int} {M : gSt} {k : Int → gSt → Prop} (h : w_X8_thing a1 a2 M k) : MOi l yX8_thing cX8_thing 3 .int (rmR 5 114) D clC ((cI, .int) :: (cS, .object "OldBronze$Sheet") :: tys) (wC ad cI cS) tC zC [.ref (ad 0), iv a1, iv a2] M k := by
  refine moi_intro (by decide +kernel) (Nat.le_of_ble_eq_true rfl) wc_423 ?_
  intro p e s m args below meth c A Q C hR
  unfold w_X8_thing at h
  have pB17 : ∀    (M : gSt), wB_X8_thing_17 a1 a2 k   M → gG p l e (rmR 5 114) s m args below meth c Q D clC A (wC ad cI cS) 3 17 [(0, .ref (ad 0))] [] M := by
    intro    M h
    unfold wB_X8_thing_17 at h
    refine g_aload_n C dX8_thing_17 rfl ?_
    refine g_iconst C dX8_thing_18 ?_
    refine g_callVi C (nargs := 1) (o := 0) (st := []) (m_X8_refuse h) pl_0.1 pl_0.2.1 rfl rfl gc_X8_67 (by decide +kernel) ⟨rfl, rfl⟩ dX8_thing_19 ⟨by decide, by decide⟩ rfl rfl (Nat.le_of_ble_eq_true rfl) ?_
    intro r19c M19 hN
    replace h := hN
    clear hN
    exact hR _ _ _ _ dX8_thing_22 rfl h
  refine g_locals (lv' := [(0, .ref (ad 0)), (1, iv a1), (2, iv a2)]) rfl ?_
  refine g_iload_n C dX8_thing_0 rfl ?_
  refine g_callSi C (nargs := 1) (st := []) (m_X8_isKindAndM h) gc_X8_58 (by decide +kernel) ⟨rfl, rfl⟩ dX8_thing_1 ⟨by decide, by decide⟩ rfl rfl (Nat.le_of_ble_eq_true rfl) ?_
  intro r1c M1 hN
  replace h := hN
  clear hN
  refine g_if_eq C 17 dX8_thing_4 (by decide) (fun hc => ?_) (fun hc => ?_)
  · replace h := h.1 hc
    refine g_locals (lv' := [(0, .ref (ad 0))]) rfl ?_
    exact pB17  _ h
  · replace h := h.2 hc
    refine g_iload_n C dX8_thing_7 rfl ?_
    refine g_iconst C dX8_thing_8 ?_
    refine g_ldc C 9999999 wc_412 rfl dX8_thing_9 ?_
    refine g_callSi C (nargs := 3) (st := []) (m_X8_within h) gc_X8_63 (by decide +kernel) ⟨rfl, rfl⟩ dX8_thing_11 ⟨by decide, by decide⟩ rfl rfl (Nat.le_of_ble_eq_true rfl) ?_
    intro r11c M11 hN
    replace h := hN
    clear hN
    refine g_if_ne C 23 dX8_thing_14 (by decide) (fun hc => ?_) (fun hc => ?_)
    · replace h := h.1 hc
      refine g_aload_n C dX8_thing_23 rfl ?_
      refine cf_X8_12 C pl_0 dX8_thing_24 ?_
      refine cf_X8_71 C pl_1 dX8_thing_27 ?_
      refine g_callVi C (nargs := 0) (o := 2) (st := []) (m_X0_room h) pl_2.1 pl_2.2.1 rfl rfl gc_X8_74 (by decide +kernel) ⟨rfl, rfl⟩ dX8_thing_30 ⟨by decide, by decide⟩ rfl rfl (Nat.le_of_ble_eq_true rfl) ?_
      intro r30c M30 hN
      replace h := hN
      clear hN
      refine g_iconst C dX8_thing_33 ?_
      refine g_icmp_ge C 43 dX8_thing_34 (by decide) (fun hc => ?_) (fun hc => ?_)
      · replace h := h.1 hc
        refine g_aload_n C dX8_thing_43 rfl ?_
        refine cf_X8_12 C pl_0 dX8_thing_44 ?_
        refine cf_X8_71 C pl_1 dX8_thing_47 ?_
        refine g_iload_n C dX8_thing_50 rfl ?_
        refine g_iload_n C dX8_thing_51 rfl ?_
        refine g_callVi C (nargs := 2) (o := 2) (st := []) (m_X0_addFirst h) pl_2.1 pl_2.2.1 rfl rfl gc_X8_78 (by decide +kernel) ⟨rfl, rfl⟩ dX8_thing_52 ⟨by decide, by decide⟩ rfl rfl (Nat.le_of_ble_eq_true rfl) ?_
        intro r52c M52 hN
        replace h := hN
        clear hN
        exact hR _ _ _ _ dX8_thing_55 rfl h
      · replace h := h.2 hc
        refine g_aload_n C dX8_thing_37 rfl ?_
        refine g_iconst C dX8_thing_38 ?_
        refine g_callVi C (nargs := 1) (o := 0) (st := []) (m_X8_refuse h) pl_0.1 pl_0.2.1 rfl rfl gc_X8_67 (by decide +kernel) ⟨rfl, rfl⟩ dX8_thing_39 ⟨by decide, by decide⟩ rfl rfl (Nat.le_of_ble_eq_true rfl) ?_
        intro r39c M39 hN
        replace h := hN
        clear hN
        exact hR _ _ _ _ dX8_thing_42 rfl h
    · replace h := h.2 hc
      refine g_locals (lv' := [(0, .ref (ad 0))]) rfl ?_
      exact pB17  _ h
def wB_X8_thingIs_24 (a1 : Int) (a2 : Int) (k : Int → gSt → Prop)   (M : gSt) : Prop :=
w_X8_refuse 1 M (fun r26c M26 => k r26c M26)
def w_X8_thingIs (a1 : Int) (a2 : Int) (M : gSt) (k : Int → gSt → Prop) : Prop :=
  w_X0_has 2 a1 M (fun r8c M8 => 
  (wrap r8c = 0 →
    wB_X8_thingIs_24 a1 a2 k   M8) ∧
  (¬ wrap r8c = 0 →
    w_X8_within a2 0 10 M8 (fun r18c M18 => 
    (¬ wrap r18c = 0 →
      w_X1_numberOf 1 2 a1 a2 M18 (fun r43c M43 => k r43c M43)) ∧
    (wrap r18c = 0 →
      wB_X8_thingIs_24 a1 a2 k   M18))))
set_option maxHeartbeats 4000000 in
set_option maxRecDepth 100000 in
theorem m_X8_thingIs {l : Launch} {D : va_G} {tys : List (ClassId × FieldType)} {ad : Nat → Nat} {cI cS : ClassId} {a1 : Int} {a2 : Int} {M : gSt} {k : Int → gSt → Prop} (h : w_X8_thingIs a1 a2 M k) : MOi l yX8_thingIs cX8_thingIs 3 .int (rmR 5 133) D clC ((cI, .int) :: (cS, .object "OldBronze$Sheet") :: tys) (wC ad cI cS) tC zC [.ref (ad 0), iv a1, iv a2] M k := by
  refine moi_intro (by decide +kernel) (Nat.le_of_ble_eq_true rfl) wc_430 ?_
  intro p e s m args below meth c A Q C hR
  unfold w_X8_thingIs at h
  have pB24 : ∀    (M : gSt), wB_X8_thingIs_24 a1 a2 k   M → gG p l e (rmR 5 133) s m args below meth c Q D clC A (wC ad cI cS) 3 24 [(0, .ref (ad 0))] [] M := by
    intro    M h
    unfold wB_X8_thingIs_24 at h
    refine g_aload_n C dX8_thingIs_24 rfl ?_
    refine g_iconst C dX8_thingIs_25 ?_
    refine g_callVi C (nargs := 1) (o := 0) (st := []) (m_X8_refuse h) pl_0.1 pl_0.2.1 rfl rfl gc_X8_67 (by decide +kernel) ⟨rfl, rfl⟩ dX8_thingIs_26 ⟨by decide, by decide⟩ rfl rfl (Nat.le_of_ble_eq_true rfl) ?_
    intro r26c M26 hN
    replace h := hN
    clear hN
    exact hR _ _ _ _ dX8_thingIs_29 rfl h
  refine g_locals (lv' := [(0, .ref (ad 0)), (1, iv a1), (2, iv a2)]) rfl ?_
  refine g_aload_n C dX8_thingIs_0 rfl ?_
  refine cf_X8_12 C pl_0 dX8_thingIs_1 ?_
  refine cf_X8_71 C pl_1 dX8_thingIs_4 ?_
  refine g_iload_n C dX8_thingIs_7 rfl ?_
  refine g_callVi C (nargs := 1) (o := 2) (st := []) (m_X0_has h) pl_2.1 pl_2.2.1 rfl rfl gc_X8_82 (by decide +kernel) ⟨rfl, rfl⟩ dX8_thingIs_8 ⟨by decide, by decide⟩ rfl rfl (Nat.le_of_ble_eq_true rfl) ?_
  intro r8c M8 hN
  replace h := hN
  clear hN
  refine g_if_eq C 24 dX8_thingIs_11 (by decide) (fun hc => ?_) (fun hc => ?_)
  · replace h := h.1 hc
    refine g_locals (lv' := [(0, .ref (ad 0))]) rfl ?_
    exact pB24  _ h
  · replace h := h.2 hc
    refine g_iload_n C dX8_thingIs_14 rfl ?_
    refine g_iconst C dX8_thingIs_15 ?_
    refine g_bipush C dX8_thingIs_16 rfl ?_
    refine g_callSi C (nargs := 3) (st := []) (m_X8_within h) gc_X8_63 (by decide +kernel) ⟨rfl, rfl⟩ dX8_thingIs_18 ⟨by decide, by decide⟩ rfl rfl (Nat.le_of_ble_eq_true rfl) ?_
    intro r18c M18 hN
    replace h := hN
    clear hN
    refine g_if_ne C 30 dX8_thingIs_21 (by decide) (fun hc => ?_) (fun hc => ?_)
    · replace h := h.1 hc
      refine g_aload_n C dX8_thingIs_30 rfl ?_
      refine cf_X8_12 C pl_0 dX8_thingIs_31 ?_
      refine g_aload_n C dX8_thingIs_34 rfl ?_
      refine cf_X8_12 C pl_0 dX8_thingIs_35 ?_
      refine cf_X8_71 C pl_1 dX8_thingIs_38 ?_
      refine g_iload_n C dX8_thingIs_41 rfl ?_
      refine g_iload_n C dX8_thingIs_42 rfl ?_
      refine g_callVi C (nargs := 3) (o := 1) (st := []) (m_X1_numberOf h) pl_1.1 pl_1.2 rfl rfl gc_X8_85 (by decide +kernel) ⟨rfl, rfl⟩ dX8_thingIs_43 ⟨by decide, by decide⟩ rfl rfl (Nat.le_of_ble_eq_true rfl) ?_
      intro r43c M43 hN
      replace h := hN
      clear hN
      exact hR _ _ _ _ dX8_thingIs_46 rfl h
    · replace h := h.2 hc
      refine g_locals (lv' := [(0, .ref (ad 0))]) rfl ?_
      exact pB24  _ h
def wC_X8_isUnder_4 (a1 : Int) (a2 : Int) (k : Int → gSt → Prop) (r4 : Int → Int → gSt → Prop) (X4_30 : Int → gSt → Prop) (v2 : Int) (v3 : Int) (M : gSt) : Prop :=

  (7 ≤ wrap v3 →
    X4_30 v2 M) ∧
  (wrap v3 < 7 →

    (wrap v2 = wrap a2 →
      X4_30 v2 M) ∧
    (¬ wrap v2 = wrap a2 →

      (wrap v2 = 0 →
        X4_30 v2 M) ∧
      (¬ wrap v2 = 0 →
        w_X8_above v2 M (fun r20c M20 => r4 r20c (v3 + 1) M20))))
def wL_X8_isUnder_4 (a1 : Int) (a2 : Int) (k : Int → gSt → Prop)  (X4_30 : Int → gSt → Prop) : Nat → Int → Int → gSt → Prop
  | 0 => fun _ _ _ => False
  | n + 1 => fun v2 v3 M => wC_X8_isUnder_4 a1 a2 k  (wL_X8_isUnder_4 a1 a2 k  X4_30 n) X4_30 v2 v3 M
def wB_X8_isUnder_30 (a1 : Int) (a2 : Int) (k : Int → gSt → Prop)  (v2 : Int) (M : gSt) : Prop :=

  (¬ wrap v2 = wrap a2 →
    k 0 M) ∧
  (wrap v2 = wrap a2 →
    k 1 M)
def w_X8_isUnder (a1 : Int) (a2 : Int) (M : gSt) (k : Int → gSt → Prop) : Prop :=
  ∃ n, wL_X8_isUnder_4 a1 a2 k  (fun u2_4 M4 =>
    wB_X8_isUnder_30 a1 a2 k  u2_4 M4) n a1 0 M
set_option maxHeartbeats 4000000 in
set_option maxRecDepth 100000 in
theorem m_X8_isUnder {l : Launch} {D : va_G} {tys : List (ClassId × FieldType)} {ad : Nat → Nat} {cI cS : ClassId} {a1 : Int} {a2 : Int} {M : gSt} {k : Int → gSt → Prop} (h : w_X8_isUnder a1 a2 M k) : MOi l yX8_isUnder cX8_isUnder 4 .boolean (rmR 1 20) D clC ((cI, .int) :: (cS, .object "OldBronze$Sheet") :: tys) (wC ad cI cS) tC zC [iv a1, iv a2] M k := by
  refine moi_intro (by decide +kernel) (Nat.le_of_ble_eq_true rfl) wc_431 ?_
  intro p e s m args below meth c A Q C hR
  unfold w_X8_isUnder at h
  have pC4 : ∀ (r4 : Int → Int → gSt → Prop) (X4_30 : Int → gSt → Prop) (hr4 : ∀ (v2 : Int) (v3 : Int) (M : gSt), r4 v2 v3 M → gG p l e (rmR 1 20) s m args below meth c Q D clC A (wC ad cI cS) 4 4 [(1, iv a2), (2, iv v2), (3, iv v3)] [] M) (hX4_30 : ∀ (v2 : Int) (M : gSt), X4_30 v2 M → gG p l e (rmR 1 20) s m args below meth c Q D clC A (wC ad cI cS) 4 30 [(1, iv a2), (2, iv v2)] [] M) (v2 : Int) (v3 : Int) (M : gSt), wC_X8_isUnder_4 a1 a2 k r4 X4_30 v2 v3 M → gG p l e (rmR 1 20) s m args below meth c Q D clC A (wC ad cI cS) 4 4 [(1, iv a2), (2, iv v2), (3, iv v3)] [] M := by
    intro r4 X4_30 hr4 hX4_30 v2 v3 M h
    unfold wC_X8_isUnder_4 at h
    refine g_iload_n C dX8_isUnder_4 rfl ?_
    refine g_bipush C dX8_isUnder_5 rfl ?_
    refine g_icmp_ge C 30 dX8_isUnder_7 (by decide) (fun hc => ?_) (fun hc => ?_)
    · replace h := h.1 hc
      refine g_locals (lv' := [(1, iv a2), (2, iv v2)]) rfl ?_
      exact hX4_30 _  _ h
    · replace h := h.2 hc
      refine g_iload_n C dX8_isUnder_10 rfl ?_
      refine g_iload_n C dX8_isUnder_11 rfl ?_
      refine g_icmp_eq C 30 dX8_isUnder_12 (by decide) (fun hc => ?_) (fun hc => ?_)
      · replace h := h.1 hc
        refine g_locals (lv' := [(1, iv a2), (2, iv v2)]) rfl ?_
        exact hX4_30 _  _ h
      · replace h := h.2 hc
        refine g_iload_n C dX8_isUnder_15 rfl ?_
        refine g_if_eq C 30 dX8_isUnder_16 (by decide) (fun hc => ?_) (fun hc => ?_)
        · replace h := h.1 hc
          refine g_locals (lv' := [(1, iv a2), (2, iv v2)]) rfl ?_
          exact hX4_30 _  _ h
        · replace h := h.2 hc
          refine g_iload_n C dX8_isUnder_19 rfl ?_
          refine g_callSi C (nargs := 1) (st := []) (m_X8_above h) gc_X8_298 (by decide +kernel) ⟨rfl, rfl⟩ dX8_isUnder_20 ⟨by decide, by decide⟩ rfl rfl (Nat.le_of_ble_eq_true rfl) ?_
          intro r20c M20 hN
          replace h := hN
          clear hN
          refine g_istore_n C dX8_isUnder_23 (by decide) rfl ?_
          refine g_locals (lv' := [(1, iv a2), (2, iv r20c), (3, iv v3)]) rfl ?_
          refine g_iinc C dX8_isUnder_24 rfl (by decide) rfl ?_
          refine g_locals (lv' := [(1, iv a2), (2, iv r20c), (3, iv (v3 + 1))]) rfl ?_
          refine g_goto C 4 dX8_isUnder_27 (by decide) ?_
          refine g_locals (lv' := [(1, iv a2), (2, iv r20c), (3, iv (v3 + 1))]) rfl ?_
          exact hr4 _ _  _ h
  have pL4 : ∀  (X4_30 : Int → gSt → Prop) (hX4_30 : ∀ (v2 : Int) (M : gSt), X4_30 v2 M → gG p l e (rmR 1 20) s m args below meth c Q D clC A (wC ad cI cS) 4 30 [(1, iv a2), (2, iv v2)] [] M) (n : Nat) (v2 : Int) (v3 : Int) (M : gSt), wL_X8_isUnder_4 a1 a2 k  X4_30 n v2 v3 M → gG p l e (rmR 1 20) s m args below meth c Q D clC A (wC ad cI cS) 4 4 [(1, iv a2), (2, iv v2), (3, iv v3)] [] M := by
    intro  X4_30 hX4_30 n
    induction n with
    | zero => intro v2 v3 M h; exact h.elim
    | succ n ih =>
      intro v2 v3 M h
      exact pC4  (wL_X8_isUnder_4 a1 a2 k  X4_30 n) X4_30 ih hX4_30 v2 v3 M h
  have pB30 : ∀   (v2 : Int) (M : gSt), wB_X8_isUnder_30 a1 a2 k  v2 M → gG p l e (rmR 1 20) s m args below meth c Q D clC A (wC ad cI cS) 4 30 [(1, iv a2), (2, iv v2)] [] M := by
    intro   v2 M h
    unfold wB_X8_isUnder_30 at h
    refine g_iload_n C dX8_isUnder_30 rfl ?_
    refine g_iload_n C dX8_isUnder_31 rfl ?_
    refine g_icmp_ne C 39 dX8_isUnder_32 (by decide) (fun hc => ?_) (fun hc => ?_)
    · replace h := h.1 hc
      refine g_iconst C dX8_isUnder_39 ?_
      exact hR _ _ _ _ dX8_isUnder_40 rfl h
    · replace h := h.2 hc
      refine g_iconst C dX8_isUnder_35 ?_
      refine g_goto C 40 dX8_isUnder_36 (by decide) ?_
      exact hR _ _ _ _ dX8_isUnder_40 rfl h
  refine g_locals (lv' := [(0, iv a1), (1, iv a2)]) rfl ?_
  refine g_iload_n C dX8_isUnder_0 rfl ?_
  refine g_istore_n C dX8_isUnder_1 (by decide) rfl ?_
  refine g_locals (lv' := [(0, iv a1), (1, iv a2), (2, iv a1)]) rfl ?_
  refine g_iconst C dX8_isUnder_2 ?_
  refine g_istore_n C dX8_isUnder_3 (by decide) rfl ?_
  refine g_locals (lv' := [(0, iv a1), (1, iv a2), (2, iv a1), (3, iv 0)]) rfl ?_
  refine g_locals (lv' := [(1, iv a2), (2, iv a1), (3, iv 0)]) rfl ?_
  obtain ⟨n, h⟩ := h
  refine pL4 _ ?_ n _ _ _ h
  · intro u2_4 M4 hN
    replace h := hN
    clear hN
    refine g_locals (lv' := [(1, iv a2), (2, iv u2_4)]) rfl ?_
    exact pB30 _ _ h
def wB_X8_as_24 (a1 : Int) (a2 : Int) (k : Int → gSt → Prop)   (M : gSt) : Prop :=
w_X8_refuse 1 M (fun r26c M26 => k r26c M26)
def w_X8_as (a1 : Int) (a2 : Int) (M : gSt) (k : Int → gSt → Prop) : Prop :=
  w_X0_has 2 a1 M (fun r8c M8 => 
  (wrap r8c = 0 →
    wB_X8_as_24 a1 a2 k   M8) ∧
  (¬ wrap r8c = 0 →
    w_X8_within a2 0 6 M8 (fun r18c M18 => 
    (¬ wrap r18c = 0 →
      w_X0_number 2 a1 0 M18 (fun r39c M39 => w_X8_isUnder r39c a2 M39 (fun r43c M43 => 
      (¬ wrap r43c = 0 →
        w_X0_number 2 a1 2 M43 (fun r64c M64 => k r64c M64)) ∧
      (wrap r43c = 0 →
        w_X8_refuse 5 M43 (fun r51c M51 => k r51c M51))))) ∧
    (wrap r18c = 0 →
      wB_X8_as_24 a1 a2 k   M18))))
set_option maxHeartbeats 4000000 in
set_option maxRecDepth 100000 in
theorem m_X8_as {l : Launch} {D : va_G} {tys : List (ClassId × FieldType)} {ad : Nat → Nat} {cI cS : ClassId} {a1 : Int} {a2 : Int} {M : gSt} {k : Int → gSt → Prop} (h : w_X8_as a1 a2 M k) : MOi l yX8_as cX8_as 3 .int (rmR 2 45) D clC ((cI, .int) :: (cS, .object "OldBronze$Sheet") :: tys) (wC ad cI cS) tC zC [.ref (ad 0), iv a1, iv a2] M k := by
  refine moi_intro (by decide +kernel) (Nat.le_of_ble_eq_true rfl) wc_436 ?_
  intro p e s m args below meth c A Q C hR
  unfold w_X8_as at h
  have pB24 : ∀    (M : gSt), wB_X8_as_24 a1 a2 k   M → gG p l e (rmR 2 45) s m args below meth c Q D clC A (wC ad cI cS) 3 24 [(0, .ref (ad 0))] [] M := by
    intro    M h
    unfold wB_X8_as_24 at h
    refine g_aload_n C dX8_as_24 rfl ?_
    refine g_iconst C dX8_as_25 ?_
    refine g_callVi C (nargs := 1) (o := 0) (st := []) (m_X8_refuse h) pl_0.1 pl_0.2.1 rfl rfl gc_X8_67 (by decide +kernel) ⟨rfl, rfl⟩ dX8_as_26 ⟨by decide, by decide⟩ rfl rfl (Nat.le_of_ble_eq_true rfl) ?_
    intro r26c M26 hN
    replace h := hN
    clear hN
    exact hR _ _ _ _ dX8_as_29 rfl h
  refine g_locals (lv' := [(0, .ref (ad 0)), (1, iv a1), (2, iv a2)]) rfl ?_
  refine g_aload_n C dX8_as_0 rfl ?_
  refine cf_X8_12 C pl_0 dX8_as_1 ?_
  refine cf_X8_71 C pl_1 dX8_as_4 ?_
  refine g_iload_n C dX8_as_7 rfl ?_
  refine g_callVi C (nargs := 1) (o := 2) (st := []) (m_X0_has h) pl_2.1 pl_2.2.1 rfl rfl gc_X8_82 (by decide +kernel) ⟨rfl, rfl⟩ dX8_as_8 ⟨by decide, by decide⟩ rfl rfl (Nat.le_of_ble_eq_true rfl) ?_
  intro r8c M8 hN
  replace h := hN
  clear hN
  refine g_if_eq C 24 dX8_as_11 (by decide) (fun hc => ?_) (fun hc => ?_)
  · replace h := h.1 hc
    refine g_locals (lv' := [(0, .ref (ad 0))]) rfl ?_
    exact pB24  _ h
  · replace h := h.2 hc
    refine g_iload_n C dX8_as_14 rfl ?_
    refine g_iconst C dX8_as_15 ?_
    refine g_bipush C dX8_as_16 rfl ?_
    refine g_callSi C (nargs := 3) (st := []) (m_X8_within h) gc_X8_63 (by decide +kernel) ⟨rfl, rfl⟩ dX8_as_18 ⟨by decide, by decide⟩ rfl rfl (Nat.le_of_ble_eq_true rfl) ?_
    intro r18c M18 hN
    replace h := hN
    clear hN
    refine g_if_ne C 30 dX8_as_21 (by decide) (fun hc => ?_) (fun hc => ?_)
    · replace h := h.1 hc
      refine g_aload_n C dX8_as_30 rfl ?_
      refine cf_X8_12 C pl_0 dX8_as_31 ?_
      refine cf_X8_71 C pl_1 dX8_as_34 ?_
      refine g_iload_n C dX8_as_37 rfl ?_
      refine g_iconst C dX8_as_38 ?_
      refine g_callVi C (nargs := 2) (o := 2) (st := []) (m_X0_number h) pl_2.1 pl_2.2.1 rfl rfl gc_X8_89 (by decide +kernel) ⟨rfl, rfl⟩ dX8_as_39 ⟨by decide, by decide⟩ rfl rfl (Nat.le_of_ble_eq_true rfl) ?_
      intro r39c M39 hN
      replace h := hN
      clear hN
      refine g_iload_n C dX8_as_42 rfl ?_
      refine g_callSi C (nargs := 2) (st := []) (m_X8_isUnder h) gc_X8_92 (by decide +kernel) ⟨rfl, rfl⟩ dX8_as_43 ⟨by decide, by decide⟩ rfl rfl (Nat.le_of_ble_eq_true rfl) ?_
      intro r43c M43 hN
      replace h := hN
      clear hN
      refine g_if_ne C 55 dX8_as_46 (by decide) (fun hc => ?_) (fun hc => ?_)
      · replace h := h.1 hc
        refine g_aload_n C dX8_as_55 rfl ?_
        refine cf_X8_12 C pl_0 dX8_as_56 ?_
        refine cf_X8_71 C pl_1 dX8_as_59 ?_
        refine g_iload_n C dX8_as_62 rfl ?_
        refine g_iconst C dX8_as_63 ?_
        refine g_callVi C (nargs := 2) (o := 2) (st := []) (m_X0_number h) pl_2.1 pl_2.2.1 rfl rfl gc_X8_89 (by decide +kernel) ⟨rfl, rfl⟩ dX8_as_64 ⟨by decide, by decide⟩ rfl rfl (Nat.le_of_ble_eq_true rfl) ?_
        intro r64c M64 hN
        replace h := hN
        clear hN
        exact hR _ _ _ _ dX8_as_67 rfl h
      · replace h := h.2 hc
        refine g_aload_n C dX8_as_49 rfl ?_
        refine g_iconst C dX8_as_50 ?_
        refine g_callVi C (nargs := 1) (o := 0) (st := []) (m_X8_refuse h) pl_0.1 pl_0.2.1 rfl rfl gc_X8_67 (by decide +kernel) ⟨rfl, rfl⟩ dX8_as_51 ⟨by decide, by decide⟩ rfl rfl (Nat.le_of_ble_eq_true rfl) ?_
        intro r51c M51 hN
        replace h := hN
        clear hN
        exact hR _ _ _ _ dX8_as_54 rfl h
    · replace h := h.2 hc
      refine g_locals (lv' := [(0, .ref (ad 0))]) rfl ?_
      exact pB24  _ h
def wB_X8_set_34 (a1 : Int) (a2 : Int) (a3 : Int) (k : Int → gSt → Prop)   (M : gSt) : Prop :=
w_X8_refuse 1 M (fun r36c M36 => k r36c M36)
def w_X8_set (a1 : Int) (a2 : Int) (a3 : Int) (M : gSt) (k : Int → gSt → Prop) : Prop :=
  w_X0_has 2 a1 M (fun r8c M8 => 
  (wrap r8c = 0 →
    wB_X8_set_34 a1 a2 a3 k   M8) ∧
  (¬ wrap r8c = 0 →
    w_X0_mostSettable 2 a1 a2 M8 (fun r25c M25 => w_X8_within a3 0 r25c M25 (fun r28c M28 => 
    (¬ wrap r28c = 0 →
      w_X0_number 2 a1 a2 M28 (fun r49c M49 => w_X0_become 2 a1 a2 a3 M49 (fun M64 => k r49c M64))) ∧
    (wrap r28c = 0 →
      wB_X8_set_34 a1 a2 a3 k   M28)))))
set_option maxHeartbeats 4000000 in
set_option maxRecDepth 100000 in
theorem m_X8_set {l : Launch} {D : va_G} {tys : List (ClassId × FieldType)} {ad : Nat → Nat} {cI cS : ClassId} {a1 : Int} {a2 : Int} {a3 : Int} {M : gSt} {k : Int → gSt → Prop} (h : w_X8_set a1 a2 a3 M k) : MOi l yX8_set cX8_set 5 .int (rmR 3 67) D clC ((cI, .int) :: (cS, .object "OldBronze$Sheet") :: tys) (wC ad cI cS) tC zC [.ref (ad 0), iv a1, iv a2, iv a3] M k := by
  refine moi_intro (by decide +kernel) (Nat.le_of_ble_eq_true rfl) wc_441 ?_
  intro p e s m args below meth c A Q C hR
  unfold w_X8_set at h
  have pB34 : ∀    (M : gSt), wB_X8_set_34 a1 a2 a3 k   M → gG p l e (rmR 3 67) s m args below meth c Q D clC A (wC ad cI cS) 5 34 [(0, .ref (ad 0))] [] M := by
    intro    M h
    unfold wB_X8_set_34 at h
    refine g_aload_n C dX8_set_34 rfl ?_
    refine g_iconst C dX8_set_35 ?_
    refine g_callVi C (nargs := 1) (o := 0) (st := []) (m_X8_refuse h) pl_0.1 pl_0.2.1 rfl rfl gc_X8_67 (by decide +kernel) ⟨rfl, rfl⟩ dX8_set_36 ⟨by decide, by decide⟩ rfl rfl (Nat.le_of_ble_eq_true rfl) ?_
    intro r36c M36 hN
    replace h := hN
    clear hN
    exact hR _ _ _ _ dX8_set_39 rfl h
  refine g_locals (lv' := [(0, .ref (ad 0)), (1, iv a1), (2, iv a2), (3, iv a3)]) rfl ?_
  refine g_aload_n C dX8_set_0 rfl ?_
  refine cf_X8_12 C pl_0 dX8_set_1 ?_
  refine cf_X8_71 C pl_1 dX8_set_4 ?_
  refine g_iload_n C dX8_set_7 rfl ?_
  refine g_callVi C (nargs := 1) (o := 2) (st := []) (m_X0_has h) pl_2.1 pl_2.2.1 rfl rfl gc_X8_82 (by decide +kernel) ⟨rfl, rfl⟩ dX8_set_8 ⟨by decide, by decide⟩ rfl rfl (Nat.le_of_ble_eq_true rfl) ?_
  intro r8c M8 hN
  replace h := hN
  clear hN
  refine g_if_eq C 34 dX8_set_11 (by decide) (fun hc => ?_) (fun hc => ?_)
  · replace h := h.1 hc
    refine g_locals (lv' := [(0, .ref (ad 0))]) rfl ?_
    exact pB34  _ h
  · replace h := h.2 hc
    refine g_iload_n C dX8_set_14 rfl ?_
    refine g_iconst C dX8_set_15 ?_
    refine g_aload_n C dX8_set_16 rfl ?_
    refine cf_X8_12 C pl_0 dX8_set_17 ?_
    refine cf_X8_71 C pl_1 dX8_set_20 ?_
    refine g_iload_n C dX8_set_23 rfl ?_
    refine g_iload_n C dX8_set_24 rfl ?_
    refine g_callVi C (nargs := 2) (o := 2) (st := [iv 0, iv a3]) (m_X0_mostSettable h) pl_2.1 pl_2.2.1 rfl rfl gc_X8_96 (by decide +kernel) ⟨rfl, rfl⟩ dX8_set_25 ⟨by decide, by decide⟩ rfl rfl (Nat.le_of_ble_eq_true rfl) ?_
    intro r25c M25 hN
    replace h := hN
    clear hN
    refine g_callSi C (nargs := 3) (st := []) (m_X8_within h) gc_X8_63 (by decide +kernel) ⟨rfl, rfl⟩ dX8_set_28 ⟨by decide, by decide⟩ rfl rfl (Nat.le_of_ble_eq_true rfl) ?_
    intro r28c M28 hN
    replace h := hN
    clear hN
    refine g_if_ne C 40 dX8_set_31 (by decide) (fun hc => ?_) (fun hc => ?_)
    · replace h := h.1 hc
      refine g_aload_n C dX8_set_40 rfl ?_
      refine cf_X8_12 C pl_0 dX8_set_41 ?_
      refine cf_X8_71 C pl_1 dX8_set_44 ?_
      refine g_iload_n C dX8_set_47 rfl ?_
      refine g_iload_n C dX8_set_48 rfl ?_
      refine g_callVi C (nargs := 2) (o := 2) (st := []) (m_X0_number h) pl_2.1 pl_2.2.1 rfl rfl gc_X8_89 (by decide +kernel) ⟨rfl, rfl⟩ dX8_set_49 ⟨by decide, by decide⟩ rfl rfl (Nat.le_of_ble_eq_true rfl) ?_
      intro r49c M49 hN
      replace h := hN
      clear hN
      refine g_istore C dX8_set_52 (by decide) rfl ?_
      refine g_locals (lv' := [(0, .ref (ad 0)), (1, iv a1), (2, iv a2), (3, iv a3), (4, iv r49c)]) rfl ?_
      refine g_aload_n C dX8_set_54 rfl ?_
      refine cf_X8_12 C pl_0 dX8_set_55 ?_
      refine cf_X8_71 C pl_1 dX8_set_58 ?_
      refine g_iload_n C dX8_set_61 rfl ?_
      refine g_iload_n C dX8_set_62 rfl ?_
      refine g_iload_n C dX8_set_63 rfl ?_
      refine g_callVv C (nargs := 3) (o := 2) (st := []) (m_X0_become h) pl_2.1 pl_2.2.1 rfl rfl gc_X8_99 (by decide +kernel) ⟨rfl, rfl⟩ dX8_set_64 ⟨by decide, by decide⟩ rfl rfl (Nat.le_of_ble_eq_true rfl) ?_
      intro M64 hN
      replace h := hN
      clear hN
      refine g_iload C dX8_set_67 rfl ?_
      exact hR _ _ _ _ dX8_set_69 rfl h
    · replace h := h.2 hc
      refine g_locals (lv' := [(0, .ref (ad 0))]) rfl ?_
      exact pB34  _ h
def wB_X8_melt_24 (a1 : Int) (a2 : Int) (k : Int → gSt → Prop)   (M : gSt) : Prop :=
w_X8_refuse 1 M (fun r26c M26 => k r26c M26)
def w_X8_melt (a1 : Int) (a2 : Int) (M : gSt) (k : Int → gSt → Prop) : Prop :=
  w_X0_has 2 a1 M (fun r8c M8 => 
  (wrap r8c = 0 →
    wB_X8_melt_24 a1 a2 k   M8) ∧
  (¬ wrap r8c = 0 →
    w_X8_within a2 1 8 M8 (fun r18c M18 => 
    (¬ wrap r18c = 0 →
      w_X0_number 2 a1 2 M18 (fun r39c M39 => 
      (¬ wrap r39c = 0 →
        w_X0_pour 2 a1 12 a2 M39 (fun M62 => w_X0_number 2 12 2 M62 (fun r75c M75 => k r75c M75))) ∧
      (wrap r39c = 0 →
        w_X8_refuse 3 M39 (fun r47c M47 => k r47c M47)))) ∧
    (wrap r18c = 0 →
      wB_X8_melt_24 a1 a2 k   M18))))
set_option maxHeartbeats 4000000 in
set_option maxRecDepth 100000 in
theorem m_X8_melt {l : Launch} {D : va_G} {tys : List (ClassId × FieldType)} {ad : Nat → Nat} {cI cS : ClassId} {a1 : Int} {a2 : Int} {M : gSt} {k : Int → gSt → Prop} (h : w_X8_melt a1 a2 M k) : MOi l yX8_melt cX8_melt 3 .int (rmR 5 123) D clC ((cI, .int) :: (cS, .object "OldBronze$Sheet") :: tys) (wC ad cI cS) tC zC [.ref (ad 0), iv a1, iv a2] M k := by
  refine moi_intro (by decide +kernel) (Nat.le_of_ble_eq_true rfl) wc_443 ?_
  intro p e s m args below meth c A Q C hR
  unfold w_X8_melt at h
  have pB24 : ∀    (M : gSt), wB_X8_melt_24 a1 a2 k   M → gG p l e (rmR 5 123) s m args below meth c Q D clC A (wC ad cI cS) 3 24 [(0, .ref (ad 0))] [] M := by
    intro    M h
    unfold wB_X8_melt_24 at h
    refine g_aload_n C dX8_melt_24 rfl ?_
    refine g_iconst C dX8_melt_25 ?_
    refine g_callVi C (nargs := 1) (o := 0) (st := []) (m_X8_refuse h) pl_0.1 pl_0.2.1 rfl rfl gc_X8_67 (by decide +kernel) ⟨rfl, rfl⟩ dX8_melt_26 ⟨by decide, by decide⟩ rfl rfl (Nat.le_of_ble_eq_true rfl) ?_
    intro r26c M26 hN
    replace h := hN
    clear hN
    exact hR _ _ _ _ dX8_melt_29 rfl h
  refine g_locals (lv' := [(0, .ref (ad 0)), (1, iv a1), (2, iv a2)]) rfl ?_
  refine g_aload_n C dX8_melt_0 rfl ?_
  refine cf_X8_12 C pl_0 dX8_melt_1 ?_
  refine cf_X8_71 C pl_1 dX8_melt_4 ?_
  refine g_iload_n C dX8_melt_7 rfl ?_
  refine g_callVi C (nargs := 1) (o := 2) (st := []) (m_X0_has h) pl_2.1 pl_2.2.1 rfl rfl gc_X8_82 (by decide +kernel) ⟨rfl, rfl⟩ dX8_melt_8 ⟨by decide, by decide⟩ rfl rfl (Nat.le_of_ble_eq_true rfl) ?_
  intro r8c M8 hN
  replace h := hN
  clear hN
  refine g_if_eq C 24 dX8_melt_11 (by decide) (fun hc => ?_) (fun hc => ?_)
  · replace h := h.1 hc
    refine g_locals (lv' := [(0, .ref (ad 0))]) rfl ?_
    exact pB24  _ h
  · replace h := h.2 hc
    refine g_iload_n C dX8_melt_14 rfl ?_
    refine g_iconst C dX8_melt_15 ?_
    refine g_bipush C dX8_melt_16 rfl ?_
    refine g_callSi C (nargs := 3) (st := []) (m_X8_within h) gc_X8_63 (by decide +kernel) ⟨rfl, rfl⟩ dX8_melt_18 ⟨by decide, by decide⟩ rfl rfl (Nat.le_of_ble_eq_true rfl) ?_
    intro r18c M18 hN
    replace h := hN
    clear hN
    refine g_if_ne C 30 dX8_melt_21 (by decide) (fun hc => ?_) (fun hc => ?_)
    · replace h := h.1 hc
      refine g_aload_n C dX8_melt_30 rfl ?_
      refine cf_X8_12 C pl_0 dX8_melt_31 ?_
      refine cf_X8_71 C pl_1 dX8_melt_34 ?_
      refine g_iload_n C dX8_melt_37 rfl ?_
      refine g_iconst C dX8_melt_38 ?_
      refine g_callVi C (nargs := 2) (o := 2) (st := []) (m_X0_number h) pl_2.1 pl_2.2.1 rfl rfl gc_X8_89 (by decide +kernel) ⟨rfl, rfl⟩ dX8_melt_39 ⟨by decide, by decide⟩ rfl rfl (Nat.le_of_ble_eq_true rfl) ?_
      intro r39c M39 hN
      replace h := hN
      clear hN
      refine g_if_ne C 51 dX8_melt_42 (by decide) (fun hc => ?_) (fun hc => ?_)
      · replace h := h.1 hc
        refine g_aload_n C dX8_melt_51 rfl ?_
        refine cf_X8_12 C pl_0 dX8_melt_52 ?_
        refine cf_X8_71 C pl_1 dX8_melt_55 ?_
        refine g_iload_n C dX8_melt_58 rfl ?_
        refine g_bipush C dX8_melt_59 rfl ?_
        refine g_iload_n C dX8_melt_61 rfl ?_
        refine g_callVv C (nargs := 3) (o := 2) (st := []) (m_X0_pour h) pl_2.1 pl_2.2.1 rfl rfl gc_X8_103 (by decide +kernel) ⟨rfl, rfl⟩ dX8_melt_62 ⟨by decide, by decide⟩ rfl rfl (Nat.le_of_ble_eq_true rfl) ?_
        intro M62 hN
        replace h := hN
        clear hN
        refine g_aload_n C dX8_melt_65 rfl ?_
        refine cf_X8_12 C pl_0 dX8_melt_66 ?_
        refine cf_X8_71 C pl_1 dX8_melt_69 ?_
        refine g_bipush C dX8_melt_72 rfl ?_
        refine g_iconst C dX8_melt_74 ?_
        refine g_callVi C (nargs := 2) (o := 2) (st := []) (m_X0_number h) pl_2.1 pl_2.2.1 rfl rfl gc_X8_89 (by decide +kernel) ⟨rfl, rfl⟩ dX8_melt_75 ⟨by decide, by decide⟩ rfl rfl (Nat.le_of_ble_eq_true rfl) ?_
        intro r75c M75 hN
        replace h := hN
        clear hN
        exact hR _ _ _ _ dX8_melt_78 rfl h
      · replace h := h.2 hc
        refine g_aload_n C dX8_melt_45 rfl ?_
        refine g_iconst C dX8_melt_46 ?_
        refine g_callVi C (nargs := 1) (o := 0) (st := []) (m_X8_refuse h) pl_0.1 pl_0.2.1 rfl rfl gc_X8_67 (by decide +kernel) ⟨rfl, rfl⟩ dX8_melt_47 ⟨by decide, by decide⟩ rfl rfl (Nat.le_of_ble_eq_true rfl) ?_
        intro r47c M47 hN
        replace h := hN
        clear hN
        exact hR _ _ _ _ dX8_melt_50 rfl h
    · replace h := h.2 hc
      refine g_locals (lv' := [(0, .ref (ad 0))]) rfl ?_
      exact pB24  _ h
def w_X8_crucible (a1 : Int) (M : gSt) (k : Int → gSt → Prop) : Prop :=
  w_X8_within a1 2 9 M (fun r4c M4 => 
  (¬ wrap r4c = 0 →
    w_X0_number 2 12 a1 M4 (fun r26c M26 => k r26c M26)) ∧
  (wrap r4c = 0 →
    w_X8_refuse 1 M4 (fun r12c M12 => k r12c M12)))
set_option maxHeartbeats 4000000 in
set_option maxRecDepth 100000 in
theorem m_X8_crucible {l : Launch} {D : va_G} {tys : List (ClassId × FieldType)} {ad : Nat → Nat} {cI cS : ClassId} {a1 : Int} {M : gSt} {k : Int → gSt → Prop} (h : w_X8_crucible a1 M k) : MOi l yX8_crucible cX8_crucible 2 .int (rmR 2 45) D clC ((cI, .int) :: (cS, .object "OldBronze$Sheet") :: tys) (wC ad cI cS) tC zC [.ref (ad 0), iv a1] M k := by
  refine moi_intro (by decide +kernel) (Nat.le_of_ble_eq_true rfl) wc_444 ?_
  intro p e s m args below meth c A Q C hR
  unfold w_X8_crucible at h
  refine g_locals (lv' := [(0, .ref (ad 0)), (1, iv a1)]) rfl ?_
  refine g_iload_n C dX8_crucible_0 rfl ?_
  refine g_iconst C dX8_crucible_1 ?_
  refine g_bipush C dX8_crucible_2 rfl ?_
  refine g_callSi C (nargs := 3) (st := []) (m_X8_within h) gc_X8_63 (by decide +kernel) ⟨rfl, rfl⟩ dX8_crucible_4 ⟨by decide, by decide⟩ rfl rfl (Nat.le_of_ble_eq_true rfl) ?_
  intro r4c M4 hN
  replace h := hN
  clear hN
  refine g_if_ne C 16 dX8_crucible_7 (by decide) (fun hc => ?_) (fun hc => ?_)
  · replace h := h.1 hc
    refine g_aload_n C dX8_crucible_16 rfl ?_
    refine cf_X8_12 C pl_0 dX8_crucible_17 ?_
    refine cf_X8_71 C pl_1 dX8_crucible_20 ?_
    refine g_bipush C dX8_crucible_23 rfl ?_
    refine g_iload_n C dX8_crucible_25 rfl ?_
    refine g_callVi C (nargs := 2) (o := 2) (st := []) (m_X0_number h) pl_2.1 pl_2.2.1 rfl rfl gc_X8_89 (by decide +kernel) ⟨rfl, rfl⟩ dX8_crucible_26 ⟨by decide, by decide⟩ rfl rfl (Nat.le_of_ble_eq_true rfl) ?_
    intro r26c M26 hN
    replace h := hN
    clear hN
    exact hR _ _ _ _ dX8_crucible_29 rfl h
  · replace h := h.2 hc
    refine g_aload_n C dX8_crucible_10 rfl ?_
    refine g_iconst C dX8_crucible_11 ?_
    refine g_callVi C (nargs := 1) (o := 0) (st := []) (m_X8_refuse h) pl_0.1 pl_0.2.1 rfl rfl gc_X8_67 (by decide +kernel) ⟨rfl, rfl⟩ dX8_crucible_12 ⟨by decide, by decide⟩ rfl rfl (Nat.le_of_ble_eq_true rfl) ?_
    intro r12c M12 hN
    replace h := hN
    clear hN
    exact hR _ _ _ _ dX8_crucible_15 rfl h
def wB_X8_cast_36 (a1 : Int) (a2 : Int) (a3 : Int) (k : Int → gSt → Prop)   (M : gSt) : Prop :=
w_X8_refuse 1 M (fun r38c M38 => k r38c M38)
def wB_X8_cast_99 (a1 : Int) (a2 : Int) (a3 : Int) (k : Int → gSt → Prop)  (v4 : Int) (v5 : Int) (s0 : Int) (s1 : Int) (M : gSt) : Prop :=

  (wrap s0 ≤ wrap s1 →
    w_X0_addTin 2 a2 M (fun M116 => w_X0_lose 2 12 v4 100 M116 (fun M132 => w_X0_addCast 2 a1 v5 M132 (fun r145c M145 => k r145c M145)))) ∧
  (wrap s1 < wrap s0 →
    w_X8_refuse 4 M (fun r104c M104 => k r104c M104))
def w_X8_cast (a1 : Int) (a2 : Int) (a3 : Int) (M : gSt) (k : Int → gSt → Prop) : Prop :=
  w_X8_isKindAndM a1 M (fun r1c M1 => 
  (wrap r1c = 0 →
    wB_X8_cast_36 a1 a2 a3 k   M1) ∧
  (¬ wrap r1c = 0 →
    w_X8_within a2 0 9999 M1 (fun r12c M12 => 
    (wrap r12c = 0 →
      wB_X8_cast_36 a1 a2 a3 k   M12) ∧
    (¬ wrap r12c = 0 →
      w_X8_within a3 0 990 M12 (fun r23c M23 => 
      (wrap r23c = 0 →
        wB_X8_cast_36 a1 a2 a3 k   M23) ∧
      (¬ wrap r23c = 0 →

        (wrap (Int.tmod (wrap a3) 10) = 0 →
          w_X0_number 2 12 2 M23 (fun r52c M52 => 
          (¬ wrap r52c = 0 →
            ∀ x4_68 : Int, x4_68 = Int.tdiv (wrap a3) 100 → (∀ x5_77 : Int, x5_77 = Int.tmod (wrap (Int.tdiv (wrap a3) 10)) 10 → (w_X0_room 2 M52 (fun r86c M86 => 
            (wrap x5_77 ≤ 0 →
              wB_X8_cast_99 a1 a2 a3 k  x4_68 x5_77 1 r86c M86) ∧
            (0 < wrap x5_77 →
              wB_X8_cast_99 a1 a2 a3 k  x4_68 x5_77 2 r86c M86))))) ∧
          (wrap r52c = 0 →
            w_X8_refuse 3 M52 (fun r60c M60 => k r60c M60)))) ∧
        (¬ wrap (Int.tmod (wrap a3) 10) = 0 →
          wB_X8_cast_36 a1 a2 a3 k   M23)))))))
set_option maxHeartbeats 4000000 in
set_option maxRecDepth 100000 in
theorem m_X8_cast {l : Launch} {D : va_G} {tys : List (ClassId × FieldType)} {ad : Nat → Nat} {cI cS : ClassId} {a1 : Int} {a2 : Int} {a3 : Int} {M : gSt} {k : Int → gSt → Prop} (h : w_X8_cast a1 a2 a3 M k) : MOi l yX8_cast cX8_cast 6 .int (rmR 5 119) D clC ((cI, .int) :: (cS, .object "OldBronze$Sheet") :: tys) (wC ad cI cS) tC zC [.ref (ad 0), iv a1, iv a2, iv a3] M k := by
  refine moi_intro (by decide +kernel) (Nat.le_of_ble_eq_true rfl) wc_452 ?_
  intro p e s m args below meth c A Q C hR
  unfold w_X8_cast at h
  have pB36 : ∀    (M : gSt), wB_X8_cast_36 a1 a2 a3 k   M → gG p l e (rmR 5 119) s m args below meth c Q D clC A (wC ad cI cS) 6 36 [(0, .ref (ad 0))] [] M := by
    intro    M h
    unfold wB_X8_cast_36 at h
    refine g_aload_n C dX8_cast_36 rfl ?_
    refine g_iconst C dX8_cast_37 ?_
    refine g_callVi C (nargs := 1) (o := 0) (st := []) (m_X8_refuse h) pl_0.1 pl_0.2.1 rfl rfl gc_X8_67 (by decide +kernel) ⟨rfl, rfl⟩ dX8_cast_38 ⟨by decide, by decide⟩ rfl rfl (Nat.le_of_ble_eq_true rfl) ?_
    intro r38c M38 hN
    replace h := hN
    clear hN
    exact hR _ _ _ _ dX8_cast_41 rfl h
  have pB99 : ∀   (v4 : Int) (v5 : Int) (s0 : Int) (s1 : Int) (M : gSt), wB_X8_cast_99 a1 a2 a3 k  v4 v5 s0 s1 M → gG p l e (rmR 5 119) s m args below meth c Q D clC A (wC ad cI cS) 6 99 [(0, .ref (ad 0)), (1, iv a1), (2, iv a2), (4, iv v4), (5, iv v5)] [iv s0, iv s1] M := by
    intro   v4 v5 s0 s1 M h
    unfold wB_X8_cast_99 at h
    refine g_icmp_ge C 108 dX8_cast_99 (by decide) (fun hc => ?_) (fun hc => ?_)
    · replace h := h.1 hc
      refine g_aload_n C dX8_cast_108 rfl ?_
      refine cf_X8_12 C pl_0 dX8_cast_109 ?_
      refine cf_X8_71 C pl_1 dX8_cast_112 ?_
      refine g_iload_n C dX8_cast_115 rfl ?_
      refine g_callVv C (nargs := 1) (o := 2) (st := []) (m_X0_addTin h) pl_2.1 pl_2.2.1 rfl rfl gc_X8_106 (by decide +kernel) ⟨rfl, rfl⟩ dX8_cast_116 ⟨by decide, by decide⟩ rfl rfl (Nat.le_of_ble_eq_true rfl) ?_
      intro M116 hN
      replace h := hN
      clear hN
      refine g_aload_n C dX8_cast_119 rfl ?_
      refine cf_X8_12 C pl_0 dX8_cast_120 ?_
      refine cf_X8_71 C pl_1 dX8_cast_123 ?_
      refine g_bipush C dX8_cast_126 rfl ?_
      refine g_iload C dX8_cast_128 rfl ?_
      refine g_bipush C dX8_cast_130 rfl ?_
      refine g_callVv C (nargs := 3) (o := 2) (st := []) (m_X0_lose h) pl_2.1 pl_2.2.1 rfl rfl gc_X8_110 (by decide +kernel) ⟨rfl, rfl⟩ dX8_cast_132 ⟨by decide, by decide⟩ rfl rfl (Nat.le_of_ble_eq_true rfl) ?_
      intro M132 hN
      replace h := hN
      clear hN
      refine g_aload_n C dX8_cast_135 rfl ?_
      refine cf_X8_12 C pl_0 dX8_cast_136 ?_
      refine cf_X8_71 C pl_1 dX8_cast_139 ?_
      refine g_iload_n C dX8_cast_142 rfl ?_
      refine g_iload C dX8_cast_143 rfl ?_
      refine g_callVi C (nargs := 2) (o := 2) (st := []) (m_X0_addCast h) pl_2.1 pl_2.2.1 rfl rfl gc_X8_113 (by decide +kernel) ⟨rfl, rfl⟩ dX8_cast_145 ⟨by decide, by decide⟩ rfl rfl (Nat.le_of_ble_eq_true rfl) ?_
      intro r145c M145 hN
      replace h := hN
      clear hN
      exact hR _ _ _ _ dX8_cast_148 rfl h
    · replace h := h.2 hc
      refine g_aload_n C dX8_cast_102 rfl ?_
      refine g_iconst C dX8_cast_103 ?_
      refine g_callVi C (nargs := 1) (o := 0) (st := []) (m_X8_refuse h) pl_0.1 pl_0.2.1 rfl rfl gc_X8_67 (by decide +kernel) ⟨rfl, rfl⟩ dX8_cast_104 ⟨by decide, by decide⟩ rfl rfl (Nat.le_of_ble_eq_true rfl) ?_
      intro r104c M104 hN
      replace h := hN
      clear hN
      exact hR _ _ _ _ dX8_cast_107 rfl h
  refine g_locals (lv' := [(0, .ref (ad 0)), (1, iv a1), (2, iv a2), (3, iv a3)]) rfl ?_
  refine g_iload_n C dX8_cast_0 rfl ?_
  refine g_callSi C (nargs := 1) (st := []) (m_X8_isKindAndM h) gc_X8_58 (by decide +kernel) ⟨rfl, rfl⟩ dX8_cast_1 ⟨by decide, by decide⟩ rfl rfl (Nat.le_of_ble_eq_true rfl) ?_
  intro r1c M1 hN
  replace h := hN
  clear hN
  refine g_if_eq C 36 dX8_cast_4 (by decide) (fun hc => ?_) (fun hc => ?_)
  · replace h := h.1 hc
    refine g_locals (lv' := [(0, .ref (ad 0))]) rfl ?_
    exact pB36  _ h
  · replace h := h.2 hc
    refine g_iload_n C dX8_cast_7 rfl ?_
    refine g_iconst C dX8_cast_8 ?_
    refine g_sipush C dX8_cast_9 rfl ?_
    refine g_callSi C (nargs := 3) (st := []) (m_X8_within h) gc_X8_63 (by decide +kernel) ⟨rfl, rfl⟩ dX8_cast_12 ⟨by decide, by decide⟩ rfl rfl (Nat.le_of_ble_eq_true rfl) ?_
    intro r12c M12 hN
    replace h := hN
    clear hN
    refine g_if_eq C 36 dX8_cast_15 (by decide) (fun hc => ?_) (fun hc => ?_)
    · replace h := h.1 hc
      refine g_locals (lv' := [(0, .ref (ad 0))]) rfl ?_
      exact pB36  _ h
    · replace h := h.2 hc
      refine g_iload_n C dX8_cast_18 rfl ?_
      refine g_iconst C dX8_cast_19 ?_
      refine g_sipush C dX8_cast_20 rfl ?_
      refine g_callSi C (nargs := 3) (st := []) (m_X8_within h) gc_X8_63 (by decide +kernel) ⟨rfl, rfl⟩ dX8_cast_23 ⟨by decide, by decide⟩ rfl rfl (Nat.le_of_ble_eq_true rfl) ?_
      intro r23c M23 hN
      replace h := hN
      clear hN
      refine g_if_eq C 36 dX8_cast_26 (by decide) (fun hc => ?_) (fun hc => ?_)
      · replace h := h.1 hc
        refine g_locals (lv' := [(0, .ref (ad 0))]) rfl ?_
        exact pB36  _ h
      · replace h := h.2 hc
        refine g_iload_n C dX8_cast_29 rfl ?_
        refine g_bipush C dX8_cast_30 rfl ?_
        refine g_irem C dX8_cast_32 (by decide) ?_
        refine g_top (y := Int.tmod (wrap a3) 10) rfl ?_
        refine g_if_eq C 42 dX8_cast_33 (by decide) (fun hc => ?_) (fun hc => ?_)
        · replace h := h.1 hc
          refine g_aload_n C dX8_cast_42 rfl ?_
          refine cf_X8_12 C pl_0 dX8_cast_43 ?_
          refine cf_X8_71 C pl_1 dX8_cast_46 ?_
          refine g_bipush C dX8_cast_49 rfl ?_
          refine g_iconst C dX8_cast_51 ?_
          refine g_callVi C (nargs := 2) (o := 2) (st := []) (m_X0_number h) pl_2.1 pl_2.2.1 rfl rfl gc_X8_89 (by decide +kernel) ⟨rfl, rfl⟩ dX8_cast_52 ⟨by decide, by decide⟩ rfl rfl (Nat.le_of_ble_eq_true rfl) ?_
          intro r52c M52 hN
          replace h := hN
          clear hN
          refine g_if_ne C 64 dX8_cast_55 (by decide) (fun hc => ?_) (fun hc => ?_)
          · replace h := h.1 hc
            refine g_iload_n C dX8_cast_64 rfl ?_
            refine g_bipush C dX8_cast_65 rfl ?_
            refine g_idiv C dX8_cast_67 (by decide) ?_
            refine g_top (y := Int.tdiv (wrap a3) 100) rfl ?_
            refine g_name (fun x4_68 hx4_68 => ?_)
            replace h := h x4_68 hx4_68
            refine g_istore C dX8_cast_68 (by decide) rfl ?_
            refine g_locals (lv' := [(0, .ref (ad 0)), (1, iv a1), (2, iv a2), (3, iv a3), (4, iv x4_68)]) rfl ?_
            refine g_iload_n C dX8_cast_70 rfl ?_
            refine g_bipush C dX8_cast_71 rfl ?_
            refine g_idiv C dX8_cast_73 (by decide) ?_
            refine g_top (y := Int.tdiv (wrap a3) 10) rfl ?_
            refine g_bipush C dX8_cast_74 rfl ?_
            refine g_irem C dX8_cast_76 (by decide) ?_
            refine g_top (y := Int.tmod (wrap (Int.tdiv (wrap a3) 10)) 10) rfl ?_
            refine g_name (fun x5_77 hx5_77 => ?_)
            replace h := h x5_77 hx5_77
            refine g_istore C dX8_cast_77 (by decide) rfl ?_
            refine g_locals (lv' := [(0, .ref (ad 0)), (1, iv a1), (2, iv a2), (3, iv a3), (4, iv x4_68), (5, iv x5_77)]) rfl ?_
            refine g_aload_n C dX8_cast_79 rfl ?_
            refine cf_X8_12 C pl_0 dX8_cast_80 ?_
            refine cf_X8_71 C pl_1 dX8_cast_83 ?_
            refine g_callVi C (nargs := 0) (o := 2) (st := []) (m_X0_room h) pl_2.1 pl_2.2.1 rfl rfl gc_X8_74 (by decide +kernel) ⟨rfl, rfl⟩ dX8_cast_86 ⟨by decide, by decide⟩ rfl rfl (Nat.le_of_ble_eq_true rfl) ?_
            intro r86c M86 hN
            replace h := hN
            clear hN
            refine g_iload C dX8_cast_89 rfl ?_
            refine g_if_le C 98 dX8_cast_91 (by decide) (fun hc => ?_) (fun hc => ?_)
            · replace h := h.1 hc
              refine g_iconst C dX8_cast_98 ?_
              refine g_locals (lv' := [(0, .ref (ad 0)), (1, iv a1), (2, iv a2), (4, iv x4_68), (5, iv x5_77)]) rfl ?_
              exact pB99 _ _ _ _ _ h
            · replace h := h.2 hc
              refine g_iconst C dX8_cast_94 ?_
              refine g_goto C 99 dX8_cast_95 (by decide) ?_
              refine g_locals (lv' := [(0, .ref (ad 0)), (1, iv a1), (2, iv a2), (4, iv x4_68), (5, iv x5_77)]) rfl ?_
              exact pB99 _ _ _ _ _ h
          · replace h := h.2 hc
            refine g_aload_n C dX8_cast_58 rfl ?_
            refine g_iconst C dX8_cast_59 ?_
            refine g_callVi C (nargs := 1) (o := 0) (st := []) (m_X8_refuse h) pl_0.1 pl_0.2.1 rfl rfl gc_X8_67 (by decide +kernel) ⟨rfl, rfl⟩ dX8_cast_60 ⟨by decide, by decide⟩ rfl rfl (Nat.le_of_ble_eq_true rfl) ?_
            intro r60c M60 hN
            replace h := hN
            clear hN
            exact hR _ _ _ _ dX8_cast_63 rfl h
        · replace h := h.2 hc
          refine g_locals (lv' := [(0, .ref (ad 0))]) rfl ?_
          exact pB36  _ h
def w_X8_years (a1 : Int) (M : gSt) (k : Int → gSt → Prop) : Prop :=
  w_X8_within a1 1 60 M (fun r4c M4 => 
  (¬ wrap r4c = 0 →
    w_X0_yearsSoFar 2 M4 (fun r23c M23 => 
    (wrap (r23c + a1) ≤ 9999 →
      w_X0_passYears 2 a1 M23 (fun M48 => w_X0_allGrams 2 M48 (fun r58c M58 => k r58c M58))) ∧
    (9999 < wrap (r23c + a1) →
      w_X8_refuse 3 M23 (fun r36c M36 => k r36c M36)))) ∧
  (wrap r4c = 0 →
    w_X8_refuse 1 M4 (fun r12c M12 => k r12c M12)))
set_option maxHeartbeats 4000000 in
set_option maxRecDepth 100000 in
theorem m_X8_years {l : Launch} {D : va_G} {tys : List (ClassId × FieldType)} {ad : Nat → Nat} {cI cS : ClassId} {a1 : Int} {M : gSt} {k : Int → gSt → Prop} (h : w_X8_years a1 M k) : MOi l yX8_years cX8_years 2 .int (rmR 6 136) D clC ((cI, .int) :: (cS, .object "OldBronze$Sheet") :: tys) (wC ad cI cS) tC zC [.ref (ad 0), iv a1] M k := by
  refine moi_intro (by decide +kernel) (Nat.le_of_ble_eq_true rfl) wc_462 ?_
  intro p e s m args below meth c A Q C hR
  unfold w_X8_years at h
  refine g_locals (lv' := [(0, .ref (ad 0)), (1, iv a1)]) rfl ?_
  refine g_iload_n C dX8_years_0 rfl ?_
  refine g_iconst C dX8_years_1 ?_
  refine g_bipush C dX8_years_2 rfl ?_
  refine g_callSi C (nargs := 3) (st := []) (m_X8_within h) gc_X8_63 (by decide +kernel) ⟨rfl, rfl⟩ dX8_years_4 ⟨by decide, by decide⟩ rfl rfl (Nat.le_of_ble_eq_true rfl) ?_
  intro r4c M4 hN
  replace h := hN
  clear hN
  refine g_if_ne C 16 dX8_years_7 (by decide) (fun hc => ?_) (fun hc => ?_)
  · replace h := h.1 hc
    refine g_aload_n C dX8_years_16 rfl ?_
    refine cf_X8_12 C pl_0 dX8_years_17 ?_
    refine cf_X8_71 C pl_1 dX8_years_20 ?_
    refine g_callVi C (nargs := 0) (o := 2) (st := []) (m_X0_yearsSoFar h) pl_2.1 pl_2.2.1 rfl rfl gc_X8_116 (by decide +kernel) ⟨rfl, rfl⟩ dX8_years_23 ⟨by decide, by decide⟩ rfl rfl (Nat.le_of_ble_eq_true rfl) ?_
    intro r23c M23 hN
    replace h := hN
    clear hN
    refine g_iload_n C dX8_years_26 rfl ?_
    refine g_iadd C dX8_years_27 ?_
    refine g_sipush C dX8_years_28 rfl ?_
    refine g_icmp_le C 40 dX8_years_31 (by decide) (fun hc => ?_) (fun hc => ?_)
    · replace h := h.1 hc
      refine g_aload_n C dX8_years_40 rfl ?_
      refine cf_X8_12 C pl_0 dX8_years_41 ?_
      refine cf_X8_71 C pl_1 dX8_years_44 ?_
      refine g_iload_n C dX8_years_47 rfl ?_
      refine g_callVv C (nargs := 1) (o := 2) (st := []) (m_X0_passYears h) pl_2.1 pl_2.2.1 rfl rfl gc_X8_119 (by decide +kernel) ⟨rfl, rfl⟩ dX8_years_48 ⟨by decide, by decide⟩ rfl rfl (Nat.le_of_ble_eq_true rfl) ?_
      intro M48 hN
      replace h := hN
      clear hN
      refine g_aload_n C dX8_years_51 rfl ?_
      refine cf_X8_12 C pl_0 dX8_years_52 ?_
      refine cf_X8_71 C pl_1 dX8_years_55 ?_
      refine g_callVi C (nargs := 0) (o := 2) (st := []) (m_X0_allGrams h) pl_2.1 pl_2.2.1 rfl rfl gc_X8_122 (by decide +kernel) ⟨rfl, rfl⟩ dX8_years_58 ⟨by decide, by decide⟩ rfl rfl (Nat.le_of_ble_eq_true rfl) ?_
      intro r58c M58 hN
      replace h := hN
      clear hN
      exact hR _ _ _ _ dX8_years_61 rfl h
    · replace h := h.2 hc
      refine g_aload_n C dX8_years_34 rfl ?_
      refine g_iconst C dX8_years_35 ?_
      refine g_callVi C (nargs := 1) (o := 0) (st := []) (m_X8_refuse h) pl_0.1 pl_0.2.1 rfl rfl gc_X8_67 (by decide +kernel) ⟨rfl, rfl⟩ dX8_years_36 ⟨by decide, by decide⟩ rfl rfl (Nat.le_of_ble_eq_true rfl) ?_
      intro r36c M36 hN
      replace h := hN
      clear hN
      exact hR _ _ _ _ dX8_years_39 rfl h
  · replace h := h.2 hc
    refine g_aload_n C dX8_years_10 rfl ?_
    refine g_iconst C dX8_years_11 ?_
    refine g_callVi C (nargs := 1) (o := 0) (st := []) (m_X8_refuse h) pl_0.1 pl_0.2.1 rfl rfl gc_X8_67 (by decide +kernel) ⟨rfl, rfl⟩ dX8_years_12 ⟨by decide, by decide⟩ rfl rfl (Nat.le_of_ble_eq_true rfl) ?_
    intro r12c M12 hN
    replace h := hN
    clear hN
    exact hR _ _ _ _ dX8_years_15 rfl h
def wB_X8_then_34 (a1 : Int) (a2 : Int) (a3 : Int) (k : Int → gSt → Prop)   (M : gSt) : Prop :=
w_X8_refuse 1 M (fun r36c M36 => k r36c M36)
def w_X8_then (a1 : Int) (a2 : Int) (a3 : Int) (M : gSt) (k : Int → gSt → Prop) : Prop :=
  w_X8_within a1 0 60 M (fun r4c M4 => 
  (wrap r4c = 0 →
    wB_X8_then_34 a1 a2 a3 k   M4) ∧
  (¬ wrap r4c = 0 →
    w_X0_has 2 a2 M4 (fun r18c M18 => 
    (wrap r18c = 0 →
      wB_X8_then_34 a1 a2 a3 k   M18) ∧
    (¬ wrap r18c = 0 →
      w_X8_within a3 0 10 M18 (fun r28c M28 => 
      (¬ wrap r28c = 0 →
        w_X0_copyFrom 39 2 M28 (fun M51 => w_X0_passYears 39 a1 M51 (fun M59 => w_X1_numberOf 1 39 a2 a3 M59 (fun r72c M72 => k r72c M72)))) ∧
      (wrap r28c = 0 →
        wB_X8_then_34 a1 a2 a3 k   M28))))))
set_option maxHeartbeats 4000000 in
set_option maxRecDepth 100000 in
theorem m_X8_then {l : Launch} {D : va_G} {tys : List (ClassId × FieldType)} {ad : Nat → Nat} {cI cS : ClassId} {a1 : Int} {a2 : Int} {a3 : Int} {M : gSt} {k : Int → gSt → Prop} (h : w_X8_then a1 a2 a3 M k) : MOi l yX8_then cX8_then 4 .int (rmR 6 136) D clC ((cI, .int) :: (cS, .object "OldBronze$Sheet") :: tys) (wC ad cI cS) tC zC [.ref (ad 0), iv a1, iv a2, iv a3] M k := by
  refine moi_intro (by decide +kernel) (Nat.le_of_ble_eq_true rfl) wc_464 ?_
  intro p e s m args below meth c A Q C hR
  unfold w_X8_then at h
  have pB34 : ∀    (M : gSt), wB_X8_then_34 a1 a2 a3 k   M → gG p l e (rmR 6 136) s m args below meth c Q D clC A (wC ad cI cS) 4 34 [(0, .ref (ad 0))] [] M := by
    intro    M h
    unfold wB_X8_then_34 at h
    refine g_aload_n C dX8_then_34 rfl ?_
    refine g_iconst C dX8_then_35 ?_
    refine g_callVi C (nargs := 1) (o := 0) (st := []) (m_X8_refuse h) pl_0.1 pl_0.2.1 rfl rfl gc_X8_67 (by decide +kernel) ⟨rfl, rfl⟩ dX8_then_36 ⟨by decide, by decide⟩ rfl rfl (Nat.le_of_ble_eq_true rfl) ?_
    intro r36c M36 hN
    replace h := hN
    clear hN
    exact hR _ _ _ _ dX8_then_39 rfl h
  refine g_locals (lv' := [(0, .ref (ad 0)), (1, iv a1), (2, iv a2), (3, iv a3)]) rfl ?_
  refine g_iload_n C dX8_then_0 rfl ?_
  refine g_iconst C dX8_then_1 ?_
  refine g_bipush C dX8_then_2 rfl ?_
  refine g_callSi C (nargs := 3) (st := []) (m_X8_within h) gc_X8_63 (by decide +kernel) ⟨rfl, rfl⟩ dX8_then_4 ⟨by decide, by decide⟩ rfl rfl (Nat.le_of_ble_eq_true rfl) ?_
  intro r4c M4 hN
  replace h := hN
  clear hN
  refine g_if_eq C 34 dX8_then_7 (by decide) (fun hc => ?_) (fun hc => ?_)
  · replace h := h.1 hc
    refine g_locals (lv' := [(0, .ref (ad 0))]) rfl ?_
    exact pB34  _ h
  · replace h := h.2 hc
    refine g_aload_n C dX8_then_10 rfl ?_
    refine cf_X8_12 C pl_0 dX8_then_11 ?_
    refine cf_X8_71 C pl_1 dX8_then_14 ?_
    refine g_iload_n C dX8_then_17 rfl ?_
    refine g_callVi C (nargs := 1) (o := 2) (st := []) (m_X0_has h) pl_2.1 pl_2.2.1 rfl rfl gc_X8_82 (by decide +kernel) ⟨rfl, rfl⟩ dX8_then_18 ⟨by decide, by decide⟩ rfl rfl (Nat.le_of_ble_eq_true rfl) ?_
    intro r18c M18 hN
    replace h := hN
    clear hN
    refine g_if_eq C 34 dX8_then_21 (by decide) (fun hc => ?_) (fun hc => ?_)
    · replace h := h.1 hc
      refine g_locals (lv' := [(0, .ref (ad 0))]) rfl ?_
      exact pB34  _ h
    · replace h := h.2 hc
      refine g_iload_n C dX8_then_24 rfl ?_
      refine g_iconst C dX8_then_25 ?_
      refine g_bipush C dX8_then_26 rfl ?_
      refine g_callSi C (nargs := 3) (st := []) (m_X8_within h) gc_X8_63 (by decide +kernel) ⟨rfl, rfl⟩ dX8_then_28 ⟨by decide, by decide⟩ rfl rfl (Nat.le_of_ble_eq_true rfl) ?_
      intro r28c M28 hN
      replace h := hN
      clear hN
      refine g_if_ne C 40 dX8_then_31 (by decide) (fun hc => ?_) (fun hc => ?_)
      · replace h := h.1 hc
        refine g_aload_n C dX8_then_40 rfl ?_
        refine cf_X8_22 C pl_0 dX8_then_41 ?_
        refine g_aload_n C dX8_then_44 rfl ?_
        refine cf_X8_12 C pl_0 dX8_then_45 ?_
        refine cf_X8_71 C pl_1 dX8_then_48 ?_
        refine g_callVv C (nargs := 1) (o := 39) (st := []) (m_X0_copyFrom h) pl_39.1 pl_39.2.1 rfl rfl gc_X8_125 (by decide +kernel) ⟨rfl, rfl⟩ dX8_then_51 ⟨by decide, by decide⟩ rfl rfl (Nat.le_of_ble_eq_true rfl) ?_
        intro M51 hN
        replace h := hN
        clear hN
        refine g_aload_n C dX8_then_54 rfl ?_
        refine cf_X8_22 C pl_0 dX8_then_55 ?_
        refine g_iload_n C dX8_then_58 rfl ?_
        refine g_callVv C (nargs := 1) (o := 39) (st := []) (m_X0_passYears h) pl_39.1 pl_39.2.1 rfl rfl gc_X8_119 (by decide +kernel) ⟨rfl, rfl⟩ dX8_then_59 ⟨by decide, by decide⟩ rfl rfl (Nat.le_of_ble_eq_true rfl) ?_
        intro M59 hN
        replace h := hN
        clear hN
        refine g_aload_n C dX8_then_62 rfl ?_
        refine cf_X8_12 C pl_0 dX8_then_63 ?_
        refine g_aload_n C dX8_then_66 rfl ?_
        refine cf_X8_22 C pl_0 dX8_then_67 ?_
        refine g_iload_n C dX8_then_70 rfl ?_
        refine g_iload_n C dX8_then_71 rfl ?_
        refine g_callVi C (nargs := 3) (o := 1) (st := []) (m_X1_numberOf h) pl_1.1 pl_1.2 rfl rfl gc_X8_85 (by decide +kernel) ⟨rfl, rfl⟩ dX8_then_72 ⟨by decide, by decide⟩ rfl rfl (Nat.le_of_ble_eq_true rfl) ?_
        intro r72c M72 hN
        replace h := hN
        clear hN
        exact hR _ _ _ _ dX8_then_75 rfl h
      · replace h := h.2 hc
        refine g_locals (lv' := [(0, .ref (ad 0))]) rfl ?_
        exact pB34  _ h
