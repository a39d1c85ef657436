section
-- WHAT EACH METHOD OF THE CLASS COMES TO, and that its call comes to it (walk.py, cls_walk.py)
theorem orv_cat (ad : Nat → Nat) (r : Option Nat) : (orv ad r).category = 1 := by cases r <;> rfl
def w_X0_size (o : Nat) (M : gSt) (k : Int → gSt → Prop) : Prop :=
  (isBronze o) ∧ (k (M o 1) M)
set_option maxHeartbeats 4000000 in
set_option maxRecDepth 100000 in
theorem m_X0_size {l : Launch} {D : va_G} {tys : List (ClassId × FieldType)} {ad : Nat → Nat} {cI cS : ClassId} {o : Nat} {M : gSt} {k : Int → gSt → Prop} (h : w_X0_size o M k) : MOi l yX0_size cX0_size 1 .int (rmR 0 0) D clC ((cI, .int) :: (cS, .object "OldBronze$Sheet") :: tys) (wC ad cI cS) tC zC [.ref (ad o)] M k := by
  refine moi_intro (by decide +kernel) (Nat.le_of_ble_eq_true rfl) wc_7 ?_
  intro p e s m args below meth c A Q C hR
  unfold w_X0_size at h
  obtain ⟨h_o, h⟩ := h
  refine g_locals (lv' := [(0, .ref (ad o))]) rfl ?_
  refine g_aload_n C dX0_size_0 rfl ?_
  refine cf_X0_19 C h_o dX0_size_1 ?_
  exact hR _ _ _ _ dX0_size_4 rfl h
def w_X0_room (o : Nat) (M : gSt) (k : Int → gSt → Prop) : Prop :=
  (isBronze o) ∧ (k (12 - (M o 1)) M)
set_option maxHeartbeats 4000000 in
set_option maxRecDepth 100000 in
theorem m_X0_room {l : Launch} {D : va_G} {tys : List (ClassId × FieldType)} {ad : Nat → Nat} {cI cS : ClassId} {o : Nat} {M : gSt} {k : Int → gSt → Prop} (h : w_X0_room o M k) : MOi l yX0_room cX0_room 1 .int (rmR 0 0) D clC ((cI, .int) :: (cS, .object "OldBronze$Sheet") :: tys) (wC ad cI cS) tC zC [.ref (ad o)] M k := by
  refine moi_intro (by decide +kernel) (Nat.le_of_ble_eq_true rfl) wc_9 ?_
  intro p e s m args below meth c A Q C hR
  unfold w_X0_room at h
  obtain ⟨h_o, h⟩ := h
  refine g_locals (lv' := [(0, .ref (ad o))]) rfl ?_
  refine g_bipush C dX0_room_0 rfl ?_
  refine g_aload_n C dX0_room_2 rfl ?_
  refine cf_X0_19 C h_o dX0_room_3 ?_
  refine g_isub C dX0_room_6 ?_
  exact hR _ _ _ _ dX0_room_7 rfl h
def w_X0_has (o : Nat) (a1 : Int) (M : gSt) (k : Int → gSt → Prop) : Prop :=
  (isBronze o) ∧ (
  (wrap a1 < 0 →
    k 0 M) ∧
  (0 ≤ wrap a1 →

    (wrap (M o 1) ≤ wrap a1 →
      k 0 M) ∧
    (wrap a1 < wrap (M o 1) →
      k 1 M)))
set_option maxHeartbeats 4000000 in
set_option maxRecDepth 100000 in
theorem m_X0_has {l : Launch} {D : va_G} {tys : List (ClassId × FieldType)} {ad : Nat → Nat} {cI cS : ClassId} {o : Nat} {a1 : Int} {M : gSt} {k : Int → gSt → Prop} (h : w_X0_has o a1 M k) : MOi l yX0_has cX0_has 2 .boolean (rmR 0 0) D clC ((cI, .int) :: (cS, .object "OldBronze$Sheet") :: tys) (wC ad cI cS) tC zC [.ref (ad o), iv a1] M k := by
  refine moi_intro (by decide +kernel) (Nat.le_of_ble_eq_true rfl) wc_10 ?_
  intro p e s m args below meth c A Q C hR
  unfold w_X0_has at h
  obtain ⟨h_o, h⟩ := h
  refine g_locals (lv' := [(0, .ref (ad o)), (1, iv a1)]) rfl ?_
  refine g_iload_n C dX0_has_0 rfl ?_
  refine g_if_lt C 16 dX0_has_1 (by decide) (fun hc => ?_) (fun hc => ?_)
  · replace h := h.1 hc
    refine g_iconst C dX0_has_16 ?_
    exact hR _ _ _ _ dX0_has_17 rfl h
  · replace h := h.2 hc
    refine g_iload_n C dX0_has_4 rfl ?_
    refine g_aload_n C dX0_has_5 rfl ?_
    refine cf_X0_19 C h_o dX0_has_6 ?_
    refine g_icmp_ge C 16 dX0_has_9 (by decide) (fun hc => ?_) (fun hc => ?_)
    · replace h := h.1 hc
      refine g_iconst C dX0_has_16 ?_
      exact hR _ _ _ _ dX0_has_17 rfl h
    · replace h := h.2 hc
      refine g_iconst C dX0_has_12 ?_
      refine g_goto C 17 dX0_has_13 (by decide) ?_
      exact hR _ _ _ _ dX0_has_17 rfl h
def w_X0_firstsThatCount (o : Nat) (M : gSt) (k : Int → gSt → Prop) : Prop :=
  (isBronze o) ∧ (k (M o 2) M)
set_option maxHeartbeats 4000000 in
set_option maxRecDepth 100000 in
theorem m_X0_firstsThatCount {l : Launch} {D : va_G} {tys : List (ClassId × FieldType)} {ad : Nat → Nat} {cI cS : ClassId} {o : Nat} {M : gSt} {k : Int → gSt → Prop} (h : w_X0_firstsThatCount o M k) : MOi l yX0_firstsThatCount cX0_firstsThatCount 1 .int (rmR 0 0) D clC ((cI, .int) :: (cS, .object "OldBronze$Sheet") :: tys) (wC ad cI cS) tC zC [.ref (ad o)] M k := by
  refine moi_intro (by decide +kernel) (Nat.le_of_ble_eq_true rfl) wc_11 ?_
  intro p e s m args below meth c A Q C hR
  unfold w_X0_firstsThatCount at h
  obtain ⟨h_o, h⟩ := h
  refine g_locals (lv' := [(0, .ref (ad o))]) rfl ?_
  refine g_aload_n C dX0_firstsThatCount_0 rfl ?_
  refine cf_X0_22 C h_o dX0_firstsThatCount_1 ?_
  exact hR _ _ _ _ dX0_firstsThatCount_4 rfl h
def w_X0_yearsSoFar (o : Nat) (M : gSt) (k : Int → gSt → Prop) : Prop :=
  (isBronze o) ∧ (k (M o 3) M)
set_option maxHeartbeats 4000000 in
set_option maxRecDepth 100000 in
theorem m_X0_yearsSoFar {l : Launch} {D : va_G} {tys : List (ClassId × FieldType)} {ad : Nat → Nat} {cI cS : ClassId} {o : Nat} {M : gSt} {k : Int → gSt → Prop} (h : w_X0_yearsSoFar o M k) : MOi l yX0_yearsSoFar cX0_yearsSoFar 1 .int (rmR 0 0) D clC ((cI, .int) :: (cS, .object "OldBronze$Sheet") :: tys) (wC ad cI cS) tC zC [.ref (ad o)] M k := by
  refine moi_intro (by decide +kernel) (Nat.le_of_ble_eq_true rfl) wc_13 ?_
  intro p e s m args below meth c A Q C hR
  unfold w_X0_yearsSoFar at h
  obtain ⟨h_o, h⟩ := h
  refine g_locals (lv' := [(0, .ref (ad o))]) rfl ?_
  refine g_aload_n C dX0_yearsSoFar_0 rfl ?_
  refine cf_X0_25 C h_o dX0_yearsSoFar_1 ?_
  exact hR _ _ _ _ dX0_yearsSoFar_4 rfl h
def w_X0_lastDraw (o : Nat) (M : gSt) (k : Int → gSt → Prop) : Prop :=
  (isBronze o) ∧ (k (M o 4) M)
set_option maxHeartbeats 4000000 in
set_option maxRecDepth 100000 in
theorem m_X0_lastDraw {l : Launch} {D : va_G} {tys : List (ClassId × FieldType)} {ad : Nat → Nat} {cI cS : ClassId} {o : Nat} {M : gSt} {k : Int → gSt → Prop} (h : w_X0_lastDraw o M k) : MOi l yX0_lastDraw cX0_lastDraw 1 .int (rmR 0 0) D clC ((cI, .int) :: (cS, .object "OldBronze$Sheet") :: tys) (wC ad cI cS) tC zC [.ref (ad o)] M k := by
  refine moi_intro (by decide +kernel) (Nat.le_of_ble_eq_true rfl) wc_15 ?_
  intro p e s m args below meth c A Q C hR
  unfold w_X0_lastDraw at h
  obtain ⟨h_o, h⟩ := h
  refine g_locals (lv' := [(0, .ref (ad o))]) rfl ?_
  refine g_aload_n C dX0_lastDraw_0 rfl ?_
  refine cf_X0_15 C h_o dX0_lastDraw_1 ?_
  exact hR _ _ _ _ dX0_lastDraw_4 rfl h
def w_X0_reseed (o : Nat) (a1 : Int) (M : gSt) (k : Int → gSt → Prop) : Prop :=
  (isBronze o) ∧ (∀ x2_4 : Int, x2_4 = M o 4 → (∀ M7 : gSt, M7 = wr M o 4 a1 → (k x2_4 M7)))
set_option maxHeartbeats 4000000 in
set_option maxRecDepth 100000 in
theorem m_X0_reseed {l : Launch} {D : va_G} {tys : List (ClassId × FieldType)} {ad : Nat → Nat} {cI cS : ClassId} {o : Nat} {a1 : Int} {M : gSt} {k : Int → gSt → Prop} (h : w_X0_reseed o a1 M k) : MOi l yX0_reseed cX0_reseed 3 .int (rmR 0 0) D clC ((cI, .int) :: (cS, .object "OldBronze$Sheet") :: tys) (wC ad cI cS) tC zC [.ref (ad o), iv a1] M k := by
  refine moi_intro (by decide +kernel) (Nat.le_of_ble_eq_true rfl) wc_16 ?_
  intro p e s m args below meth c A Q C hR
  unfold w_X0_reseed at h
  obtain ⟨h_o, h⟩ := h
  refine g_locals (lv' := [(0, .ref (ad o)), (1, iv a1)]) rfl ?_
  refine g_aload_n C dX0_reseed_0 rfl ?_
  refine cf_X0_15 C h_o dX0_reseed_1 ?_
  refine g_name (fun x2_4 hx2_4 => ?_)
  replace h := h x2_4 hx2_4
  refine g_istore_n C dX0_reseed_4 (by decide) rfl ?_
  refine g_locals (lv' := [(0, .ref (ad o)), (1, iv a1), (2, iv x2_4)]) rfl ?_
  refine g_aload_n C dX0_reseed_5 rfl ?_
  refine g_iload_n C dX0_reseed_6 rfl ?_
  refine cp_X0_15 C h_o dX0_reseed_7 ?_
  refine g_memname (fun M7 hM7 => ?_)
  replace h := h M7 hM7
  refine g_iload_n C dX0_reseed_10 rfl ?_
  exact hR _ _ _ _ dX0_reseed_11 rfl h
def wB_X0_placeOf_25 (a1 : Int) (a2 : Int) (k : Int → gSt → Prop)  (s0 : Int) (M : gSt) : Prop :=

  (wrap s0 = 0 →
    k (-1) M) ∧
  (¬ wrap s0 = 0 →
    k ((a1 * 10) + a2) M)
def wB_X0_placeOf_24 (a1 : Int) (a2 : Int) (k : Int → gSt → Prop)   (M : gSt) : Prop :=
wB_X0_placeOf_25 a1 a2 k  0 M
def w_X0_placeOf (a1 : Int) (a2 : Int) (M : gSt) (k : Int → gSt → Prop) : Prop :=
  
  (wrap a1 < 0 →
    wB_X0_placeOf_24 a1 a2 k   M) ∧
  (0 ≤ wrap a1 →

    (12 < wrap a1 →
      wB_X0_placeOf_24 a1 a2 k   M) ∧
    (wrap a1 ≤ 12 →

      (wrap a2 < 0 →
        wB_X0_placeOf_24 a1 a2 k   M) ∧
      (0 ≤ wrap a2 →

        (10 ≤ wrap a2 →
          wB_X0_placeOf_24 a1 a2 k   M) ∧
        (wrap a2 < 10 →
          wB_X0_placeOf_25 a1 a2 k  1 M))))
set_option maxHeartbeats 4000000 in
set_option maxRecDepth 100000 in
theorem m_X0_placeOf {l : Launch} {D : va_G} {tys : List (ClassId × FieldType)} {ad : Nat → Nat} {cI cS : ClassId} {a1 : Int} {a2 : Int} {M : gSt} {k : Int → gSt → Prop} (h : w_X0_placeOf a1 a2 M k) : MOi l yX0_placeOf cX0_placeOf 3 .int (rmR 0 0) D clC ((cI, .int) :: (cS, .object "OldBronze$Sheet") :: tys) (wC ad cI cS) tC zC [iv a1, iv a2] M k := by
  refine moi_intro (by decide +kernel) (Nat.le_of_ble_eq_true rfl) wc_17 ?_
  intro p e s m args below meth c A Q C hR
  unfold w_X0_placeOf at h
  have pB25 : ∀   (s0 : Int) (M : gSt), wB_X0_placeOf_25 a1 a2 k  s0 M → gG p l e (rmR 0 0) s m args below meth c Q D clC A (wC ad cI cS) 3 25 [(0, iv a1), (1, iv a2)] [iv s0] M := by
    intro   s0 M h
    unfold wB_X0_placeOf_25 at h
    refine g_istore_n C dX0_placeOf_25 (by decide) rfl ?_
    refine g_locals (lv' := [(0, iv a1), (1, iv a2), (2, iv s0)]) rfl ?_
    refine g_iload_n C dX0_placeOf_26 rfl ?_
    refine g_if_eq C 39 dX0_placeOf_27 (by decide) (fun hc => ?_) (fun hc => ?_)
    · replace h := h.1 hc
      refine g_iconst C dX0_placeOf_39 ?_
      exact hR _ _ _ _ dX0_placeOf_40 rfl h
    · replace h := h.2 hc
      refine g_iload_n C dX0_placeOf_30 rfl ?_
      refine g_bipush C dX0_placeOf_31 rfl ?_
      refine g_imul C dX0_placeOf_33 ?_
      refine g_iload_n C dX0_placeOf_34 rfl ?_
      refine g_iadd C dX0_placeOf_35 ?_
      refine g_goto C 40 dX0_placeOf_36 (by decide) ?_
      exact hR _ _ _ _ dX0_placeOf_40 rfl h
  have pB24 : ∀    (M : gSt), wB_X0_placeOf_24 a1 a2 k   M → gG p l e (rmR 0 0) s m args below meth c Q D clC A (wC ad cI cS) 3 24 [(0, iv a1), (1, iv a2)] [] M := by
    intro    M h
    unfold wB_X0_placeOf_24 at h
    refine g_iconst C dX0_placeOf_24 ?_
    refine g_locals (lv' := [(0, iv a1), (1, iv a2)]) rfl ?_
    exact pB25 _ _ h
  refine g_locals (lv' := [(0, iv a1), (1, iv a2)]) rfl ?_
  refine g_iload_n C dX0_placeOf_0 rfl ?_
  refine g_if_lt C 24 dX0_placeOf_1 (by decide) (fun hc => ?_) (fun hc => ?_)
  · replace h := h.1 hc
    refine g_locals (lv' := [(0, iv a1), (1, iv a2)]) rfl ?_
    exact pB24  _ h
  · replace h := h.2 hc
    refine g_iload_n C dX0_placeOf_4 rfl ?_
    refine g_bipush C dX0_placeOf_5 rfl ?_
    refine g_icmp_gt C 24 dX0_placeOf_7 (by decide) (fun hc => ?_) (fun hc => ?_)
    · replace h := h.1 hc
      refine g_locals (lv' := [(0, iv a1), (1, iv a2)]) rfl ?_
      exact pB24  _ h
    · replace h := h.2 hc
      refine g_iload_n C dX0_placeOf_10 rfl ?_
      refine g_if_lt C 24 dX0_placeOf_11 (by decide) (fun hc => ?_) (fun hc => ?_)
      · replace h := h.1 hc
        refine g_locals (lv' := [(0, iv a1), (1, iv a2)]) rfl ?_
        exact pB24  _ h
      · replace h := h.2 hc
        refine g_iload_n C dX0_placeOf_14 rfl ?_
        refine g_bipush C dX0_placeOf_15 rfl ?_
        refine g_icmp_ge C 24 dX0_placeOf_17 (by decide) (fun hc => ?_) (fun hc => ?_)
        · replace h := h.1 hc
          refine g_locals (lv' := [(0, iv a1), (1, iv a2)]) rfl ?_
          exact pB24  _ h
        · replace h := h.2 hc
          refine g_iconst C dX0_placeOf_20 ?_
          refine g_goto C 25 dX0_placeOf_21 (by decide) ?_
          refine g_locals (lv' := [(0, iv a1), (1, iv a2)]) rfl ?_
          exact pB25 _ _ h
def w_X0_number (o : Nat) (a1 : Int) (a2 : Int) (M : gSt) (k : Int → gSt → Prop) : Prop :=
  (isBronze o) ∧ (w_X0_placeOf a1 a2 M (fun r2c M2 => 
  (wrap r2c < 0 →
    k 0 M2) ∧
  (0 ≤ wrap r2c →

    (wrap (lenC (o + 1) : Int) ≤ wrap r2c →
      k 0 M2) ∧
    (wrap r2c < wrap (lenC (o + 1) : Int) →
      ((0 : Int) ≤ r2c ∧ r2c < lenC (o + 1)) ∧ (k (M2 (o + 1) r2c) M2)))))
set_option maxHeartbeats 4000000 in
set_option maxRecDepth 100000 in
theorem m_X0_number {l : Launch} {D : va_G} {tys : List (ClassId × FieldType)} {ad : Nat → Nat} {cI cS : ClassId} {o : Nat} {a1 : Int} {a2 : Int} {M : gSt} {k : Int → gSt → Prop} (h : w_X0_number o a1 a2 M k) : MOi l yX0_number cX0_number 4 .int (rmR 1 22) D clC ((cI, .int) :: (cS, .object "OldBronze$Sheet") :: tys) (wC ad cI cS) tC zC [.ref (ad o), iv a1, iv a2] M k := by
  refine moi_intro (by decide +kernel) (Nat.le_of_ble_eq_true rfl) wc_18 ?_
  intro p e s m args below meth c A Q C hR
  unfold w_X0_number at h
  obtain ⟨h_o, h⟩ := h
  refine g_locals (lv' := [(0, .ref (ad o)), (1, iv a1), (2, iv a2)]) rfl ?_
  refine g_iload_n C dX0_number_0 rfl ?_
  refine g_iload_n C dX0_number_1 rfl ?_
  refine g_callSi C (nargs := 2) (st := []) (m_X0_placeOf h) gc_X0_28 (by decide +kernel) ⟨rfl, rfl⟩ dX0_number_2 ⟨by decide, by decide⟩ rfl rfl (Nat.le_of_ble_eq_true rfl) ?_
  intro r2c M2 hN
  replace h := hN
  clear hN
  refine g_istore_n C dX0_number_5 (by decide) rfl ?_
  refine g_locals (lv' := [(0, .ref (ad o)), (1, iv a1), (2, iv a2), (3, iv r2c)]) rfl ?_
  refine g_iload_n C dX0_number_6 rfl ?_
  refine g_if_lt C 28 dX0_number_7 (by decide) (fun hc => ?_) (fun hc => ?_)
  · replace h := h.1 hc
    refine g_iconst C dX0_number_28 ?_
    exact hR _ _ _ _ dX0_number_29 rfl h
  · replace h := h.2 hc
    refine g_iload_n C dX0_number_10 rfl ?_
    refine g_aload_n C dX0_number_11 rfl ?_
    refine cf_X0_9 C h_o dX0_number_12 ?_
    refine g_alen C dX0_number_15 h_o.2.2.1 h_o.2.2.2.1 ?_
    refine g_icmp_ge C 28 dX0_number_16 (by decide) (fun hc => ?_) (fun hc => ?_)
    · replace h := h.1 hc
      refine g_iconst C dX0_number_28 ?_
      exact hR _ _ _ _ dX0_number_29 rfl h
    · replace h := h.2 hc
      refine g_aload_n C dX0_number_19 rfl ?_
      refine cf_X0_9 C h_o dX0_number_20 ?_
      refine g_iload_n C dX0_number_23 rfl ?_
      refine g_iald C dX0_number_24 h_o.2.2.1 h_o.2.2.2 h.1 ?_
      replace h := h.2
      refine g_goto C 29 dX0_number_25 (by decide) ?_
      exact hR _ _ _ _ dX0_number_29 rfl h
def w_X0_become (o : Nat) (a1 : Int) (a2 : Int) (a3 : Int) (M : gSt) (k : gSt → Prop) : Prop :=
  (isBronze o) ∧ (w_X0_placeOf a1 a2 M (fun r2c M2 => 
  (wrap r2c < 0 →
    k M2) ∧
  (0 ≤ wrap r2c →

    (wrap (lenC (o + 1) : Int) ≤ wrap r2c →
      k M2) ∧
    (wrap r2c < wrap (lenC (o + 1) : Int) →
      ((0 : Int) ≤ r2c ∧ r2c < lenC (o + 1)) ∧ (∀ M29 : gSt, M29 = wr M2 (o + 1) r2c a3 → (k M29))))))
set_option maxHeartbeats 4000000 in
set_option maxRecDepth 100000 in
theorem m_X0_become {l : Launch} {D : va_G} {tys : List (ClassId × FieldType)} {ad : Nat → Nat} {cI cS : ClassId} {o : Nat} {a1 : Int} {a2 : Int} {a3 : Int} {M : gSt} {k : gSt → Prop} (h : w_X0_become o a1 a2 a3 M k) : MOv l yX0_become cX0_become 5 (rmR 1 22) D clC ((cI, .int) :: (cS, .object "OldBronze$Sheet") :: tys) (wC ad cI cS) tC zC [.ref (ad o), iv a1, iv a2, iv a3] M k := by
  refine mov_intro (by decide +kernel) (Nat.le_of_ble_eq_true rfl) wc_22 ?_
  intro p e s m args below meth c A Q C hR
  unfold w_X0_become at h
  obtain ⟨h_o, h⟩ := h
  refine g_locals (lv' := [(0, .ref (ad o)), (1, iv a1), (2, iv a2), (3, iv a3)]) rfl ?_
  refine g_iload_n C dX0_become_0 rfl ?_
  refine g_iload_n C dX0_become_1 rfl ?_
  refine g_callSi C (nargs := 2) (st := []) (m_X0_placeOf h) gc_X0_28 (by decide +kernel) ⟨rfl, rfl⟩ dX0_become_2 ⟨by decide, by decide⟩ rfl rfl (Nat.le_of_ble_eq_true rfl) ?_
  intro r2c M2 hN
  replace h := hN
  clear hN
  refine g_istore C dX0_become_5 (by decide) rfl ?_
  refine g_locals (lv' := [(0, .ref (ad o)), (1, iv a1), (2, iv a2), (3, iv a3), (4, iv r2c)]) rfl ?_
  refine g_iload C dX0_become_7 rfl ?_
  refine g_if_lt C 30 dX0_become_9 (by decide) (fun hc => ?_) (fun hc => ?_)
  · replace h := h.1 hc
    exact hR _ _ _ dX0_become_30 h
  · replace h := h.2 hc
    refine g_iload C dX0_become_12 rfl ?_
    refine g_aload_n C dX0_become_14 rfl ?_
    refine cf_X0_9 C h_o dX0_become_15 ?_
    refine g_alen C dX0_become_18 h_o.2.2.1 h_o.2.2.2.1 ?_
    refine g_icmp_ge C 30 dX0_become_19 (by decide) (fun hc => ?_) (fun hc => ?_)
    · replace h := h.1 hc
      exact hR _ _ _ dX0_become_30 h
    · replace h := h.2 hc
      refine g_aload_n C dX0_become_22 rfl ?_
      refine cf_X0_9 C h_o dX0_become_23 ?_
      refine g_iload C dX0_become_26 rfl ?_
      refine g_iload_n C dX0_become_28 rfl ?_
      refine g_iast C dX0_become_29 h_o.2.2.1 h_o.2.2.2 h.1 ?_
      replace h := h.2
      refine g_memname (fun M29 hM29 => ?_)
      replace h := h M29 hM29
      exact hR _ _ _ dX0_become_30 h
def w_X8_within (a1 : Int) (a2 : Int) (a3 : Int) (M : gSt) (k : Int → gSt → Prop) : Prop :=
  
  (wrap a1 < wrap a2 →
    k 0 M) ∧
  (wrap a2 ≤ wrap a1 →

    (wrap a3 < wrap a1 →
      k 0 M) ∧
    (wrap a1 ≤ wrap a3 →
      k 1 M))
set_option maxHeartbeats 4000000 in
set_option maxRecDepth 100000 in
theorem m_X8_within {l : Launch} {D : va_G} {tys : List (ClassId × FieldType)} {ad : Nat → Nat} {cI cS : ClassId} {a1 : Int} {a2 : Int} {a3 : Int} {M : gSt} {k : Int → gSt → Prop} (h : w_X8_within a1 a2 a3 M k) : MOi l yX8_within cX8_within 3 .boolean (rmR 0 0) D clC ((cI, .int) :: (cS, .object "OldBronze$Sheet") :: tys) (wC ad cI cS) tC zC [iv a1, iv a2, iv a3] M k := by
  refine moi_intro (by decide +kernel) (Nat.le_of_ble_eq_true rfl) wc_23 ?_
  intro p e s m args below meth c A Q C hR
  unfold w_X8_within at h
  refine g_locals (lv' := [(0, iv a1), (1, iv a2), (2, iv a3)]) rfl ?_
  refine g_iload_n C dX8_within_0 rfl ?_
  refine g_iload_n C dX8_within_1 rfl ?_
  refine g_icmp_lt C 14 dX8_within_2 (by decide) (fun hc => ?_) (fun hc => ?_)
  · replace h := h.1 hc
    refine g_iconst C dX8_within_14 ?_
    exact hR _ _ _ _ dX8_within_15 rfl h
  · replace h := h.2 hc
    refine g_iload_n C dX8_within_5 rfl ?_
    refine g_iload_n C dX8_within_6 rfl ?_
    refine g_icmp_gt C 14 dX8_within_7 (by decide) (fun hc => ?_) (fun hc => ?_)
    · replace h := h.1 hc
      refine g_iconst C dX8_within_14 ?_
      exact hR _ _ _ _ dX8_within_15 rfl h
    · replace h := h.2 hc
      refine g_iconst C dX8_within_10 ?_
      refine g_goto C 15 dX8_within_11 (by decide) ?_
      exact hR _ _ _ _ dX8_within_15 rfl h
def w_X0_mostSettable (o : Nat) (a1 : Int) (a2 : Int) (M : gSt) (k : Int → gSt → Prop) : Prop :=
  (isBronze o) ∧ (
  (¬ wrap a2 = 0 →

    (¬ wrap a2 = 1 →
      w_X8_within a2 3 5 M (fun r18c M18 => 
      (wrap r18c = 0 →
        k (-1) M18) ∧
      (¬ wrap r18c = 0 →
        w_X0_number o a1 2 M18 (fun r27c M27 => k r27c M27)))) ∧
    (wrap a2 = 1 →
      k 99 M)) ∧
  (wrap a2 = 0 →
    k 6 M))
set_option maxHeartbeats 4000000 in
set_option maxRecDepth 100000 in
theorem m_X0_mostSettable {l : Launch} {D : va_G} {tys : List (ClassId × FieldType)} {ad : Nat → Nat} {cI cS : ClassId} {o : Nat} {a1 : Int} {a2 : Int} {M : gSt} {k : Int → gSt → Prop} (h : w_X0_mostSettable o a1 a2 M k) : MOi l yX0_mostSettable cX0_mostSettable 3 .int (rmR 2 45) D clC ((cI, .int) :: (cS, .object "OldBronze$Sheet") :: tys) (wC ad cI cS) tC zC [.ref (ad o), iv a1, iv a2] M k := by
  refine moi_intro (by decide +kernel) (Nat.le_of_ble_eq_true rfl) wc_24 ?_
  intro p e s m args below meth c A Q C hR
  unfold w_X0_mostSettable at h
  obtain ⟨h_o, h⟩ := h
  refine g_locals (lv' := [(0, .ref (ad o)), (1, iv a1), (2, iv a2)]) rfl ?_
  refine g_iload_n C dX0_mostSettable_0 rfl ?_
  refine g_if_ne C 7 dX0_mostSettable_1 (by decide) (fun hc => ?_) (fun hc => ?_)
  · replace h := h.1 hc
    refine g_iload_n C dX0_mostSettable_7 rfl ?_
    refine g_iconst C dX0_mostSettable_8 ?_
    refine g_icmp_ne C 15 dX0_mostSettable_9 (by decide) (fun hc => ?_) (fun hc => ?_)
    · replace h := h.1 hc
      refine g_iload_n C dX0_mostSettable_15 rfl ?_
      refine g_iconst C dX0_mostSettable_16 ?_
      refine g_iconst C dX0_mostSettable_17 ?_
      refine g_callNSi C (nargs := 3) (st := []) (m_X8_within h) zn_0 (gc_code wc_23) wc_26 wc_25 (by decide +kernel) ⟨rfl, rfl⟩ dX0_mostSettable_18 ⟨by decide, by decide⟩ rfl rfl (Nat.le_of_ble_eq_true rfl) ?_
      intro r18c M18 hN
      replace h := hN
      clear hN
      refine g_if_eq C 33 dX0_mostSettable_21 (by decide) (fun hc => ?_) (fun hc => ?_)
      · replace h := h.1 hc
        refine g_iconst C dX0_mostSettable_33 ?_
        exact hR _ _ _ _ dX0_mostSettable_34 rfl h
      · replace h := h.2 hc
        refine g_aload_n C dX0_mostSettable_24 rfl ?_
        refine g_iload_n C dX0_mostSettable_25 rfl ?_
        refine g_iconst C dX0_mostSettable_26 ?_
        refine g_callVi C (nargs := 2) (o := o) (st := []) (m_X0_number h) (show isBronze o from h.1).1 (show isBronze o from h.1).2.1 rfl rfl gc_X0_36 (by decide +kernel) ⟨rfl, rfl⟩ dX0_mostSettable_27 ⟨by decide, by decide⟩ rfl rfl (Nat.le_of_ble_eq_true rfl) ?_
        intro r27c M27 hN
        replace h := hN
        clear hN
        refine g_goto C 34 dX0_mostSettable_30 (by decide) ?_
        exact hR _ _ _ _ dX0_mostSettable_34 rfl h
    · replace h := h.2 hc
      refine g_bipush C dX0_mostSettable_12 rfl ?_
      exact hR _ _ _ _ dX0_mostSettable_14 rfl h
  · replace h := h.2 hc
    refine g_bipush C dX0_mostSettable_4 rfl ?_
    exact hR _ _ _ _ dX0_mostSettable_6 rfl h
def wC_X0_allGrams_4 (o : Nat) (k : Int → gSt → Prop) (r4 : Int → Int → gSt → Prop) (X4_27 : Int → gSt → Prop) (v1 : Int) (v2 : Int) (M : gSt) : Prop :=

  (wrap (M o 1) ≤ wrap v2 →
    X4_27 v1 M) ∧
  (wrap v2 < wrap (M o 1) →
    w_X0_number o v2 2 M (fun r16c M16 => ∀ x1_20 : Int, x1_20 = v1 + r16c → (r4 x1_20 (v2 + 1) M16)))
def wL_X0_allGrams_4 (o : Nat) (k : Int → gSt → Prop)  (X4_27 : Int → gSt → Prop) : Nat → Int → Int → gSt → Prop
  | 0 => fun _ _ _ => False
  | n + 1 => fun v1 v2 M => wC_X0_allGrams_4 o k  (wL_X0_allGrams_4 o k  X4_27 n) X4_27 v1 v2 M
def w_X0_allGrams (o : Nat) (M : gSt) (k : Int → gSt → Prop) : Prop :=
  (isBronze o) ∧ (∃ n, wL_X0_allGrams_4 o k  (fun u1_4 M4 =>
    k u1_4 M4) n 0 0 M)
set_option maxHeartbeats 4000000 in
set_option maxRecDepth 100000 in
theorem m_X0_allGrams {l : Launch} {D : va_G} {tys : List (ClassId × FieldType)} {ad : Nat → Nat} {cI cS : ClassId} {o : Nat} {M : gSt} {k : Int → gSt → Prop} (h : w_X0_allGrams o M k) : MOi l yX0_allGrams cX0_allGrams 3 .int (rmR 2 45) D clC ((cI, .int) :: (cS, .object "OldBronze$Sheet") :: tys) (wC ad cI cS) tC zC [.ref (ad o)] M k := by
  refine moi_intro (by decide +kernel) (Nat.le_of_ble_eq_true rfl) wc_30 ?_
  intro p e s m args below meth c A Q C hR
  unfold w_X0_allGrams at h
  obtain ⟨h_o, h⟩ := h
  have pC4 : ∀ (r4 : Int → Int → gSt → Prop) (X4_27 : Int → gSt → Prop) (hr4 : ∀ (v1 : Int) (v2 : Int) (M : gSt), r4 v1 v2 M → gG p l e (rmR 2 45) s m args below meth c Q D clC A (wC ad cI cS) 3 4 [(0, .ref (ad o)), (1, iv v1), (2, iv v2)] [] M) (hX4_27 : ∀ (v1 : Int) (M : gSt), X4_27 v1 M → gG p l e (rmR 2 45) s m args below meth c Q D clC A (wC ad cI cS) 3 27 [(1, iv v1)] [] M) (v1 : Int) (v2 : Int) (M : gSt), wC_X0_allGrams_4 o k r4 X4_27 v1 v2 M → gG p l e (rmR 2 45) s m args below meth c Q D clC A (wC ad cI cS) 3 4 [(0, .ref (ad o)), (1, iv v1), (2, iv v2)] [] M := by
    intro r4 X4_27 hr4 hX4_27 v1 v2 M h
    unfold wC_X0_allGrams_4 at h
    refine g_iload_n C dX0_allGrams_4 rfl ?_
    refine g_aload_n C dX0_allGrams_5 rfl ?_
    refine cf_X0_19 C h_o dX0_allGrams_6 ?_
    refine g_icmp_ge C 27 dX0_allGrams_9 (by decide) (fun hc => ?_) (fun hc => ?_)
    · replace h := h.1 hc
      refine g_locals (lv' := [(1, iv v1)]) rfl ?_
      exact hX4_27 _  _ h
    · replace h := h.2 hc
      refine g_iload_n C dX0_allGrams_12 rfl ?_
      refine g_aload_n C dX0_allGrams_13 rfl ?_
      refine g_iload_n C dX0_allGrams_14 rfl ?_
      refine g_iconst C dX0_allGrams_15 ?_
      refine g_callVi C (nargs := 2) (o := o) (st := [iv v1]) (m_X0_number h) (show isBronze o from h.1).1 (show isBronze o from h.1).2.1 rfl rfl gc_X0_36 (by decide +kernel) ⟨rfl, rfl⟩ dX0_allGrams_16 ⟨by decide, by decide⟩ rfl rfl (Nat.le_of_ble_eq_true rfl) ?_
      intro r16c M16 hN
      replace h := hN
      clear hN
      refine g_iadd C dX0_allGrams_19 ?_
      refine g_name (fun x1_20 hx1_20 => ?_)
      replace h := h x1_20 hx1_20
      refine g_istore_n C dX0_allGrams_20 (by decide) rfl ?_
      refine g_locals (lv' := [(0, .ref (ad o)), (1, iv x1_20), (2, iv v2)]) rfl ?_
      refine g_iinc C dX0_allGrams_21 rfl (by decide) rfl ?_
      refine g_locals (lv' := [(0, .ref (ad o)), (1, iv x1_20), (2, iv (v2 + 1))]) rfl ?_
      refine g_goto C 4 dX0_allGrams_24 (by decide) ?_
      refine g_locals (lv' := [(0, .ref (ad o)), (1, iv x1_20), (2, iv (v2 + 1))]) rfl ?_
      exact hr4 _ _  _ h
  have pL4 : ∀  (X4_27 : Int → gSt → Prop) (hX4_27 : ∀ (v1 : Int) (M : gSt), X4_27 v1 M → gG p l e (rmR 2 45) s m args below meth c Q D clC A (wC ad cI cS) 3 27 [(1, iv v1)] [] M) (n : Nat) (v1 : Int) (v2 : Int) (M : gSt), wL_X0_allGrams_4 o k  X4_27 n v1 v2 M → gG p l e (rmR 2 45) s m args below meth c Q D clC A (wC ad cI cS) 3 4 [(0, .ref (ad o)), (1, iv v1), (2, iv v2)] [] M := by
    intro  X4_27 hX4_27 n
    induction n with
    | zero => intro v1 v2 M h; exact h.elim
    | succ n ih =>
      intro v1 v2 M h
      exact pC4  (wL_X0_allGrams_4 o k  X4_27 n) X4_27 ih hX4_27 v1 v2 M h
  refine g_locals (lv' := [(0, .ref (ad o))]) rfl ?_
  refine g_iconst C dX0_allGrams_0 ?_
  refine g_istore_n C dX0_allGrams_1 (by decide) rfl ?_
  refine g_locals (lv' := [(0, .ref (ad o)), (1, iv 0)]) rfl ?_
  refine g_iconst C dX0_allGrams_2 ?_
  refine g_istore_n C dX0_allGrams_3 (by decide) rfl ?_
  refine g_locals (lv' := [(0, .ref (ad o)), (1, iv 0), (2, iv 0)]) rfl ?_
  refine g_locals (lv' := [(0, .ref (ad o)), (1, iv 0), (2, iv 0)]) rfl ?_
  obtain ⟨n, h⟩ := h
  refine pL4 _ ?_ n _ _ _ h
  · intro u1_4 M4 hN
    replace h := hN
    clear hN
    refine g_iload_n C dX0_allGrams_27 rfl ?_
    exact hR _ _ _ _ dX0_allGrams_28 rfl h
def w_X0_copyFrom (o : Nat) (a1 : Nat) (M : gSt) (k : gSt → Prop) : Prop :=
  (isBronze o) ∧ ((isBronze a1) ∧ (
  (wrap (lenC (a1 + 1) : Int) = wrap (lenC (o + 1) : Int) →
    ((0 : Int) ≤ 0 ∧ (0 : Int) ≤ 0 ∧ (0 : Int) ≤ (lenC (o + 1) : Int) ∧ 0 + (lenC (o + 1) : Int) ≤ lenC (a1 + 1) ∧ 0 + (lenC (o + 1) : Int) ≤ lenC (o + 1)) ∧ (∀ M29 : gSt, M29 = cpy M (a1 + 1) 0 (o + 1) 0 (lenC (o + 1) : Int) → (∀ M37 : gSt, M37 = wr M29 o 1 (M29 a1 1) → (∀ M45 : gSt, M45 = wr M37 o 2 (M37 a1 2) → (∀ M53 : gSt, M53 = wr M45 o 3 (M45 a1 3) → (∀ M61 : gSt, M61 = wr M53 o 4 (M53 a1 4) → (k M61))))))) ∧
  (¬ wrap (lenC (a1 + 1) : Int) = wrap (lenC (o + 1) : Int) →
    k M)))
set_option maxHeartbeats 4000000 in
set_option maxRecDepth 100000 in
theorem m_X0_copyFrom {l : Launch} {D : va_G} {tys : List (ClassId × FieldType)} {ad : Nat → Nat} {cI cS : ClassId} {o : Nat} {a1 : Nat} {M : gSt} {k : gSt → Prop} (h : w_X0_copyFrom o a1 M k) : MOv l yX0_copyFrom cX0_copyFrom 2 (rmR 1 40) D clC ((cI, .int) :: (cS, .object "OldBronze$Sheet") :: tys) (wC ad cI cS) tC zC [.ref (ad o), .ref (ad a1)] M k := by
  refine mov_intro (by decide +kernel) (Nat.le_of_ble_eq_true rfl) wc_31 ?_
  intro p e s m args below meth c A Q C hR
  unfold w_X0_copyFrom at h
  obtain ⟨h_o, h_a1, h⟩ := h
  refine g_locals (lv' := [(0, .ref (ad o)), (1, .ref (ad a1))]) rfl ?_
  refine g_aload_n C dX0_copyFrom_0 rfl ?_
  refine cf_X0_9 C h_a1 dX0_copyFrom_1 ?_
  refine g_alen C dX0_copyFrom_4 h_a1.2.2.1 h_a1.2.2.2.1 ?_
  refine g_aload_n C dX0_copyFrom_5 rfl ?_
  refine cf_X0_9 C h_o dX0_copyFrom_6 ?_
  refine g_alen C dX0_copyFrom_9 h_o.2.2.1 h_o.2.2.2.1 ?_
  refine g_icmp_eq C 14 dX0_copyFrom_10 (by decide) (fun hc => ?_) (fun hc => ?_)
  · replace h := h.1 hc
    refine g_aload_n C dX0_copyFrom_14 rfl ?_
    refine cf_X0_9 C h_a1 dX0_copyFrom_15 ?_
    refine g_iconst C dX0_copyFrom_18 ?_
    refine g_aload_n C dX0_copyFrom_19 rfl ?_
    refine cf_X0_9 C h_o dX0_copyFrom_20 ?_
    refine g_iconst C dX0_copyFrom_23 ?_
    refine g_aload_n C dX0_copyFrom_24 rfl ?_
    refine cf_X0_9 C h_o dX0_copyFrom_25 ?_
    refine g_alen C dX0_copyFrom_28 h_o.2.2.1 h_o.2.2.2.1 ?_
    refine g_copy C (st := []) dX0_copyFrom_29 h_a1.2.2.1 h_o.2.2.1 ⟨h_a1.2.2.2.1, h_o.2.2.2.1, h_a1.2.2.2.2, h_o.2.2.2.2⟩ h.1 wc_32 wc_33 wc_34 wc_35 (by decide) (Nat.le_of_ble_eq_true rfl) ?_
    replace h := h.2
    refine g_memname (fun M29 hM29 => ?_)
    replace h := h M29 hM29
    refine g_aload_n C dX0_copyFrom_32 rfl ?_
    refine g_aload_n C dX0_copyFrom_33 rfl ?_
    refine cf_X0_19 C h_a1 dX0_copyFrom_34 ?_
    refine cp_X0_19 C h_o dX0_copyFrom_37 ?_
    refine g_memname (fun M37 hM37 => ?_)
    replace h := h M37 hM37
    refine g_aload_n C dX0_copyFrom_40 rfl ?_
    refine g_aload_n C dX0_copyFrom_41 rfl ?_
    refine cf_X0_22 C h_a1 dX0_copyFrom_42 ?_
    refine cp_X0_22 C h_o dX0_copyFrom_45 ?_
    refine g_memname (fun M45 hM45 => ?_)
    replace h := h M45 hM45
    refine g_aload_n C dX0_copyFrom_48 rfl ?_
    refine g_aload_n C dX0_copyFrom_49 rfl ?_
    refine cf_X0_25 C h_a1 dX0_copyFrom_50 ?_
    refine cp_X0_25 C h_o dX0_copyFrom_53 ?_
    refine g_memname (fun M53 hM53 => ?_)
    replace h := h M53 hM53
    refine g_aload_n C dX0_copyFrom_56 rfl ?_
    refine g_aload_n C dX0_copyFrom_57 rfl ?_
    refine cf_X0_15 C h_a1 dX0_copyFrom_58 ?_
    refine cp_X0_15 C h_o dX0_copyFrom_61 ?_
    refine g_memname (fun M61 hM61 => ?_)
    replace h := h M61 hM61
    exact hR _ _ _ dX0_copyFrom_64 h
  · replace h := h.2 hc
    exact hR _ _ _ dX0_copyFrom_13 h
def wC_X0_fill_2 (o : Nat) (a1 : Int) (a2 : Int) (k : gSt → Prop) (r2 : Int → gSt → Prop) (X2_21 : gSt → Prop) (v3 : Int) (M : gSt) : Prop :=

  (10 ≤ wrap v3 →
    X2_21  M) ∧
  (wrap v3 < 10 →
    w_X0_become o a1 v3 a2 M (fun M12 => r2 (v3 + 1) M12))
def wL_X0_fill_2 (o : Nat) (a1 : Int) (a2 : Int) (k : gSt → Prop)  (X2_21 : gSt → Prop) : Nat → Int → gSt → Prop
  | 0 => fun _ _ => False
  | n + 1 => fun v3 M => wC_X0_fill_2 o a1 a2 k  (wL_X0_fill_2 o a1 a2 k  X2_21 n) X2_21 v3 M
def w_X0_fill (o : Nat) (a1 : Int) (a2 : Int) (M : gSt) (k : gSt → Prop) : Prop :=
  (isBronze o) ∧ (∃ n, wL_X0_fill_2 o a1 a2 k  (fun  M2 =>
    k M2) n 0 M)
set_option maxHeartbeats 4000000 in
set_option maxRecDepth 100000 in
theorem m_X0_fill {l : Launch} {D : va_G} {tys : List (ClassId × FieldType)} {ad : Nat → Nat} {cI cS : ClassId} {o : Nat} {a1 : Int} {a2 : Int} {M : gSt} {k : gSt → Prop} (h : w_X0_fill o a1 a2 M k) : MOv l yX0_fill cX0_fill 4 (rmR 2 46) D clC ((cI, .int) :: (cS, .object "OldBronze$Sheet") :: tys) (wC ad cI cS) tC zC [.ref (ad o), iv a1, iv a2] M k := by
  refine mov_intro (by decide +kernel) (Nat.le_of_ble_eq_true rfl) wc_36 ?_
  intro p e s m args below meth c A Q C hR
  unfold w_X0_fill at h
  obtain ⟨h_o, h⟩ := h
  have pC2 : ∀ (r2 : Int → gSt → Prop) (X2_21 : gSt → Prop) (hr2 : ∀ (v3 : Int) (M : gSt), r2 v3 M → gG p l e (rmR 2 46) s m args below meth c Q D clC A (wC ad cI cS) 4 2 [(0, .ref (ad o)), (1, iv a1), (2, iv a2), (3, iv v3)] [] M) (hX2_21 : ∀  (M : gSt), X2_21  M → gG p l e (rmR 2 46) s m args below meth c Q D clC A (wC ad cI cS) 4 21 [] [] M) (v3 : Int) (M : gSt), wC_X0_fill_2 o a1 a2 k r2 X2_21 v3 M → gG p l e (rmR 2 46) s m args below meth c Q D clC A (wC ad cI cS) 4 2 [(0, .ref (ad o)), (1, iv a1), (2, iv a2), (3, iv v3)] [] M := by
    intro r2 X2_21 hr2 hX2_21 v3 M h
    unfold wC_X0_fill_2 at h
    refine g_iload_n C dX0_fill_2 rfl ?_
    refine g_bipush C dX0_fill_3 rfl ?_
    refine g_icmp_ge C 21 dX0_fill_5 (by decide) (fun hc => ?_) (fun hc => ?_)
    · replace h := h.1 hc
      refine g_locals (lv' := []) rfl ?_
      exact hX2_21  _ h
    · replace h := h.2 hc
      refine g_aload_n C dX0_fill_8 rfl ?_
      refine g_iload_n C dX0_fill_9 rfl ?_
      refine g_iload_n C dX0_fill_10 rfl ?_
      refine g_iload_n C dX0_fill_11 rfl ?_
      refine g_callVv C (nargs := 3) (o := o) (st := []) (m_X0_become h) (show isBronze o from h.1).1 (show isBronze o from h.1).2.1 rfl rfl gc_X0_53 (by decide +kernel) ⟨rfl, rfl⟩ dX0_fill_12 ⟨by decide, by decide⟩ rfl rfl (Nat.le_of_ble_eq_true rfl) ?_
      intro M12 hN
      replace h := hN
      clear hN
      refine g_iinc C dX0_fill_15 rfl (by decide) rfl ?_
      refine g_locals (lv' := [(0, .ref (ad o)), (1, iv a1), (2, iv a2), (3, iv (v3 + 1))]) rfl ?_
      refine g_goto C 2 dX0_fill_18 (by decide) ?_
      refine g_locals (lv' := [(0, .ref (ad o)), (1, iv a1), (2, iv a2), (3, iv (v3 + 1))]) rfl ?_
      exact hr2 _  _ h
  have pL2 : ∀  (X2_21 : gSt → Prop) (hX2_21 : ∀  (M : gSt), X2_21  M → gG p l e (rmR 2 46) s m args below meth c Q D clC A (wC ad cI cS) 4 21 [] [] M) (n : Nat) (v3 : Int) (M : gSt), wL_X0_fill_2 o a1 a2 k  X2_21 n v3 M → gG p l e (rmR 2 46) s m args below meth c Q D clC A (wC ad cI cS) 4 2 [(0, .ref (ad o)), (1, iv a1), (2, iv a2), (3, iv v3)] [] M := by
    intro  X2_21 hX2_21 n
    induction n with
    | zero => intro v3 M h; exact h.elim
    | succ n ih =>
      intro v3 M h
      exact pC2  (wL_X0_fill_2 o a1 a2 k  X2_21 n) X2_21 ih hX2_21 v3 M h
  refine g_locals (lv' := [(0, .ref (ad o)), (1, iv a1), (2, iv a2)]) rfl ?_
  refine g_iconst C dX0_fill_0 ?_
  refine g_istore_n C dX0_fill_1 (by decide) rfl ?_
  refine g_locals (lv' := [(0, .ref (ad o)), (1, iv a1), (2, iv a2), (3, iv 0)]) rfl ?_
  refine g_locals (lv' := [(0, .ref (ad o)), (1, iv a1), (2, iv a2), (3, iv 0)]) rfl ?_
  obtain ⟨n, h⟩ := h
  refine pL2 _ ?_ n _ _ h
  · intro  M2 hN
    replace h := hN
    clear hN
    exact hR _ _ _ dX0_fill_21 h
def w_X0_add (o : Nat) (a1 : Int) (M : gSt) (k : Int → gSt → Prop) : Prop :=
  (isBronze o) ∧ (w_X0_room o M (fun r1c M1 => 
  (1 ≤ wrap r1c →
    ∀ x2_14 : Int, x2_14 = M1 o 1 → (∀ M22 : gSt, M22 = wr M1 o 1 ((M1 o 1) + 1) → (w_X0_fill o x2_14 0 M22 (fun M28 => w_X0_become o x2_14 0 (Int.tdiv (wrap a1) 100) M28 (fun M38 => w_X0_become o x2_14 1 (Int.tmod (wrap a1) 100) M38 (fun M48 => k x2_14 M48)))))) ∧
  (wrap r1c < 1 →
    k (-1) M1)))
set_option maxHeartbeats 4000000 in
set_option maxRecDepth 100000 in
theorem m_X0_add {l : Launch} {D : va_G} {tys : List (ClassId × FieldType)} {ad : Nat → Nat} {cI cS : ClassId} {o : Nat} {a1 : Int} {M : gSt} {k : Int → gSt → Prop} (h : w_X0_add o a1 M k) : MOi l yX0_add cX0_add 3 .int (rmR 3 69) D clC ((cI, .int) :: (cS, .object "OldBronze$Sheet") :: tys) (wC ad cI cS) tC zC [.ref (ad o), iv a1] M k := by
  refine moi_intro (by decide +kernel) (Nat.le_of_ble_eq_true rfl) wc_40 ?_
  intro p e s m args below meth c A Q C hR
  unfold w_X0_add at h
  obtain ⟨h_o, h⟩ := h
  refine g_locals (lv' := [(0, .ref (ad o)), (1, iv a1)]) rfl ?_
  refine g_aload_n C dX0_add_0 rfl ?_
  refine g_callVi C (nargs := 0) (o := o) (st := []) (m_X0_room h) (show isBronze o from h.1).1 (show isBronze o from h.1).2.1 rfl rfl gc_X0_45 (by decide +kernel) ⟨rfl, rfl⟩ dX0_add_1 ⟨by decide, by decide⟩ rfl rfl (Nat.le_of_ble_eq_true rfl) ?_
  intro r1c M1 hN
  replace h := hN
  clear hN
  refine g_iconst C dX0_add_4 ?_
  refine g_icmp_ge C 10 dX0_add_5 (by decide) (fun hc => ?_) (fun hc => ?_)
  · replace h := h.1 hc
    refine g_aload_n C dX0_add_10 rfl ?_
    refine cf_X0_19 C h_o dX0_add_11 ?_
    refine g_name (fun x2_14 hx2_14 => ?_)
    replace h := h x2_14 hx2_14
    refine g_istore_n C dX0_add_14 (by decide) rfl ?_
    refine g_locals (lv' := [(0, .ref (ad o)), (1, iv a1), (2, iv x2_14)]) rfl ?_
    refine g_aload_n C dX0_add_15 rfl ?_
    refine g_dup C dX0_add_16 rfl ?_
    refine cf_X0_19 C h_o dX0_add_17 ?_
    refine g_iconst C dX0_add_20 ?_
    refine g_iadd C dX0_add_21 ?_
    refine cp_X0_19 C h_o dX0_add_22 ?_
    refine g_memname (fun M22 hM22 => ?_)
    replace h := h M22 hM22
    refine g_aload_n C dX0_add_25 rfl ?_
    refine g_iload_n C dX0_add_26 rfl ?_
    refine g_iconst C dX0_add_27 ?_
    refine g_callVv C (nargs := 2) (o := o) (st := []) (m_X0_fill h) (show isBronze o from h.1).1 (show isBronze o from h.1).2.1 rfl rfl gc_X0_49 (by decide +kernel) ⟨rfl, rfl⟩ dX0_add_28 ⟨by decide, by decide⟩ rfl rfl (Nat.le_of_ble_eq_true rfl) ?_
    intro M28 hN
    replace h := hN
    clear hN
    refine g_aload_n C dX0_add_31 rfl ?_
    refine g_iload_n C dX0_add_32 rfl ?_
    refine g_iconst C dX0_add_33 ?_
    refine g_iload_n C dX0_add_34 rfl ?_
    refine g_bipush C dX0_add_35 rfl ?_
    refine g_idiv C dX0_add_37 (by decide) ?_
    refine g_top (y := Int.tdiv (wrap a1) 100) rfl ?_
    refine g_callVv C (nargs := 3) (o := o) (st := []) (m_X0_become h) (show isBronze o from h.1).1 (show isBronze o from h.1).2.1 rfl rfl gc_X0_53 (by decide +kernel) ⟨rfl, rfl⟩ dX0_add_38 ⟨by decide, by decide⟩ rfl rfl (Nat.le_of_ble_eq_true rfl) ?_
    intro M38 hN
    replace h := hN
    clear hN
    refine g_aload_n C dX0_add_41 rfl ?_
    refine g_iload_n C dX0_add_42 rfl ?_
    refine g_iconst C dX0_add_43 ?_
    refine g_iload_n C dX0_add_44 rfl ?_
    refine g_bipush C dX0_add_45 rfl ?_
    refine g_irem C dX0_add_47 (by decide) ?_
    refine g_top (y := Int.tmod (wrap a1) 100) rfl ?_
    refine g_callVv C (nargs := 3) (o := o) (st := []) (m_X0_become h) (show isBronze o from h.1).1 (show isBronze o from h.1).2.1 rfl rfl gc_X0_53 (by decide +kernel) ⟨rfl, rfl⟩ dX0_add_48 ⟨by decide, by decide⟩ rfl rfl (Nat.le_of_ble_eq_true rfl) ?_
    intro M48 hN
    replace h := hN
    clear hN
    refine g_iload_n C dX0_add_51 rfl ?_
    exact hR _ _ _ _ dX0_add_52 rfl h
  · replace h := h.2 hc
    refine g_iconst C dX0_add_8 ?_
    exact hR _ _ _ _ dX0_add_9 rfl h
def w_X0_addFirst (o : Nat) (a1 : Int) (a2 : Int) (M : gSt) (k : Int → gSt → Prop) : Prop :=
  (isBronze o) ∧ (w_X0_add o a1 M (fun r2c M2 => w_X0_become o r2c 2 a2 M2 (fun M10 => 
  (4 ≤ wrap (M10 o 2) →
    k r2c M10) ∧
  (wrap (M10 o 2) < 4 →
    w_X0_become o r2c (6 + (M10 o 2)) 1000000 M10 (fun M32 => ∀ M42 : gSt, M42 = wr M32 o 2 ((M32 o 2) + 1) → (k r2c M42))))))
set_option maxHeartbeats 4000000 in
set_option maxRecDepth 100000 in
theorem m_X0_addFirst {l : Launch} {D : va_G} {tys : List (ClassId × FieldType)} {ad : Nat → Nat} {cI cS : ClassId} {o : Nat} {a1 : Int} {a2 : Int} {M : gSt} {k : Int → gSt → Prop} (h : w_X0_addFirst o a1 a2 M k) : MOi l yX0_addFirst cX0_addFirst 4 .int (rmR 4 91) D clC ((cI, .int) :: (cS, .object "OldBronze$Sheet") :: tys) (wC ad cI cS) tC zC [.ref (ad o), iv a1, iv a2] M k := by
  refine moi_intro (by decide +kernel) (Nat.le_of_ble_eq_true rfl) wc_47 ?_
  intro p e s m args below meth c A Q C hR
  unfold w_X0_addFirst at h
  obtain ⟨h_o, h⟩ := h
  refine g_locals (lv' := [(0, .ref (ad o)), (1, iv a1), (2, iv a2)]) rfl ?_
  refine g_aload_n C dX0_addFirst_0 rfl ?_
  refine g_iload_n C dX0_addFirst_1 rfl ?_
  refine g_callVi C (nargs := 1) (o := o) (st := []) (m_X0_add h) (show isBronze o from h.1).1 (show isBronze o from h.1).2.1 rfl rfl gc_X0_57 (by decide +kernel) ⟨rfl, rfl⟩ dX0_addFirst_2 ⟨by decide, by decide⟩ rfl rfl (Nat.le_of_ble_eq_true rfl) ?_
  intro r2c M2 hN
  replace h := hN
  clear hN
  refine g_istore_n C dX0_addFirst_5 (by decide) rfl ?_
  refine g_locals (lv' := [(0, .ref (ad o)), (1, iv a1), (2, iv a2), (3, iv r2c)]) rfl ?_
  refine g_aload_n C dX0_addFirst_6 rfl ?_
  refine g_iload_n C dX0_addFirst_7 rfl ?_
  refine g_iconst C dX0_addFirst_8 ?_
  refine g_iload_n C dX0_addFirst_9 rfl ?_
  refine g_callVv C (nargs := 3) (o := o) (st := []) (m_X0_become h) (show isBronze o from h.1).1 (show isBronze o from h.1).2.1 rfl rfl gc_X0_53 (by decide +kernel) ⟨rfl, rfl⟩ dX0_addFirst_10 ⟨by decide, by decide⟩ rfl rfl (Nat.le_of_ble_eq_true rfl) ?_
  intro M10 hN
  replace h := hN
  clear hN
  refine g_aload_n C dX0_addFirst_13 rfl ?_
  refine cf_X0_22 C h_o dX0_addFirst_14 ?_
  refine g_iconst C dX0_addFirst_17 ?_
  refine g_icmp_ge C 45 dX0_addFirst_18 (by decide) (fun hc => ?_) (fun hc => ?_)
  · replace h := h.1 hc
    refine g_iload_n C dX0_addFirst_45 rfl ?_
    exact hR _ _ _ _ dX0_addFirst_46 rfl h
  · replace h := h.2 hc
    refine g_aload_n C dX0_addFirst_21 rfl ?_
    refine g_iload_n C dX0_addFirst_22 rfl ?_
    refine g_bipush C dX0_addFirst_23 rfl ?_
    refine g_aload_n C dX0_addFirst_25 rfl ?_
    refine cf_X0_22 C h_o dX0_addFirst_26 ?_
    refine g_iadd C dX0_addFirst_29 ?_
    refine g_ldc C 1000000 wc_48 rfl dX0_addFirst_30 ?_
    refine g_callVv C (nargs := 3) (o := o) (st := []) (m_X0_become h) (show isBronze o from h.1).1 (show isBronze o from h.1).2.1 rfl rfl gc_X0_53 (by decide +kernel) ⟨rfl, rfl⟩ dX0_addFirst_32 ⟨by decide, by decide⟩ rfl rfl (Nat.le_of_ble_eq_true rfl) ?_
    intro M32 hN
    replace h := hN
    clear hN
    refine g_aload_n C dX0_addFirst_35 rfl ?_
    refine g_dup C dX0_addFirst_36 rfl ?_
    refine cf_X0_22 C h_o dX0_addFirst_37 ?_
    refine g_iconst C dX0_addFirst_40 ?_
    refine g_iadd C dX0_addFirst_41 ?_
    refine cp_X0_22 C h_o dX0_addFirst_42 ?_
    refine g_memname (fun M42 hM42 => ?_)
    replace h := h M42 hM42
    refine g_iload_n C dX0_addFirst_45 rfl ?_
    exact hR _ _ _ _ dX0_addFirst_46 rfl h
def w_X8_quotient (a1 : Int) (a2 : Int) (M : gSt) (k : Int → gSt → Prop) : Prop :=
  
  (¬ wrap (ycmp a2 0) = 0 →
    (wrapL a2 ≠ 0) ∧ (k (Int.tdiv (wrapL a1) (wrapL a2)) M)) ∧
  (wrap (ycmp a2 0) = 0 →
    k 0 M)
set_option maxHeartbeats 4000000 in
set_option maxRecDepth 100000 in
theorem m_X8_quotient {l : Launch} {D : va_G} {tys : List (ClassId × FieldType)} {ad : Nat → Nat} {cI cS : ClassId} {a1 : Int} {a2 : Int} {M : gSt} {k : Int → gSt → Prop} (h : w_X8_quotient a1 a2 M k) : MOi l yX8_quotient cX8_quotient 4 .int (rmR 0 0) D clC ((cI, .int) :: (cS, .object "OldBronze$Sheet") :: tys) (wC ad cI cS) tC zC [jv a1, jv a2] M k := by
  refine moi_intro (by decide +kernel) (Nat.le_of_ble_eq_true rfl) wc_52 ?_
  intro p e s m args below meth c A Q C hR
  unfold w_X8_quotient at h
  refine g_locals (lv' := [(0, jv a1), (2, jv a2)]) rfl ?_
  refine g_lload_n C dX8_quotient_0 rfl ?_
  refine g_lconst C 0 rfl dX8_quotient_1 ?_
  refine g_lcmp C dX8_quotient_2 ?_
  refine g_if_ne C 10 dX8_quotient_3 (by decide) (fun hc => ?_) (fun hc => ?_)
  · replace h := h.1 hc
    refine g_lload_n C dX8_quotient_10 rfl ?_
    refine g_lload_n C dX8_quotient_11 rfl ?_
    refine g_ldiv C dX8_quotient_12 h.1 ?_
    replace h := h.2
    refine g_topL (y := Int.tdiv (wrapL a1) (wrapL a2)) rfl ?_
    refine g_l2i C dX8_quotient_13 ?_
    exact hR _ _ _ _ dX8_quotient_14 rfl h
  · replace h := h.2 hc
    refine g_iconst C dX8_quotient_6 ?_
    refine g_goto C 14 dX8_quotient_7 (by decide) ?_
    exact hR _ _ _ _ dX8_quotient_14 rfl h
def w_X0_partOf (o : Nat) (a1 : Int) (a2 : Int) (a3 : Int) (a4 : Int) (M : gSt) (k : Int → gSt → Prop) : Prop :=
  (isBronze o) ∧ (w_X0_number o a1 a2 M (fun r3c M3 => w_X8_quotient ((wrap r3c) * (wrap a3)) (wrap a4) M3 (fun r13c M13 => k r13c M13)))
set_option maxHeartbeats 4000000 in
set_option maxRecDepth 100000 in
theorem m_X0_partOf {l : Launch} {D : va_G} {tys : List (ClassId × FieldType)} {ad : Nat → Nat} {cI cS : ClassId} {o : Nat} {a1 : Int} {a2 : Int} {a3 : Int} {a4 : Int} {M : gSt} {k : Int → gSt → Prop} (h : w_X0_partOf o a1 a2 a3 a4 M k) : MOi l yX0_partOf cX0_partOf 5 .int (rmR 2 45) D clC ((cI, .int) :: (cS, .object "OldBronze$Sheet") :: tys) (wC ad cI cS) tC zC [.ref (ad o), iv a1, iv a2, iv a3, iv a4] M k := by
  refine moi_intro (by decide +kernel) (Nat.le_of_ble_eq_true rfl) wc_53 ?_
  intro p e s m args below meth c A Q C hR
  unfold w_X0_partOf at h
  obtain ⟨h_o, h⟩ := h
  refine g_locals (lv' := [(0, .ref (ad o)), (1, iv a1), (2, iv a2), (3, iv a3), (4, iv a4)]) rfl ?_
  refine g_aload_n C dX0_partOf_0 rfl ?_
  refine g_iload_n C dX0_partOf_1 rfl ?_
  refine g_iload_n C dX0_partOf_2 rfl ?_
  refine g_callVi C (nargs := 2) (o := o) (st := []) (m_X0_number h) (show isBronze o from h.1).1 (show isBronze o from h.1).2.1 rfl rfl gc_X0_36 (by decide +kernel) ⟨rfl, rfl⟩ dX0_partOf_3 ⟨by decide, by decide⟩ rfl rfl (Nat.le_of_ble_eq_true rfl) ?_
  intro r3c M3 hN
  replace h := hN
  clear hN
  refine g_i2l C dX0_partOf_6 ?_
  refine g_iload_n C dX0_partOf_7 rfl ?_
  refine g_i2l C dX0_partOf_8 ?_
  refine g_lmul C dX0_partOf_9 ?_
  refine g_iload C dX0_partOf_10 rfl ?_
  refine g_i2l C dX0_partOf_12 ?_
  refine g_callNSi C (nargs := 2) (st := []) (m_X8_quotient h) zn_1 (gc_code wc_52) wc_26 wc_54 (by decide +kernel) ⟨rfl, rfl⟩ dX0_partOf_13 ⟨by decide, by decide⟩ rfl rfl (Nat.le_of_ble_eq_true rfl) ?_
  intro r13c M13 hN
  replace h := hN
  clear hN
  exact hR _ _ _ _ dX0_partOf_16 rfl h
def wC_X0_lose_3 (o : Nat) (a1 : Int) (a2 : Int) (a3 : Int) (k : gSt → Prop) (r3 : Int → gSt → Prop) (X3_40 : gSt → Prop) (v4 : Int) (M : gSt) : Prop :=

  (6 ≤ wrap v4 →
    X3_40  M) ∧
  (wrap v4 < 6 →
    w_X0_number o a1 v4 M (fun r18c M18 => w_X0_partOf o a1 v4 a2 a3 M18 (fun r27c M27 => w_X0_become o a1 v4 (r18c - r27c) M27 (fun M31 => r3 (v4 + 1) M31))))
def wL_X0_lose_3 (o : Nat) (a1 : Int) (a2 : Int) (a3 : Int) (k : gSt → Prop)  (X3_40 : gSt → Prop) : Nat → Int → gSt → Prop
  | 0 => fun _ _ => False
  | n + 1 => fun v4 M => wC_X0_lose_3 o a1 a2 a3 k  (wL_X0_lose_3 o a1 a2 a3 k  X3_40 n) X3_40 v4 M
def w_X0_lose (o : Nat) (a1 : Int) (a2 : Int) (a3 : Int) (M : gSt) (k : gSt → Prop) : Prop :=
  (isBronze o) ∧ (∃ n, wL_X0_lose_3 o a1 a2 a3 k  (fun  M3 =>
    k M3) n 2 M)
set_option maxHeartbeats 4000000 in
set_option maxRecDepth 100000 in
theorem m_X0_lose {l : Launch} {D : va_G} {tys : List (ClassId × FieldType)} {ad : Nat → Nat} {cI cS : ClassId} {o : Nat} {a1 : Int} {a2 : Int} {a3 : Int} {M : gSt} {k : gSt → Prop} (h : w_X0_lose o a1 a2 a3 M k) : MOv l yX0_lose cX0_lose 5 (rmR 3 69) D clC ((cI, .int) :: (cS, .object "OldBronze$Sheet") :: tys) (wC ad cI cS) tC zC [.ref (ad o), iv a1, iv a2, iv a3] M k := by
  refine mov_intro (by decide +kernel) (Nat.le_of_ble_eq_true rfl) wc_55 ?_
  intro p e s m args below meth c A Q C hR
  unfold w_X0_lose at h
  obtain ⟨h_o, h⟩ := h
  have pC3 : ∀ (r3 : Int → gSt → Prop) (X3_40 : gSt → Prop) (hr3 : ∀ (v4 : Int) (M : gSt), r3 v4 M → gG p l e (rmR 3 69) s m args below meth c Q D clC A (wC ad cI cS) 5 3 [(0, .ref (ad o)), (1, iv a1), (2, iv a2), (3, iv a3), (4, iv v4)] [] M) (hX3_40 : ∀  (M : gSt), X3_40  M → gG p l e (rmR 3 69) s m args below meth c Q D clC A (wC ad cI cS) 5 40 [] [] M) (v4 : Int) (M : gSt), wC_X0_lose_3 o a1 a2 a3 k r3 X3_40 v4 M → gG p l e (rmR 3 69) s m args below meth c Q D clC A (wC ad cI cS) 5 3 [(0, .ref (ad o)), (1, iv a1), (2, iv a2), (3, iv a3), (4, iv v4)] [] M := by
    intro r3 X3_40 hr3 hX3_40 v4 M h
    unfold wC_X0_lose_3 at h
    refine g_iload C dX0_lose_3 rfl ?_
    refine g_bipush C dX0_lose_5 rfl ?_
    refine g_icmp_ge C 40 dX0_lose_7 (by decide) (fun hc => ?_) (fun hc => ?_)
    · replace h := h.1 hc
      refine g_locals (lv' := []) rfl ?_
      exact hX3_40  _ h
    · replace h := h.2 hc
      refine g_aload_n C dX0_lose_10 rfl ?_
      refine g_iload_n C dX0_lose_11 rfl ?_
      refine g_iload C dX0_lose_12 rfl ?_
      refine g_aload_n C dX0_lose_14 rfl ?_
      refine g_iload_n C dX0_lose_15 rfl ?_
      refine g_iload C dX0_lose_16 rfl ?_
      refine g_callVi C (nargs := 2) (o := o) (st := [iv v4, iv a1, .ref (ad o)]) (m_X0_number h) (show isBronze o from h.1).1 (show isBronze o from h.1).2.1 rfl rfl gc_X0_36 (by decide +kernel) ⟨rfl, rfl⟩ dX0_lose_18 ⟨by decide, by decide⟩ rfl rfl (Nat.le_of_ble_eq_true rfl) ?_
      intro r18c M18 hN
      replace h := hN
      clear hN
      refine g_aload_n C dX0_lose_21 rfl ?_
      refine g_iload_n C dX0_lose_22 rfl ?_
      refine g_iload C dX0_lose_23 rfl ?_
      refine g_iload_n C dX0_lose_25 rfl ?_
      refine g_iload_n C dX0_lose_26 rfl ?_
      refine g_callVi C (nargs := 4) (o := o) (st := [iv r18c, iv v4, iv a1, .ref (ad o)]) (m_X0_partOf h) (show isBronze o from h.1).1 (show isBronze o from h.1).2.1 rfl rfl gc_X0_62 (by decide +kernel) ⟨rfl, rfl⟩ dX0_lose_27 ⟨by decide, by decide⟩ rfl rfl (Nat.le_of_ble_eq_true rfl) ?_
      intro r27c M27 hN
      replace h := hN
      clear hN
      refine g_isub C dX0_lose_30 ?_
      refine g_callVv C (nargs := 3) (o := o) (st := []) (m_X0_become h) (show isBronze o from h.1).1 (show isBronze o from h.1).2.1 rfl rfl gc_X0_53 (by decide +kernel) ⟨rfl, rfl⟩ dX0_lose_31 ⟨by decide, by decide⟩ rfl rfl (Nat.le_of_ble_eq_true rfl) ?_
      intro M31 hN
      replace h := hN
      clear hN
      refine g_iinc C dX0_lose_34 rfl (by decide) rfl ?_
      refine g_locals (lv' := [(0, .ref (ad o)), (1, iv a1), (2, iv a2), (3, iv a3), (4, iv (v4 + 1))]) rfl ?_
      refine g_goto C 3 dX0_lose_37 (by decide) ?_
      refine g_locals (lv' := [(0, .ref (ad o)), (1, iv a1), (2, iv a2), (3, iv a3), (4, iv (v4 + 1))]) rfl ?_
      exact hr3 _  _ h
  have pL3 : ∀  (X3_40 : gSt → Prop) (hX3_40 : ∀  (M : gSt), X3_40  M → gG p l e (rmR 3 69) s m args below meth c Q D clC A (wC ad cI cS) 5 40 [] [] M) (n : Nat) (v4 : Int) (M : gSt), wL_X0_lose_3 o a1 a2 a3 k  X3_40 n v4 M → gG p l e (rmR 3 69) s m args below meth c Q D clC A (wC ad cI cS) 5 3 [(0, .ref (ad o)), (1, iv a1), (2, iv a2), (3, iv a3), (4, iv v4)] [] M := by
    intro  X3_40 hX3_40 n
    induction n with
    | zero => intro v4 M h; exact h.elim
    | succ n ih =>
      intro v4 M h
      exact pC3  (wL_X0_lose_3 o a1 a2 a3 k  X3_40 n) X3_40 ih hX3_40 v4 M h
  refine g_locals (lv' := [(0, .ref (ad o)), (1, iv a1), (2, iv a2), (3, iv a3)]) rfl ?_
  refine g_iconst C dX0_lose_0 ?_
  refine g_istore C dX0_lose_1 (by decide) rfl ?_
  refine g_locals (lv' := [(0, .ref (ad o)), (1, iv a1), (2, iv a2), (3, iv a3), (4, iv 2)]) rfl ?_
  refine g_locals (lv' := [(0, .ref (ad o)), (1, iv a1), (2, iv a2), (3, iv a3), (4, iv 2)]) rfl ?_
  obtain ⟨n, h⟩ := h
  refine pL3 _ ?_ n _ _ h
  · intro  M3 hN
    replace h := hN
    clear hN
    exact hR _ _ _ dX0_lose_40 h
def wC_X0_pour_23 (o : Nat) (a1 : Int) (a2 : Int) (a3 : Int) (k : gSt → Prop) (r23 : Int → Int → Int → gSt → Prop) (X23_85 : Int → Int → gSt → Prop) (v4 : Int) (v5 : Int) (v6 : Int) (M : gSt) : Prop :=

  (10 ≤ wrap v6 →
    X23_85 v4 v5 M) ∧
  (wrap v6 < 10 →
    w_X0_number o a1 v6 M (fun r37c M37 => ∀ x7_42 : Int, x7_42 = (wrap v4) * (wrap r37c) → (w_X0_number o a2 v6 M37 (fun r51c M51 => ∀ x9_56 : Int, x9_56 = (wrap v5) * (wrap r51c) → (w_X8_quotient (x7_42 + x9_56) (wrap (v4 + v5)) M51 (fun r73c M73 => w_X0_become o a2 v6 r73c M73 (fun M76 => r23 v4 v5 (v6 + 1) M76)))))))
def wL_X0_pour_23 (o : Nat) (a1 : Int) (a2 : Int) (a3 : Int) (k : gSt → Prop)  (X23_85 : Int → Int → gSt → Prop) : Nat → Int → Int → Int → gSt → Prop
  | 0 => fun _ _ _ _ => False
  | n + 1 => fun v4 v5 v6 M => wC_X0_pour_23 o a1 a2 a3 k  (wL_X0_pour_23 o a1 a2 a3 k  X23_85 n) X23_85 v4 v5 v6 M
def wC_X0_pour_108 (o : Nat) (a1 : Int) (a2 : Int) (a3 : Int) (k : gSt → Prop) (r108 : Int → Int → gSt → Prop) (X108_155 : gSt → Prop) (v6 : Int) (v7 : Int) (M : gSt) : Prop :=

  (6 ≤ wrap v7 →
    X108_155  M) ∧
  (wrap v7 < 6 →
    w_X0_number o a2 v7 M (fun r119c M119 => w_X0_partOf o a1 v7 a3 8 M119 (fun r129c M129 => ∀ x8_133 : Int, x8_133 = r119c + r129c → (w_X0_become o a2 v7 (xmin v6 x8_133) M129 (fun M146 => r108 v6 (v7 + 1) M146)))))
def wL_X0_pour_108 (o : Nat) (a1 : Int) (a2 : Int) (a3 : Int) (k : gSt → Prop)  (X108_155 : gSt → Prop) : Nat → Int → Int → gSt → Prop
  | 0 => fun _ _ _ => False
  | n + 1 => fun v6 v7 M => wC_X0_pour_108 o a1 a2 a3 k  (wL_X0_pour_108 o a1 a2 a3 k  X108_155 n) X108_155 v6 v7 M
def w_X0_pour (o : Nat) (a1 : Int) (a2 : Int) (a3 : Int) (M : gSt) (k : gSt → Prop) : Prop :=
  (isBronze o) ∧ (w_X0_partOf o a1 2 a3 8 M (fun r6c M6 => w_X0_number o a2 2 M6 (fun r14c M14 => ∃ n, wL_X0_pour_23 o a1 a2 a3 k  (fun u4_23 u5_23 M23 =>
    ∀ x6_95 : Int, x6_95 = xmin 9999999 (u5_23 + u4_23) → (w_X0_become o a2 2 x6_95 M23 (fun M102 => ∃ n, wL_X0_pour_108 o a1 a2 a3 k  (fun  M108 =>
      w_X0_lose o a1 a3 8 M108 (fun M160 => k M160)) n x6_95 3 M102))) n r6c r14c 6 M14)))
set_option maxHeartbeats 4000000 in
set_option maxRecDepth 100000 in
theorem m_X0_pour {l : Launch} {D : va_G} {tys : List (ClassId × FieldType)} {ad : Nat → Nat} {cI cS : ClassId} {o : Nat} {a1 : Int} {a2 : Int} {a3 : Int} {M : gSt} {k : gSt → Prop} (h : w_X0_pour o a1 a2 a3 M k) : MOv l yX0_pour cX0_pour 11 (rmR 4 93) D clC ((cI, .int) :: (cS, .object "OldBronze$Sheet") :: tys) (wC ad cI cS) tC zC [.ref (ad o), iv a1, iv a2, iv a3] M k := by
  refine mov_intro (by decide +kernel) (Nat.le_of_ble_eq_true rfl) wc_67 ?_
  intro p e s m args below meth c A Q C hR
  unfold w_X0_pour at h
  obtain ⟨h_o, h⟩ := h
  have pC23 : ∀ (r23 : Int → Int → Int → gSt → Prop) (X23_85 : Int → Int → gSt → Prop) (hr23 : ∀ (v4 : Int) (v5 : Int) (v6 : Int) (M : gSt), r23 v4 v5 v6 M → gG p l e (rmR 4 93) s m args below meth c Q D clC A (wC ad cI cS) 11 23 [(0, .ref (ad o)), (1, iv a1), (2, iv a2), (3, iv a3), (4, iv v4), (5, iv v5), (6, iv v6)] [] M) (hX23_85 : ∀ (v4 : Int) (v5 : Int) (M : gSt), X23_85 v4 v5 M → gG p l e (rmR 4 93) s m args below meth c Q D clC A (wC ad cI cS) 11 85 [(0, .ref (ad o)), (1, iv a1), (2, iv a2), (3, iv a3), (4, iv v4), (5, iv v5)] [] M) (v4 : Int) (v5 : Int) (v6 : Int) (M : gSt), wC_X0_pour_23 o a1 a2 a3 k r23 X23_85 v4 v5 v6 M → gG p l e (rmR 4 93) s m args below meth c Q D clC A (wC ad cI cS) 11 23 [(0, .ref (ad o)), (1, iv a1), (2, iv a2), (3, iv a3), (4, iv v4), (5, iv v5), (6, iv v6)] [] M := by
    intro r23 X23_85 hr23 hX23_85 v4 v5 v6 M h
    unfold wC_X0_pour_23 at h
    refine g_iload C dX0_pour_23 rfl ?_
    refine g_bipush C dX0_pour_25 rfl ?_
    refine g_icmp_ge C 85 dX0_pour_27 (by decide) (fun hc => ?_) (fun hc => ?_)
    · replace h := h.1 hc
      refine g_locals (lv' := [(0, .ref (ad o)), (1, iv a1), (2, iv a2), (3, iv a3), (4, iv v4), (5, iv v5)]) rfl ?_
      exact hX23_85 _ _  _ h
    · replace h := h.2 hc
      refine g_iload C dX0_pour_30 rfl ?_
      refine g_i2l C dX0_pour_32 ?_
      refine g_aload_n C dX0_pour_33 rfl ?_
      refine g_iload_n C dX0_pour_34 rfl ?_
      refine g_iload C dX0_pour_35 rfl ?_
      refine g_callVi C (nargs := 2) (o := o) (st := [jv (wrap v4)]) (m_X0_number h) (show isBronze o from h.1).1 (show isBronze o from h.1).2.1 rfl rfl gc_X0_36 (by decide +kernel) ⟨rfl, rfl⟩ dX0_pour_37 ⟨by decide, by decide⟩ rfl rfl (Nat.le_of_ble_eq_true rfl) ?_
      intro r37c M37 hN
      replace h := hN
      clear hN
      refine g_i2l C dX0_pour_40 ?_
      refine g_lmul C dX0_pour_41 ?_
      refine g_nameL (fun x7_42 hx7_42 => ?_)
      replace h := h x7_42 hx7_42
      refine g_lstore C dX0_pour_42 (by decide) rfl ?_
      refine g_locals (lv' := [(0, .ref (ad o)), (1, iv a1), (2, iv a2), (3, iv a3), (4, iv v4), (5, iv v5), (6, iv v6), (7, jv x7_42)]) rfl ?_
      refine g_iload C dX0_pour_44 rfl ?_
      refine g_i2l C dX0_pour_46 ?_
      refine g_aload_n C dX0_pour_47 rfl ?_
      refine g_iload_n C dX0_pour_48 rfl ?_
      refine g_iload C dX0_pour_49 rfl ?_
      refine g_callVi C (nargs := 2) (o := o) (st := [jv (wrap v5)]) (m_X0_number h) (show isBronze o from h.1).1 (show isBronze o from h.1).2.1 rfl rfl gc_X0_36 (by decide +kernel) ⟨rfl, rfl⟩ dX0_pour_51 ⟨by decide, by decide⟩ rfl rfl (Nat.le_of_ble_eq_true rfl) ?_
      intro r51c M51 hN
      replace h := hN
      clear hN
      refine g_i2l C dX0_pour_54 ?_
      refine g_lmul C dX0_pour_55 ?_
      refine g_nameL (fun x9_56 hx9_56 => ?_)
      replace h := h x9_56 hx9_56
      refine g_lstore C dX0_pour_56 (by decide) rfl ?_
      refine g_locals (lv' := [(0, .ref (ad o)), (1, iv a1), (2, iv a2), (3, iv a3), (4, iv v4), (5, iv v5), (6, iv v6), (7, jv x7_42), (9, jv x9_56)]) rfl ?_
      refine g_aload_n C dX0_pour_58 rfl ?_
      refine g_iload_n C dX0_pour_59 rfl ?_
      refine g_iload C dX0_pour_60 rfl ?_
      refine g_lload C dX0_pour_62 rfl ?_
      refine g_lload C dX0_pour_64 rfl ?_
      refine g_ladd C dX0_pour_66 ?_
      refine g_iload C dX0_pour_67 rfl ?_
      refine g_iload C dX0_pour_69 rfl ?_
      refine g_iadd C dX0_pour_71 ?_
      refine g_i2l C dX0_pour_72 ?_
      refine g_callNSi C (nargs := 2) (st := [iv v6, iv a2, .ref (ad o)]) (m_X8_quotient h) zn_1 (gc_code wc_52) wc_26 wc_54 (by decide +kernel) ⟨rfl, rfl⟩ dX0_pour_73 ⟨by decide, by decide⟩ rfl rfl (Nat.le_of_ble_eq_true rfl) ?_
      intro r73c M73 hN
      replace h := hN
      clear hN
      refine g_callVv C (nargs := 3) (o := o) (st := []) (m_X0_become h) (show isBronze o from h.1).1 (show isBronze o from h.1).2.1 rfl rfl gc_X0_53 (by decide +kernel) ⟨rfl, rfl⟩ dX0_pour_76 ⟨by decide, by decide⟩ rfl rfl (Nat.le_of_ble_eq_true rfl) ?_
      intro M76 hN
      replace h := hN
      clear hN
      refine g_iinc C dX0_pour_79 rfl (by decide) rfl ?_
      refine g_locals (lv' := [(0, .ref (ad o)), (1, iv a1), (2, iv a2), (3, iv a3), (4, iv v4), (5, iv v5), (6, iv (v6 + 1)), (7, jv x7_42), (9, jv x9_56)]) rfl ?_
      refine g_goto C 23 dX0_pour_82 (by decide) ?_
      refine g_locals (lv' := [(0, .ref (ad o)), (1, iv a1), (2, iv a2), (3, iv a3), (4, iv v4), (5, iv v5), (6, iv (v6 + 1))]) rfl ?_
      exact hr23 _ _ _  _ h
  have pL23 : ∀  (X23_85 : Int → Int → gSt → Prop) (hX23_85 : ∀ (v4 : Int) (v5 : Int) (M : gSt), X23_85 v4 v5 M → gG p l e (rmR 4 93) s m args below meth c Q D clC A (wC ad cI cS) 11 85 [(0, .ref (ad o)), (1, iv a1), (2, iv a2), (3, iv a3), (4, iv v4), (5, iv v5)] [] M) (n : Nat) (v4 : Int) (v5 : Int) (v6 : Int) (M : gSt), wL_X0_pour_23 o a1 a2 a3 k  X23_85 n v4 v5 v6 M → gG p l e (rmR 4 93) s m args below meth c Q D clC A (wC ad cI cS) 11 23 [(0, .ref (ad o)), (1, iv a1), (2, iv a2), (3, iv a3), (4, iv v4), (5, iv v5), (6, iv v6)] [] M := by
    intro  X23_85 hX23_85 n
    induction n with
    | zero => intro v4 v5 v6 M h; exact h.elim
    | succ n ih =>
      intro v4 v5 v6 M h
      exact pC23  (wL_X0_pour_23 o a1 a2 a3 k  X23_85 n) X23_85 ih hX23_85 v4 v5 v6 M h
  have pC108 : ∀ (r108 : Int → Int → gSt → Prop) (X108_155 : gSt → Prop) (hr108 : ∀ (v6 : Int) (v7 : Int) (M : gSt), r108 v6 v7 M → gG p l e (rmR 4 93) s m args below meth c Q D clC A (wC ad cI cS) 11 108 [(0, .ref (ad o)), (1, iv a1), (2, iv a2), (3, iv a3), (6, iv v6), (7, iv v7)] [] M) (hX108_155 : ∀  (M : gSt), X108_155  M → gG p l e (rmR 4 93) s m args below meth c Q D clC A (wC ad cI cS) 11 155 [(0, .ref (ad o)), (1, iv a1), (3, iv a3)] [] M) (v6 : Int) (v7 : Int) (M : gSt), wC_X0_pour_108 o a1 a2 a3 k r108 X108_155 v6 v7 M → gG p l e (rmR 4 93) s m args below meth c Q D clC A (wC ad cI cS) 11 108 [(0, .ref (ad o)), (1, iv a1), (2, iv a2), (3, iv a3), (6, iv v6), (7, iv v7)] [] M := by
    intro r108 X108_155 hr108 hX108_155 v6 v7 M h
    unfold wC_X0_pour_108 at h
    refine g_iload C dX0_pour_108 rfl ?_
    refine g_bipush C dX0_pour_110 rfl ?_
    refine g_icmp_ge C 155 dX0_pour_112 (by decide) (fun hc => ?_) (fun hc => ?_)
    · replace h := h.1 hc
      refine g_locals (lv' := [(0, .ref (ad o)), (1, iv a1), (3, iv a3)]) rfl ?_
      exact hX108_155  _ h
    · replace h := h.2 hc
      refine g_aload_n C dX0_pour_115 rfl ?_
      refine g_iload_n C dX0_pour_116 rfl ?_
      refine g_iload C dX0_pour_117 rfl ?_
      refine g_callVi C (nargs := 2) (o := o) (st := []) (m_X0_number h) (show isBronze o from h.1).1 (show isBronze o from h.1).2.1 rfl rfl gc_X0_36 (by decide +kernel) ⟨rfl, rfl⟩ dX0_pour_119 ⟨by decide, by decide⟩ rfl rfl (Nat.le_of_ble_eq_true rfl) ?_
      intro r119c M119 hN
      replace h := hN
      clear hN
      refine g_aload_n C dX0_pour_122 rfl ?_
      refine g_iload_n C dX0_pour_123 rfl ?_
      refine g_iload C dX0_pour_124 rfl ?_
      refine g_iload_n C dX0_pour_126 rfl ?_
      refine g_bipush C dX0_pour_127 rfl ?_
      refine g_callVi C (nargs := 4) (o := o) (st := [iv r119c]) (m_X0_partOf h) (show isBronze o from h.1).1 (show isBronze o from h.1).2.1 rfl rfl gc_X0_62 (by decide +kernel) ⟨rfl, rfl⟩ dX0_pour_129 ⟨by decide, by decide⟩ rfl rfl (Nat.le_of_ble_eq_true rfl) ?_
      intro r129c M129 hN
      replace h := hN
      clear hN
      refine g_iadd C dX0_pour_132 ?_
      refine g_name (fun x8_133 hx8_133 => ?_)
      replace h := h x8_133 hx8_133
      refine g_istore C dX0_pour_133 (by decide) rfl ?_
      refine g_locals (lv' := [(0, .ref (ad o)), (1, iv a1), (2, iv a2), (3, iv a3), (6, iv v6), (7, iv v7), (8, iv x8_133)]) rfl ?_
      refine g_aload_n C dX0_pour_135 rfl ?_
      refine g_iload_n C dX0_pour_136 rfl ?_
      refine g_iload C dX0_pour_137 rfl ?_
      refine g_iload C dX0_pour_139 rfl ?_
      refine g_iload C dX0_pour_141 rfl ?_
      refine g_mmin C (st := [iv v7, iv a2, .ref (ad o)]) dX0_pour_143 wc_60 wc_61 wc_62 wc_63 (by decide) (Nat.le_of_ble_eq_true rfl) ?_
      refine g_callVv C (nargs := 3) (o := o) (st := []) (m_X0_become h) (show isBronze o from h.1).1 (show isBronze o from h.1).2.1 rfl rfl gc_X0_53 (by decide +kernel) ⟨rfl, rfl⟩ dX0_pour_146 ⟨by decide, by decide⟩ rfl rfl (Nat.le_of_ble_eq_true rfl) ?_
      intro M146 hN
      replace h := hN
      clear hN
      refine g_iinc C dX0_pour_149 rfl (by decide) rfl ?_
      refine g_locals (lv' := [(0, .ref (ad o)), (1, iv a1), (2, iv a2), (3, iv a3), (6, iv v6), (7, iv (v7 + 1)), (8, iv x8_133)]) rfl ?_
      refine g_goto C 108 dX0_pour_152 (by decide) ?_
      refine g_locals (lv' := [(0, .ref (ad o)), (1, iv a1), (2, iv a2), (3, iv a3), (6, iv v6), (7, iv (v7 + 1))]) rfl ?_
      exact hr108 _ _  _ h
  have pL108 : ∀  (X108_155 : gSt → Prop) (hX108_155 : ∀  (M : gSt), X108_155  M → gG p l e (rmR 4 93) s m args below meth c Q D clC A (wC ad cI cS) 11 155 [(0, .ref (ad o)), (1, iv a1), (3, iv a3)] [] M) (n : Nat) (v6 : Int) (v7 : Int) (M : gSt), wL_X0_pour_108 o a1 a2 a3 k  X108_155 n v6 v7 M → gG p l e (rmR 4 93) s m args below meth c Q D clC A (wC ad cI cS) 11 108 [(0, .ref (ad o)), (1, iv a1), (2, iv a2), (3, iv a3), (6, iv v6), (7, iv v7)] [] M := by
    intro  X108_155 hX108_155 n
    induction n with
    | zero => intro v6 v7 M h; exact h.elim
    | succ n ih =>
      intro v6 v7 M h
      exact pC108  (wL_X0_pour_108 o a1 a2 a3 k  X108_155 n) X108_155 ih hX108_155 v6 v7 M h
  refine g_locals (lv' := [(0, .ref (ad o)), (1, iv a1), (2, iv a2), (3, iv a3)]) rfl ?_
  refine g_aload_n C dX0_pour_0 rfl ?_
  refine g_iload_n C dX0_pour_1 rfl ?_
  refine g_iconst C dX0_pour_2 ?_
  refine g_iload_n C dX0_pour_3 rfl ?_
  refine g_bipush C dX0_pour_4 rfl ?_
  refine g_callVi C (nargs := 4) (o := o) (st := []) (m_X0_partOf h) (show isBronze o from h.1).1 (show isBronze o from h.1).2.1 rfl rfl gc_X0_62 (by decide +kernel) ⟨rfl, rfl⟩ dX0_pour_6 ⟨by decide, by decide⟩ rfl rfl (Nat.le_of_ble_eq_true rfl) ?_
  intro r6c M6 hN
  replace h := hN
  clear hN
  refine g_istore C dX0_pour_9 (by decide) rfl ?_
  refine g_locals (lv' := [(0, .ref (ad o)), (1, iv a1), (2, iv a2), (3, iv a3), (4, iv r6c)]) rfl ?_
  refine g_aload_n C dX0_pour_11 rfl ?_
  refine g_iload_n C dX0_pour_12 rfl ?_
  refine g_iconst C dX0_pour_13 ?_
  refine g_callVi C (nargs := 2) (o := o) (st := []) (m_X0_number h) (show isBronze o from h.1).1 (show isBronze o from h.1).2.1 rfl rfl gc_X0_36 (by decide +kernel) ⟨rfl, rfl⟩ dX0_pour_14 ⟨by decide, by decide⟩ rfl rfl (Nat.le_of_ble_eq_true rfl) ?_
  intro r14c M14 hN
  replace h := hN
  clear hN
  refine g_istore C dX0_pour_17 (by decide) rfl ?_
  refine g_locals (lv' := [(0, .ref (ad o)), (1, iv a1), (2, iv a2), (3, iv a3), (4, iv r6c), (5, iv r14c)]) rfl ?_
  refine g_bipush C dX0_pour_19 rfl ?_
  refine g_istore C dX0_pour_21 (by decide) rfl ?_
  refine g_locals (lv' := [(0, .ref (ad o)), (1, iv a1), (2, iv a2), (3, iv a3), (4, iv r6c), (5, iv r14c), (6, iv 6)]) rfl ?_
  refine g_locals (lv' := [(0, .ref (ad o)), (1, iv a1), (2, iv a2), (3, iv a3), (4, iv r6c), (5, iv r14c), (6, iv 6)]) rfl ?_
  obtain ⟨n, h⟩ := h
  refine pL23 _ ?_ n _ _ _ _ h
  · intro u4_23 u5_23 M23 hN
    replace h := hN
    clear hN
    refine g_ldc C 9999999 wc_59 rfl dX0_pour_85 ?_
    refine g_iload C dX0_pour_87 rfl ?_
    refine g_iload C dX0_pour_89 rfl ?_
    refine g_iadd C dX0_pour_91 ?_
    refine g_mmin C (st := []) dX0_pour_92 wc_60 wc_61 wc_62 wc_63 (by decide) (Nat.le_of_ble_eq_true rfl) ?_
    refine g_name (fun x6_95 hx6_95 => ?_)
    replace h := h x6_95 hx6_95
    refine g_istore C dX0_pour_95 (by decide) rfl ?_
    refine g_locals (lv' := [(0, .ref (ad o)), (1, iv a1), (2, iv a2), (3, iv a3), (4, iv u4_23), (5, iv u5_23), (6, iv x6_95)]) rfl ?_
    refine g_aload_n C dX0_pour_97 rfl ?_
    refine g_iload_n C dX0_pour_98 rfl ?_
    refine g_iconst C dX0_pour_99 ?_
    refine g_iload C dX0_pour_100 rfl ?_
    refine g_callVv C (nargs := 3) (o := o) (st := []) (m_X0_become h) (show isBronze o from h.1).1 (show isBronze o from h.1).2.1 rfl rfl gc_X0_53 (by decide +kernel) ⟨rfl, rfl⟩ dX0_pour_102 ⟨by decide, by decide⟩ rfl rfl (Nat.le_of_ble_eq_true rfl) ?_
    intro M102 hN
    replace h := hN
    clear hN
    refine g_iconst C dX0_pour_105 ?_
    refine g_istore C dX0_pour_106 (by decide) rfl ?_
    refine g_locals (lv' := [(0, .ref (ad o)), (1, iv a1), (2, iv a2), (3, iv a3), (4, iv u4_23), (5, iv u5_23), (6, iv x6_95), (7, iv 3)]) rfl ?_
    refine g_locals (lv' := [(0, .ref (ad o)), (1, iv a1), (2, iv a2), (3, iv a3), (6, iv x6_95), (7, iv 3)]) rfl ?_
    obtain ⟨n, h⟩ := h
    refine pL108 _ ?_ n _ _ _ h
    · intro  M108 hN
      replace h := hN
      clear hN
      refine g_aload_n C dX0_pour_155 rfl ?_
      refine g_iload_n C dX0_pour_156 rfl ?_
      refine g_iload_n C dX0_pour_157 rfl ?_
      refine g_bipush C dX0_pour_158 rfl ?_
      refine g_callVv C (nargs := 3) (o := o) (st := []) (m_X0_lose h) (show isBronze o from h.1).1 (show isBronze o from h.1).2.1 rfl rfl gc_X0_76 (by decide +kernel) ⟨rfl, rfl⟩ dX0_pour_160 ⟨by decide, by decide⟩ rfl rfl (Nat.le_of_ble_eq_true rfl) ?_
      intro M160 hN
      replace h := hN
      clear hN
      exact hR _ _ _ dX0_pour_163 h
end
section
def wC_X0_addTin_49 (o : Nat) (a1 : Int) (k : gSt → Prop) (r49 : Int → Int → Int → gSt → Prop) (X49_91 : gSt → Prop) (v2 : Int) (v3 : Int) (v4 : Int) (M : gSt) : Prop :=

  (10 ≤ wrap v4 →
    X49_91  M) ∧
  (wrap v4 < 10 →
    w_X0_number o 12 v4 M (fun r61c M61 => ∀ x5_68 : Int, x5_68 = (wrap r61c) * (wrap v2) → (w_X8_quotient x5_68 (wrap v3) M61 (fun r79c M79 => w_X0_become o 12 v4 r79c M79 (fun M82 => r49 v2 v3 (v4 + 1) M82)))))
def wL_X0_addTin_49 (o : Nat) (a1 : Int) (k : gSt → Prop)  (X49_91 : gSt → Prop) : Nat → Int → Int → Int → gSt → Prop
  | 0 => fun _ _ _ _ => False
  | n + 1 => fun v2 v3 v4 M => wC_X0_addTin_49 o a1 k  (wL_X0_addTin_49 o a1 k  X49_91 n) X49_91 v2 v3 v4 M
def w_X0_addTin (o : Nat) (a1 : Int) (M : gSt) (k : gSt → Prop) : Prop :=
  (isBronze o) ∧ (w_X0_number o 12 2 M (fun r4c M4 => ∀ x3_16 : Int, x3_16 = xmin 9999999 (r4c + a1) → (w_X0_become o 12 2 x3_16 M4 (fun M22 => w_X0_number o 12 3 M22 (fun r34c M34 => w_X0_become o 12 3 (xmin x3_16 (r34c + a1)) M34 (fun M42 => ∃ n, wL_X0_addTin_49 o a1 k  (fun  M49 =>
    k M49) n r4c x3_16 6 M42))))))
set_option maxHeartbeats 4000000 in
set_option maxRecDepth 100000 in
theorem m_X0_addTin {l : Launch} {D : va_G} {tys : List (ClassId × FieldType)} {ad : Nat → Nat} {cI cS : ClassId} {o : Nat} {a1 : Int} {M : gSt} {k : gSt → Prop} (h : w_X0_addTin o a1 M k) : MOv l yX0_addTin cX0_addTin 7 (rmR 2 46) D clC ((cI, .int) :: (cS, .object "OldBronze$Sheet") :: tys) (wC ad cI cS) tC zC [.ref (ad o), iv a1] M k := by
  refine mov_intro (by decide +kernel) (Nat.le_of_ble_eq_true rfl) wc_68 ?_
  intro p e s m args below meth c A Q C hR
  unfold w_X0_addTin at h
  obtain ⟨h_o, h⟩ := h
  have pC49 : ∀ (r49 : Int → Int → Int → gSt → Prop) (X49_91 : gSt → Prop) (hr49 : ∀ (v2 : Int) (v3 : Int) (v4 : Int) (M : gSt), r49 v2 v3 v4 M → gG p l e (rmR 2 46) s m args below meth c Q D clC A (wC ad cI cS) 7 49 [(0, .ref (ad o)), (2, iv v2), (3, iv v3), (4, iv v4)] [] M) (hX49_91 : ∀  (M : gSt), X49_91  M → gG p l e (rmR 2 46) s m args below meth c Q D clC A (wC ad cI cS) 7 91 [] [] M) (v2 : Int) (v3 : Int) (v4 : Int) (M : gSt), wC_X0_addTin_49 o a1 k r49 X49_91 v2 v3 v4 M → gG p l e (rmR 2 46) s m args below meth c Q D clC A (wC ad cI cS) 7 49 [(0, .ref (ad o)), (2, iv v2), (3, iv v3), (4, iv v4)] [] M := by
    intro r49 X49_91 hr49 hX49_91 v2 v3 v4 M h
    unfold wC_X0_addTin_49 at h
    refine g_iload C dX0_addTin_49 rfl ?_
    refine g_bipush C dX0_addTin_51 rfl ?_
    refine g_icmp_ge C 91 dX0_addTin_53 (by decide) (fun hc => ?_) (fun hc => ?_)
    · replace h := h.1 hc
      refine g_locals (lv' := []) rfl ?_
      exact hX49_91  _ h
    · replace h := h.2 hc
      refine g_aload_n C dX0_addTin_56 rfl ?_
      refine g_bipush C dX0_addTin_57 rfl ?_
      refine g_iload C dX0_addTin_59 rfl ?_
      refine g_callVi C (nargs := 2) (o := o) (st := []) (m_X0_number h) (show isBronze o from h.1).1 (show isBronze o from h.1).2.1 rfl rfl gc_X0_36 (by decide +kernel) ⟨rfl, rfl⟩ dX0_addTin_61 ⟨by decide, by decide⟩ rfl rfl (Nat.le_of_ble_eq_true rfl) ?_
      intro r61c M61 hN
      replace h := hN
      clear hN
      refine g_i2l C dX0_addTin_64 ?_
      refine g_iload_n C dX0_addTin_65 rfl ?_
      refine g_i2l C dX0_addTin_66 ?_
      refine g_lmul C dX0_addTin_67 ?_
      refine g_nameL (fun x5_68 hx5_68 => ?_)
      replace h := h x5_68 hx5_68
      refine g_lstore C dX0_addTin_68 (by decide) rfl ?_
      refine g_locals (lv' := [(0, .ref (ad o)), (2, iv v2), (3, iv v3), (4, iv v4), (5, jv x5_68)]) rfl ?_
      refine g_aload_n C dX0_addTin_70 rfl ?_
      refine g_bipush C dX0_addTin_71 rfl ?_
      refine g_iload C dX0_addTin_73 rfl ?_
      refine g_lload C dX0_addTin_75 rfl ?_
      refine g_iload_n C dX0_addTin_77 rfl ?_
      refine g_i2l C dX0_addTin_78 ?_
      refine g_callNSi C (nargs := 2) (st := [iv v4, iv 12, .ref (ad o)]) (m_X8_quotient h) zn_1 (gc_code wc_52) wc_26 wc_54 (by decide +kernel) ⟨rfl, rfl⟩ dX0_addTin_79 ⟨by decide, by decide⟩ rfl rfl (Nat.le_of_ble_eq_true rfl) ?_
      intro r79c M79 hN
      replace h := hN
      clear hN
      refine g_callVv C (nargs := 3) (o := o) (st := []) (m_X0_become h) (show isBronze o from h.1).1 (show isBronze o from h.1).2.1 rfl rfl gc_X0_53 (by decide +kernel) ⟨rfl, rfl⟩ dX0_addTin_82 ⟨by decide, by decide⟩ rfl rfl (Nat.le_of_ble_eq_true rfl) ?_
      intro M82 hN
      replace h := hN
      clear hN
      refine g_iinc C dX0_addTin_85 rfl (by decide) rfl ?_
      refine g_locals (lv' := [(0, .ref (ad o)), (2, iv v2), (3, iv v3), (4, iv (v4 + 1)), (5, jv x5_68)]) rfl ?_
      refine g_goto C 49 dX0_addTin_88 (by decide) ?_
      refine g_locals (lv' := [(0, .ref (ad o)), (2, iv v2), (3, iv v3), (4, iv (v4 + 1))]) rfl ?_
      exact hr49 _ _ _  _ h
  have pL49 : ∀  (X49_91 : gSt → Prop) (hX49_91 : ∀  (M : gSt), X49_91  M → gG p l e (rmR 2 46) s m args below meth c Q D clC A (wC ad cI cS) 7 91 [] [] M) (n : Nat) (v2 : Int) (v3 : Int) (v4 : Int) (M : gSt), wL_X0_addTin_49 o a1 k  X49_91 n v2 v3 v4 M → gG p l e (rmR 2 46) s m args below meth c Q D clC A (wC ad cI cS) 7 49 [(0, .ref (ad o)), (2, iv v2), (3, iv v3), (4, iv v4)] [] M := by
    intro  X49_91 hX49_91 n
    induction n with
    | zero => intro v2 v3 v4 M h; exact h.elim
    | succ n ih =>
      intro v2 v3 v4 M h
      exact pC49  (wL_X0_addTin_49 o a1 k  X49_91 n) X49_91 ih hX49_91 v2 v3 v4 M h
  refine g_locals (lv' := [(0, .ref (ad o)), (1, iv a1)]) rfl ?_
  refine g_aload_n C dX0_addTin_0 rfl ?_
  refine g_bipush C dX0_addTin_1 rfl ?_
  refine g_iconst C dX0_addTin_3 ?_
  refine g_callVi C (nargs := 2) (o := o) (st := []) (m_X0_number h) (show isBronze o from h.1).1 (show isBronze o from h.1).2.1 rfl rfl gc_X0_36 (by decide +kernel) ⟨rfl, rfl⟩ dX0_addTin_4 ⟨by decide, by decide⟩ rfl rfl (Nat.le_of_ble_eq_true rfl) ?_
  intro r4c M4 hN
  replace h := hN
  clear hN
  refine g_istore_n C dX0_addTin_7 (by decide) rfl ?_
  refine g_locals (lv' := [(0, .ref (ad o)), (1, iv a1), (2, iv r4c)]) rfl ?_
  refine g_ldc C 9999999 wc_59 rfl dX0_addTin_8 ?_
  refine g_iload_n C dX0_addTin_10 rfl ?_
  refine g_iload_n C dX0_addTin_11 rfl ?_
  refine g_iadd C dX0_addTin_12 ?_
  refine g_mmin C (st := []) dX0_addTin_13 wc_60 wc_61 wc_62 wc_63 (by decide) (Nat.le_of_ble_eq_true rfl) ?_
  refine g_name (fun x3_16 hx3_16 => ?_)
  replace h := h x3_16 hx3_16
  refine g_istore_n C dX0_addTin_16 (by decide) rfl ?_
  refine g_locals (lv' := [(0, .ref (ad o)), (1, iv a1), (2, iv r4c), (3, iv x3_16)]) rfl ?_
  refine g_aload_n C dX0_addTin_17 rfl ?_
  refine g_bipush C dX0_addTin_18 rfl ?_
  refine g_iconst C dX0_addTin_20 ?_
  refine g_iload_n C dX0_addTin_21 rfl ?_
  refine g_callVv C (nargs := 3) (o := o) (st := []) (m_X0_become h) (show isBronze o from h.1).1 (show isBronze o from h.1).2.1 rfl rfl gc_X0_53 (by decide +kernel) ⟨rfl, rfl⟩ dX0_addTin_22 ⟨by decide, by decide⟩ rfl rfl (Nat.le_of_ble_eq_true rfl) ?_
  intro M22 hN
  replace h := hN
  clear hN
  refine g_aload_n C dX0_addTin_25 rfl ?_
  refine g_bipush C dX0_addTin_26 rfl ?_
  refine g_iconst C dX0_addTin_28 ?_
  refine g_iload_n C dX0_addTin_29 rfl ?_
  refine g_aload_n C dX0_addTin_30 rfl ?_
  refine g_bipush C dX0_addTin_31 rfl ?_
  refine g_iconst C dX0_addTin_33 ?_
  refine g_callVi C (nargs := 2) (o := o) (st := [iv x3_16, iv 3, iv 12, .ref (ad o)]) (m_X0_number h) (show isBronze o from h.1).1 (show isBronze o from h.1).2.1 rfl rfl gc_X0_36 (by decide +kernel) ⟨rfl, rfl⟩ dX0_addTin_34 ⟨by decide, by decide⟩ rfl rfl (Nat.le_of_ble_eq_true rfl) ?_
  intro r34c M34 hN
  replace h := hN
  clear hN
  refine g_iload_n C dX0_addTin_37 rfl ?_
  refine g_iadd C dX0_addTin_38 ?_
  refine g_mmin C (st := [iv 3, iv 12, .ref (ad o)]) dX0_addTin_39 wc_60 wc_61 wc_62 wc_63 (by decide) (Nat.le_of_ble_eq_true rfl) ?_
  refine g_callVv C (nargs := 3) (o := o) (st := []) (m_X0_become h) (show isBronze o from h.1).1 (show isBronze o from h.1).2.1 rfl rfl gc_X0_53 (by decide +kernel) ⟨rfl, rfl⟩ dX0_addTin_42 ⟨by decide, by decide⟩ rfl rfl (Nat.le_of_ble_eq_true rfl) ?_
  intro M42 hN
  replace h := hN
  clear hN
  refine g_bipush C dX0_addTin_45 rfl ?_
  refine g_istore C dX0_addTin_47 (by decide) rfl ?_
  refine g_locals (lv' := [(0, .ref (ad o)), (1, iv a1), (2, iv r4c), (3, iv x3_16), (4, iv 6)]) rfl ?_
  refine g_locals (lv' := [(0, .ref (ad o)), (2, iv r4c), (3, iv x3_16), (4, iv 6)]) rfl ?_
  obtain ⟨n, h⟩ := h
  refine pL49 _ ?_ n _ _ _ _ h
  · intro  M49 hN
    replace h := hN
    clear hN
    exact hR _ _ _ dX0_addTin_91 h
def wB_X0_addCast_99 (o : Nat) (a1 : Int) (a2 : Int) (k : Int → gSt → Prop) (r26 : Int → Int → Int → gSt → Prop) (X26_118 : Int → gSt → Prop) (v3 : Int) (v4 : Int) (v5 : Int) (v8 : Int) (s0 : Int) (s1 : Int) (s2 : Int) (M : gSt) : Prop :=
w_X0_become o s2 s1 s0 M (fun M99 => w_X0_become o v4 v5 v8 M99 (fun M109 => r26 v3 v4 (v5 + 1) M109))
def wB_X0_addCast_78 (o : Nat) (a1 : Int) (a2 : Int) (k : Int → gSt → Prop) (r26 : Int → Int → Int → gSt → Prop) (X26_118 : Int → gSt → Prop) (v3 : Int) (v4 : Int) (v5 : Int) (v6 : Int) (v7 : Int) (s0 : Int) (M : gSt) : Prop :=

  (wrap v6 = 0 →
    wB_X0_addCast_99 o a1 a2 k r26 X26_118 v3 v4 v5 s0 (v7 - s0) v5 v3 M) ∧
  (¬ wrap v6 = 0 →
    wB_X0_addCast_99 o a1 a2 k r26 X26_118 v3 v4 v5 s0 v7 v5 v3 M)
def wB_X0_addCast_45 (o : Nat) (a1 : Int) (a2 : Int) (k : Int → gSt → Prop) (r26 : Int → Int → Int → gSt → Prop) (X26_118 : Int → gSt → Prop) (v3 : Int) (v4 : Int) (v5 : Int) (s0 : Int) (M : gSt) : Prop :=
w_X0_number o 12 v5 M (fun r52c M52 => 
  (wrap s0 = 0 →
    w_X0_partOf o 12 v5 a2 10 M52 (fun r75c M75 => wB_X0_addCast_78 o a1 a2 k r26 X26_118 v3 v4 v5 s0 r52c r75c M75)) ∧
  (¬ wrap s0 = 0 →
    wB_X0_addCast_78 o a1 a2 k r26 X26_118 v3 v4 v5 s0 r52c r52c M52))
def wC_X0_addCast_26 (o : Nat) (a1 : Int) (a2 : Int) (k : Int → gSt → Prop) (r26 : Int → Int → Int → gSt → Prop) (X26_118 : Int → gSt → Prop) (v3 : Int) (v4 : Int) (v5 : Int) (M : gSt) : Prop :=

  (10 ≤ wrap v5 →
    X26_118 v3 M) ∧
  (wrap v5 < 10 →

    (wrap v5 < 6 →
      wB_X0_addCast_45 o a1 a2 k r26 X26_118 v3 v4 v5 0 M) ∧
    (6 ≤ wrap v5 →
      wB_X0_addCast_45 o a1 a2 k r26 X26_118 v3 v4 v5 1 M))
def wL_X0_addCast_26 (o : Nat) (a1 : Int) (a2 : Int) (k : Int → gSt → Prop)  (X26_118 : Int → gSt → Prop) : Nat → Int → Int → Int → gSt → Prop
  | 0 => fun _ _ _ _ => False
  | n + 1 => fun v3 v4 v5 M => wC_X0_addCast_26 o a1 a2 k  (wL_X0_addCast_26 o a1 a2 k  X26_118 n) X26_118 v3 v4 v5 M
def wB_X0_addCast_21 (o : Nat) (a1 : Int) (a2 : Int) (k : Int → gSt → Prop)  (v3 : Int) (s0 : Int) (M : gSt) : Prop :=
∃ n, wL_X0_addCast_26 o a1 a2 k  (fun u3_26 M26 =>
    w_X0_fill o 12 0 M26 (fun M122 => k u3_26 M122)) n v3 s0 2 M
def w_X0_addCast (o : Nat) (a1 : Int) (a2 : Int) (M : gSt) (k : Int → gSt → Prop) : Prop :=
  (isBronze o) ∧ (w_X0_add o a1 M (fun r2c M2 => 
  (wrap a2 ≤ 0 →
    wB_X0_addCast_21 o a1 a2 k  r2c (-1) M2) ∧
  (0 < wrap a2 →
    w_X0_add o 600 M2 (fun r14c M14 => wB_X0_addCast_21 o a1 a2 k  r2c r14c M14))))
set_option maxHeartbeats 4000000 in
set_option maxRecDepth 100000 in
theorem m_X0_addCast {l : Launch} {D : va_G} {tys : List (ClassId × FieldType)} {ad : Nat → Nat} {cI cS : ClassId} {o : Nat} {a1 : Int} {a2 : Int} {M : gSt} {k : Int → gSt → Prop} (h : w_X0_addCast o a1 a2 M k) : MOi l yX0_addCast cX0_addCast 9 .int (rmR 4 91) D clC ((cI, .int) :: (cS, .object "OldBronze$Sheet") :: tys) (wC ad cI cS) tC zC [.ref (ad o), iv a1, iv a2] M k := by
  refine moi_intro (by decide +kernel) (Nat.le_of_ble_eq_true rfl) wc_69 ?_
  intro p e s m args below meth c A Q C hR
  unfold w_X0_addCast at h
  obtain ⟨h_o, h⟩ := h
  have pB99 : ∀ (r26 : Int → Int → Int → gSt → Prop) (X26_118 : Int → gSt → Prop) (hr26 : ∀ (v3 : Int) (v4 : Int) (v5 : Int) (M : gSt), r26 v3 v4 v5 M → gG p l e (rmR 4 91) s m args below meth c Q D clC A (wC ad cI cS) 9 26 [(0, .ref (ad o)), (2, iv a2), (3, iv v3), (4, iv v4), (5, iv v5)] [] M) (hX26_118 : ∀ (v3 : Int) (M : gSt), X26_118 v3 M → gG p l e (rmR 4 91) s m args below meth c Q D clC A (wC ad cI cS) 9 118 [(0, .ref (ad o)), (3, iv v3)] [] M) (v3 : Int) (v4 : Int) (v5 : Int) (v8 : Int) (s0 : Int) (s1 : Int) (s2 : Int) (M : gSt), wB_X0_addCast_99 o a1 a2 k r26 X26_118 v3 v4 v5 v8 s0 s1 s2 M → gG p l e (rmR 4 91) s m args below meth c Q D clC A (wC ad cI cS) 9 99 [(0, .ref (ad o)), (2, iv a2), (3, iv v3), (4, iv v4), (5, iv v5), (8, iv v8)] [iv s0, iv s1, iv s2, .ref (ad o)] M := by
    intro r26 X26_118 hr26 hX26_118 v3 v4 v5 v8 s0 s1 s2 M h
    unfold wB_X0_addCast_99 at h
    refine g_callVv C (nargs := 3) (o := o) (st := []) (m_X0_become h) (show isBronze o from h.1).1 (show isBronze o from h.1).2.1 rfl rfl gc_X0_53 (by decide +kernel) ⟨rfl, rfl⟩ dX0_addCast_99 ⟨by decide, by decide⟩ rfl rfl (Nat.le_of_ble_eq_true rfl) ?_
    intro M99 hN
    replace h := hN
    clear hN
    refine g_aload_n C dX0_addCast_102 rfl ?_
    refine g_iload C dX0_addCast_103 rfl ?_
    refine g_iload C dX0_addCast_105 rfl ?_
    refine g_iload C dX0_addCast_107 rfl ?_
    refine g_callVv C (nargs := 3) (o := o) (st := []) (m_X0_become h) (show isBronze o from h.1).1 (show isBronze o from h.1).2.1 rfl rfl gc_X0_53 (by decide +kernel) ⟨rfl, rfl⟩ dX0_addCast_109 ⟨by decide, by decide⟩ rfl rfl (Nat.le_of_ble_eq_true rfl) ?_
    intro M109 hN
    replace h := hN
    clear hN
    refine g_iinc C dX0_addCast_112 rfl (by decide) rfl ?_
    refine g_locals (lv' := [(0, .ref (ad o)), (2, iv a2), (3, iv v3), (4, iv v4), (5, iv (v5 + 1)), (8, iv v8)]) rfl ?_
    refine g_goto C 26 dX0_addCast_115 (by decide) ?_
    refine g_locals (lv' := [(0, .ref (ad o)), (2, iv a2), (3, iv v3), (4, iv v4), (5, iv (v5 + 1))]) rfl ?_
    exact hr26 _ _ _  _ h
  have pB78 : ∀ (r26 : Int → Int → Int → gSt → Prop) (X26_118 : Int → gSt → Prop) (hr26 : ∀ (v3 : Int) (v4 : Int) (v5 : Int) (M : gSt), r26 v3 v4 v5 M → gG p l e (rmR 4 91) s m args below meth c Q D clC A (wC ad cI cS) 9 26 [(0, .ref (ad o)), (2, iv a2), (3, iv v3), (4, iv v4), (5, iv v5)] [] M) (hX26_118 : ∀ (v3 : Int) (M : gSt), X26_118 v3 M → gG p l e (rmR 4 91) s m args below meth c Q D clC A (wC ad cI cS) 9 118 [(0, .ref (ad o)), (3, iv v3)] [] M) (v3 : Int) (v4 : Int) (v5 : Int) (v6 : Int) (v7 : Int) (s0 : Int) (M : gSt), wB_X0_addCast_78 o a1 a2 k r26 X26_118 v3 v4 v5 v6 v7 s0 M → gG p l e (rmR 4 91) s m args below meth c Q D clC A (wC ad cI cS) 9 78 [(0, .ref (ad o)), (2, iv a2), (3, iv v3), (4, iv v4), (5, iv v5), (6, iv v6), (7, iv v7)] [iv s0] M := by
    intro r26 X26_118 hr26 hX26_118 v3 v4 v5 v6 v7 s0 M h
    unfold wB_X0_addCast_78 at h
    refine g_istore C dX0_addCast_78 (by decide) rfl ?_
    refine g_locals (lv' := [(0, .ref (ad o)), (2, iv a2), (3, iv v3), (4, iv v4), (5, iv v5), (6, iv v6), (7, iv v7), (8, iv s0)]) rfl ?_
    refine g_aload_n C dX0_addCast_80 rfl ?_
    refine g_iload_n C dX0_addCast_81 rfl ?_
    refine g_iload C dX0_addCast_82 rfl ?_
    refine g_iload C dX0_addCast_84 rfl ?_
    refine g_if_eq C 94 dX0_addCast_86 (by decide) (fun hc => ?_) (fun hc => ?_)
    · replace h := h.1 hc
      refine g_iload C dX0_addCast_94 rfl ?_
      refine g_iload C dX0_addCast_96 rfl ?_
      refine g_isub C dX0_addCast_98 ?_
      refine g_locals (lv' := [(0, .ref (ad o)), (2, iv a2), (3, iv v3), (4, iv v4), (5, iv v5), (8, iv s0)]) rfl ?_
      exact pB99 r26 X26_118 hr26 hX26_118 _ _ _ _ _ _ _ _ h
    · replace h := h.2 hc
      refine g_iload C dX0_addCast_89 rfl ?_
      refine g_goto C 99 dX0_addCast_91 (by decide) ?_
      refine g_locals (lv' := [(0, .ref (ad o)), (2, iv a2), (3, iv v3), (4, iv v4), (5, iv v5), (8, iv s0)]) rfl ?_
      exact pB99 r26 X26_118 hr26 hX26_118 _ _ _ _ _ _ _ _ h
  have pB45 : ∀ (r26 : Int → Int → Int → gSt → Prop) (X26_118 : Int → gSt → Prop) (hr26 : ∀ (v3 : Int) (v4 : Int) (v5 : Int) (M : gSt), r26 v3 v4 v5 M → gG p l e (rmR 4 91) s m args below meth c Q D clC A (wC ad cI cS) 9 26 [(0, .ref (ad o)), (2, iv a2), (3, iv v3), (4, iv v4), (5, iv v5)] [] M) (hX26_118 : ∀ (v3 : Int) (M : gSt), X26_118 v3 M → gG p l e (rmR 4 91) s m args below meth c Q D clC A (wC ad cI cS) 9 118 [(0, .ref (ad o)), (3, iv v3)] [] M) (v3 : Int) (v4 : Int) (v5 : Int) (s0 : Int) (M : gSt), wB_X0_addCast_45 o a1 a2 k r26 X26_118 v3 v4 v5 s0 M → gG p l e (rmR 4 91) s m args below meth c Q D clC A (wC ad cI cS) 9 45 [(0, .ref (ad o)), (2, iv a2), (3, iv v3), (4, iv v4), (5, iv v5)] [iv s0] M := by
    intro r26 X26_118 hr26 hX26_118 v3 v4 v5 s0 M h
    unfold wB_X0_addCast_45 at h
    refine g_istore C dX0_addCast_45 (by decide) rfl ?_
    refine g_locals (lv' := [(0, .ref (ad o)), (2, iv a2), (3, iv v3), (4, iv v4), (5, iv v5), (6, iv s0)]) rfl ?_
    refine g_aload_n C dX0_addCast_47 rfl ?_
    refine g_bipush C dX0_addCast_48 rfl ?_
    refine g_iload C dX0_addCast_50 rfl ?_
    refine g_callVi C (nargs := 2) (o := o) (st := []) (m_X0_number h) (show isBronze o from h.1).1 (show isBronze o from h.1).2.1 rfl rfl gc_X0_36 (by decide +kernel) ⟨rfl, rfl⟩ dX0_addCast_52 ⟨by decide, by decide⟩ rfl rfl (Nat.le_of_ble_eq_true rfl) ?_
    intro r52c M52 hN
    replace h := hN
    clear hN
    refine g_istore C dX0_addCast_55 (by decide) rfl ?_
    refine g_locals (lv' := [(0, .ref (ad o)), (2, iv a2), (3, iv v3), (4, iv v4), (5, iv v5), (6, iv s0), (7, iv r52c)]) rfl ?_
    refine g_iload C dX0_addCast_57 rfl ?_
    refine g_if_eq C 67 dX0_addCast_59 (by decide) (fun hc => ?_) (fun hc => ?_)
    · replace h := h.1 hc
      refine g_aload_n C dX0_addCast_67 rfl ?_
      refine g_bipush C dX0_addCast_68 rfl ?_
      refine g_iload C dX0_addCast_70 rfl ?_
      refine g_iload_n C dX0_addCast_72 rfl ?_
      refine g_bipush C dX0_addCast_73 rfl ?_
      refine g_callVi C (nargs := 4) (o := o) (st := []) (m_X0_partOf h) (show isBronze o from h.1).1 (show isBronze o from h.1).2.1 rfl rfl gc_X0_62 (by decide +kernel) ⟨rfl, rfl⟩ dX0_addCast_75 ⟨by decide, by decide⟩ rfl rfl (Nat.le_of_ble_eq_true rfl) ?_
      intro r75c M75 hN
      replace h := hN
      clear hN
      refine g_locals (lv' := [(0, .ref (ad o)), (2, iv a2), (3, iv v3), (4, iv v4), (5, iv v5), (6, iv s0), (7, iv r52c)]) rfl ?_
      exact pB78 r26 X26_118 hr26 hX26_118 _ _ _ _ _ _ _ h
    · replace h := h.2 hc
      refine g_iload C dX0_addCast_62 rfl ?_
      refine g_goto C 78 dX0_addCast_64 (by decide) ?_
      refine g_locals (lv' := [(0, .ref (ad o)), (2, iv a2), (3, iv v3), (4, iv v4), (5, iv v5), (6, iv s0), (7, iv r52c)]) rfl ?_
      exact pB78 r26 X26_118 hr26 hX26_118 _ _ _ _ _ _ _ h
  have pC26 : ∀ (r26 : Int → Int → Int → gSt → Prop) (X26_118 : Int → gSt → Prop) (hr26 : ∀ (v3 : Int) (v4 : Int) (v5 : Int) (M : gSt), r26 v3 v4 v5 M → gG p l e (rmR 4 91) s m args below meth c Q D clC A (wC ad cI cS) 9 26 [(0, .ref (ad o)), (2, iv a2), (3, iv v3), (4, iv v4), (5, iv v5)] [] M) (hX26_118 : ∀ (v3 : Int) (M : gSt), X26_118 v3 M → gG p l e (rmR 4 91) s m args below meth c Q D clC A (wC ad cI cS) 9 118 [(0, .ref (ad o)), (3, iv v3)] [] M) (v3 : Int) (v4 : Int) (v5 : Int) (M : gSt), wC_X0_addCast_26 o a1 a2 k r26 X26_118 v3 v4 v5 M → gG p l e (rmR 4 91) s m args below meth c Q D clC A (wC ad cI cS) 9 26 [(0, .ref (ad o)), (2, iv a2), (3, iv v3), (4, iv v4), (5, iv v5)] [] M := by
    intro r26 X26_118 hr26 hX26_118 v3 v4 v5 M h
    unfold wC_X0_addCast_26 at h
    refine g_iload C dX0_addCast_26 rfl ?_
    refine g_bipush C dX0_addCast_28 rfl ?_
    refine g_icmp_ge C 118 dX0_addCast_30 (by decide) (fun hc => ?_) (fun hc => ?_)
    · replace h := h.1 hc
      refine g_locals (lv' := [(0, .ref (ad o)), (3, iv v3)]) rfl ?_
      exact hX26_118 _  _ h
    · replace h := h.2 hc
      refine g_iload C dX0_addCast_33 rfl ?_
      refine g_bipush C dX0_addCast_35 rfl ?_
      refine g_icmp_lt C 44 dX0_addCast_37 (by decide) (fun hc => ?_) (fun hc => ?_)
      · replace h := h.1 hc
        refine g_iconst C dX0_addCast_44 ?_
        refine g_locals (lv' := [(0, .ref (ad o)), (2, iv a2), (3, iv v3), (4, iv v4), (5, iv v5)]) rfl ?_
        exact pB45 r26 X26_118 hr26 hX26_118 _ _ _ _ _ h
      · replace h := h.2 hc
        refine g_iconst C dX0_addCast_40 ?_
        refine g_goto C 45 dX0_addCast_41 (by decide) ?_
        refine g_locals (lv' := [(0, .ref (ad o)), (2, iv a2), (3, iv v3), (4, iv v4), (5, iv v5)]) rfl ?_
        exact pB45 r26 X26_118 hr26 hX26_118 _ _ _ _ _ h
  have pL26 : ∀  (X26_118 : Int → gSt → Prop) (hX26_118 : ∀ (v3 : Int) (M : gSt), X26_118 v3 M → gG p l e (rmR 4 91) s m args below meth c Q D clC A (wC ad cI cS) 9 118 [(0, .ref (ad o)), (3, iv v3)] [] M) (n : Nat) (v3 : Int) (v4 : Int) (v5 : Int) (M : gSt), wL_X0_addCast_26 o a1 a2 k  X26_118 n v3 v4 v5 M → gG p l e (rmR 4 91) s m args below meth c Q D clC A (wC ad cI cS) 9 26 [(0, .ref (ad o)), (2, iv a2), (3, iv v3), (4, iv v4), (5, iv v5)] [] M := by
    intro  X26_118 hX26_118 n
    induction n with
    | zero => intro v3 v4 v5 M h; exact h.elim
    | succ n ih =>
      intro v3 v4 v5 M h
      exact pC26  (wL_X0_addCast_26 o a1 a2 k  X26_118 n) X26_118 ih hX26_118 v3 v4 v5 M h
  have pB21 : ∀   (v3 : Int) (s0 : Int) (M : gSt), wB_X0_addCast_21 o a1 a2 k  v3 s0 M → gG p l e (rmR 4 91) s m args below meth c Q D clC A (wC ad cI cS) 9 21 [(0, .ref (ad o)), (2, iv a2), (3, iv v3)] [iv s0] M := by
    intro   v3 s0 M h
    unfold wB_X0_addCast_21 at h
    refine g_istore C dX0_addCast_21 (by decide) rfl ?_
    refine g_locals (lv' := [(0, .ref (ad o)), (2, iv a2), (3, iv v3), (4, iv s0)]) rfl ?_
    refine g_iconst C dX0_addCast_23 ?_
    refine g_istore C dX0_addCast_24 (by decide) rfl ?_
    refine g_locals (lv' := [(0, .ref (ad o)), (2, iv a2), (3, iv v3), (4, iv s0), (5, iv 2)]) rfl ?_
    refine g_locals (lv' := [(0, .ref (ad o)), (2, iv a2), (3, iv v3), (4, iv s0), (5, iv 2)]) rfl ?_
    obtain ⟨n, h⟩ := h
    refine pL26 _ ?_ n _ _ _ _ h
    · intro u3_26 M26 hN
      replace h := hN
      clear hN
      refine g_aload_n C dX0_addCast_118 rfl ?_
      refine g_bipush C dX0_addCast_119 rfl ?_
      refine g_iconst C dX0_addCast_121 ?_
      refine g_callVv C (nargs := 2) (o := o) (st := []) (m_X0_fill h) (show isBronze o from h.1).1 (show isBronze o from h.1).2.1 rfl rfl gc_X0_49 (by decide +kernel) ⟨rfl, rfl⟩ dX0_addCast_122 ⟨by decide, by decide⟩ rfl rfl (Nat.le_of_ble_eq_true rfl) ?_
      intro M122 hN
      replace h := hN
      clear hN
      refine g_iload_n C dX0_addCast_125 rfl ?_
      exact hR _ _ _ _ dX0_addCast_126 rfl h
  refine g_locals (lv' := [(0, .ref (ad o)), (1, iv a1), (2, iv a2)]) rfl ?_
  refine g_aload_n C dX0_addCast_0 rfl ?_
  refine g_iload_n C dX0_addCast_1 rfl ?_
  refine g_callVi C (nargs := 1) (o := o) (st := []) (m_X0_add h) (show isBronze o from h.1).1 (show isBronze o from h.1).2.1 rfl rfl gc_X0_57 (by decide +kernel) ⟨rfl, rfl⟩ dX0_addCast_2 ⟨by decide, by decide⟩ rfl rfl (Nat.le_of_ble_eq_true rfl) ?_
  intro r2c M2 hN
  replace h := hN
  clear hN
  refine g_istore_n C dX0_addCast_5 (by decide) rfl ?_
  refine g_locals (lv' := [(0, .ref (ad o)), (1, iv a1), (2, iv a2), (3, iv r2c)]) rfl ?_
  refine g_iload_n C dX0_addCast_6 rfl ?_
  refine g_if_le C 20 dX0_addCast_7 (by decide) (fun hc => ?_) (fun hc => ?_)
  · replace h := h.1 hc
    refine g_iconst C dX0_addCast_20 ?_
    refine g_locals (lv' := [(0, .ref (ad o)), (2, iv a2), (3, iv r2c)]) rfl ?_
    exact pB21 _ _ _ h
  · replace h := h.2 hc
    refine g_aload_n C dX0_addCast_10 rfl ?_
    refine g_sipush C dX0_addCast_11 rfl ?_
    refine g_callVi C (nargs := 1) (o := o) (st := []) (m_X0_add h) (show isBronze o from h.1).1 (show isBronze o from h.1).2.1 rfl rfl gc_X0_57 (by decide +kernel) ⟨rfl, rfl⟩ dX0_addCast_14 ⟨by decide, by decide⟩ rfl rfl (Nat.le_of_ble_eq_true rfl) ?_
    intro r14c M14 hN
    replace h := hN
    clear hN
    refine g_goto C 21 dX0_addCast_17 (by decide) ?_
    refine g_locals (lv' := [(0, .ref (ad o)), (2, iv a2), (3, iv r2c)]) rfl ?_
    exact pB21 _ _ _ h
def wB_X0_passYear_62 (o : Nat) (k : gSt → Prop) (r12 : Int → gSt → Prop) (X12_68 : gSt → Prop) (v1 : Int) (M : gSt) : Prop :=
r12 (v1 + 1) M
def wC_X0_passYear_12 (o : Nat) (k : gSt → Prop) (r12 : Int → gSt → Prop) (X12_68 : gSt → Prop) (v1 : Int) (M : gSt) : Prop :=

  (wrap (M o 1) ≤ wrap v1 →
    X12_68  M) ∧
  (wrap v1 < wrap (M o 1) →
    ∀ M32 : gSt, M32 = wr M o 4 (((M o 4) * 1103515245) + 12345) → (w_X0_number o v1 1 M32 (fun r48c M48 => 
    (wrap r48c ≤ wrap (Int.tmod (wrap (xushr (M32 o 4) 8)) 100) →
      wB_X0_passYear_62 o k r12 X12_68 v1 M48) ∧
    (wrap (Int.tmod (wrap (xushr (M32 o 4) 8)) 100) < wrap r48c →
      w_X0_lose o v1 1 100 M48 (fun M59 => wB_X0_passYear_62 o k r12 X12_68 v1 M59)))))
def wL_X0_passYear_12 (o : Nat) (k : gSt → Prop)  (X12_68 : gSt → Prop) : Nat → Int → gSt → Prop
  | 0 => fun _ _ => False
  | n + 1 => fun v1 M => wC_X0_passYear_12 o k  (wL_X0_passYear_12 o k  X12_68 n) X12_68 v1 M
def w_X0_passYear (o : Nat) (M : gSt) (k : gSt → Prop) : Prop :=
  (isBronze o) ∧ (∀ M7 : gSt, M7 = wr M o 3 ((M o 3) + 1) → (∃ n, wL_X0_passYear_12 o k  (fun  M12 =>
    k M12) n 0 M7))
set_option maxHeartbeats 4000000 in
set_option maxRecDepth 100000 in
theorem m_X0_passYear {l : Launch} {D : va_G} {tys : List (ClassId × FieldType)} {ad : Nat → Nat} {cI cS : ClassId} {o : Nat} {M : gSt} {k : gSt → Prop} (h : w_X0_passYear o M k) : MOv l yX0_passYear cX0_passYear 2 (rmR 4 93) D clC ((cI, .int) :: (cS, .object "OldBronze$Sheet") :: tys) (wC ad cI cS) tC zC [.ref (ad o)] M k := by
  refine mov_intro (by decide +kernel) (Nat.le_of_ble_eq_true rfl) wc_71 ?_
  intro p e s m args below meth c A Q C hR
  unfold w_X0_passYear at h
  obtain ⟨h_o, h⟩ := h
  have pB62 : ∀ (r12 : Int → gSt → Prop) (X12_68 : gSt → Prop) (hr12 : ∀ (v1 : Int) (M : gSt), r12 v1 M → gG p l e (rmR 4 93) s m args below meth c Q D clC A (wC ad cI cS) 2 12 [(0, .ref (ad o)), (1, iv v1)] [] M) (hX12_68 : ∀  (M : gSt), X12_68  M → gG p l e (rmR 4 93) s m args below meth c Q D clC A (wC ad cI cS) 2 68 [] [] M) (v1 : Int) (M : gSt), wB_X0_passYear_62 o k r12 X12_68 v1 M → gG p l e (rmR 4 93) s m args below meth c Q D clC A (wC ad cI cS) 2 62 [(0, .ref (ad o)), (1, iv v1)] [] M := by
    intro r12 X12_68 hr12 hX12_68 v1 M h
    unfold wB_X0_passYear_62 at h
    refine g_iinc C dX0_passYear_62 rfl (by decide) rfl ?_
    refine g_locals (lv' := [(0, .ref (ad o)), (1, iv (v1 + 1))]) rfl ?_
    refine g_goto C 12 dX0_passYear_65 (by decide) ?_
    refine g_locals (lv' := [(0, .ref (ad o)), (1, iv (v1 + 1))]) rfl ?_
    exact hr12 _  _ h
  have pC12 : ∀ (r12 : Int → gSt → Prop) (X12_68 : gSt → Prop) (hr12 : ∀ (v1 : Int) (M : gSt), r12 v1 M → gG p l e (rmR 4 93) s m args below meth c Q D clC A (wC ad cI cS) 2 12 [(0, .ref (ad o)), (1, iv v1)] [] M) (hX12_68 : ∀  (M : gSt), X12_68  M → gG p l e (rmR 4 93) s m args below meth c Q D clC A (wC ad cI cS) 2 68 [] [] M) (v1 : Int) (M : gSt), wC_X0_passYear_12 o k r12 X12_68 v1 M → gG p l e (rmR 4 93) s m args below meth c Q D clC A (wC ad cI cS) 2 12 [(0, .ref (ad o)), (1, iv v1)] [] M := by
    intro r12 X12_68 hr12 hX12_68 v1 M h
    unfold wC_X0_passYear_12 at h
    refine g_iload_n C dX0_passYear_12 rfl ?_
    refine g_aload_n C dX0_passYear_13 rfl ?_
    refine cf_X0_19 C h_o dX0_passYear_14 ?_
    refine g_icmp_ge C 68 dX0_passYear_17 (by decide) (fun hc => ?_) (fun hc => ?_)
    · replace h := h.1 hc
      refine g_locals (lv' := []) rfl ?_
      exact hX12_68  _ h
    · replace h := h.2 hc
      refine g_aload_n C dX0_passYear_20 rfl ?_
      refine g_aload_n C dX0_passYear_21 rfl ?_
      refine cf_X0_15 C h_o dX0_passYear_22 ?_
      refine g_ldc C 1103515245 wc_70 rfl dX0_passYear_25 ?_
      refine g_imul C dX0_passYear_27 ?_
      refine g_sipush C dX0_passYear_28 rfl ?_
      refine g_iadd C dX0_passYear_31 ?_
      refine cp_X0_15 C h_o dX0_passYear_32 ?_
      refine g_memname (fun M32 hM32 => ?_)
      replace h := h M32 hM32
      refine g_aload_n C dX0_passYear_35 rfl ?_
      refine cf_X0_15 C h_o dX0_passYear_36 ?_
      refine g_bipush C dX0_passYear_39 rfl ?_
      refine g_iushr C dX0_passYear_41 ?_
      refine g_bipush C dX0_passYear_42 rfl ?_
      refine g_irem C dX0_passYear_44 (by decide) ?_
      refine g_top (y := Int.tmod (wrap (xushr (M32 o 4) 8)) 100) rfl ?_
      refine g_aload_n C dX0_passYear_45 rfl ?_
      refine g_iload_n C dX0_passYear_46 rfl ?_
      refine g_iconst C dX0_passYear_47 ?_
      refine g_callVi C (nargs := 2) (o := o) (st := [iv (Int.tmod (wrap (xushr (M32 o 4) 8)) 100)]) (m_X0_number h) (show isBronze o from h.1).1 (show isBronze o from h.1).2.1 rfl rfl gc_X0_36 (by decide +kernel) ⟨rfl, rfl⟩ dX0_passYear_48 ⟨by decide, by decide⟩ rfl rfl (Nat.le_of_ble_eq_true rfl) ?_
      intro r48c M48 hN
      replace h := hN
      clear hN
      refine g_icmp_ge C 62 dX0_passYear_51 (by decide) (fun hc => ?_) (fun hc => ?_)
      · replace h := h.1 hc
        refine g_locals (lv' := [(0, .ref (ad o)), (1, iv v1)]) rfl ?_
        exact pB62 r12 X12_68 hr12 hX12_68 _ _ h
      · replace h := h.2 hc
        refine g_aload_n C dX0_passYear_54 rfl ?_
        refine g_iload_n C dX0_passYear_55 rfl ?_
        refine g_iconst C dX0_passYear_56 ?_
        refine g_bipush C dX0_passYear_57 rfl ?_
        refine g_callVv C (nargs := 3) (o := o) (st := []) (m_X0_lose h) (show isBronze o from h.1).1 (show isBronze o from h.1).2.1 rfl rfl gc_X0_76 (by decide +kernel) ⟨rfl, rfl⟩ dX0_passYear_59 ⟨by decide, by decide⟩ rfl rfl (Nat.le_of_ble_eq_true rfl) ?_
        intro M59 hN
        replace h := hN
        clear hN
        refine g_locals (lv' := [(0, .ref (ad o)), (1, iv v1)]) rfl ?_
        exact pB62 r12 X12_68 hr12 hX12_68 _ _ h
  have pL12 : ∀  (X12_68 : gSt → Prop) (hX12_68 : ∀  (M : gSt), X12_68  M → gG p l e (rmR 4 93) s m args below meth c Q D clC A (wC ad cI cS) 2 68 [] [] M) (n : Nat) (v1 : Int) (M : gSt), wL_X0_passYear_12 o k  X12_68 n v1 M → gG p l e (rmR 4 93) s m args below meth c Q D clC A (wC ad cI cS) 2 12 [(0, .ref (ad o)), (1, iv v1)] [] M := by
    intro  X12_68 hX12_68 n
    induction n with
    | zero => intro v1 M h; exact h.elim
    | succ n ih =>
      intro v1 M h
      exact pC12  (wL_X0_passYear_12 o k  X12_68 n) X12_68 ih hX12_68 v1 M h
  refine g_locals (lv' := [(0, .ref (ad o))]) rfl ?_
  refine g_aload_n C dX0_passYear_0 rfl ?_
  refine g_dup C dX0_passYear_1 rfl ?_
  refine cf_X0_25 C h_o dX0_passYear_2 ?_
  refine g_iconst C dX0_passYear_5 ?_
  refine g_iadd C dX0_passYear_6 ?_
  refine cp_X0_25 C h_o dX0_passYear_7 ?_
  refine g_memname (fun M7 hM7 => ?_)
  replace h := h M7 hM7
  refine g_iconst C dX0_passYear_10 ?_
  refine g_istore_n C dX0_passYear_11 (by decide) rfl ?_
  refine g_locals (lv' := [(0, .ref (ad o)), (1, iv 0)]) rfl ?_
  refine g_locals (lv' := [(0, .ref (ad o)), (1, iv 0)]) rfl ?_
  obtain ⟨n, h⟩ := h
  refine pL12 _ ?_ n _ _ h
  · intro  M12 hN
    replace h := hN
    clear hN
    exact hR _ _ _ dX0_passYear_68 h
def wC_X0_passYears_2 (o : Nat) (a1 : Int) (k : gSt → Prop) (r2 : Int → gSt → Prop) (X2_17 : gSt → Prop) (v2 : Int) (M : gSt) : Prop :=

  (wrap a1 ≤ wrap v2 →
    X2_17  M) ∧
  (wrap v2 < wrap a1 →
    w_X0_passYear o M (fun M8 => r2 (v2 + 1) M8))
def wL_X0_passYears_2 (o : Nat) (a1 : Int) (k : gSt → Prop)  (X2_17 : gSt → Prop) : Nat → Int → gSt → Prop
  | 0 => fun _ _ => False
  | n + 1 => fun v2 M => wC_X0_passYears_2 o a1 k  (wL_X0_passYears_2 o a1 k  X2_17 n) X2_17 v2 M
def w_X0_passYears (o : Nat) (a1 : Int) (M : gSt) (k : gSt → Prop) : Prop :=
  (isBronze o) ∧ (∃ n, wL_X0_passYears_2 o a1 k  (fun  M2 =>
    k M2) n 0 M)
set_option maxHeartbeats 4000000 in
set_option maxRecDepth 100000 in
theorem m_X0_passYears {l : Launch} {D : va_G} {tys : List (ClassId × FieldType)} {ad : Nat → Nat} {cI cS : ClassId} {o : Nat} {a1 : Int} {M : gSt} {k : gSt → Prop} (h : w_X0_passYears o a1 M k) : MOv l yX0_passYears cX0_passYears 3 (rmR 5 114) D clC ((cI, .int) :: (cS, .object "OldBronze$Sheet") :: tys) (wC ad cI cS) tC zC [.ref (ad o), iv a1] M k := by
  refine mov_intro (by decide +kernel) (Nat.le_of_ble_eq_true rfl) wc_75 ?_
  intro p e s m args below meth c A Q C hR
  unfold w_X0_passYears at h
  obtain ⟨h_o, h⟩ := h
  have pC2 : ∀ (r2 : Int → gSt → Prop) (X2_17 : gSt → Prop) (hr2 : ∀ (v2 : Int) (M : gSt), r2 v2 M → gG p l e (rmR 5 114) s m args below meth c Q D clC A (wC ad cI cS) 3 2 [(0, .ref (ad o)), (1, iv a1), (2, iv v2)] [] M) (hX2_17 : ∀  (M : gSt), X2_17  M → gG p l e (rmR 5 114) s m args below meth c Q D clC A (wC ad cI cS) 3 17 [] [] M) (v2 : Int) (M : gSt), wC_X0_passYears_2 o a1 k r2 X2_17 v2 M → gG p l e (rmR 5 114) s m args below meth c Q D clC A (wC ad cI cS) 3 2 [(0, .ref (ad o)), (1, iv a1), (2, iv v2)] [] M := by
    intro r2 X2_17 hr2 hX2_17 v2 M h
    unfold wC_X0_passYears_2 at h
    refine g_iload_n C dX0_passYears_2 rfl ?_
    refine g_iload_n C dX0_passYears_3 rfl ?_
    refine g_icmp_ge C 17 dX0_passYears_4 (by decide) (fun hc => ?_) (fun hc => ?_)
    · replace h := h.1 hc
      refine g_locals (lv' := []) rfl ?_
      exact hX2_17  _ h
    · replace h := h.2 hc
      refine g_aload_n C dX0_passYears_7 rfl ?_
      refine g_callVv C (nargs := 0) (o := o) (st := []) (m_X0_passYear h) (show isBronze o from h.1).1 (show isBronze o from h.1).2.1 rfl rfl gc_X0_79 (by decide +kernel) ⟨rfl, rfl⟩ dX0_passYears_8 ⟨by decide, by decide⟩ rfl rfl (Nat.le_of_ble_eq_true rfl) ?_
      intro M8 hN
      replace h := hN
      clear hN
      refine g_iinc C dX0_passYears_11 rfl (by decide) rfl ?_
      refine g_locals (lv' := [(0, .ref (ad o)), (1, iv a1), (2, iv (v2 + 1))]) rfl ?_
      refine g_goto C 2 dX0_passYears_14 (by decide) ?_
      refine g_locals (lv' := [(0, .ref (ad o)), (1, iv a1), (2, iv (v2 + 1))]) rfl ?_
      exact hr2 _  _ h
  have pL2 : ∀  (X2_17 : gSt → Prop) (hX2_17 : ∀  (M : gSt), X2_17  M → gG p l e (rmR 5 114) s m args below meth c Q D clC A (wC ad cI cS) 3 17 [] [] M) (n : Nat) (v2 : Int) (M : gSt), wL_X0_passYears_2 o a1 k  X2_17 n v2 M → gG p l e (rmR 5 114) s m args below meth c Q D clC A (wC ad cI cS) 3 2 [(0, .ref (ad o)), (1, iv a1), (2, iv v2)] [] M := by
    intro  X2_17 hX2_17 n
    induction n with
    | zero => intro v2 M h; exact h.elim
    | succ n ih =>
      intro v2 M h
      exact pC2  (wL_X0_passYears_2 o a1 k  X2_17 n) X2_17 ih hX2_17 v2 M h
  refine g_locals (lv' := [(0, .ref (ad o)), (1, iv a1)]) rfl ?_
  refine g_iconst C dX0_passYears_0 ?_
  refine g_istore_n C dX0_passYears_1 (by decide) rfl ?_
  refine g_locals (lv' := [(0, .ref (ad o)), (1, iv a1), (2, iv 0)]) rfl ?_
  refine g_locals (lv' := [(0, .ref (ad o)), (1, iv a1), (2, iv 0)]) rfl ?_
  obtain ⟨n, h⟩ := h
  refine pL2 _ ?_ n _ _ h
  · intro  M2 hN
    replace h := hN
    clear hN
    exact hR _ _ _ dX0_passYears_17 h
def w_J6_bitCount_0f7a4 (a1 : Int) (M : gSt) (k : Int → gSt → Prop) : Prop :=
  ∀ x0_9 : Int, x0_9 = a1 - (xand (xushr a1 1) 1431655765) → (∀ x0_23 : Int, x0_23 = (xand x0_9 858993459) + (xand (xushr x0_9 2) 858993459) → (∀ x0_33 : Int, x0_33 = xand (x0_23 + (xushr x0_23 4)) 252645135 → (∀ x0_40 : Int, x0_40 = x0_33 + (xushr x0_33 8) → (∀ x0_47 : Int, x0_47 = x0_40 + (xushr x0_40 16) → (k (xand x0_47 63) M)))))
set_option maxHeartbeats 4000000 in
set_option maxRecDepth 100000 in
theorem m_J6_bitCount_0f7a4 {l : Launch} {D : va_G} {tys : List (ClassId × FieldType)} {ad : Nat → Nat} {cI cS : ClassId} {a1 : Int} {M : gSt} {k : Int → gSt → Prop} (h : w_J6_bitCount_0f7a4 a1 M k) : MOi l yJ6_bitCount_0f7a4 cJ6_bitCount_0f7a4 1 .int (rmR 0 0) D clC ((cI, .int) :: (cS, .object "OldBronze$Sheet") :: tys) (wC ad cI cS) tC zC [iv a1] M k := by
  refine moi_intro (by decide +kernel) (Nat.le_of_ble_eq_true rfl) wc_76 ?_
  intro p e s m args below meth c A Q C hR
  unfold w_J6_bitCount_0f7a4 at h
  refine g_locals (lv' := [(0, iv a1)]) rfl ?_
  refine g_iload_n C dJ6_bitCount_0f7a4_0 rfl ?_
  refine g_iload_n C dJ6_bitCount_0f7a4_1 rfl ?_
  refine g_iconst C dJ6_bitCount_0f7a4_2 ?_
  refine g_iushr C dJ6_bitCount_0f7a4_3 ?_
  refine g_ldcw C 1431655765 wc_77 rfl dJ6_bitCount_0f7a4_4 ?_
  refine g_iand C dJ6_bitCount_0f7a4_7 ?_
  refine g_isub C dJ6_bitCount_0f7a4_8 ?_
  refine g_name (fun x0_9 hx0_9 => ?_)
  replace h := h x0_9 hx0_9
  refine g_istore_n C dJ6_bitCount_0f7a4_9 (by decide) rfl ?_
  refine g_locals (lv' := [(0, iv x0_9)]) rfl ?_
  refine g_iload_n C dJ6_bitCount_0f7a4_10 rfl ?_
  refine g_ldcw C 858993459 wc_78 rfl dJ6_bitCount_0f7a4_11 ?_
  refine g_iand C dJ6_bitCount_0f7a4_14 ?_
  refine g_iload_n C dJ6_bitCount_0f7a4_15 rfl ?_
  refine g_iconst C dJ6_bitCount_0f7a4_16 ?_
  refine g_iushr C dJ6_bitCount_0f7a4_17 ?_
  refine g_ldcw C 858993459 wc_78 rfl dJ6_bitCount_0f7a4_18 ?_
  refine g_iand C dJ6_bitCount_0f7a4_21 ?_
  refine g_iadd C dJ6_bitCount_0f7a4_22 ?_
  refine g_name (fun x0_23 hx0_23 => ?_)
  replace h := h x0_23 hx0_23
  refine g_istore_n C dJ6_bitCount_0f7a4_23 (by decide) rfl ?_
  refine g_locals (lv' := [(0, iv x0_23)]) rfl ?_
  refine g_iload_n C dJ6_bitCount_0f7a4_24 rfl ?_
  refine g_iload_n C dJ6_bitCount_0f7a4_25 rfl ?_
  refine g_iconst C dJ6_bitCount_0f7a4_26 ?_
  refine g_iushr C dJ6_bitCount_0f7a4_27 ?_
  refine g_iadd C dJ6_bitCount_0f7a4_28 ?_
  refine g_ldcw C 252645135 wc_79 rfl dJ6_bitCount_0f7a4_29 ?_
  refine g_iand C dJ6_bitCount_0f7a4_32 ?_
  refine g_name (fun x0_33 hx0_33 => ?_)
  replace h := h x0_33 hx0_33
  refine g_istore_n C dJ6_bitCount_0f7a4_33 (by decide) rfl ?_
  refine g_locals (lv' := [(0, iv x0_33)]) rfl ?_
  refine g_iload_n C dJ6_bitCount_0f7a4_34 rfl ?_
  refine g_iload_n C dJ6_bitCount_0f7a4_35 rfl ?_
  refine g_bipush C dJ6_bitCount_0f7a4_36 rfl ?_
  refine g_iushr C dJ6_bitCount_0f7a4_38 ?_
  refine g_iadd C dJ6_bitCount_0f7a4_39 ?_
  refine g_name (fun x0_40 hx0_40 => ?_)
  replace h := h x0_40 hx0_40
  refine g_istore_n C dJ6_bitCount_0f7a4_40 (by decide) rfl ?_
  refine g_locals (lv' := [(0, iv x0_40)]) rfl ?_
  refine g_iload_n C dJ6_bitCount_0f7a4_41 rfl ?_
  refine g_iload_n C dJ6_bitCount_0f7a4_42 rfl ?_
  refine g_bipush C dJ6_bitCount_0f7a4_43 rfl ?_
  refine g_iushr C dJ6_bitCount_0f7a4_45 ?_
  refine g_iadd C dJ6_bitCount_0f7a4_46 ?_
  refine g_name (fun x0_47 hx0_47 => ?_)
  replace h := h x0_47 hx0_47
  refine g_istore_n C dJ6_bitCount_0f7a4_47 (by decide) rfl ?_
  refine g_locals (lv' := [(0, iv x0_47)]) rfl ?_
  refine g_iload_n C dJ6_bitCount_0f7a4_48 rfl ?_
  refine g_bipush C dJ6_bitCount_0f7a4_49 rfl ?_
  refine g_iand C dJ6_bitCount_0f7a4_51 ?_
  exact hR _ _ _ _ dJ6_bitCount_0f7a4_52 rfl h
def wB_X0_together_66 (o : Nat) (a1 : Int) (a2 : Int) (k : Int → gSt → Prop) (r8 : Int → Int → Int → gSt → Prop) (X8_41 : gSt → Prop) (X8_72 : Int → Int → gSt → Prop) (v3 : Int) (v5 : Int) (v7 : Int) (M : gSt) : Prop :=
r8 v3 v5 (v7 + 1) M
def wC_X0_together_8 (o : Nat) (a1 : Int) (a2 : Int) (k : Int → gSt → Prop) (r8 : Int → Int → Int → gSt → Prop) (X8_41 : gSt → Prop) (X8_72 : Int → Int → gSt → Prop) (v3 : Int) (v5 : Int) (v7 : Int) (M : gSt) : Prop :=

  (wrap (M o 1) ≤ wrap v7 →
    X8_72 v3 v5 M) ∧
  (wrap v7 < wrap (M o 1) →
    w_X0_number o v7 2 M (fun r21c M21 => 
    (¬ wrap (xand (xshr a1 v7) 1) = 1 →
      wB_X0_together_66 o a1 a2 k r8 X8_41 X8_72 v3 v5 v7 M21) ∧
    (wrap (xand (xshr a1 v7) 1) = 1 →

      (¬ wrap r21c = 0 →
        w_X0_number o v7 a2 M21 (fun r51c M51 => ∀ x3_57 : Int, x3_57 = v3 + ((wrap r21c) * (wrap r51c)) → (∀ x5_64 : Int, x5_64 = v5 + (wrap r21c) → (wB_X0_together_66 o a1 a2 k r8 X8_41 X8_72 x3_57 x5_64 v7 M51)))) ∧
      (wrap r21c = 0 →
        X8_41  M21))))
def wL_X0_together_8 (o : Nat) (a1 : Int) (a2 : Int) (k : Int → gSt → Prop)  (X8_41 : gSt → Prop) (X8_72 : Int → Int → gSt → Prop) : Nat → Int → Int → Int → gSt → Prop
  | 0 => fun _ _ _ _ => False
  | n + 1 => fun v3 v5 v7 M => wC_X0_together_8 o a1 a2 k  (wL_X0_together_8 o a1 a2 k  X8_41 X8_72 n) X8_41 X8_72 v3 v5 v7 M
def w_X0_together (o : Nat) (a1 : Int) (a2 : Int) (M : gSt) (k : Int → gSt → Prop) : Prop :=
  (isBronze o) ∧ (∃ n, wL_X0_together_8 o a1 a2 k  (fun  M8 =>
    k (-1) M8) (fun u3_8 u5_8 M8 =>

    (¬ wrap (ycmp u5_8 0) = 0 →
      w_X8_quotient u3_8 u5_8 M8 (fun r86c M86 => k r86c M86)) ∧
    (wrap (ycmp u5_8 0) = 0 →
      k (-1) M8)) n 0 0 0 M)
set_option maxHeartbeats 4000000 in
set_option maxRecDepth 100000 in
theorem m_X0_together {l : Launch} {D : va_G} {tys : List (ClassId × FieldType)} {ad : Nat → Nat} {cI cS : ClassId} {o : Nat} {a1 : Int} {a2 : Int} {M : gSt} {k : Int → gSt → Prop} (h : w_X0_together o a1 a2 M k) : MOi l yX0_together cX0_together 9 .int (rmR 2 45) D clC ((cI, .int) :: (cS, .object "OldBronze$Sheet") :: tys) (wC ad cI cS) tC zC [.ref (ad o), iv a1, iv a2] M k := by
  refine moi_intro (by decide +kernel) (Nat.le_of_ble_eq_true rfl) wc_80 ?_
  intro p e s m args below meth c A Q C hR
  unfold w_X0_together at h
  obtain ⟨h_o, h⟩ := h
  have pB66 : ∀ (r8 : Int → Int → Int → gSt → Prop) (X8_41 : gSt → Prop) (X8_72 : Int → Int → gSt → Prop) (hr8 : ∀ (v3 : Int) (v5 : Int) (v7 : Int) (M : gSt), r8 v3 v5 v7 M → gG p l e (rmR 2 45) s m args below meth c Q D clC A (wC ad cI cS) 9 8 [(0, .ref (ad o)), (1, iv a1), (2, iv a2), (3, jv v3), (5, jv v5), (7, iv v7)] [] M) (hX8_41 : ∀  (M : gSt), X8_41  M → gG p l e (rmR 2 45) s m args below meth c Q D clC A (wC ad cI cS) 9 41 [] [] M) (hX8_72 : ∀ (v3 : Int) (v5 : Int) (M : gSt), X8_72 v3 v5 M → gG p l e (rmR 2 45) s m args below meth c Q D clC A (wC ad cI cS) 9 72 [(3, jv v3), (5, jv v5)] [] M) (v3 : Int) (v5 : Int) (v7 : Int) (M : gSt), wB_X0_together_66 o a1 a2 k r8 X8_41 X8_72 v3 v5 v7 M → gG p l e (rmR 2 45) s m args below meth c Q D clC A (wC ad cI cS) 9 66 [(0, .ref (ad o)), (1, iv a1), (2, iv a2), (3, jv v3), (5, jv v5), (7, iv v7)] [] M := by
    intro r8 X8_41 X8_72 hr8 hX8_41 hX8_72 v3 v5 v7 M h
    unfold wB_X0_together_66 at h
    refine g_iinc C dX0_together_66 rfl (by decide) rfl ?_
    refine g_locals (lv' := [(0, .ref (ad o)), (1, iv a1), (2, iv a2), (3, jv v3), (5, jv v5), (7, iv (v7 + 1))]) rfl ?_
    refine g_goto C 8 dX0_together_69 (by decide) ?_
    refine g_locals (lv' := [(0, .ref (ad o)), (1, iv a1), (2, iv a2), (3, jv v3), (5, jv v5), (7, iv (v7 + 1))]) rfl ?_
    exact hr8 _ _ _  _ h
  have pC8 : ∀ (r8 : Int → Int → Int → gSt → Prop) (X8_41 : gSt → Prop) (X8_72 : Int → Int → gSt → Prop) (hr8 : ∀ (v3 : Int) (v5 : Int) (v7 : Int) (M : gSt), r8 v3 v5 v7 M → gG p l e (rmR 2 45) s m args below meth c Q D clC A (wC ad cI cS) 9 8 [(0, .ref (ad o)), (1, iv a1), (2, iv a2), (3, jv v3), (5, jv v5), (7, iv v7)] [] M) (hX8_41 : ∀  (M : gSt), X8_41  M → gG p l e (rmR 2 45) s m args below meth c Q D clC A (wC ad cI cS) 9 41 [] [] M) (hX8_72 : ∀ (v3 : Int) (v5 : Int) (M : gSt), X8_72 v3 v5 M → gG p l e (rmR 2 45) s m args below meth c Q D clC A (wC ad cI cS) 9 72 [(3, jv v3), (5, jv v5)] [] M) (v3 : Int) (v5 : Int) (v7 : Int) (M : gSt), wC_X0_together_8 o a1 a2 k r8 X8_41 X8_72 v3 v5 v7 M → gG p l e (rmR 2 45) s m args below meth c Q D clC A (wC ad cI cS) 9 8 [(0, .ref (ad o)), (1, iv a1), (2, iv a2), (3, jv v3), (5, jv v5), (7, iv v7)] [] M := by
    intro r8 X8_41 X8_72 hr8 hX8_41 hX8_72 v3 v5 v7 M h
    unfold wC_X0_together_8 at h
    refine g_iload C dX0_together_8 rfl ?_
    refine g_aload_n C dX0_together_10 rfl ?_
    refine cf_X0_19 C h_o dX0_together_11 ?_
    refine g_icmp_ge C 72 dX0_together_14 (by decide) (fun hc => ?_) (fun hc => ?_)
    · replace h := h.1 hc
      refine g_locals (lv' := [(3, jv v3), (5, jv v5)]) rfl ?_
      exact hX8_72 _ _  _ h
    · replace h := h.2 hc
      refine g_aload_n C dX0_together_17 rfl ?_
      refine g_iload C dX0_together_18 rfl ?_
      refine g_iconst C dX0_together_20 ?_
      refine g_callVi C (nargs := 2) (o := o) (st := []) (m_X0_number h) (show isBronze o from h.1).1 (show isBronze o from h.1).2.1 rfl rfl gc_X0_36 (by decide +kernel) ⟨rfl, rfl⟩ dX0_together_21 ⟨by decide, by decide⟩ rfl rfl (Nat.le_of_ble_eq_true rfl) ?_
      intro r21c M21 hN
      replace h := hN
      clear hN
      refine g_istore C dX0_together_24 (by decide) rfl ?_
      refine g_locals (lv' := [(0, .ref (ad o)), (1, iv a1), (2, iv a2), (3, jv v3), (5, jv v5), (7, iv v7), (8, iv r21c)]) rfl ?_
      refine g_iload_n C dX0_together_26 rfl ?_
      refine g_iload C dX0_together_27 rfl ?_
      refine g_ishr C dX0_together_29 ?_
      refine g_iconst C dX0_together_30 ?_
      refine g_iand C dX0_together_31 ?_
      refine g_iconst C dX0_together_32 ?_
      refine g_icmp_ne C 66 dX0_together_33 (by decide) (fun hc => ?_) (fun hc => ?_)
      · replace h := h.1 hc
        refine g_locals (lv' := [(0, .ref (ad o)), (1, iv a1), (2, iv a2), (3, jv v3), (5, jv v5), (7, iv v7)]) rfl ?_
        exact pB66 r8 X8_41 X8_72 hr8 hX8_41 hX8_72 _ _ _ _ h
      · replace h := h.2 hc
        refine g_iload C dX0_together_36 rfl ?_
        refine g_if_ne C 43 dX0_together_38 (by decide) (fun hc => ?_) (fun hc => ?_)
        · replace h := h.1 hc
          refine g_lload_n C dX0_together_43 rfl ?_
          refine g_iload C dX0_together_44 rfl ?_
          refine g_i2l C dX0_together_46 ?_
          refine g_aload_n C dX0_together_47 rfl ?_
          refine g_iload C dX0_together_48 rfl ?_
          refine g_iload_n C dX0_together_50 rfl ?_
          refine g_callVi C (nargs := 2) (o := o) (st := [jv (wrap r21c), jv v3]) (m_X0_number h) (show isBronze o from h.1).1 (show isBronze o from h.1).2.1 rfl rfl gc_X0_36 (by decide +kernel) ⟨rfl, rfl⟩ dX0_together_51 ⟨by decide, by decide⟩ rfl rfl (Nat.le_of_ble_eq_true rfl) ?_
          intro r51c M51 hN
          replace h := hN
          clear hN
          refine g_i2l C dX0_together_54 ?_
          refine g_lmul C dX0_together_55 ?_
          refine g_ladd C dX0_together_56 ?_
          refine g_nameL (fun x3_57 hx3_57 => ?_)
          replace h := h x3_57 hx3_57
          refine g_lstore_n C dX0_together_57 (by decide) rfl ?_
          refine g_locals (lv' := [(0, .ref (ad o)), (1, iv a1), (2, iv a2), (3, jv x3_57), (5, jv v5), (7, iv v7), (8, iv r21c)]) rfl ?_
          refine g_lload C dX0_together_58 rfl ?_
          refine g_iload C dX0_together_60 rfl ?_
          refine g_i2l C dX0_together_62 ?_
          refine g_ladd C dX0_together_63 ?_
          refine g_nameL (fun x5_64 hx5_64 => ?_)
          replace h := h x5_64 hx5_64
          refine g_lstore C dX0_together_64 (by decide) rfl ?_
          refine g_locals (lv' := [(0, .ref (ad o)), (1, iv a1), (2, iv a2), (3, jv x3_57), (5, jv x5_64), (7, iv v7), (8, iv r21c)]) rfl ?_
          refine g_locals (lv' := [(0, .ref (ad o)), (1, iv a1), (2, iv a2), (3, jv x3_57), (5, jv x5_64), (7, iv v7)]) rfl ?_
          exact pB66 r8 X8_41 X8_72 hr8 hX8_41 hX8_72 _ _ _ _ h
        · replace h := h.2 hc
          refine g_locals (lv' := []) rfl ?_
          exact hX8_41  _ h
  have pL8 : ∀  (X8_41 : gSt → Prop) (X8_72 : Int → Int → gSt → Prop) (hX8_41 : ∀  (M : gSt), X8_41  M → gG p l e (rmR 2 45) s m args below meth c Q D clC A (wC ad cI cS) 9 41 [] [] M) (hX8_72 : ∀ (v3 : Int) (v5 : Int) (M : gSt), X8_72 v3 v5 M → gG p l e (rmR 2 45) s m args below meth c Q D clC A (wC ad cI cS) 9 72 [(3, jv v3), (5, jv v5)] [] M) (n : Nat) (v3 : Int) (v5 : Int) (v7 : Int) (M : gSt), wL_X0_together_8 o a1 a2 k  X8_41 X8_72 n v3 v5 v7 M → gG p l e (rmR 2 45) s m args below meth c Q D clC A (wC ad cI cS) 9 8 [(0, .ref (ad o)), (1, iv a1), (2, iv a2), (3, jv v3), (5, jv v5), (7, iv v7)] [] M := by
    intro  X8_41 X8_72 hX8_41 hX8_72 n
    induction n with
    | zero => intro v3 v5 v7 M h; exact h.elim
    | succ n ih =>
      intro v3 v5 v7 M h
      exact pC8  (wL_X0_together_8 o a1 a2 k  X8_41 X8_72 n) X8_41 X8_72 ih hX8_41 hX8_72 v3 v5 v7 M h
  refine g_locals (lv' := [(0, .ref (ad o)), (1, iv a1), (2, iv a2)]) rfl ?_
  refine g_lconst C 0 rfl dX0_together_0 ?_
  refine g_lstore_n C dX0_together_1 (by decide) rfl ?_
  refine g_locals (lv' := [(0, .ref (ad o)), (1, iv a1), (2, iv a2), (3, jv 0)]) rfl ?_
  refine g_lconst C 0 rfl dX0_together_2 ?_
  refine g_lstore C dX0_together_3 (by decide) rfl ?_
  refine g_locals (lv' := [(0, .ref (ad o)), (1, iv a1), (2, iv a2), (3, jv 0), (5, jv 0)]) rfl ?_
  refine g_iconst C dX0_together_5 ?_
  refine g_istore C dX0_together_6 (by decide) rfl ?_
  refine g_locals (lv' := [(0, .ref (ad o)), (1, iv a1), (2, iv a2), (3, jv 0), (5, jv 0), (7, iv 0)]) rfl ?_
  refine g_locals (lv' := [(0, .ref (ad o)), (1, iv a1), (2, iv a2), (3, jv 0), (5, jv 0), (7, iv 0)]) rfl ?_
  obtain ⟨n, h⟩ := h
  refine pL8 _ _ ?_ ?_ n _ _ _ _ h
  · intro  M8 hN
    replace h := hN
    clear hN
    refine g_iconst C dX0_together_41 ?_
    exact hR _ _ _ _ dX0_together_42 rfl h
  · intro u3_8 u5_8 M8 hN
    replace h := hN
    clear hN
    refine g_lload C dX0_together_72 rfl ?_
    refine g_lconst C 0 rfl dX0_together_74 ?_
    refine g_lcmp C dX0_together_75 ?_
    refine g_if_ne C 83 dX0_together_76 (by decide) (fun hc => ?_) (fun hc => ?_)
    · replace h := h.1 hc
      refine g_lload_n C dX0_together_83 rfl ?_
      refine g_lload C dX0_together_84 rfl ?_
      refine g_callNSi C (nargs := 2) (st := []) (m_X8_quotient h) zn_1 (gc_code wc_52) wc_26 wc_54 (by decide +kernel) ⟨rfl, rfl⟩ dX0_together_86 ⟨by decide, by decide⟩ rfl rfl (Nat.le_of_ble_eq_true rfl) ?_
      intro r86c M86 hN
      replace h := hN
      clear hN
      exact hR _ _ _ _ dX0_together_89 rfl h
    · replace h := h.2 hc
      refine g_iconst C dX0_together_79 ?_
      refine g_goto C 89 dX0_together_80 (by decide) ?_
      exact hR _ _ _ _ dX0_together_89 rfl h
def wB_X0_mostOf_75 (o : Nat) (a1 : Int) (a2 : Int) (k : Int → gSt → Prop) (r8 : Int → Int → Int → gSt → Prop) (X8_81 : Int → gSt → Prop) (v3 : Int) (v4 : Int) (v5 : Int) (M : gSt) : Prop :=
r8 v3 v4 (v5 + 1) M
def wB_X0_mostOf_68 (o : Nat) (a1 : Int) (a2 : Int) (k : Int → gSt → Prop) (r8 : Int → Int → Int → gSt → Prop) (X8_81 : Int → gSt → Prop) (v5 : Int) (v7 : Int) (M : gSt) : Prop :=
wB_X0_mostOf_75 o a1 a2 k r8 X8_81 v5 v7 v5 M
def wB_X0_mostOf_43 (o : Nat) (a1 : Int) (a2 : Int) (k : Int → gSt → Prop) (r8 : Int → Int → Int → gSt → Prop) (X8_81 : Int → gSt → Prop) (v3 : Int) (v4 : Int) (v5 : Int) (v6 : Int) (s0 : Int) (M : gSt) : Prop :=

  (wrap v4 < wrap s0 →
    wB_X0_mostOf_68 o a1 a2 k r8 X8_81 v5 s0 M) ∧
  (wrap s0 ≤ wrap v4 →

    (¬ wrap s0 = wrap v4 →
      wB_X0_mostOf_75 o a1 a2 k r8 X8_81 v3 v4 v5 M) ∧
    (wrap s0 = wrap v4 →
      w_J6_bitCount_0f7a4 v3 M (fun r62c M62 => 
      (wrap r62c ≤ wrap v6 →
        wB_X0_mostOf_75 o a1 a2 k r8 X8_81 v3 v4 v5 M62) ∧
      (wrap v6 < wrap r62c →
        wB_X0_mostOf_68 o a1 a2 k r8 X8_81 v5 s0 M62))))
def wC_X0_mostOf_8 (o : Nat) (a1 : Int) (a2 : Int) (k : Int → gSt → Prop) (r8 : Int → Int → Int → gSt → Prop) (X8_81 : Int → gSt → Prop) (v3 : Int) (v4 : Int) (v5 : Int) (M : gSt) : Prop :=

  (wrap (xshl 1 (M o 1)) ≤ wrap v5 →
    X8_81 v3 M) ∧
  (wrap v5 < wrap (xshl 1 (M o 1)) →
    w_J6_bitCount_0f7a4 v5 M (fun r21c M21 => 
    (wrap a2 < wrap r21c →
      wB_X0_mostOf_43 o a1 a2 k r8 X8_81 v3 v4 v5 r21c (-1) M21) ∧
    (wrap r21c ≤ wrap a2 →
      w_X0_together o v5 a1 M21 (fun r36c M36 => wB_X0_mostOf_43 o a1 a2 k r8 X8_81 v3 v4 v5 r21c r36c M36))))
def wL_X0_mostOf_8 (o : Nat) (a1 : Int) (a2 : Int) (k : Int → gSt → Prop)  (X8_81 : Int → gSt → Prop) : Nat → Int → Int → Int → gSt → Prop
  | 0 => fun _ _ _ _ => False
  | n + 1 => fun v3 v4 v5 M => wC_X0_mostOf_8 o a1 a2 k  (wL_X0_mostOf_8 o a1 a2 k  X8_81 n) X8_81 v3 v4 v5 M
def w_X0_mostOf (o : Nat) (a1 : Int) (a2 : Int) (M : gSt) (k : Int → gSt → Prop) : Prop :=
  (isBronze o) ∧ (∃ n, wL_X0_mostOf_8 o a1 a2 k  (fun u3_8 M8 =>
    k u3_8 M8) n 0 0 1 M)
set_option maxHeartbeats 4000000 in
set_option maxRecDepth 100000 in
theorem m_X0_mostOf {l : Launch} {D : va_G} {tys : List (ClassId × FieldType)} {ad : Nat → Nat} {cI cS : ClassId} {o : Nat} {a1 : Int} {a2 : Int} {M : gSt} {k : Int → gSt → Prop} (h : w_X0_mostOf o a1 a2 M k) : MOi l yX0_mostOf cX0_mostOf 8 .int (rmR 3 73) D clC ((cI, .int) :: (cS, .object "OldBronze$Sheet") :: tys) (wC ad cI cS) tC zC [.ref (ad o), iv a1, iv a2] M k := by
  refine moi_intro (by decide +kernel) (Nat.le_of_ble_eq_true rfl) wc_81 ?_
  intro p e s m args below meth c A Q C hR
  unfold w_X0_mostOf at h
  obtain ⟨h_o, h⟩ := h
  have pB75 : ∀ (r8 : Int → Int → Int → gSt → Prop) (X8_81 : Int → gSt → Prop) (hr8 : ∀ (v3 : Int) (v4 : Int) (v5 : Int) (M : gSt), r8 v3 v4 v5 M → gG p l e (rmR 3 73) s m args below meth c Q D clC A (wC ad cI cS) 8 8 [(0, .ref (ad o)), (1, iv a1), (2, iv a2), (3, iv v3), (4, iv v4), (5, iv v5)] [] M) (hX8_81 : ∀ (v3 : Int) (M : gSt), X8_81 v3 M → gG p l e (rmR 3 73) s m args below meth c Q D clC A (wC ad cI cS) 8 81 [(3, iv v3)] [] M) (v3 : Int) (v4 : Int) (v5 : Int) (M : gSt), wB_X0_mostOf_75 o a1 a2 k r8 X8_81 v3 v4 v5 M → gG p l e (rmR 3 73) s m args below meth c Q D clC A (wC ad cI cS) 8 75 [(0, .ref (ad o)), (1, iv a1), (2, iv a2), (3, iv v3), (4, iv v4), (5, iv v5)] [] M := by
    intro r8 X8_81 hr8 hX8_81 v3 v4 v5 M h
    unfold wB_X0_mostOf_75 at h
    refine g_iinc C dX0_mostOf_75 rfl (by decide) rfl ?_
    refine g_locals (lv' := [(0, .ref (ad o)), (1, iv a1), (2, iv a2), (3, iv v3), (4, iv v4), (5, iv (v5 + 1))]) rfl ?_
    refine g_goto C 8 dX0_mostOf_78 (by decide) ?_
    refine g_locals (lv' := [(0, .ref (ad o)), (1, iv a1), (2, iv a2), (3, iv v3), (4, iv v4), (5, iv (v5 + 1))]) rfl ?_
    exact hr8 _ _ _  _ h
  have pB68 : ∀ (r8 : Int → Int → Int → gSt → Prop) (X8_81 : Int → gSt → Prop) (hr8 : ∀ (v3 : Int) (v4 : Int) (v5 : Int) (M : gSt), r8 v3 v4 v5 M → gG p l e (rmR 3 73) s m args below meth c Q D clC A (wC ad cI cS) 8 8 [(0, .ref (ad o)), (1, iv a1), (2, iv a2), (3, iv v3), (4, iv v4), (5, iv v5)] [] M) (hX8_81 : ∀ (v3 : Int) (M : gSt), X8_81 v3 M → gG p l e (rmR 3 73) s m args below meth c Q D clC A (wC ad cI cS) 8 81 [(3, iv v3)] [] M) (v5 : Int) (v7 : Int) (M : gSt), wB_X0_mostOf_68 o a1 a2 k r8 X8_81 v5 v7 M → gG p l e (rmR 3 73) s m args below meth c Q D clC A (wC ad cI cS) 8 68 [(0, .ref (ad o)), (1, iv a1), (2, iv a2), (5, iv v5), (7, iv v7)] [] M := by
    intro r8 X8_81 hr8 hX8_81 v5 v7 M h
    unfold wB_X0_mostOf_68 at h
    refine g_iload C dX0_mostOf_68 rfl ?_
    refine g_istore_n C dX0_mostOf_70 (by decide) rfl ?_
    refine g_locals (lv' := [(0, .ref (ad o)), (1, iv a1), (2, iv a2), (3, iv v5), (5, iv v5), (7, iv v7)]) rfl ?_
    refine g_iload C dX0_mostOf_71 rfl ?_
    refine g_istore C dX0_mostOf_73 (by decide) rfl ?_
    refine g_locals (lv' := [(0, .ref (ad o)), (1, iv a1), (2, iv a2), (3, iv v5), (4, iv v7), (5, iv v5), (7, iv v7)]) rfl ?_
    refine g_locals (lv' := [(0, .ref (ad o)), (1, iv a1), (2, iv a2), (3, iv v5), (4, iv v7), (5, iv v5)]) rfl ?_
    exact pB75 r8 X8_81 hr8 hX8_81 _ _ _ _ h
  have pB43 : ∀ (r8 : Int → Int → Int → gSt → Prop) (X8_81 : Int → gSt → Prop) (hr8 : ∀ (v3 : Int) (v4 : Int) (v5 : Int) (M : gSt), r8 v3 v4 v5 M → gG p l e (rmR 3 73) s m args below meth c Q D clC A (wC ad cI cS) 8 8 [(0, .ref (ad o)), (1, iv a1), (2, iv a2), (3, iv v3), (4, iv v4), (5, iv v5)] [] M) (hX8_81 : ∀ (v3 : Int) (M : gSt), X8_81 v3 M → gG p l e (rmR 3 73) s m args below meth c Q D clC A (wC ad cI cS) 8 81 [(3, iv v3)] [] M) (v3 : Int) (v4 : Int) (v5 : Int) (v6 : Int) (s0 : Int) (M : gSt), wB_X0_mostOf_43 o a1 a2 k r8 X8_81 v3 v4 v5 v6 s0 M → gG p l e (rmR 3 73) s m args below meth c Q D clC A (wC ad cI cS) 8 43 [(0, .ref (ad o)), (1, iv a1), (2, iv a2), (3, iv v3), (4, iv v4), (5, iv v5), (6, iv v6)] [iv s0] M := by
    intro r8 X8_81 hr8 hX8_81 v3 v4 v5 v6 s0 M h
    unfold wB_X0_mostOf_43 at h
    refine g_istore C dX0_mostOf_43 (by decide) rfl ?_
    refine g_locals (lv' := [(0, .ref (ad o)), (1, iv a1), (2, iv a2), (3, iv v3), (4, iv v4), (5, iv v5), (6, iv v6), (7, iv s0)]) rfl ?_
    refine g_iload C dX0_mostOf_45 rfl ?_
    refine g_iload C dX0_mostOf_47 rfl ?_
    refine g_icmp_gt C 68 dX0_mostOf_49 (by decide) (fun hc => ?_) (fun hc => ?_)
    · replace h := h.1 hc
      refine g_locals (lv' := [(0, .ref (ad o)), (1, iv a1), (2, iv a2), (5, iv v5), (7, iv s0)]) rfl ?_
      exact pB68 r8 X8_81 hr8 hX8_81 _ _ _ h
    · replace h := h.2 hc
      refine g_iload C dX0_mostOf_52 rfl ?_
      refine g_iload C dX0_mostOf_54 rfl ?_
      refine g_icmp_ne C 75 dX0_mostOf_56 (by decide) (fun hc => ?_) (fun hc => ?_)
      · replace h := h.1 hc
        refine g_locals (lv' := [(0, .ref (ad o)), (1, iv a1), (2, iv a2), (3, iv v3), (4, iv v4), (5, iv v5)]) rfl ?_
        exact pB75 r8 X8_81 hr8 hX8_81 _ _ _ _ h
      · replace h := h.2 hc
        refine g_iload C dX0_mostOf_59 rfl ?_
        refine g_iload_n C dX0_mostOf_61 rfl ?_
        refine g_callSi C (nargs := 1) (st := [iv v6]) (m_J6_bitCount_0f7a4 h) gc_X0_83 (by decide +kernel) ⟨rfl, rfl⟩ dX0_mostOf_62 ⟨by decide, by decide⟩ rfl rfl (Nat.le_of_ble_eq_true rfl) ?_
        intro r62c M62 hN
        replace h := hN
        clear hN
        refine g_icmp_ge C 75 dX0_mostOf_65 (by decide) (fun hc => ?_) (fun hc => ?_)
        · replace h := h.1 hc
          refine g_locals (lv' := [(0, .ref (ad o)), (1, iv a1), (2, iv a2), (3, iv v3), (4, iv v4), (5, iv v5)]) rfl ?_
          exact pB75 r8 X8_81 hr8 hX8_81 _ _ _ _ h
        · replace h := h.2 hc
          refine g_locals (lv' := [(0, .ref (ad o)), (1, iv a1), (2, iv a2), (5, iv v5), (7, iv s0)]) rfl ?_
          exact pB68 r8 X8_81 hr8 hX8_81 _ _ _ h
  have pC8 : ∀ (r8 : Int → Int → Int → gSt → Prop) (X8_81 : Int → gSt → Prop) (hr8 : ∀ (v3 : Int) (v4 : Int) (v5 : Int) (M : gSt), r8 v3 v4 v5 M → gG p l e (rmR 3 73) s m args below meth c Q D clC A (wC ad cI cS) 8 8 [(0, .ref (ad o)), (1, iv a1), (2, iv a2), (3, iv v3), (4, iv v4), (5, iv v5)] [] M) (hX8_81 : ∀ (v3 : Int) (M : gSt), X8_81 v3 M → gG p l e (rmR 3 73) s m args below meth c Q D clC A (wC ad cI cS) 8 81 [(3, iv v3)] [] M) (v3 : Int) (v4 : Int) (v5 : Int) (M : gSt), wC_X0_mostOf_8 o a1 a2 k r8 X8_81 v3 v4 v5 M → gG p l e (rmR 3 73) s m args below meth c Q D clC A (wC ad cI cS) 8 8 [(0, .ref (ad o)), (1, iv a1), (2, iv a2), (3, iv v3), (4, iv v4), (5, iv v5)] [] M := by
    intro r8 X8_81 hr8 hX8_81 v3 v4 v5 M h
    unfold wC_X0_mostOf_8 at h
    refine g_iload C dX0_mostOf_8 rfl ?_
    refine g_iconst C dX0_mostOf_10 ?_
    refine g_aload_n C dX0_mostOf_11 rfl ?_
    refine cf_X0_19 C h_o dX0_mostOf_12 ?_
    refine g_ishl C dX0_mostOf_15 ?_
    refine g_icmp_ge C 81 dX0_mostOf_16 (by decide) (fun hc => ?_) (fun hc => ?_)
    · replace h := h.1 hc
      refine g_locals (lv' := [(3, iv v3)]) rfl ?_
      exact hX8_81 _  _ h
    · replace h := h.2 hc
      refine g_iload C dX0_mostOf_19 rfl ?_
      refine g_callSi C (nargs := 1) (st := []) (m_J6_bitCount_0f7a4 h) gc_X0_83 (by decide +kernel) ⟨rfl, rfl⟩ dX0_mostOf_21 ⟨by decide, by decide⟩ rfl rfl (Nat.le_of_ble_eq_true rfl) ?_
      intro r21c M21 hN
      replace h := hN
      clear hN
      refine g_istore C dX0_mostOf_24 (by decide) rfl ?_
      refine g_locals (lv' := [(0, .ref (ad o)), (1, iv a1), (2, iv a2), (3, iv v3), (4, iv v4), (5, iv v5), (6, iv r21c)]) rfl ?_
      refine g_iload C dX0_mostOf_26 rfl ?_
      refine g_iload_n C dX0_mostOf_28 rfl ?_
      refine g_icmp_gt C 42 dX0_mostOf_29 (by decide) (fun hc => ?_) (fun hc => ?_)
      · replace h := h.1 hc
        refine g_iconst C dX0_mostOf_42 ?_
        refine g_locals (lv' := [(0, .ref (ad o)), (1, iv a1), (2, iv a2), (3, iv v3), (4, iv v4), (5, iv v5), (6, iv r21c)]) rfl ?_
        exact pB43 r8 X8_81 hr8 hX8_81 _ _ _ _ _ _ h
      · replace h := h.2 hc
        refine g_aload_n C dX0_mostOf_32 rfl ?_
        refine g_iload C dX0_mostOf_33 rfl ?_
        refine g_iload_n C dX0_mostOf_35 rfl ?_
        refine g_callVi C (nargs := 2) (o := o) (st := []) (m_X0_together h) (show isBronze o from h.1).1 (show isBronze o from h.1).2.1 rfl rfl gc_X0_88 (by decide +kernel) ⟨rfl, rfl⟩ dX0_mostOf_36 ⟨by decide, by decide⟩ rfl rfl (Nat.le_of_ble_eq_true rfl) ?_
        intro r36c M36 hN
        replace h := hN
        clear hN
        refine g_goto C 43 dX0_mostOf_39 (by decide) ?_
        refine g_locals (lv' := [(0, .ref (ad o)), (1, iv a1), (2, iv a2), (3, iv v3), (4, iv v4), (5, iv v5), (6, iv r21c)]) rfl ?_
        exact pB43 r8 X8_81 hr8 hX8_81 _ _ _ _ _ _ h
  have pL8 : ∀  (X8_81 : Int → gSt → Prop) (hX8_81 : ∀ (v3 : Int) (M : gSt), X8_81 v3 M → gG p l e (rmR 3 73) s m args below meth c Q D clC A (wC ad cI cS) 8 81 [(3, iv v3)] [] M) (n : Nat) (v3 : Int) (v4 : Int) (v5 : Int) (M : gSt), wL_X0_mostOf_8 o a1 a2 k  X8_81 n v3 v4 v5 M → gG p l e (rmR 3 73) s m args below meth c Q D clC A (wC ad cI cS) 8 8 [(0, .ref (ad o)), (1, iv a1), (2, iv a2), (3, iv v3), (4, iv v4), (5, iv v5)] [] M := by
    intro  X8_81 hX8_81 n
    induction n with
    | zero => intro v3 v4 v5 M h; exact h.elim
    | succ n ih =>
      intro v3 v4 v5 M h
      exact pC8  (wL_X0_mostOf_8 o a1 a2 k  X8_81 n) X8_81 ih hX8_81 v3 v4 v5 M h
  refine g_locals (lv' := [(0, .ref (ad o)), (1, iv a1), (2, iv a2)]) rfl ?_
  refine g_iconst C dX0_mostOf_0 ?_
  refine g_istore_n C dX0_mostOf_1 (by decide) rfl ?_
  refine g_locals (lv' := [(0, .ref (ad o)), (1, iv a1), (2, iv a2), (3, iv 0)]) rfl ?_
  refine g_iconst C dX0_mostOf_2 ?_
  refine g_istore C dX0_mostOf_3 (by decide) rfl ?_
  refine g_locals (lv' := [(0, .ref (ad o)), (1, iv a1), (2, iv a2), (3, iv 0), (4, iv 0)]) rfl ?_
  refine g_iconst C dX0_mostOf_5 ?_
  refine g_istore C dX0_mostOf_6 (by decide) rfl ?_
  refine g_locals (lv' := [(0, .ref (ad o)), (1, iv a1), (2, iv a2), (3, iv 0), (4, iv 0), (5, iv 1)]) rfl ?_
  refine g_locals (lv' := [(0, .ref (ad o)), (1, iv a1), (2, iv a2), (3, iv 0), (4, iv 0), (5, iv 1)]) rfl ?_
  obtain ⟨n, h⟩ := h
  refine pL8 _ ?_ n _ _ _ _ h
  · intro u3_8 M8 hN
    replace h := hN
    clear hN
    refine g_iload_n C dX0_mostOf_81 rfl ?_
    exact hR _ _ _ _ dX0_mostOf_82 rfl h
def w_X4_copyFrom (o : Nat) (a1 : Nat) (M : gSt) (k : gSt → Prop) : Prop :=
  (isRows o) ∧ ((isRows a1) ∧ (
  (wrap (lenC (a1 + 1) : Int) = wrap (lenC (o + 1) : Int) →
    ((0 : Int) ≤ 0 ∧ (0 : Int) ≤ 0 ∧ (0 : Int) ≤ (lenC (o + 1) : Int) ∧ 0 + (lenC (o + 1) : Int) ≤ lenC (a1 + 1) ∧ 0 + (lenC (o + 1) : Int) ≤ lenC (o + 1)) ∧ (∀ M29 : gSt, M29 = cpy M (a1 + 1) 0 (o + 1) 0 (lenC (o + 1) : Int) → (∀ M37 : gSt, M37 = wr M29 o 3 (M29 a1 3) → (k M37)))) ∧
  (¬ wrap (lenC (a1 + 1) : Int) = wrap (lenC (o + 1) : Int) →
    k M)))
set_option maxHeartbeats 4000000 in
set_option maxRecDepth 100000 in
theorem m_X4_copyFrom {l : Launch} {D : va_G} {tys : List (ClassId × FieldType)} {ad : Nat → Nat} {cI cS : ClassId} {o : Nat} {a1 : Nat} {M : gSt} {k : gSt → Prop} (h : w_X4_copyFrom o a1 M k) : MOv l yX4_copyFrom cX4_copyFrom 2 (rmR 1 40) D clC ((cI, .int) :: (cS, .object "OldBronze$Sheet") :: tys) (wC ad cI cS) tC zC [.ref (ad o), .ref (ad a1)] M k := by
  refine mov_intro (by decide +kernel) (Nat.le_of_ble_eq_true rfl) wc_122 ?_
  intro p e s m args below meth c A Q C hR
  unfold w_X4_copyFrom at h
  obtain ⟨h_o, h_a1, h⟩ := h
  refine g_locals (lv' := [(0, .ref (ad o)), (1, .ref (ad a1))]) rfl ?_
  refine g_aload_n C dX4_copyFrom_0 rfl ?_
  refine cf_X4_22 C h_a1 dX4_copyFrom_1 ?_
  refine g_alen C dX4_copyFrom_4 h_a1.2.2.1 h_a1.2.2.2.1 ?_
  refine g_aload_n C dX4_copyFrom_5 rfl ?_
  refine cf_X4_22 C h_o dX4_copyFrom_6 ?_
  refine g_alen C dX4_copyFrom_9 h_o.2.2.1 h_o.2.2.2.1 ?_
  refine g_icmp_eq C 14 dX4_copyFrom_10 (by decide) (fun hc => ?_) (fun hc => ?_)
  · replace h := h.1 hc
    refine g_aload_n C dX4_copyFrom_14 rfl ?_
    refine cf_X4_22 C h_a1 dX4_copyFrom_15 ?_
    refine g_iconst C dX4_copyFrom_18 ?_
    refine g_aload_n C dX4_copyFrom_19 rfl ?_
    refine cf_X4_22 C h_o dX4_copyFrom_20 ?_
    refine g_iconst C dX4_copyFrom_23 ?_
    refine g_aload_n C dX4_copyFrom_24 rfl ?_
    refine cf_X4_22 C h_o dX4_copyFrom_25 ?_
    refine g_alen C dX4_copyFrom_28 h_o.2.2.1 h_o.2.2.2.1 ?_
    refine g_copy C (st := []) dX4_copyFrom_29 h_a1.2.2.1 h_o.2.2.1 ⟨h_a1.2.2.2.1, h_o.2.2.2.1, h_a1.2.2.2.2, h_o.2.2.2.2⟩ h.1 wc_123 wc_33 wc_34 wc_35 (by decide) (Nat.le_of_ble_eq_true rfl) ?_
    replace h := h.2
    refine g_memname (fun M29 hM29 => ?_)
    replace h := h M29 hM29
    refine g_aload_n C dX4_copyFrom_32 rfl ?_
    refine g_aload_n C dX4_copyFrom_33 rfl ?_
    refine cf_X4_26 C h_a1 dX4_copyFrom_34 ?_
    refine cp_X4_26 C h_o dX4_copyFrom_37 ?_
    refine g_memname (fun M37 hM37 => ?_)
    replace h := h M37 hM37
    exact hR _ _ _ dX4_copyFrom_40 h
  · replace h := h.2 hc
    exact hR _ _ _ dX4_copyFrom_13 h
def w_X1_copyFrom (o : Nat) (a1 : Nat) (M : gSt) (k : gSt → Prop) : Prop :=
  (isForge o) ∧ ((isForge a1) ∧ (w_X0_copyFrom (o + 1) (a1 + 1) M (fun M8 => w_X4_copyFrom (o + 3) (a1 + 3) M8 (fun M19 => w_X4_copyFrom (o + 5) (a1 + 5) M19 (fun M30 => w_X4_copyFrom (o + 7) (a1 + 7) M30 (fun M41 => w_X4_copyFrom (o + 9) (a1 + 9) M41 (fun M52 => w_X4_copyFrom (o + 11) (a1 + 11) M52 (fun M63 => w_X4_copyFrom (o + 13) (a1 + 13) M63 (fun M74 => w_X4_copyFrom (o + 15) (a1 + 15) M74 (fun M85 => k M85))))))))))
set_option maxHeartbeats 4000000 in
set_option maxRecDepth 100000 in
theorem m_X1_copyFrom {l : Launch} {D : va_G} {tys : List (ClassId × FieldType)} {ad : Nat → Nat} {cI cS : ClassId} {o : Nat} {a1 : Nat} {M : gSt} {k : gSt → Prop} (h : w_X1_copyFrom o a1 M k) : MOv l yX1_copyFrom cX1_copyFrom 2 (rmR 2 61) D clC ((cI, .int) :: (cS, .object "OldBronze$Sheet") :: tys) (wC ad cI cS) tC zC [.ref (ad o), .ref (ad a1)] M k := by
  refine mov_intro (by decide +kernel) (Nat.le_of_ble_eq_true rfl) wc_131 ?_
  intro p e s m args below meth c A Q C hR
  unfold w_X1_copyFrom at h
  obtain ⟨h_o, h_a1, h⟩ := h
  refine g_locals (lv' := [(0, .ref (ad o)), (1, .ref (ad a1))]) rfl ?_
  refine g_aload_n C dX1_copyFrom_0 rfl ?_
  refine cf_X1_12 C h_o dX1_copyFrom_1 ?_
  refine g_aload_n C dX1_copyFrom_4 rfl ?_
  refine cf_X1_12 C h_a1 dX1_copyFrom_5 ?_
  refine g_callVv C (nargs := 1) (o := (o + 1)) (st := []) (m_X0_copyFrom h) (show isBronze (o + 1) from h.1).1 (show isBronze (o + 1) from h.1).2.1 rfl rfl gc_X1_52 (by decide +kernel) ⟨rfl, rfl⟩ dX1_copyFrom_8 ⟨by decide, by decide⟩ rfl rfl (Nat.le_of_ble_eq_true rfl) ?_
  intro M8 hN
  replace h := hN
  clear hN
  refine g_aload_n C dX1_copyFrom_11 rfl ?_
  refine cf_X1_23 C h_o dX1_copyFrom_12 ?_
  refine g_aload_n C dX1_copyFrom_15 rfl ?_
  refine cf_X1_23 C h_a1 dX1_copyFrom_16 ?_
  refine g_callVv C (nargs := 1) (o := (o + 3)) (st := []) (m_X4_copyFrom h) (show isRows (o + 3) from h.1).1 (show isRows (o + 3) from h.1).2.1 rfl rfl gc_X1_56 (by decide +kernel) ⟨rfl, rfl⟩ dX1_copyFrom_19 ⟨by decide, by decide⟩ rfl rfl (Nat.le_of_ble_eq_true rfl) ?_
  intro M19 hN
  replace h := hN
  clear hN
  refine g_aload_n C dX1_copyFrom_22 rfl ?_
  refine cf_X1_27 C h_o dX1_copyFrom_23 ?_
  refine g_aload_n C dX1_copyFrom_26 rfl ?_
  refine cf_X1_27 C h_a1 dX1_copyFrom_27 ?_
  refine g_callVv C (nargs := 1) (o := (o + 5)) (st := []) (m_X4_copyFrom h) (show isRows (o + 5) from h.1).1 (show isRows (o + 5) from h.1).2.1 rfl rfl gc_X1_56 (by decide +kernel) ⟨rfl, rfl⟩ dX1_copyFrom_30 ⟨by decide, by decide⟩ rfl rfl (Nat.le_of_ble_eq_true rfl) ?_
  intro M30 hN
  replace h := hN
  clear hN
  refine g_aload_n C dX1_copyFrom_33 rfl ?_
  refine cf_X1_30 C h_o dX1_copyFrom_34 ?_
  refine g_aload_n C dX1_copyFrom_37 rfl ?_
  refine cf_X1_30 C h_a1 dX1_copyFrom_38 ?_
  refine g_callVv C (nargs := 1) (o := (o + 7)) (st := []) (m_X4_copyFrom h) (show isRows (o + 7) from h.1).1 (show isRows (o + 7) from h.1).2.1 rfl rfl gc_X1_56 (by decide +kernel) ⟨rfl, rfl⟩ dX1_copyFrom_41 ⟨by decide, by decide⟩ rfl rfl (Nat.le_of_ble_eq_true rfl) ?_
  intro M41 hN
  replace h := hN
  clear hN
  refine g_aload_n C dX1_copyFrom_44 rfl ?_
  refine cf_X1_33 C h_o dX1_copyFrom_45 ?_
  refine g_aload_n C dX1_copyFrom_48 rfl ?_
  refine cf_X1_33 C h_a1 dX1_copyFrom_49 ?_
  refine g_callVv C (nargs := 1) (o := (o + 9)) (st := []) (m_X4_copyFrom h) (show isRows (o + 9) from h.1).1 (show isRows (o + 9) from h.1).2.1 rfl rfl gc_X1_56 (by decide +kernel) ⟨rfl, rfl⟩ dX1_copyFrom_52 ⟨by decide, by decide⟩ rfl rfl (Nat.le_of_ble_eq_true rfl) ?_
  intro M52 hN
  replace h := hN
  clear hN
  refine g_aload_n C dX1_copyFrom_55 rfl ?_
  refine cf_X1_36 C h_o dX1_copyFrom_56 ?_
  refine g_aload_n C dX1_copyFrom_59 rfl ?_
  refine cf_X1_36 C h_a1 dX1_copyFrom_60 ?_
  refine g_callVv C (nargs := 1) (o := (o + 11)) (st := []) (m_X4_copyFrom h) (show isRows (o + 11) from h.1).1 (show isRows (o + 11) from h.1).2.1 rfl rfl gc_X1_56 (by decide +kernel) ⟨rfl, rfl⟩ dX1_copyFrom_63 ⟨by decide, by decide⟩ rfl rfl (Nat.le_of_ble_eq_true rfl) ?_
  intro M63 hN
  replace h := hN
  clear hN
  refine g_aload_n C dX1_copyFrom_66 rfl ?_
  refine cf_X1_39 C h_o dX1_copyFrom_67 ?_
  refine g_aload_n C dX1_copyFrom_70 rfl ?_
  refine cf_X1_39 C h_a1 dX1_copyFrom_71 ?_
  refine g_callVv C (nargs := 1) (o := (o + 13)) (st := []) (m_X4_copyFrom h) (show isRows (o + 13) from h.1).1 (show isRows (o + 13) from h.1).2.1 rfl rfl gc_X1_56 (by decide +kernel) ⟨rfl, rfl⟩ dX1_copyFrom_74 ⟨by decide, by decide⟩ rfl rfl (Nat.le_of_ble_eq_true rfl) ?_
  intro M74 hN
  replace h := hN
  clear hN
  refine g_aload_n C dX1_copyFrom_77 rfl ?_
  refine cf_X1_42 C h_o dX1_copyFrom_78 ?_
  refine g_aload_n C dX1_copyFrom_81 rfl ?_
  refine cf_X1_42 C h_a1 dX1_copyFrom_82 ?_
  refine g_callVv C (nargs := 1) (o := (o + 15)) (st := []) (m_X4_copyFrom h) (show isRows (o + 15) from h.1).1 (show isRows (o + 15) from h.1).2.1 rfl rfl gc_X1_56 (by decide +kernel) ⟨rfl, rfl⟩ dX1_copyFrom_85 ⟨by decide, by decide⟩ rfl rfl (Nat.le_of_ble_eq_true rfl) ?_
  intro M85 hN
  replace h := hN
  clear hN
  exact hR _ _ _ dX1_copyFrom_88 h
end
section
def w_X1_textOf (o : Nat) (a1 : Int) (M : gSt) (k : Option Nat → gSt → Prop) : Prop :=
  (isForge o) ∧ (
  (¬ wrap a1 = 0 →
    k (some (o + 15)) M) ∧
  (wrap a1 = 0 →
    k (some (o + 13)) M))
set_option maxHeartbeats 4000000 in
set_option maxRecDepth 100000 in
theorem m_X1_textOf {l : Launch} {D : va_G} {tys : List (ClassId × FieldType)} {ad : Nat → Nat} {cI cS : ClassId} {o : Nat} {a1 : Int} {M : gSt} {k : Option Nat → gSt → Prop} (h : w_X1_textOf o a1 M k) : MOr l yX1_textOf cX1_textOf 2 (.object "OldBronze$Rows") (rmR 0 0) D clC ((cI, .int) :: (cS, .object "OldBronze$Sheet") :: tys) ad (wC ad cI cS) tC zC [.ref (ad o), iv a1] M k := by
  refine mor_intro (by decide +kernel) (Nat.le_of_ble_eq_true rfl) wc_132 (Or.inl ⟨_, rfl⟩) ?_
  intro p e s m args below meth c A Q C hR
  unfold w_X1_textOf at h
  obtain ⟨h_o, h⟩ := h
  refine g_locals (lv' := [(0, .ref (ad o)), (1, iv a1)]) rfl ?_
  refine g_iload_n C dX1_textOf_0 rfl ?_
  refine g_if_ne C 11 dX1_textOf_1 (by decide) (fun hc => ?_) (fun hc => ?_)
  · replace h := h.1 hc
    refine g_aload_n C dX1_textOf_11 rfl ?_
    refine cf_X1_42 C h_o dX1_textOf_12 ?_
    exact hR _ _ (some (o + 15)) _ _ dX1_textOf_15 rfl h
  · replace h := h.2 hc
    refine g_aload_n C dX1_textOf_4 rfl ?_
    refine cf_X1_39 C h_o dX1_textOf_5 ?_
    refine g_goto C 15 dX1_textOf_8 (by decide) ?_
    exact hR _ _ (some (o + 13)) _ _ dX1_textOf_15 rfl h
def w_X4_size (o : Nat) (M : gSt) (k : Int → gSt → Prop) : Prop :=
  (isRows o) ∧ (k (M o 3) M)
set_option maxHeartbeats 4000000 in
set_option maxRecDepth 100000 in
theorem m_X4_size {l : Launch} {D : va_G} {tys : List (ClassId × FieldType)} {ad : Nat → Nat} {cI cS : ClassId} {o : Nat} {M : gSt} {k : Int → gSt → Prop} (h : w_X4_size o M k) : MOi l yX4_size cX4_size 1 .int (rmR 0 0) D clC ((cI, .int) :: (cS, .object "OldBronze$Sheet") :: tys) (wC ad cI cS) tC zC [.ref (ad o)] M k := by
  refine moi_intro (by decide +kernel) (Nat.le_of_ble_eq_true rfl) wc_133 ?_
  intro p e s m args below meth c A Q C hR
  unfold w_X4_size at h
  obtain ⟨h_o, h⟩ := h
  refine g_locals (lv' := [(0, .ref (ad o))]) rfl ?_
  refine g_aload_n C dX4_size_0 rfl ?_
  refine cf_X4_26 C h_o dX4_size_1 ?_
  exact hR _ _ _ _ dX4_size_4 rfl h
def wB_X4_at_46 (o : Nat) (a1 : Int) (a2 : Int) (k : Int → gSt → Prop)  (s0 : Int) (M : gSt) : Prop :=

  (wrap s0 < 0 →
    k 0 M) ∧
  (0 ≤ wrap s0 →

    (wrap (lenC (o + 1) : Int) ≤ wrap s0 →
      k 0 M) ∧
    (wrap s0 < wrap (lenC (o + 1) : Int) →
      ((0 : Int) ≤ s0 ∧ s0 < lenC (o + 1)) ∧ (k (M (o + 1) s0) M)))
def wB_X4_at_29 (o : Nat) (a1 : Int) (a2 : Int) (k : Int → gSt → Prop)  (s0 : Int) (M : gSt) : Prop :=

  (wrap s0 = 0 →
    wB_X4_at_46 o a1 a2 k  (-1) M) ∧
  (¬ wrap s0 = 0 →
    wB_X4_at_46 o a1 a2 k  ((a1 * (M o 0)) + a2) M)
def wB_X4_at_28 (o : Nat) (a1 : Int) (a2 : Int) (k : Int → gSt → Prop)   (M : gSt) : Prop :=
wB_X4_at_29 o a1 a2 k  0 M
def w_X4_at (o : Nat) (a1 : Int) (a2 : Int) (M : gSt) (k : Int → gSt → Prop) : Prop :=
  (isRows o) ∧ (
  (wrap a1 < 0 →
    wB_X4_at_28 o a1 a2 k   M) ∧
  (0 ≤ wrap a1 →

    (wrap (M o 3) ≤ wrap a1 →
      wB_X4_at_28 o a1 a2 k   M) ∧
    (wrap a1 < wrap (M o 3) →

      (wrap a2 < 0 →
        wB_X4_at_28 o a1 a2 k   M) ∧
      (0 ≤ wrap a2 →

        (wrap (M o 0) ≤ wrap a2 →
          wB_X4_at_28 o a1 a2 k   M) ∧
        (wrap a2 < wrap (M o 0) →
          wB_X4_at_29 o a1 a2 k  1 M)))))
set_option maxHeartbeats 4000000 in
set_option maxRecDepth 100000 in
theorem m_X4_at {l : Launch} {D : va_G} {tys : List (ClassId × FieldType)} {ad : Nat → Nat} {cI cS : ClassId} {o : Nat} {a1 : Int} {a2 : Int} {M : gSt} {k : Int → gSt → Prop} (h : w_X4_at o a1 a2 M k) : MOi l yX4_at cX4_at 5 .int (rmR 0 0) D clC ((cI, .int) :: (cS, .object "OldBronze$Sheet") :: tys) (wC ad cI cS) tC zC [.ref (ad o), iv a1, iv a2] M k := by
  refine moi_intro (by decide +kernel) (Nat.le_of_ble_eq_true rfl) wc_134 ?_
  intro p e s m args below meth c A Q C hR
  unfold w_X4_at at h
  obtain ⟨h_o, h⟩ := h
  have pB46 : ∀   (s0 : Int) (M : gSt), wB_X4_at_46 o a1 a2 k  s0 M → gG p l e (rmR 0 0) s m args below meth c Q D clC A (wC ad cI cS) 5 46 [(0, .ref (ad o))] [iv s0] M := by
    intro   s0 M h
    unfold wB_X4_at_46 at h
    refine g_istore C dX4_at_46 (by decide) rfl ?_
    refine g_locals (lv' := [(0, .ref (ad o)), (4, iv s0)]) rfl ?_
    refine g_iload C dX4_at_48 rfl ?_
    refine g_if_lt C 73 dX4_at_50 (by decide) (fun hc => ?_) (fun hc => ?_)
    · replace h := h.1 hc
      refine g_iconst C dX4_at_73 ?_
      exact hR _ _ _ _ dX4_at_74 rfl h
    · replace h := h.2 hc
      refine g_iload C dX4_at_53 rfl ?_
      refine g_aload_n C dX4_at_55 rfl ?_
      refine cf_X4_22 C h_o dX4_at_56 ?_
      refine g_alen C dX4_at_59 h_o.2.2.1 h_o.2.2.2.1 ?_
      refine g_icmp_ge C 73 dX4_at_60 (by decide) (fun hc => ?_) (fun hc => ?_)
      · replace h := h.1 hc
        refine g_iconst C dX4_at_73 ?_
        exact hR _ _ _ _ dX4_at_74 rfl h
      · replace h := h.2 hc
        refine g_aload_n C dX4_at_63 rfl ?_
        refine cf_X4_22 C h_o dX4_at_64 ?_
        refine g_iload C dX4_at_67 rfl ?_
        refine g_iald C dX4_at_69 h_o.2.2.1 h_o.2.2.2 h.1 ?_
        replace h := h.2
        refine g_goto C 74 dX4_at_70 (by decide) ?_
        exact hR _ _ _ _ dX4_at_74 rfl h
  have pB29 : ∀   (s0 : Int) (M : gSt), wB_X4_at_29 o a1 a2 k  s0 M → gG p l e (rmR 0 0) s m args below meth c Q D clC A (wC ad cI cS) 5 29 [(0, .ref (ad o)), (1, iv a1), (2, iv a2)] [iv s0] M := by
    intro   s0 M h
    unfold wB_X4_at_29 at h
    refine g_istore_n C dX4_at_29 (by decide) rfl ?_
    refine g_locals (lv' := [(0, .ref (ad o)), (1, iv a1), (2, iv a2), (3, iv s0)]) rfl ?_
    refine g_iload_n C dX4_at_30 rfl ?_
    refine g_if_eq C 45 dX4_at_31 (by decide) (fun hc => ?_) (fun hc => ?_)
    · replace h := h.1 hc
      refine g_iconst C dX4_at_45 ?_
      refine g_locals (lv' := [(0, .ref (ad o))]) rfl ?_
      exact pB46 _ _ h
    · replace h := h.2 hc
      refine g_iload_n C dX4_at_34 rfl ?_
      refine g_aload_n C dX4_at_35 rfl ?_
      refine cf_X4_19 C h_o dX4_at_36 ?_
      refine g_imul C dX4_at_39 ?_
      refine g_iload_n C dX4_at_40 rfl ?_
      refine g_iadd C dX4_at_41 ?_
      refine g_goto C 46 dX4_at_42 (by decide) ?_
      refine g_locals (lv' := [(0, .ref (ad o))]) rfl ?_
      exact pB46 _ _ h
  have pB28 : ∀    (M : gSt), wB_X4_at_28 o a1 a2 k   M → gG p l e (rmR 0 0) s m args below meth c Q D clC A (wC ad cI cS) 5 28 [(0, .ref (ad o)), (1, iv a1), (2, iv a2)] [] M := by
    intro    M h
    unfold wB_X4_at_28 at h
    refine g_iconst C dX4_at_28 ?_
    refine g_locals (lv' := [(0, .ref (ad o)), (1, iv a1), (2, iv a2)]) rfl ?_
    exact pB29 _ _ h
  refine g_locals (lv' := [(0, .ref (ad o)), (1, iv a1), (2, iv a2)]) rfl ?_
  refine g_iload_n C dX4_at_0 rfl ?_
  refine g_if_lt C 28 dX4_at_1 (by decide) (fun hc => ?_) (fun hc => ?_)
  · replace h := h.1 hc
    refine g_locals (lv' := [(0, .ref (ad o)), (1, iv a1), (2, iv a2)]) rfl ?_
    exact pB28  _ h
  · replace h := h.2 hc
    refine g_iload_n C dX4_at_4 rfl ?_
    refine g_aload_n C dX4_at_5 rfl ?_
    refine cf_X4_26 C h_o dX4_at_6 ?_
    refine g_icmp_ge C 28 dX4_at_9 (by decide) (fun hc => ?_) (fun hc => ?_)
    · replace h := h.1 hc
      refine g_locals (lv' := [(0, .ref (ad o)), (1, iv a1), (2, iv a2)]) rfl ?_
      exact pB28  _ h
    · replace h := h.2 hc
      refine g_iload_n C dX4_at_12 rfl ?_
      refine g_if_lt C 28 dX4_at_13 (by decide) (fun hc => ?_) (fun hc => ?_)
      · replace h := h.1 hc
        refine g_locals (lv' := [(0, .ref (ad o)), (1, iv a1), (2, iv a2)]) rfl ?_
        exact pB28  _ h
      · replace h := h.2 hc
        refine g_iload_n C dX4_at_16 rfl ?_
        refine g_aload_n C dX4_at_17 rfl ?_
        refine cf_X4_19 C h_o dX4_at_18 ?_
        refine g_icmp_ge C 28 dX4_at_21 (by decide) (fun hc => ?_) (fun hc => ?_)
        · replace h := h.1 hc
          refine g_locals (lv' := [(0, .ref (ad o)), (1, iv a1), (2, iv a2)]) rfl ?_
          exact pB28  _ h
        · replace h := h.2 hc
          refine g_iconst C dX4_at_24 ?_
          refine g_goto C 29 dX4_at_25 (by decide) ?_
          refine g_locals (lv' := [(0, .ref (ad o)), (1, iv a1), (2, iv a2)]) rfl ?_
          exact pB29 _ _ h
def w_X7_push (o : Nat) (a1 : Int) (M : gSt) (k : gSt → Prop) : Prop :=
  (isWorker o) ∧ (
  (wrap (M o 1) < 0 →
    k M) ∧
  (0 ≤ wrap (M o 1) →

    (wrap (lenC (o + 1) : Int) ≤ wrap (M o 1) →
      k M) ∧
    (wrap (M o 1) < wrap (lenC (o + 1) : Int) →
      ((0 : Int) ≤ M o 1 ∧ M o 1 < lenC (o + 1)) ∧ (∀ M28 : gSt, M28 = wr M (o + 1) (M o 1) a1 → (∀ M36 : gSt, M36 = wr M28 o 1 ((M28 o 1) + 1) → (k M36))))))
set_option maxHeartbeats 4000000 in
set_option maxRecDepth 100000 in
theorem m_X7_push {l : Launch} {D : va_G} {tys : List (ClassId × FieldType)} {ad : Nat → Nat} {cI cS : ClassId} {o : Nat} {a1 : Int} {M : gSt} {k : gSt → Prop} (h : w_X7_push o a1 M k) : MOv l yX7_push cX7_push 2 (rmR 0 0) D clC ((cI, .int) :: (cS, .object "OldBronze$Sheet") :: tys) (wC ad cI cS) tC zC [.ref (ad o), iv a1] M k := by
  refine mov_intro (by decide +kernel) (Nat.le_of_ble_eq_true rfl) wc_135 ?_
  intro p e s m args below meth c A Q C hR
  unfold w_X7_push at h
  obtain ⟨h_o, h⟩ := h
  refine g_locals (lv' := [(0, .ref (ad o)), (1, iv a1)]) rfl ?_
  refine g_aload_n C dX7_push_0 rfl ?_
  refine cf_X7_15 C h_o dX7_push_1 ?_
  refine g_if_lt C 39 dX7_push_4 (by decide) (fun hc => ?_) (fun hc => ?_)
  · replace h := h.1 hc
    exact hR _ _ _ dX7_push_39 h
  · replace h := h.2 hc
    refine g_aload_n C dX7_push_7 rfl ?_
    refine cf_X7_15 C h_o dX7_push_8 ?_
    refine g_aload_n C dX7_push_11 rfl ?_
    refine cf_X7_9 C h_o dX7_push_12 ?_
    refine g_alen C dX7_push_15 h_o.2.2.1 h_o.2.2.2.1 ?_
    refine g_icmp_ge C 39 dX7_push_16 (by decide) (fun hc => ?_) (fun hc => ?_)
    · replace h := h.1 hc
      exact hR _ _ _ dX7_push_39 h
    · replace h := h.2 hc
      refine g_aload_n C dX7_push_19 rfl ?_
      refine cf_X7_9 C h_o dX7_push_20 ?_
      refine g_aload_n C dX7_push_23 rfl ?_
      refine cf_X7_15 C h_o dX7_push_24 ?_
      refine g_iload_n C dX7_push_27 rfl ?_
      refine g_iast C dX7_push_28 h_o.2.2.1 h_o.2.2.2 h.1 ?_
      replace h := h.2
      refine g_memname (fun M28 hM28 => ?_)
      replace h := h M28 hM28
      refine g_aload_n C dX7_push_29 rfl ?_
      refine g_dup C dX7_push_30 rfl ?_
      refine cf_X7_15 C h_o dX7_push_31 ?_
      refine g_iconst C dX7_push_34 ?_
      refine g_iadd C dX7_push_35 ?_
      refine cp_X7_15 C h_o dX7_push_36 ?_
      refine g_memname (fun M36 hM36 => ?_)
      replace h := h M36 hM36
      exact hR _ _ _ dX7_push_39 h
def w_X7_pop (o : Nat) (M : gSt) (k : Int → gSt → Prop) : Prop :=
  (isWorker o) ∧ (
  (wrap (M o 1) < 1 →
    k 0 M) ∧
  (1 ≤ wrap (M o 1) →

    (wrap (M o 1) ≤ wrap (lenC (o + 1) : Int) →
      ∀ M29 : gSt, M29 = wr M o 1 ((M o 1) - 1) → (((0 : Int) ≤ M29 o 1 ∧ M29 o 1 < lenC (o + 1)) ∧ (k (M29 (o + 1) (M29 o 1)) M29))) ∧
    (wrap (lenC (o + 1) : Int) < wrap (M o 1) →
      k 0 M)))
set_option maxHeartbeats 4000000 in
set_option maxRecDepth 100000 in
theorem m_X7_pop {l : Launch} {D : va_G} {tys : List (ClassId × FieldType)} {ad : Nat → Nat} {cI cS : ClassId} {o : Nat} {M : gSt} {k : Int → gSt → Prop} (h : w_X7_pop o M k) : MOi l yX7_pop cX7_pop 1 .int (rmR 0 0) D clC ((cI, .int) :: (cS, .object "OldBronze$Sheet") :: tys) (wC ad cI cS) tC zC [.ref (ad o)] M k := by
  refine moi_intro (by decide +kernel) (Nat.le_of_ble_eq_true rfl) wc_137 ?_
  intro p e s m args below meth c A Q C hR
  unfold w_X7_pop at h
  obtain ⟨h_o, h⟩ := h
  refine g_locals (lv' := [(0, .ref (ad o))]) rfl ?_
  refine g_aload_n C dX7_pop_0 rfl ?_
  refine cf_X7_15 C h_o dX7_pop_1 ?_
  refine g_iconst C dX7_pop_4 ?_
  refine g_icmp_lt C 20 dX7_pop_5 (by decide) (fun hc => ?_) (fun hc => ?_)
  · replace h := h.1 hc
    refine g_iconst C dX7_pop_20 ?_
    exact hR _ _ _ _ dX7_pop_21 rfl h
  · replace h := h.2 hc
    refine g_aload_n C dX7_pop_8 rfl ?_
    refine cf_X7_15 C h_o dX7_pop_9 ?_
    refine g_aload_n C dX7_pop_12 rfl ?_
    refine cf_X7_9 C h_o dX7_pop_13 ?_
    refine g_alen C dX7_pop_16 h_o.2.2.1 h_o.2.2.2.1 ?_
    refine g_icmp_le C 22 dX7_pop_17 (by decide) (fun hc => ?_) (fun hc => ?_)
    · replace h := h.1 hc
      refine g_aload_n C dX7_pop_22 rfl ?_
      refine g_dup C dX7_pop_23 rfl ?_
      refine cf_X7_15 C h_o dX7_pop_24 ?_
      refine g_iconst C dX7_pop_27 ?_
      refine g_isub C dX7_pop_28 ?_
      refine cp_X7_15 C h_o dX7_pop_29 ?_
      refine g_memname (fun M29 hM29 => ?_)
      replace h := h M29 hM29
      refine g_aload_n C dX7_pop_32 rfl ?_
      refine cf_X7_9 C h_o dX7_pop_33 ?_
      refine g_aload_n C dX7_pop_36 rfl ?_
      refine cf_X7_15 C h_o dX7_pop_37 ?_
      refine g_iald C dX7_pop_40 h_o.2.2.1 h_o.2.2.2 h.1 ?_
      replace h := h.2
      exact hR _ _ _ _ dX7_pop_41 rfl h
    · replace h := h.2 hc
      refine g_iconst C dX7_pop_20 ?_
      exact hR _ _ _ _ dX7_pop_21 rfl h
def w_X7_joined (a1 : Int) (a2 : Int) (a3 : Int) (M : gSt) (k : Int → gSt → Prop) : Prop :=
  
  (wrap a1 = 38 →

    (wrap a2 = 0 →
      k 0 M) ∧
    (¬ wrap a2 = 0 →

      (wrap a3 = 0 →
        k 0 M) ∧
      (¬ wrap a3 = 0 →
        k 1 M))) ∧
  (wrap a1 = 42 →
    k (a2 * a3) M) ∧
  (wrap a1 = 43 →
    k (a2 + a3) M) ∧
  (wrap a1 = 45 →
    k (a2 - a3) M) ∧
  (wrap a1 = 47 →

    (¬ wrap a3 = 0 →
      (wrap a3 ≠ 0) ∧ (k (Int.tdiv (wrap a2) (wrap a3)) M)) ∧
    (wrap a3 = 0 →
      k 0 M)) ∧
  (wrap a1 = 60 →

    (wrap a3 ≤ wrap a2 →
      k 0 M) ∧
    (wrap a2 < wrap a3 →
      k 1 M)) ∧
  (wrap a1 = 61 →

    (¬ wrap a2 = wrap a3 →
      k 0 M) ∧
    (wrap a2 = wrap a3 →
      k 1 M)) ∧
  (wrap a1 = 62 →

    (wrap a2 ≤ wrap a3 →
      k 0 M) ∧
    (wrap a3 < wrap a2 →
      k 1 M)) ∧
  (wrap a1 = 124 →

    (¬ wrap a2 = 0 →
      k 1 M) ∧
    (wrap a2 = 0 →

      (wrap a3 = 0 →
        k 0 M) ∧
      (¬ wrap a3 = 0 →
        k 1 M))) ∧
  (¬ wrap a1 = 38 ∧ ¬ wrap a1 = 42 ∧ ¬ wrap a1 = 43 ∧ ¬ wrap a1 = 45 ∧ ¬ wrap a1 = 47 ∧ ¬ wrap a1 = 60 ∧ ¬ wrap a1 = 61 ∧ ¬ wrap a1 = 62 ∧ ¬ wrap a1 = 124 →

    (¬ wrap a3 = 0 →
      (wrap a3 ≠ 0) ∧ (k (Int.tmod (wrap a2) (wrap a3)) M)) ∧
    (wrap a3 = 0 →
      k 0 M))
set_option maxHeartbeats 4000000 in
set_option maxRecDepth 100000 in
theorem m_X7_joined {l : Launch} {D : va_G} {tys : List (ClassId × FieldType)} {ad : Nat → Nat} {cI cS : ClassId} {a1 : Int} {a2 : Int} {a3 : Int} {M : gSt} {k : Int → gSt → Prop} (h : w_X7_joined a1 a2 a3 M k) : MOi l yX7_joined cX7_joined 3 .int (rmR 0 0) D clC ((cI, .int) :: (cS, .object "OldBronze$Sheet") :: tys) (wC ad cI cS) tC zC [iv a1, iv a2, iv a3] M k := by
  refine moi_intro (by decide +kernel) (Nat.le_of_ble_eq_true rfl) wc_138 ?_
  intro p e s m args below meth c A Q C hR
  unfold w_X7_joined at h
  refine g_locals (lv' := [(0, iv a1), (1, iv a2), (2, iv a3)]) rfl ?_
  refine g_iload_n C dX7_joined_0 rfl ?_
  by_cases hc38 : wrap a1 = 38
  · refine g_lookup C 98 dX7_joined_1 (by decide) (by rw [hc38] <;> rfl) (by decide) ?_
    replace h := h.1 hc38
    refine g_iload_n C dX7_joined_98 rfl ?_
    refine g_if_eq C 110 dX7_joined_99 (by decide) (fun hc => ?_) (fun hc => ?_)
    · replace h := h.1 hc
      refine g_iconst C dX7_joined_110 ?_
      exact hR _ _ _ _ dX7_joined_111 rfl h
    · replace h := h.2 hc
      refine g_iload_n C dX7_joined_102 rfl ?_
      refine g_if_eq C 110 dX7_joined_103 (by decide) (fun hc => ?_) (fun hc => ?_)
      · replace h := h.1 hc
        refine g_iconst C dX7_joined_110 ?_
        exact hR _ _ _ _ dX7_joined_111 rfl h
      · replace h := h.2 hc
        refine g_iconst C dX7_joined_106 ?_
        refine g_goto C 111 dX7_joined_107 (by decide) ?_
        exact hR _ _ _ _ dX7_joined_111 rfl h
  · by_cases hc42 : wrap a1 = 42
    · refine g_lookup C 153 dX7_joined_1 (by decide) (by rw [hc42] <;> rfl) (by decide) ?_
      replace h := h.2.1 hc42
      refine g_iload_n C dX7_joined_153 rfl ?_
      refine g_iload_n C dX7_joined_154 rfl ?_
      refine g_imul C dX7_joined_155 ?_
      exact hR _ _ _ _ dX7_joined_156 rfl h
    · by_cases hc43 : wrap a1 = 43
      · refine g_lookup C 145 dX7_joined_1 (by decide) (by rw [hc43] <;> rfl) (by decide) ?_
        replace h := h.2.2.1 hc43
        refine g_iload_n C dX7_joined_145 rfl ?_
        refine g_iload_n C dX7_joined_146 rfl ?_
        refine g_iadd C dX7_joined_147 ?_
        exact hR _ _ _ _ dX7_joined_148 rfl h
      · by_cases hc45 : wrap a1 = 45
        · refine g_lookup C 149 dX7_joined_1 (by decide) (by rw [hc45] <;> rfl) (by decide) ?_
          replace h := h.2.2.2.1 hc45
          refine g_iload_n C dX7_joined_149 rfl ?_
          refine g_iload_n C dX7_joined_150 rfl ?_
          refine g_isub C dX7_joined_151 ?_
          exact hR _ _ _ _ dX7_joined_152 rfl h
        · by_cases hc47 : wrap a1 = 47
          · refine g_lookup C 157 dX7_joined_1 (by decide) (by rw [hc47] <;> rfl) (by decide) ?_
            replace h := h.2.2.2.2.1 hc47
            refine g_iload_n C dX7_joined_157 rfl ?_
            refine g_if_ne C 165 dX7_joined_158 (by decide) (fun hc => ?_) (fun hc => ?_)
            · replace h := h.1 hc
              refine g_iload_n C dX7_joined_165 rfl ?_
              refine g_iload_n C dX7_joined_166 rfl ?_
              refine g_idiv C dX7_joined_167 h.1 ?_
              replace h := h.2
              refine g_top (y := Int.tdiv (wrap a2) (wrap a3)) rfl ?_
              exact hR _ _ _ _ dX7_joined_168 rfl h
            · replace h := h.2 hc
              refine g_iconst C dX7_joined_161 ?_
              refine g_goto C 168 dX7_joined_162 (by decide) ?_
              exact hR _ _ _ _ dX7_joined_168 rfl h
          · by_cases hc60 : wrap a1 = 60
            · refine g_lookup C 112 dX7_joined_1 (by decide) (by rw [hc60] <;> rfl) (by decide) ?_
              replace h := h.2.2.2.2.2.1 hc60
              refine g_iload_n C dX7_joined_112 rfl ?_
              refine g_iload_n C dX7_joined_113 rfl ?_
              refine g_icmp_ge C 121 dX7_joined_114 (by decide) (fun hc => ?_) (fun hc => ?_)
              · replace h := h.1 hc
                refine g_iconst C dX7_joined_121 ?_
                exact hR _ _ _ _ dX7_joined_122 rfl h
              · replace h := h.2 hc
                refine g_iconst C dX7_joined_117 ?_
                refine g_goto C 122 dX7_joined_118 (by decide) ?_
                exact hR _ _ _ _ dX7_joined_122 rfl h
            · by_cases hc61 : wrap a1 = 61
              · refine g_lookup C 123 dX7_joined_1 (by decide) (by rw [hc61] <;> rfl) (by decide) ?_
                replace h := h.2.2.2.2.2.2.1 hc61
                refine g_iload_n C dX7_joined_123 rfl ?_
                refine g_iload_n C dX7_joined_124 rfl ?_
                refine g_icmp_ne C 132 dX7_joined_125 (by decide) (fun hc => ?_) (fun hc => ?_)
                · replace h := h.1 hc
                  refine g_iconst C dX7_joined_132 ?_
                  exact hR _ _ _ _ dX7_joined_133 rfl h
                · replace h := h.2 hc
                  refine g_iconst C dX7_joined_128 ?_
                  refine g_goto C 133 dX7_joined_129 (by decide) ?_
                  exact hR _ _ _ _ dX7_joined_133 rfl h
              · by_cases hc62 : wrap a1 = 62
                · refine g_lookup C 134 dX7_joined_1 (by decide) (by rw [hc62] <;> rfl) (by decide) ?_
                  replace h := h.2.2.2.2.2.2.2.1 hc62
                  refine g_iload_n C dX7_joined_134 rfl ?_
                  refine g_iload_n C dX7_joined_135 rfl ?_
                  refine g_icmp_le C 143 dX7_joined_136 (by decide) (fun hc => ?_) (fun hc => ?_)
                  · replace h := h.1 hc
                    refine g_iconst C dX7_joined_143 ?_
                    exact hR _ _ _ _ dX7_joined_144 rfl h
                  · replace h := h.2 hc
                    refine g_iconst C dX7_joined_139 ?_
                    refine g_goto C 144 dX7_joined_140 (by decide) ?_
                    exact hR _ _ _ _ dX7_joined_144 rfl h
                · by_cases hc124 : wrap a1 = 124
                  · refine g_lookup C 84 dX7_joined_1 (by decide) (by rw [hc124] <;> rfl) (by decide) ?_
                    replace h := h.2.2.2.2.2.2.2.2.1 hc124
                    refine g_iload_n C dX7_joined_84 rfl ?_
                    refine g_if_ne C 92 dX7_joined_85 (by decide) (fun hc => ?_) (fun hc => ?_)
                    · replace h := h.1 hc
                      refine g_iconst C dX7_joined_92 ?_
                      refine g_goto C 97 dX7_joined_93 (by decide) ?_
                      exact hR _ _ _ _ dX7_joined_97 rfl h
                    · replace h := h.2 hc
                      refine g_iload_n C dX7_joined_88 rfl ?_
                      refine g_if_eq C 96 dX7_joined_89 (by decide) (fun hc => ?_) (fun hc => ?_)
                      · replace h := h.1 hc
                        refine g_iconst C dX7_joined_96 ?_
                        exact hR _ _ _ _ dX7_joined_97 rfl h
                      · replace h := h.2 hc
                        refine g_iconst C dX7_joined_92 ?_
                        refine g_goto C 97 dX7_joined_93 (by decide) ?_
                        exact hR _ _ _ _ dX7_joined_97 rfl h
                  · refine g_lookup C (off := 168) 169 dX7_joined_1 (by decide) (by simp [Op.lookupswitch.offset, Ne.symm hc38, Ne.symm hc42, Ne.symm hc43, Ne.symm hc45, Ne.symm hc47, Ne.symm hc60, Ne.symm hc61, Ne.symm hc62, Ne.symm hc124]) (by decide) ?_
                    replace h := h.2.2.2.2.2.2.2.2.2 ⟨hc38, hc42, hc43, hc45, hc47, hc60, hc61, hc62, hc124⟩
                    refine g_iload_n C dX7_joined_169 rfl ?_
                    refine g_if_ne C 177 dX7_joined_170 (by decide) (fun hc => ?_) (fun hc => ?_)
                    · replace h := h.1 hc
                      refine g_iload_n C dX7_joined_177 rfl ?_
                      refine g_iload_n C dX7_joined_178 rfl ?_
                      refine g_irem C dX7_joined_179 h.1 ?_
                      replace h := h.2
                      refine g_top (y := Int.tmod (wrap a2) (wrap a3)) rfl ?_
                      exact hR _ _ _ _ dX7_joined_180 rfl h
                    · replace h := h.2 hc
                      refine g_iconst C dX7_joined_173 ?_
                      refine g_goto C 180 dX7_joined_174 (by decide) ?_
                      exact hR _ _ _ _ dX7_joined_180 rfl h
def wB_X7_value_129 (o : Nat) (a1 : Nat) (a2 : Int) (a3 : Int) (a4 : Int) (k : Int → gSt → Prop) (r8 : Int → gSt → Prop) (X8_135 : gSt → Prop) (v5 : Int) (M : gSt) : Prop :=
r8 (v5 + 1) M
def wB_X7_value_97 (o : Nat) (a1 : Nat) (a2 : Int) (a3 : Int) (a4 : Int) (k : Int → gSt → Prop) (r8 : Int → gSt → Prop) (X8_135 : gSt → Prop) (v5 : Int) (s0 : Int) (M : gSt) : Prop :=
w_X7_push o s0 M (fun M97 => wB_X7_value_129 o a1 a2 a3 a4 k r8 X8_135 v5 M97)
def wB_X7_value_71 (o : Nat) (a1 : Nat) (a2 : Int) (a3 : Int) (a4 : Int) (k : Int → gSt → Prop) (r8 : Int → gSt → Prop) (X8_135 : gSt → Prop) (v5 : Int) (s0 : Int) (M : gSt) : Prop :=
w_X7_push o s0 M (fun M71 => wB_X7_value_129 o a1 a2 a3 a4 k r8 X8_135 v5 M71)
def wC_X7_value_8 (o : Nat) (a1 : Nat) (a2 : Int) (a3 : Int) (a4 : Int) (k : Int → gSt → Prop) (r8 : Int → gSt → Prop) (X8_135 : gSt → Prop) (v5 : Int) (M : gSt) : Prop :=
w_X4_size a1 M (fun r11c M11 => 
  (wrap r11c ≤ wrap v5 →
    X8_135  M11) ∧
  (wrap v5 < wrap r11c →
    w_X4_at a1 v5 0 M11 (fun r21c M21 => 
    (wrap r21c < 0 →

      (wrap r21c < (-3) →

        (¬ wrap r21c = (-33) →
          w_X7_pop o M21 (fun r104c M104 => w_X7_pop o M104 (fun r110c M110 => w_X7_joined (-r21c) r110c r104c M110 (fun r123c M123 => w_X7_push o r123c M123 (fun M126 => wB_X7_value_129 o a1 a2 a3 a4 k r8 X8_135 v5 M126))))) ∧
        (wrap r21c = (-33) →
          w_X7_pop o M21 (fun r86c M86 => 
          (¬ wrap r86c = 0 →
            wB_X7_value_97 o a1 a2 a3 a4 k r8 X8_135 v5 0 M86) ∧
          (wrap r86c = 0 →
            wB_X7_value_97 o a1 a2 a3 a4 k r8 X8_135 v5 1 M86)))) ∧
      ((-3) ≤ wrap r21c →

        (¬ wrap r21c = (-1) →

          (¬ wrap r21c = (-2) →
            wB_X7_value_71 o a1 a2 a3 a4 k r8 X8_135 v5 a4 M21) ∧
          (wrap r21c = (-2) →
            wB_X7_value_71 o a1 a2 a3 a4 k r8 X8_135 v5 a3 M21)) ∧
        (wrap r21c = (-1) →
          wB_X7_value_71 o a1 a2 a3 a4 k r8 X8_135 v5 a2 M21))) ∧
    (0 ≤ wrap r21c →
      w_X7_push o r21c M21 (fun M34 => wB_X7_value_129 o a1 a2 a3 a4 k r8 X8_135 v5 M34)))))
def wL_X7_value_8 (o : Nat) (a1 : Nat) (a2 : Int) (a3 : Int) (a4 : Int) (k : Int → gSt → Prop)  (X8_135 : gSt → Prop) : Nat → Int → gSt → Prop
  | 0 => fun _ _ => False
  | n + 1 => fun v5 M => wC_X7_value_8 o a1 a2 a3 a4 k  (wL_X7_value_8 o a1 a2 a3 a4 k  X8_135 n) X8_135 v5 M
def w_X7_value (o : Nat) (a1 : Nat) (a2 : Int) (a3 : Int) (a4 : Int) (M : gSt) (k : Int → gSt → Prop) : Prop :=
  (isWorker o) ∧ ((isRows a1) ∧ (∀ M2 : gSt, M2 = wr M o 1 0 → (∃ n, wL_X7_value_8 o a1 a2 a3 a4 k  (fun  M8 =>
    w_X7_pop o M8 (fun r136c M136 => k r136c M136)) n 0 M2)))
set_option maxHeartbeats 4000000 in
set_option maxRecDepth 100000 in
theorem m_X7_value {l : Launch} {D : va_G} {tys : List (ClassId × FieldType)} {ad : Nat → Nat} {cI cS : ClassId} {o : Nat} {a1 : Nat} {a2 : Int} {a3 : Int} {a4 : Int} {M : gSt} {k : Int → gSt → Prop} (h : w_X7_value o a1 a2 a3 a4 M k) : MOi l yX7_value cX7_value 9 .int (rmR 1 24) D clC ((cI, .int) :: (cS, .object "OldBronze$Sheet") :: tys) (wC ad cI cS) tC zC [.ref (ad o), .ref (ad a1), iv a2, iv a3, iv a4] M k := by
  refine moi_intro (by decide +kernel) (Nat.le_of_ble_eq_true rfl) wc_153 ?_
  intro p e s m args below meth c A Q C hR
  unfold w_X7_value at h
  obtain ⟨h_o, h_a1, h⟩ := h
  have pB129 : ∀ (r8 : Int → gSt → Prop) (X8_135 : gSt → Prop) (hr8 : ∀ (v5 : Int) (M : gSt), r8 v5 M → gG p l e (rmR 1 24) s m args below meth c Q D clC A (wC ad cI cS) 9 8 [(0, .ref (ad o)), (1, .ref (ad a1)), (2, iv a2), (3, iv a3), (4, iv a4), (5, iv v5)] [] M) (hX8_135 : ∀  (M : gSt), X8_135  M → gG p l e (rmR 1 24) s m args below meth c Q D clC A (wC ad cI cS) 9 135 [(0, .ref (ad o))] [] M) (v5 : Int) (M : gSt), wB_X7_value_129 o a1 a2 a3 a4 k r8 X8_135 v5 M → gG p l e (rmR 1 24) s m args below meth c Q D clC A (wC ad cI cS) 9 129 [(0, .ref (ad o)), (1, .ref (ad a1)), (2, iv a2), (3, iv a3), (4, iv a4), (5, iv v5)] [] M := by
    intro r8 X8_135 hr8 hX8_135 v5 M h
    unfold wB_X7_value_129 at h
    refine g_iinc C dX7_value_129 rfl (by decide) rfl ?_
    refine g_locals (lv' := [(0, .ref (ad o)), (1, .ref (ad a1)), (2, iv a2), (3, iv a3), (4, iv a4), (5, iv (v5 + 1))]) rfl ?_
    refine g_goto C 8 dX7_value_132 (by decide) ?_
    refine g_locals (lv' := [(0, .ref (ad o)), (1, .ref (ad a1)), (2, iv a2), (3, iv a3), (4, iv a4), (5, iv (v5 + 1))]) rfl ?_
    exact hr8 _  _ h
  have pB97 : ∀ (r8 : Int → gSt → Prop) (X8_135 : gSt → Prop) (hr8 : ∀ (v5 : Int) (M : gSt), r8 v5 M → gG p l e (rmR 1 24) s m args below meth c Q D clC A (wC ad cI cS) 9 8 [(0, .ref (ad o)), (1, .ref (ad a1)), (2, iv a2), (3, iv a3), (4, iv a4), (5, iv v5)] [] M) (hX8_135 : ∀  (M : gSt), X8_135  M → gG p l e (rmR 1 24) s m args below meth c Q D clC A (wC ad cI cS) 9 135 [(0, .ref (ad o))] [] M) (v5 : Int) (s0 : Int) (M : gSt), wB_X7_value_97 o a1 a2 a3 a4 k r8 X8_135 v5 s0 M → gG p l e (rmR 1 24) s m args below meth c Q D clC A (wC ad cI cS) 9 97 [(0, .ref (ad o)), (1, .ref (ad a1)), (2, iv a2), (3, iv a3), (4, iv a4), (5, iv v5)] [iv s0, .ref (ad o)] M := by
    intro r8 X8_135 hr8 hX8_135 v5 s0 M h
    unfold wB_X7_value_97 at h
    refine g_callVv C (nargs := 1) (o := o) (st := []) (m_X7_push h) (show isWorker o from h.1).1 (show isWorker o from h.1).2.1 rfl rfl gc_X7_29 (by decide +kernel) ⟨rfl, rfl⟩ dX7_value_97 ⟨by decide, by decide⟩ rfl rfl (Nat.le_of_ble_eq_true rfl) ?_
    intro M97 hN
    replace h := hN
    clear hN
    refine g_goto C 129 dX7_value_100 (by decide) ?_
    refine g_locals (lv' := [(0, .ref (ad o)), (1, .ref (ad a1)), (2, iv a2), (3, iv a3), (4, iv a4), (5, iv v5)]) rfl ?_
    exact pB129 r8 X8_135 hr8 hX8_135 _ _ h
  have pB71 : ∀ (r8 : Int → gSt → Prop) (X8_135 : gSt → Prop) (hr8 : ∀ (v5 : Int) (M : gSt), r8 v5 M → gG p l e (rmR 1 24) s m args below meth c Q D clC A (wC ad cI cS) 9 8 [(0, .ref (ad o)), (1, .ref (ad a1)), (2, iv a2), (3, iv a3), (4, iv a4), (5, iv v5)] [] M) (hX8_135 : ∀  (M : gSt), X8_135  M → gG p l e (rmR 1 24) s m args below meth c Q D clC A (wC ad cI cS) 9 135 [(0, .ref (ad o))] [] M) (v5 : Int) (s0 : Int) (M : gSt), wB_X7_value_71 o a1 a2 a3 a4 k r8 X8_135 v5 s0 M → gG p l e (rmR 1 24) s m args below meth c Q D clC A (wC ad cI cS) 9 71 [(0, .ref (ad o)), (1, .ref (ad a1)), (2, iv a2), (3, iv a3), (4, iv a4), (5, iv v5)] [iv s0, .ref (ad o)] M := by
    intro r8 X8_135 hr8 hX8_135 v5 s0 M h
    unfold wB_X7_value_71 at h
    refine g_callVv C (nargs := 1) (o := o) (st := []) (m_X7_push h) (show isWorker o from h.1).1 (show isWorker o from h.1).2.1 rfl rfl gc_X7_29 (by decide +kernel) ⟨rfl, rfl⟩ dX7_value_71 ⟨by decide, by decide⟩ rfl rfl (Nat.le_of_ble_eq_true rfl) ?_
    intro M71 hN
    replace h := hN
    clear hN
    refine g_goto C 129 dX7_value_74 (by decide) ?_
    refine g_locals (lv' := [(0, .ref (ad o)), (1, .ref (ad a1)), (2, iv a2), (3, iv a3), (4, iv a4), (5, iv v5)]) rfl ?_
    exact pB129 r8 X8_135 hr8 hX8_135 _ _ h
  have pC8 : ∀ (r8 : Int → gSt → Prop) (X8_135 : gSt → Prop) (hr8 : ∀ (v5 : Int) (M : gSt), r8 v5 M → gG p l e (rmR 1 24) s m args below meth c Q D clC A (wC ad cI cS) 9 8 [(0, .ref (ad o)), (1, .ref (ad a1)), (2, iv a2), (3, iv a3), (4, iv a4), (5, iv v5)] [] M) (hX8_135 : ∀  (M : gSt), X8_135  M → gG p l e (rmR 1 24) s m args below meth c Q D clC A (wC ad cI cS) 9 135 [(0, .ref (ad o))] [] M) (v5 : Int) (M : gSt), wC_X7_value_8 o a1 a2 a3 a4 k r8 X8_135 v5 M → gG p l e (rmR 1 24) s m args below meth c Q D clC A (wC ad cI cS) 9 8 [(0, .ref (ad o)), (1, .ref (ad a1)), (2, iv a2), (3, iv a3), (4, iv a4), (5, iv v5)] [] M := by
    intro r8 X8_135 hr8 hX8_135 v5 M h
    unfold wC_X7_value_8 at h
    refine g_iload C dX7_value_8 rfl ?_
    refine g_aload_n C dX7_value_10 rfl ?_
    refine g_callVi C (nargs := 0) (o := a1) (st := [iv v5]) (m_X4_size h) (show isRows a1 from h.1).1 (show isRows a1 from h.1).2.1 rfl rfl gc_X7_19 (by decide +kernel) ⟨rfl, rfl⟩ dX7_value_11 ⟨by decide, by decide⟩ rfl rfl (Nat.le_of_ble_eq_true rfl) ?_
    intro r11c M11 hN
    replace h := hN
    clear hN
    refine g_icmp_ge C 135 dX7_value_14 (by decide) (fun hc => ?_) (fun hc => ?_)
    · replace h := h.1 hc
      refine g_locals (lv' := [(0, .ref (ad o))]) rfl ?_
      exact hX8_135  _ h
    · replace h := h.2 hc
      refine g_aload_n C dX7_value_17 rfl ?_
      refine g_iload C dX7_value_18 rfl ?_
      refine g_iconst C dX7_value_20 ?_
      refine g_callVi C (nargs := 2) (o := a1) (st := []) (m_X4_at h) (show isRows a1 from h.1).1 (show isRows a1 from h.1).2.1 rfl rfl gc_X7_25 (by decide +kernel) ⟨rfl, rfl⟩ dX7_value_21 ⟨by decide, by decide⟩ rfl rfl (Nat.le_of_ble_eq_true rfl) ?_
      intro r21c M21 hN
      replace h := hN
      clear hN
      refine g_istore C dX7_value_24 (by decide) rfl ?_
      refine g_locals (lv' := [(0, .ref (ad o)), (1, .ref (ad a1)), (2, iv a2), (3, iv a3), (4, iv a4), (5, iv v5), (6, iv r21c)]) rfl ?_
      refine g_iload C dX7_value_26 rfl ?_
      refine g_if_lt C 40 dX7_value_28 (by decide) (fun hc => ?_) (fun hc => ?_)
      · replace h := h.1 hc
        refine g_iload C dX7_value_40 rfl ?_
        refine g_bipush C dX7_value_42 rfl ?_
        refine g_icmp_lt C 77 dX7_value_44 (by decide) (fun hc => ?_) (fun hc => ?_)
        · replace h := h.1 hc
          refine g_iload C dX7_value_77 rfl ?_
          refine g_bipush C dX7_value_79 rfl ?_
          refine g_icmp_ne C 103 dX7_value_81 (by decide) (fun hc => ?_) (fun hc => ?_)
          · replace h := h.1 hc
            refine g_aload_n C dX7_value_103 rfl ?_
            refine g_callVi C (nargs := 0) (o := o) (st := []) (m_X7_pop h) (show isWorker o from h.1).1 (show isWorker o from h.1).2.1 rfl rfl gc_X7_33 (by decide +kernel) ⟨rfl, rfl⟩ dX7_value_104 ⟨by decide, by decide⟩ rfl rfl (Nat.le_of_ble_eq_true rfl) ?_
            intro r104c M104 hN
            replace h := hN
            clear hN
            refine g_istore C dX7_value_107 (by decide) rfl ?_
            refine g_locals (lv' := [(0, .ref (ad o)), (1, .ref (ad a1)), (2, iv a2), (3, iv a3), (4, iv a4), (5, iv v5), (6, iv r21c), (7, iv r104c)]) rfl ?_
            refine g_aload_n C dX7_value_109 rfl ?_
            refine g_callVi C (nargs := 0) (o := o) (st := []) (m_X7_pop h) (show isWorker o from h.1).1 (show isWorker o from h.1).2.1 rfl rfl gc_X7_33 (by decide +kernel) ⟨rfl, rfl⟩ dX7_value_110 ⟨by decide, by decide⟩ rfl rfl (Nat.le_of_ble_eq_true rfl) ?_
            intro r110c M110 hN
            replace h := hN
            clear hN
            refine g_istore C dX7_value_113 (by decide) rfl ?_
            refine g_locals (lv' := [(0, .ref (ad o)), (1, .ref (ad a1)), (2, iv a2), (3, iv a3), (4, iv a4), (5, iv v5), (6, iv r21c), (7, iv r104c), (8, iv r110c)]) rfl ?_
            refine g_aload_n C dX7_value_115 rfl ?_
            refine g_iload C dX7_value_116 rfl ?_
            refine g_ineg C dX7_value_118 ?_
            refine g_iload C dX7_value_119 rfl ?_
            refine g_iload C dX7_value_121 rfl ?_
            refine g_callSi C (nargs := 3) (st := [.ref (ad o)]) (m_X7_joined h) gc_X7_36 (by decide +kernel) ⟨rfl, rfl⟩ dX7_value_123 ⟨by decide, by decide⟩ rfl rfl (Nat.le_of_ble_eq_true rfl) ?_
            intro r123c M123 hN
            replace h := hN
            clear hN
            refine g_callVv C (nargs := 1) (o := o) (st := []) (m_X7_push h) (show isWorker o from h.1).1 (show isWorker o from h.1).2.1 rfl rfl gc_X7_29 (by decide +kernel) ⟨rfl, rfl⟩ dX7_value_126 ⟨by decide, by decide⟩ rfl rfl (Nat.le_of_ble_eq_true rfl) ?_
            intro M126 hN
            replace h := hN
            clear hN
            refine g_locals (lv' := [(0, .ref (ad o)), (1, .ref (ad a1)), (2, iv a2), (3, iv a3), (4, iv a4), (5, iv v5)]) rfl ?_
            exact pB129 r8 X8_135 hr8 hX8_135 _ _ h
          · replace h := h.2 hc
            refine g_aload_n C dX7_value_84 rfl ?_
            refine g_aload_n C dX7_value_85 rfl ?_
            refine g_callVi C (nargs := 0) (o := o) (st := [.ref (ad o)]) (m_X7_pop h) (show isWorker o from h.1).1 (show isWorker o from h.1).2.1 rfl rfl gc_X7_33 (by decide +kernel) ⟨rfl, rfl⟩ dX7_value_86 ⟨by decide, by decide⟩ rfl rfl (Nat.le_of_ble_eq_true rfl) ?_
            intro r86c M86 hN
            replace h := hN
            clear hN
            refine g_if_ne C 96 dX7_value_89 (by decide) (fun hc => ?_) (fun hc => ?_)
            · replace h := h.1 hc
              refine g_iconst C dX7_value_96 ?_
              refine g_locals (lv' := [(0, .ref (ad o)), (1, .ref (ad a1)), (2, iv a2), (3, iv a3), (4, iv a4), (5, iv v5)]) rfl ?_
              exact pB97 r8 X8_135 hr8 hX8_135 _ _ _ h
            · replace h := h.2 hc
              refine g_iconst C dX7_value_92 ?_
              refine g_goto C 97 dX7_value_93 (by decide) ?_
              refine g_locals (lv' := [(0, .ref (ad o)), (1, .ref (ad a1)), (2, iv a2), (3, iv a3), (4, iv a4), (5, iv v5)]) rfl ?_
              exact pB97 r8 X8_135 hr8 hX8_135 _ _ _ h
        · replace h := h.2 hc
          refine g_aload_n C dX7_value_47 rfl ?_
          refine g_iload C dX7_value_48 rfl ?_
          refine g_iconst C dX7_value_50 ?_
          refine g_icmp_ne C 58 dX7_value_51 (by decide) (fun hc => ?_) (fun hc => ?_)
          · replace h := h.1 hc
            refine g_iload C dX7_value_58 rfl ?_
            refine g_bipush C dX7_value_60 rfl ?_
            refine g_icmp_ne C 69 dX7_value_62 (by decide) (fun hc => ?_) (fun hc => ?_)
            · replace h := h.1 hc
              refine g_iload C dX7_value_69 rfl ?_
              refine g_locals (lv' := [(0, .ref (ad o)), (1, .ref (ad a1)), (2, iv a2), (3, iv a3), (4, iv a4), (5, iv v5)]) rfl ?_
              exact pB71 r8 X8_135 hr8 hX8_135 _ _ _ h
            · replace h := h.2 hc
              refine g_iload_n C dX7_value_65 rfl ?_
              refine g_goto C 71 dX7_value_66 (by decide) ?_
              refine g_locals (lv' := [(0, .ref (ad o)), (1, .ref (ad a1)), (2, iv a2), (3, iv a3), (4, iv a4), (5, iv v5)]) rfl ?_
              exact pB71 r8 X8_135 hr8 hX8_135 _ _ _ h
          · replace h := h.2 hc
            refine g_iload_n C dX7_value_54 rfl ?_
            refine g_goto C 71 dX7_value_55 (by decide) ?_
            refine g_locals (lv' := [(0, .ref (ad o)), (1, .ref (ad a1)), (2, iv a2), (3, iv a3), (4, iv a4), (5, iv v5)]) rfl ?_
            exact pB71 r8 X8_135 hr8 hX8_135 _ _ _ h
      · replace h := h.2 hc
        refine g_aload_n C dX7_value_31 rfl ?_
        refine g_iload C dX7_value_32 rfl ?_
        refine g_callVv C (nargs := 1) (o := o) (st := []) (m_X7_push h) (show isWorker o from h.1).1 (show isWorker o from h.1).2.1 rfl rfl gc_X7_29 (by decide +kernel) ⟨rfl, rfl⟩ dX7_value_34 ⟨by decide, by decide⟩ rfl rfl (Nat.le_of_ble_eq_true rfl) ?_
        intro M34 hN
        replace h := hN
        clear hN
        refine g_goto C 129 dX7_value_37 (by decide) ?_
        refine g_locals (lv' := [(0, .ref (ad o)), (1, .ref (ad a1)), (2, iv a2), (3, iv a3), (4, iv a4), (5, iv v5)]) rfl ?_
        exact pB129 r8 X8_135 hr8 hX8_135 _ _ h
  have pL8 : ∀  (X8_135 : gSt → Prop) (hX8_135 : ∀  (M : gSt), X8_135  M → gG p l e (rmR 1 24) s m args below meth c Q D clC A (wC ad cI cS) 9 135 [(0, .ref (ad o))] [] M) (n : Nat) (v5 : Int) (M : gSt), wL_X7_value_8 o a1 a2 a3 a4 k  X8_135 n v5 M → gG p l e (rmR 1 24) s m args below meth c Q D clC A (wC ad cI cS) 9 8 [(0, .ref (ad o)), (1, .ref (ad a1)), (2, iv a2), (3, iv a3), (4, iv a4), (5, iv v5)] [] M := by
    intro  X8_135 hX8_135 n
    induction n with
    | zero => intro v5 M h; exact h.elim
    | succ n ih =>
      intro v5 M h
      exact pC8  (wL_X7_value_8 o a1 a2 a3 a4 k  X8_135 n) X8_135 ih hX8_135 v5 M h
  refine g_locals (lv' := [(0, .ref (ad o)), (1, .ref (ad a1)), (2, iv a2), (3, iv a3), (4, iv a4)]) rfl ?_
  refine g_aload_n C dX7_value_0 rfl ?_
  refine g_iconst C dX7_value_1 ?_
  refine cp_X7_15 C h_o dX7_value_2 ?_
  refine g_memname (fun M2 hM2 => ?_)
  replace h := h M2 hM2
  refine g_iconst C dX7_value_5 ?_
  refine g_istore C dX7_value_6 (by decide) rfl ?_
  refine g_locals (lv' := [(0, .ref (ad o)), (1, .ref (ad a1)), (2, iv a2), (3, iv a3), (4, iv a4), (5, iv 0)]) rfl ?_
  refine g_locals (lv' := [(0, .ref (ad o)), (1, .ref (ad a1)), (2, iv a2), (3, iv a3), (4, iv a4), (5, iv 0)]) rfl ?_
  obtain ⟨n, h⟩ := h
  refine pL8 _ ?_ n _ _ h
  · intro  M8 hN
    replace h := hN
    clear hN
    refine g_aload_n C dX7_value_135 rfl ?_
    refine g_callVi C (nargs := 0) (o := o) (st := []) (m_X7_pop h) (show isWorker o from h.1).1 (show isWorker o from h.1).2.1 rfl rfl gc_X7_33 (by decide +kernel) ⟨rfl, rfl⟩ dX7_value_136 ⟨by decide, by decide⟩ rfl rfl (Nat.le_of_ble_eq_true rfl) ?_
    intro r136c M136 hN
    replace h := hN
    clear hN
    exact hR _ _ _ _ dX7_value_139 rfl h
def w_X1_held (a1 : Int) (a2 : Int) (M : gSt) (k : Int → gSt → Prop) : Prop :=
  k (xmax 0 (xmin a2 a1)) M
set_option maxHeartbeats 4000000 in
set_option maxRecDepth 100000 in
theorem m_X1_held {l : Launch} {D : va_G} {tys : List (ClassId × FieldType)} {ad : Nat → Nat} {cI cS : ClassId} {a1 : Int} {a2 : Int} {M : gSt} {k : Int → gSt → Prop} (h : w_X1_held a1 a2 M k) : MOi l yX1_held cX1_held 2 .int (rmR 1 40) D clC ((cI, .int) :: (cS, .object "OldBronze$Sheet") :: tys) (wC ad cI cS) tC zC [iv a1, iv a2] M k := by
  refine moi_intro (by decide +kernel) (Nat.le_of_ble_eq_true rfl) wc_154 ?_
  intro p e s m args below meth c A Q C hR
  unfold w_X1_held at h
  refine g_locals (lv' := [(0, iv a1), (1, iv a2)]) rfl ?_
  refine g_iconst C dX1_held_0 ?_
  refine g_iload_n C dX1_held_1 rfl ?_
  refine g_iload_n C dX1_held_2 rfl ?_
  refine g_mmin C (st := [iv 0]) dX1_held_3 wc_155 wc_61 wc_62 wc_63 (by decide) (Nat.le_of_ble_eq_true rfl) ?_
  refine g_mmax C (st := []) dX1_held_6 wc_156 wc_91 wc_62 wc_92 (by decide) (Nat.le_of_ble_eq_true rfl) ?_
  exact hR _ _ _ _ dX1_held_9 rfl h
def w_X1_ring (o : Nat) (a1 : Int) (a2 : Int) (a3 : Int) (M : gSt) (k : Int → gSt → Prop) : Prop :=
  (isForge o) ∧ (w_X4_size (o + 13) M (fun r4c M4 => 
  (¬ wrap r4c = 0 →
    w_X7_value (o + 17) (o + 13) a1 a2 a3 M4 (fun r29c M29 => w_X1_held r29c 9999 M29 (fun r35c M35 => k r35c M35))) ∧
  (wrap r4c = 0 →
    k ((1000 - a2) + a3) M4)))
set_option maxHeartbeats 4000000 in
set_option maxRecDepth 100000 in
theorem m_X1_ring {l : Launch} {D : va_G} {tys : List (ClassId × FieldType)} {ad : Nat → Nat} {cI cS : ClassId} {o : Nat} {a1 : Int} {a2 : Int} {a3 : Int} {M : gSt} {k : Int → gSt → Prop} (h : w_X1_ring o a1 a2 a3 M k) : MOi l yX1_ring cX1_ring 4 .int (rmR 2 61) D clC ((cI, .int) :: (cS, .object "OldBronze$Sheet") :: tys) (wC ad cI cS) tC zC [.ref (ad o), iv a1, iv a2, iv a3] M k := by
  refine moi_intro (by decide +kernel) (Nat.le_of_ble_eq_true rfl) wc_164 ?_
  intro p e s m args below meth c A Q C hR
  unfold w_X1_ring at h
  obtain ⟨h_o, h⟩ := h
  refine g_locals (lv' := [(0, .ref (ad o)), (1, iv a1), (2, iv a2), (3, iv a3)]) rfl ?_
  refine g_aload_n C dX1_ring_0 rfl ?_
  refine cf_X1_39 C h_o dX1_ring_1 ?_
  refine g_callVi C (nargs := 0) (o := (o + 13)) (st := []) (m_X4_size h) (show isRows (o + 13) from h.1).1 (show isRows (o + 13) from h.1).2.1 rfl rfl gc_X1_77 (by decide +kernel) ⟨rfl, rfl⟩ dX1_ring_4 ⟨by decide, by decide⟩ rfl rfl (Nat.le_of_ble_eq_true rfl) ?_
  intro r4c M4 hN
  replace h := hN
  clear hN
  refine g_if_ne C 18 dX1_ring_7 (by decide) (fun hc => ?_) (fun hc => ?_)
  · replace h := h.1 hc
    refine g_aload_n C dX1_ring_18 rfl ?_
    refine cf_X1_48 C h_o dX1_ring_19 ?_
    refine g_aload_n C dX1_ring_22 rfl ?_
    refine cf_X1_39 C h_o dX1_ring_23 ?_
    refine g_iload_n C dX1_ring_26 rfl ?_
    refine g_iload_n C dX1_ring_27 rfl ?_
    refine g_iload_n C dX1_ring_28 rfl ?_
    refine g_callVi C (nargs := 4) (o := (o + 17)) (st := []) (m_X7_value h) (show isWorker (o + 17) from h.1).1 (show isWorker (o + 17) from h.1).2.1 rfl rfl gc_X1_81 (by decide +kernel) ⟨rfl, rfl⟩ dX1_ring_29 ⟨by decide, by decide⟩ rfl rfl (Nat.le_of_ble_eq_true rfl) ?_
    intro r29c M29 hN
    replace h := hN
    clear hN
    refine g_sipush C dX1_ring_32 rfl ?_
    refine g_callSi C (nargs := 2) (st := []) (m_X1_held h) gc_X1_85 (by decide +kernel) ⟨rfl, rfl⟩ dX1_ring_35 ⟨by decide, by decide⟩ rfl rfl (Nat.le_of_ble_eq_true rfl) ?_
    intro r35c M35 hN
    replace h := hN
    clear hN
    exact hR _ _ _ _ dX1_ring_38 rfl h
  · replace h := h.2 hc
    refine g_sipush C dX1_ring_10 rfl ?_
    refine g_iload_n C dX1_ring_13 rfl ?_
    refine g_isub C dX1_ring_14 ?_
    refine g_iload_n C dX1_ring_15 rfl ?_
    refine g_iadd C dX1_ring_16 ?_
    exact hR _ _ _ _ dX1_ring_17 rfl h
def w_X1_tone (o : Nat) (a1 : Nat) (a2 : Int) (M : gSt) (k : Int → gSt → Prop) : Prop :=
  (isForge o) ∧ ((isBronze a1) ∧ (w_X0_number a1 a2 2 M (fun r3c M3 => w_X0_number a1 a2 1 M3 (fun r10c M10 => w_X0_number a1 a2 3 M10 (fun r21c M21 => w_X8_quotient (1000 * (wrap r21c)) (wrap r3c) M21 (fun r28c M28 => ∀ x6_39 : Int, x6_39 = 1000 - r28c → (w_X0_number a1 a2 0 M28 (fun r44c M44 => 
  (wrap r44c = 1 →
    w_X1_ring o r3c r28c r10c M44 (fun r90c M90 => k r90c M90)) ∧
  (wrap r44c = 2 →
    k ((Int.tdiv (wrap x6_39) 2) + r10c) M44) ∧
  (wrap r44c = 3 →
    k (x6_39 - (2 * r10c)) M44) ∧
  (wrap r44c = 4 →
    w_X1_ring o r3c r28c r10c M44 (fun r116c M116 => k (r116c + (2 * r10c)) M116)) ∧
  (wrap r44c = 5 →
    k (((Int.tdiv (wrap x6_39) 2) + r10c) + (Int.tdiv (wrap r3c) 1000)) M44) ∧
  (wrap r44c = 6 →
    k (0 - (x6_39 - (2 * r10c))) M44) ∧
  (¬ wrap r44c = 1 ∧ ¬ wrap r44c = 2 ∧ ¬ wrap r44c = 3 ∧ ¬ wrap r44c = 4 ∧ ¬ wrap r44c = 5 ∧ ¬ wrap r44c = 6 →
    k x6_39 M44)))))))))
set_option maxHeartbeats 4000000 in
set_option maxRecDepth 100000 in
theorem m_X1_tone {l : Launch} {D : va_G} {tys : List (ClassId × FieldType)} {ad : Nat → Nat} {cI cS : ClassId} {o : Nat} {a1 : Nat} {a2 : Int} {M : gSt} {k : Int → gSt → Prop} (h : w_X1_tone o a1 a2 M k) : MOi l yX1_tone cX1_tone 7 .int (rmR 3 84) D clC ((cI, .int) :: (cS, .object "OldBronze$Sheet") :: tys) (wC ad cI cS) tC zC [.ref (ad o), .ref (ad a1), iv a2] M k := by
  refine moi_intro (by decide +kernel) (Nat.le_of_ble_eq_true rfl) wc_170 ?_
  intro p e s m args below meth c A Q C hR
  unfold w_X1_tone at h
  obtain ⟨h_o, h_a1, h⟩ := h
  refine g_locals (lv' := [(0, .ref (ad o)), (1, .ref (ad a1)), (2, iv a2)]) rfl ?_
  refine g_aload_n C dX1_tone_0 rfl ?_
  refine g_iload_n C dX1_tone_1 rfl ?_
  refine g_iconst C dX1_tone_2 ?_
  refine g_callVi C (nargs := 2) (o := a1) (st := []) (m_X0_number h) (show isBronze a1 from h.1).1 (show isBronze a1 from h.1).2.1 rfl rfl gc_X1_63 (by decide +kernel) ⟨rfl, rfl⟩ dX1_tone_3 ⟨by decide, by decide⟩ rfl rfl (Nat.le_of_ble_eq_true rfl) ?_
  intro r3c M3 hN
  replace h := hN
  clear hN
  refine g_istore_n C dX1_tone_6 (by decide) rfl ?_
  refine g_locals (lv' := [(0, .ref (ad o)), (1, .ref (ad a1)), (2, iv a2), (3, iv r3c)]) rfl ?_
  refine g_aload_n C dX1_tone_7 rfl ?_
  refine g_iload_n C dX1_tone_8 rfl ?_
  refine g_iconst C dX1_tone_9 ?_
  refine g_callVi C (nargs := 2) (o := a1) (st := []) (m_X0_number h) (show isBronze a1 from h.1).1 (show isBronze a1 from h.1).2.1 rfl rfl gc_X1_63 (by decide +kernel) ⟨rfl, rfl⟩ dX1_tone_10 ⟨by decide, by decide⟩ rfl rfl (Nat.le_of_ble_eq_true rfl) ?_
  intro r10c M10 hN
  replace h := hN
  clear hN
  refine g_istore C dX1_tone_13 (by decide) rfl ?_
  refine g_locals (lv' := [(0, .ref (ad o)), (1, .ref (ad a1)), (2, iv a2), (3, iv r3c), (4, iv r10c)]) rfl ?_
  refine g_ldc2 C 1000 wc_165 rfl dX1_tone_15 ?_
  refine g_aload_n C dX1_tone_18 rfl ?_
  refine g_iload_n C dX1_tone_19 rfl ?_
  refine g_iconst C dX1_tone_20 ?_
  refine g_callVi C (nargs := 2) (o := a1) (st := [jv 1000]) (m_X0_number h) (show isBronze a1 from h.1).1 (show isBronze a1 from h.1).2.1 rfl rfl gc_X1_63 (by decide +kernel) ⟨rfl, rfl⟩ dX1_tone_21 ⟨by decide, by decide⟩ rfl rfl (Nat.le_of_ble_eq_true rfl) ?_
  intro r21c M21 hN
  replace h := hN
  clear hN
  refine g_i2l C dX1_tone_24 ?_
  refine g_lmul C dX1_tone_25 ?_
  refine g_iload_n C dX1_tone_26 rfl ?_
  refine g_i2l C dX1_tone_27 ?_
  refine g_callNSi C (nargs := 2) (st := []) (m_X8_quotient h) zn_4 (gc_code wc_52) wc_26 wc_54 (by decide +kernel) ⟨rfl, rfl⟩ dX1_tone_28 ⟨by decide, by decide⟩ rfl rfl (Nat.le_of_ble_eq_true rfl) ?_
  intro r28c M28 hN
  replace h := hN
  clear hN
  refine g_istore C dX1_tone_31 (by decide) rfl ?_
  refine g_locals (lv' := [(0, .ref (ad o)), (1, .ref (ad a1)), (2, iv a2), (3, iv r3c), (4, iv r10c), (5, iv r28c)]) rfl ?_
  refine g_sipush C dX1_tone_33 rfl ?_
  refine g_iload C dX1_tone_36 rfl ?_
  refine g_isub C dX1_tone_38 ?_
  refine g_name (fun x6_39 hx6_39 => ?_)
  replace h := h x6_39 hx6_39
  refine g_istore C dX1_tone_39 (by decide) rfl ?_
  refine g_locals (lv' := [(0, .ref (ad o)), (1, .ref (ad a1)), (2, iv a2), (3, iv r3c), (4, iv r10c), (5, iv r28c), (6, iv x6_39)]) rfl ?_
  refine g_aload_n C dX1_tone_41 rfl ?_
  refine g_iload_n C dX1_tone_42 rfl ?_
  refine g_iconst C dX1_tone_43 ?_
  refine g_callVi C (nargs := 2) (o := a1) (st := []) (m_X0_number h) (show isBronze a1 from h.1).1 (show isBronze a1 from h.1).2.1 rfl rfl gc_X1_63 (by decide +kernel) ⟨rfl, rfl⟩ dX1_tone_44 ⟨by decide, by decide⟩ rfl rfl (Nat.le_of_ble_eq_true rfl) ?_
  intro r44c M44 hN
  replace h := hN
  clear hN
  by_cases hc1 : wrap r44c = 1
  · refine g_tableIn C 84 dX1_tone_47 (by omega) (by omega) (by rw [hc1] <;> rfl) (by decide) ?_
    replace h := h.1 hc1
    refine g_aload_n C dX1_tone_84 rfl ?_
    refine g_iload_n C dX1_tone_85 rfl ?_
    refine g_iload C dX1_tone_86 rfl ?_
    refine g_iload C dX1_tone_88 rfl ?_
    refine g_callVi C (nargs := 3) (o := o) (st := []) (m_X1_ring h) (show isForge o from h.1).1 (show isForge o from h.1).2 rfl rfl gc_X1_73 (by decide +kernel) ⟨rfl, rfl⟩ dX1_tone_90 ⟨by decide, by decide⟩ rfl rfl (Nat.le_of_ble_eq_true rfl) ?_
    intro r90c M90 hN
    replace h := hN
    clear hN
    exact hR _ _ _ _ dX1_tone_93 rfl h
  · by_cases hc2 : wrap r44c = 2
    · refine g_tableIn C 94 dX1_tone_47 (by omega) (by omega) (by rw [hc2] <;> rfl) (by decide) ?_
      replace h := h.2.1 hc2
      refine g_iload C dX1_tone_94 rfl ?_
      refine g_iconst C dX1_tone_96 ?_
      refine g_idiv C dX1_tone_97 (by decide) ?_
      refine g_top (y := Int.tdiv (wrap x6_39) 2) rfl ?_
      refine g_iload C dX1_tone_98 rfl ?_
      refine g_iadd C dX1_tone_100 ?_
      exact hR _ _ _ _ dX1_tone_101 rfl h
    · by_cases hc3 : wrap r44c = 3
      · refine g_tableIn C 102 dX1_tone_47 (by omega) (by omega) (by rw [hc3] <;> rfl) (by decide) ?_
        replace h := h.2.2.1 hc3
        refine g_iload C dX1_tone_102 rfl ?_
        refine g_iconst C dX1_tone_104 ?_
        refine g_iload C dX1_tone_105 rfl ?_
        refine g_imul C dX1_tone_107 ?_
        refine g_isub C dX1_tone_108 ?_
        exact hR _ _ _ _ dX1_tone_109 rfl h
      · by_cases hc4 : wrap r44c = 4
        · refine g_tableIn C 110 dX1_tone_47 (by omega) (by omega) (by rw [hc4] <;> rfl) (by decide) ?_
          replace h := h.2.2.2.1 hc4
          refine g_aload_n C dX1_tone_110 rfl ?_
          refine g_iload_n C dX1_tone_111 rfl ?_
          refine g_iload C dX1_tone_112 rfl ?_
          refine g_iload C dX1_tone_114 rfl ?_
          refine g_callVi C (nargs := 3) (o := o) (st := []) (m_X1_ring h) (show isForge o from h.1).1 (show isForge o from h.1).2 rfl rfl gc_X1_73 (by decide +kernel) ⟨rfl, rfl⟩ dX1_tone_116 ⟨by decide, by decide⟩ rfl rfl (Nat.le_of_ble_eq_true rfl) ?_
          intro r116c M116 hN
          replace h := hN
          clear hN
          refine g_iconst C dX1_tone_119 ?_
          refine g_iload C dX1_tone_120 rfl ?_
          refine g_imul C dX1_tone_122 ?_
          refine g_iadd C dX1_tone_123 ?_
          exact hR _ _ _ _ dX1_tone_124 rfl h
        · by_cases hc5 : wrap r44c = 5
          · refine g_tableIn C 125 dX1_tone_47 (by omega) (by omega) (by rw [hc5] <;> rfl) (by decide) ?_
            replace h := h.2.2.2.2.1 hc5
            refine g_iload C dX1_tone_125 rfl ?_
            refine g_iconst C dX1_tone_127 ?_
            refine g_idiv C dX1_tone_128 (by decide) ?_
            refine g_top (y := Int.tdiv (wrap x6_39) 2) rfl ?_
            refine g_iload C dX1_tone_129 rfl ?_
            refine g_iadd C dX1_tone_131 ?_
            refine g_iload_n C dX1_tone_132 rfl ?_
            refine g_sipush C dX1_tone_133 rfl ?_
            refine g_idiv C dX1_tone_136 (by decide) ?_
            refine g_top (y := Int.tdiv (wrap r3c) 1000) rfl ?_
            refine g_iadd C dX1_tone_137 ?_
            exact hR _ _ _ _ dX1_tone_138 rfl h
          · by_cases hc6 : wrap r44c = 6
            · refine g_tableIn C 139 dX1_tone_47 (by omega) (by omega) (by rw [hc6] <;> rfl) (by decide) ?_
              replace h := h.2.2.2.2.2.1 hc6
              refine g_iconst C dX1_tone_139 ?_
              refine g_iload C dX1_tone_140 rfl ?_
              refine g_iconst C dX1_tone_142 ?_
              refine g_iload C dX1_tone_143 rfl ?_
              refine g_imul C dX1_tone_145 ?_
              refine g_isub C dX1_tone_146 ?_
              refine g_isub C dX1_tone_147 ?_
              exact hR _ _ _ _ dX1_tone_148 rfl h
            · refine g_tableOut C 149 dX1_tone_47 (by omega) (by decide) ?_
              replace h := h.2.2.2.2.2.2 ⟨hc1, hc2, hc3, hc4, hc5, hc6⟩
              refine g_iload C dX1_tone_149 rfl ?_
              exact hR _ _ _ _ dX1_tone_151 rfl h
def w_X1_numberOf (o : Nat) (a1 : Nat) (a2 : Int) (a3 : Int) (M : gSt) (k : Int → gSt → Prop) : Prop :=
  (isForge o) ∧ ((isBronze a1) ∧ (
  (¬ wrap a3 = 10 →
    w_X0_number a1 a2 a3 M (fun r18c M18 => k r18c M18)) ∧
  (wrap a3 = 10 →
    w_X1_tone o a1 a2 M (fun r9c M9 => k r9c M9))))
set_option maxHeartbeats 4000000 in
set_option maxRecDepth 100000 in
theorem m_X1_numberOf {l : Launch} {D : va_G} {tys : List (ClassId × FieldType)} {ad : Nat → Nat} {cI cS : ClassId} {o : Nat} {a1 : Nat} {a2 : Int} {a3 : Int} {M : gSt} {k : Int → gSt → Prop} (h : w_X1_numberOf o a1 a2 a3 M k) : MOi l yX1_numberOf cX1_numberOf 4 .int (rmR 4 110) D clC ((cI, .int) :: (cS, .object "OldBronze$Sheet") :: tys) (wC ad cI cS) tC zC [.ref (ad o), .ref (ad a1), iv a2, iv a3] M k := by
  refine moi_intro (by decide +kernel) (Nat.le_of_ble_eq_true rfl) wc_174 ?_
  intro p e s m args below meth c A Q C hR
  unfold w_X1_numberOf at h
  obtain ⟨h_o, h_a1, h⟩ := h
  refine g_locals (lv' := [(0, .ref (ad o)), (1, .ref (ad a1)), (2, iv a2), (3, iv a3)]) rfl ?_
  refine g_iload_n C dX1_numberOf_0 rfl ?_
  refine g_bipush C dX1_numberOf_1 rfl ?_
  refine g_icmp_ne C 15 dX1_numberOf_3 (by decide) (fun hc => ?_) (fun hc => ?_)
  · replace h := h.1 hc
    refine g_aload_n C dX1_numberOf_15 rfl ?_
    refine g_iload_n C dX1_numberOf_16 rfl ?_
    refine g_iload_n C dX1_numberOf_17 rfl ?_
    refine g_callVi C (nargs := 2) (o := a1) (st := []) (m_X0_number h) (show isBronze a1 from h.1).1 (show isBronze a1 from h.1).2.1 rfl rfl gc_X1_63 (by decide +kernel) ⟨rfl, rfl⟩ dX1_numberOf_18 ⟨by decide, by decide⟩ rfl rfl (Nat.le_of_ble_eq_true rfl) ?_
    intro r18c M18 hN
    replace h := hN
    clear hN
    exact hR _ _ _ _ dX1_numberOf_21 rfl h
  · replace h := h.2 hc
    refine g_aload_n C dX1_numberOf_6 rfl ?_
    refine g_aload_n C dX1_numberOf_7 rfl ?_
    refine g_iload_n C dX1_numberOf_8 rfl ?_
    refine g_callVi C (nargs := 2) (o := o) (st := []) (m_X1_tone h) (show isForge o from h.1).1 (show isForge o from h.1).2 rfl rfl gc_X1_59 (by decide +kernel) ⟨rfl, rfl⟩ dX1_numberOf_9 ⟨by decide, by decide⟩ rfl rfl (Nat.le_of_ble_eq_true rfl) ?_
    intro r9c M9 hN
    replace h := hN
    clear hN
    refine g_goto C 21 dX1_numberOf_12 (by decide) ?_
    exact hR _ _ _ _ dX1_numberOf_21 rfl h
end
section
def wB_X1_claimants_31 (o : Nat) (a1 : Int) (k : Int → gSt → Prop) (r4 : Int → Int → gSt → Prop) (X4_37 : Int → gSt → Prop) (v2 : Int) (v3 : Int) (M : gSt) : Prop :=
r4 v2 (v3 + 1) M
def wC_X1_claimants_4 (o : Nat) (a1 : Int) (k : Int → gSt → Prop) (r4 : Int → Int → gSt → Prop) (X4_37 : Int → gSt → Prop) (v2 : Int) (v3 : Int) (M : gSt) : Prop :=
w_X4_size (o + 5) M (fun r9c M9 => 
  (wrap r9c ≤ wrap v3 →
    X4_37 v2 M9) ∧
  (wrap v3 < wrap r9c →
    w_X4_at (o + 5) v3 0 M9 (fun r21c M21 => 
    (¬ wrap r21c = wrap a1 →
      wB_X1_claimants_31 o a1 k r4 X4_37 v2 v3 M21) ∧
    (wrap r21c = wrap a1 →
      wB_X1_claimants_31 o a1 k r4 X4_37 (v2 + 1) v3 M21))))
def wL_X1_claimants_4 (o : Nat) (a1 : Int) (k : Int → gSt → Prop)  (X4_37 : Int → gSt → Prop) : Nat → Int → Int → gSt → Prop
  | 0 => fun _ _ _ => False
  | n + 1 => fun v2 v3 M => wC_X1_claimants_4 o a1 k  (wL_X1_claimants_4 o a1 k  X4_37 n) X4_37 v2 v3 M
def w_X1_claimants (o : Nat) (a1 : Int) (M : gSt) (k : Int → gSt → Prop) : Prop :=
  (isForge o) ∧ (∃ n, wL_X1_claimants_4 o a1 k  (fun u2_4 M4 =>
    k u2_4 M4) n 0 0 M)
set_option maxHeartbeats 4000000 in
set_option maxRecDepth 100000 in
theorem m_X1_claimants {l : Launch} {D : va_G} {tys : List (ClassId × FieldType)} {ad : Nat → Nat} {cI cS : ClassId} {o : Nat} {a1 : Int} {M : gSt} {k : Int → gSt → Prop} (h : w_X1_claimants o a1 M k) : MOi l yX1_claimants cX1_claimants 4 .int (rmR 1 24) D clC ((cI, .int) :: (cS, .object "OldBronze$Sheet") :: tys) (wC ad cI cS) tC zC [.ref (ad o), iv a1] M k := by
  refine moi_intro (by decide +kernel) (Nat.le_of_ble_eq_true rfl) wc_175 ?_
  intro p e s m args below meth c A Q C hR
  unfold w_X1_claimants at h
  obtain ⟨h_o, h⟩ := h
  have pB31 : ∀ (r4 : Int → Int → gSt → Prop) (X4_37 : Int → gSt → Prop) (hr4 : ∀ (v2 : Int) (v3 : Int) (M : gSt), r4 v2 v3 M → gG p l e (rmR 1 24) s m args below meth c Q D clC A (wC ad cI cS) 4 4 [(0, .ref (ad o)), (1, iv a1), (2, iv v2), (3, iv v3)] [] M) (hX4_37 : ∀ (v2 : Int) (M : gSt), X4_37 v2 M → gG p l e (rmR 1 24) s m args below meth c Q D clC A (wC ad cI cS) 4 37 [(2, iv v2)] [] M) (v2 : Int) (v3 : Int) (M : gSt), wB_X1_claimants_31 o a1 k r4 X4_37 v2 v3 M → gG p l e (rmR 1 24) s m args below meth c Q D clC A (wC ad cI cS) 4 31 [(0, .ref (ad o)), (1, iv a1), (2, iv v2), (3, iv v3)] [] M := by
    intro r4 X4_37 hr4 hX4_37 v2 v3 M h
    unfold wB_X1_claimants_31 at h
    refine g_iinc C dX1_claimants_31 rfl (by decide) rfl ?_
    refine g_locals (lv' := [(0, .ref (ad o)), (1, iv a1), (2, iv v2), (3, iv (v3 + 1))]) rfl ?_
    refine g_goto C 4 dX1_claimants_34 (by decide) ?_
    refine g_locals (lv' := [(0, .ref (ad o)), (1, iv a1), (2, iv v2), (3, iv (v3 + 1))]) rfl ?_
    exact hr4 _ _  _ h
  have pC4 : ∀ (r4 : Int → Int → gSt → Prop) (X4_37 : Int → gSt → Prop) (hr4 : ∀ (v2 : Int) (v3 : Int) (M : gSt), r4 v2 v3 M → gG p l e (rmR 1 24) s m args below meth c Q D clC A (wC ad cI cS) 4 4 [(0, .ref (ad o)), (1, iv a1), (2, iv v2), (3, iv v3)] [] M) (hX4_37 : ∀ (v2 : Int) (M : gSt), X4_37 v2 M → gG p l e (rmR 1 24) s m args below meth c Q D clC A (wC ad cI cS) 4 37 [(2, iv v2)] [] M) (v2 : Int) (v3 : Int) (M : gSt), wC_X1_claimants_4 o a1 k r4 X4_37 v2 v3 M → gG p l e (rmR 1 24) s m args below meth c Q D clC A (wC ad cI cS) 4 4 [(0, .ref (ad o)), (1, iv a1), (2, iv v2), (3, iv v3)] [] M := by
    intro r4 X4_37 hr4 hX4_37 v2 v3 M h
    unfold wC_X1_claimants_4 at h
    refine g_iload_n C dX1_claimants_4 rfl ?_
    refine g_aload_n C dX1_claimants_5 rfl ?_
    refine cf_X1_27 C h_o dX1_claimants_6 ?_
    refine g_callVi C (nargs := 0) (o := (o + 5)) (st := [iv v3]) (m_X4_size h) (show isRows (o + 5) from h.1).1 (show isRows (o + 5) from h.1).2.1 rfl rfl gc_X1_77 (by decide +kernel) ⟨rfl, rfl⟩ dX1_claimants_9 ⟨by decide, by decide⟩ rfl rfl (Nat.le_of_ble_eq_true rfl) ?_
    intro r9c M9 hN
    replace h := hN
    clear hN
    refine g_icmp_ge C 37 dX1_claimants_12 (by decide) (fun hc => ?_) (fun hc => ?_)
    · replace h := h.1 hc
      refine g_locals (lv' := [(2, iv v2)]) rfl ?_
      exact hX4_37 _  _ h
    · replace h := h.2 hc
      refine g_aload_n C dX1_claimants_15 rfl ?_
      refine cf_X1_27 C h_o dX1_claimants_16 ?_
      refine g_iload_n C dX1_claimants_19 rfl ?_
      refine g_iconst C dX1_claimants_20 ?_
      refine g_callVi C (nargs := 2) (o := (o + 5)) (st := []) (m_X4_at h) (show isRows (o + 5) from h.1).1 (show isRows (o + 5) from h.1).2.1 rfl rfl gc_X1_96 (by decide +kernel) ⟨rfl, rfl⟩ dX1_claimants_21 ⟨by decide, by decide⟩ rfl rfl (Nat.le_of_ble_eq_true rfl) ?_
      intro r21c M21 hN
      replace h := hN
      clear hN
      refine g_iload_n C dX1_claimants_24 rfl ?_
      refine g_icmp_ne C 31 dX1_claimants_25 (by decide) (fun hc => ?_) (fun hc => ?_)
      · replace h := h.1 hc
        refine g_locals (lv' := [(0, .ref (ad o)), (1, iv a1), (2, iv v2), (3, iv v3)]) rfl ?_
        exact pB31 r4 X4_37 hr4 hX4_37 _ _ _ h
      · replace h := h.2 hc
        refine g_iinc C dX1_claimants_28 rfl (by decide) rfl ?_
        refine g_locals (lv' := [(0, .ref (ad o)), (1, iv a1), (2, iv (v2 + 1)), (3, iv v3)]) rfl ?_
        refine g_locals (lv' := [(0, .ref (ad o)), (1, iv a1), (2, iv (v2 + 1)), (3, iv v3)]) rfl ?_
        exact pB31 r4 X4_37 hr4 hX4_37 _ _ _ h
  have pL4 : ∀  (X4_37 : Int → gSt → Prop) (hX4_37 : ∀ (v2 : Int) (M : gSt), X4_37 v2 M → gG p l e (rmR 1 24) s m args below meth c Q D clC A (wC ad cI cS) 4 37 [(2, iv v2)] [] M) (n : Nat) (v2 : Int) (v3 : Int) (M : gSt), wL_X1_claimants_4 o a1 k  X4_37 n v2 v3 M → gG p l e (rmR 1 24) s m args below meth c Q D clC A (wC ad cI cS) 4 4 [(0, .ref (ad o)), (1, iv a1), (2, iv v2), (3, iv v3)] [] M := by
    intro  X4_37 hX4_37 n
    induction n with
    | zero => intro v2 v3 M h; exact h.elim
    | succ n ih =>
      intro v2 v3 M h
      exact pC4  (wL_X1_claimants_4 o a1 k  X4_37 n) X4_37 ih hX4_37 v2 v3 M h
  refine g_locals (lv' := [(0, .ref (ad o)), (1, iv a1)]) rfl ?_
  refine g_iconst C dX1_claimants_0 ?_
  refine g_istore_n C dX1_claimants_1 (by decide) rfl ?_
  refine g_locals (lv' := [(0, .ref (ad o)), (1, iv a1), (2, iv 0)]) rfl ?_
  refine g_iconst C dX1_claimants_2 ?_
  refine g_istore_n C dX1_claimants_3 (by decide) rfl ?_
  refine g_locals (lv' := [(0, .ref (ad o)), (1, iv a1), (2, iv 0), (3, iv 0)]) rfl ?_
  refine g_locals (lv' := [(0, .ref (ad o)), (1, iv a1), (2, iv 0), (3, iv 0)]) rfl ?_
  obtain ⟨n, h⟩ := h
  refine pL4 _ ?_ n _ _ _ h
  · intro u2_4 M4 hN
    replace h := hN
    clear hN
    refine g_iload_n C dX1_claimants_37 rfl ?_
    exact hR _ _ _ _ dX1_claimants_38 rfl h
def w_X1_counted (o : Nat) (a1 : Int) (M : gSt) (k : Int → gSt → Prop) : Prop :=
  (isForge o) ∧ (w_X4_at (o + 5) a1 1 M (fun r6c M6 => w_X4_size (o + 15) M6 (fun r14c M14 => 
  (¬ wrap r14c = 0 →
    w_X4_at (o + 5) a1 0 M14 (fun r28c M28 => w_X0_number (o + 1) r28c 2 M28 (fun r38c M38 => w_X1_claimants o r28c M38 (fun r56c M56 => w_X7_value (o + 17) (o + 15) r6c r38c r56c M56 (fun r59c M59 => w_X1_held r59c r6c M59 (fun r63c M63 => k r63c M63)))))) ∧
  (wrap r14c = 0 →
    k r6c M14))))
set_option maxHeartbeats 4000000 in
set_option maxRecDepth 100000 in
theorem m_X1_counted {l : Launch} {D : va_G} {tys : List (ClassId × FieldType)} {ad : Nat → Nat} {cI cS : ClassId} {o : Nat} {a1 : Int} {M : gSt} {k : Int → gSt → Prop} (h : w_X1_counted o a1 M k) : MOi l yX1_counted cX1_counted 5 .int (rmR 2 61) D clC ((cI, .int) :: (cS, .object "OldBronze$Sheet") :: tys) (wC ad cI cS) tC zC [.ref (ad o), iv a1] M k := by
  refine moi_intro (by decide +kernel) (Nat.le_of_ble_eq_true rfl) wc_180 ?_
  intro p e s m args below meth c A Q C hR
  unfold w_X1_counted at h
  obtain ⟨h_o, h⟩ := h
  refine g_locals (lv' := [(0, .ref (ad o)), (1, iv a1)]) rfl ?_
  refine g_aload_n C dX1_counted_0 rfl ?_
  refine cf_X1_27 C h_o dX1_counted_1 ?_
  refine g_iload_n C dX1_counted_4 rfl ?_
  refine g_iconst C dX1_counted_5 ?_
  refine g_callVi C (nargs := 2) (o := (o + 5)) (st := []) (m_X4_at h) (show isRows (o + 5) from h.1).1 (show isRows (o + 5) from h.1).2.1 rfl rfl gc_X1_96 (by decide +kernel) ⟨rfl, rfl⟩ dX1_counted_6 ⟨by decide, by decide⟩ rfl rfl (Nat.le_of_ble_eq_true rfl) ?_
  intro r6c M6 hN
  replace h := hN
  clear hN
  refine g_istore_n C dX1_counted_9 (by decide) rfl ?_
  refine g_locals (lv' := [(0, .ref (ad o)), (1, iv a1), (2, iv r6c)]) rfl ?_
  refine g_aload_n C dX1_counted_10 rfl ?_
  refine cf_X1_42 C h_o dX1_counted_11 ?_
  refine g_callVi C (nargs := 0) (o := (o + 15)) (st := []) (m_X4_size h) (show isRows (o + 15) from h.1).1 (show isRows (o + 15) from h.1).2.1 rfl rfl gc_X1_77 (by decide +kernel) ⟨rfl, rfl⟩ dX1_counted_14 ⟨by decide, by decide⟩ rfl rfl (Nat.le_of_ble_eq_true rfl) ?_
  intro r14c M14 hN
  replace h := hN
  clear hN
  refine g_if_ne C 22 dX1_counted_17 (by decide) (fun hc => ?_) (fun hc => ?_)
  · replace h := h.1 hc
    refine g_aload_n C dX1_counted_22 rfl ?_
    refine cf_X1_27 C h_o dX1_counted_23 ?_
    refine g_iload_n C dX1_counted_26 rfl ?_
    refine g_iconst C dX1_counted_27 ?_
    refine g_callVi C (nargs := 2) (o := (o + 5)) (st := []) (m_X4_at h) (show isRows (o + 5) from h.1).1 (show isRows (o + 5) from h.1).2.1 rfl rfl gc_X1_96 (by decide +kernel) ⟨rfl, rfl⟩ dX1_counted_28 ⟨by decide, by decide⟩ rfl rfl (Nat.le_of_ble_eq_true rfl) ?_
    intro r28c M28 hN
    replace h := hN
    clear hN
    refine g_istore_n C dX1_counted_31 (by decide) rfl ?_
    refine g_locals (lv' := [(0, .ref (ad o)), (1, iv a1), (2, iv r6c), (3, iv r28c)]) rfl ?_
    refine g_aload_n C dX1_counted_32 rfl ?_
    refine cf_X1_12 C h_o dX1_counted_33 ?_
    refine g_iload_n C dX1_counted_36 rfl ?_
    refine g_iconst C dX1_counted_37 ?_
    refine g_callVi C (nargs := 2) (o := (o + 1)) (st := []) (m_X0_number h) (show isBronze (o + 1) from h.1).1 (show isBronze (o + 1) from h.1).2.1 rfl rfl gc_X1_63 (by decide +kernel) ⟨rfl, rfl⟩ dX1_counted_38 ⟨by decide, by decide⟩ rfl rfl (Nat.le_of_ble_eq_true rfl) ?_
    intro r38c M38 hN
    replace h := hN
    clear hN
    refine g_istore C dX1_counted_41 (by decide) rfl ?_
    refine g_locals (lv' := [(0, .ref (ad o)), (1, iv a1), (2, iv r6c), (3, iv r28c), (4, iv r38c)]) rfl ?_
    refine g_aload_n C dX1_counted_43 rfl ?_
    refine cf_X1_48 C h_o dX1_counted_44 ?_
    refine g_aload_n C dX1_counted_47 rfl ?_
    refine cf_X1_42 C h_o dX1_counted_48 ?_
    refine g_iload_n C dX1_counted_51 rfl ?_
    refine g_iload C dX1_counted_52 rfl ?_
    refine g_aload_n C dX1_counted_54 rfl ?_
    refine g_iload_n C dX1_counted_55 rfl ?_
    refine g_callVi C (nargs := 1) (o := o) (st := [iv r38c, iv r6c, .ref (ad (o + 15)), .ref (ad (o + 17))]) (m_X1_claimants h) (show isForge o from h.1).1 (show isForge o from h.1).2 rfl rfl gc_X1_99 (by decide +kernel) ⟨rfl, rfl⟩ dX1_counted_56 ⟨by decide, by decide⟩ rfl rfl (Nat.le_of_ble_eq_true rfl) ?_
    intro r56c M56 hN
    replace h := hN
    clear hN
    refine g_callVi C (nargs := 4) (o := (o + 17)) (st := []) (m_X7_value h) (show isWorker (o + 17) from h.1).1 (show isWorker (o + 17) from h.1).2.1 rfl rfl gc_X1_81 (by decide +kernel) ⟨rfl, rfl⟩ dX1_counted_59 ⟨by decide, by decide⟩ rfl rfl (Nat.le_of_ble_eq_true rfl) ?_
    intro r59c M59 hN
    replace h := hN
    clear hN
    refine g_iload_n C dX1_counted_62 rfl ?_
    refine g_callSi C (nargs := 2) (st := []) (m_X1_held h) gc_X1_85 (by decide +kernel) ⟨rfl, rfl⟩ dX1_counted_63 ⟨by decide, by decide⟩ rfl rfl (Nat.le_of_ble_eq_true rfl) ?_
    intro r63c M63 hN
    replace h := hN
    clear hN
    exact hR _ _ _ _ dX1_counted_66 rfl h
  · replace h := h.2 hc
    refine g_iload_n C dX1_counted_20 rfl ?_
    exact hR _ _ _ _ dX1_counted_21 rfl h
def wB_X1_countedBelow_46 (o : Nat) (a1 : Int) (a2 : Int) (k : Int → gSt → Prop) (r5 : Int → Int → gSt → Prop) (X5_52 : Int → gSt → Prop) (v3 : Int) (v4 : Int) (M : gSt) : Prop :=
r5 v3 (v4 + 1) M
def wC_X1_countedBelow_5 (o : Nat) (a1 : Int) (a2 : Int) (k : Int → gSt → Prop) (r5 : Int → Int → gSt → Prop) (X5_52 : Int → gSt → Prop) (v3 : Int) (v4 : Int) (M : gSt) : Prop :=

  (wrap a2 ≤ wrap v4 →
    X5_52 v3 M) ∧
  (wrap v4 < wrap a2 →
    w_X4_size (o + 5) M (fun r17c M17 => 
    (wrap r17c ≤ wrap v4 →
      X5_52 v3 M17) ∧
    (wrap v4 < wrap r17c →
      w_X4_at (o + 5) v4 0 M17 (fun r30c M30 => 
      (¬ wrap r30c = wrap a1 →
        wB_X1_countedBelow_46 o a1 a2 k r5 X5_52 v3 v4 M30) ∧
      (wrap r30c = wrap a1 →
        w_X1_counted o v4 M30 (fun r41c M41 => ∀ x3_45 : Int, x3_45 = v3 + r41c → (wB_X1_countedBelow_46 o a1 a2 k r5 X5_52 x3_45 v4 M41)))))))
def wL_X1_countedBelow_5 (o : Nat) (a1 : Int) (a2 : Int) (k : Int → gSt → Prop)  (X5_52 : Int → gSt → Prop) : Nat → Int → Int → gSt → Prop
  | 0 => fun _ _ _ => False
  | n + 1 => fun v3 v4 M => wC_X1_countedBelow_5 o a1 a2 k  (wL_X1_countedBelow_5 o a1 a2 k  X5_52 n) X5_52 v3 v4 M
def w_X1_countedBelow (o : Nat) (a1 : Int) (a2 : Int) (M : gSt) (k : Int → gSt → Prop) : Prop :=
  (isForge o) ∧ (∃ n, wL_X1_countedBelow_5 o a1 a2 k  (fun u3_5 M5 =>
    k u3_5 M5) n 0 0 M)
set_option maxHeartbeats 4000000 in
set_option maxRecDepth 100000 in
theorem m_X1_countedBelow {l : Launch} {D : va_G} {tys : List (ClassId × FieldType)} {ad : Nat → Nat} {cI cS : ClassId} {o : Nat} {a1 : Int} {a2 : Int} {M : gSt} {k : Int → gSt → Prop} (h : w_X1_countedBelow o a1 a2 M k) : MOi l yX1_countedBelow cX1_countedBelow 5 .int (rmR 3 85) D clC ((cI, .int) :: (cS, .object "OldBronze$Sheet") :: tys) (wC ad cI cS) tC zC [.ref (ad o), iv a1, iv a2] M k := by
  refine moi_intro (by decide +kernel) (Nat.le_of_ble_eq_true rfl) wc_184 ?_
  intro p e s m args below meth c A Q C hR
  unfold w_X1_countedBelow at h
  obtain ⟨h_o, h⟩ := h
  have pB46 : ∀ (r5 : Int → Int → gSt → Prop) (X5_52 : Int → gSt → Prop) (hr5 : ∀ (v3 : Int) (v4 : Int) (M : gSt), r5 v3 v4 M → gG p l e (rmR 3 85) s m args below meth c Q D clC A (wC ad cI cS) 5 5 [(0, .ref (ad o)), (1, iv a1), (2, iv a2), (3, iv v3), (4, iv v4)] [] M) (hX5_52 : ∀ (v3 : Int) (M : gSt), X5_52 v3 M → gG p l e (rmR 3 85) s m args below meth c Q D clC A (wC ad cI cS) 5 52 [(3, iv v3)] [] M) (v3 : Int) (v4 : Int) (M : gSt), wB_X1_countedBelow_46 o a1 a2 k r5 X5_52 v3 v4 M → gG p l e (rmR 3 85) s m args below meth c Q D clC A (wC ad cI cS) 5 46 [(0, .ref (ad o)), (1, iv a1), (2, iv a2), (3, iv v3), (4, iv v4)] [] M := by
    intro r5 X5_52 hr5 hX5_52 v3 v4 M h
    unfold wB_X1_countedBelow_46 at h
    refine g_iinc C dX1_countedBelow_46 rfl (by decide) rfl ?_
    refine g_locals (lv' := [(0, .ref (ad o)), (1, iv a1), (2, iv a2), (3, iv v3), (4, iv (v4 + 1))]) rfl ?_
    refine g_goto C 5 dX1_countedBelow_49 (by decide) ?_
    refine g_locals (lv' := [(0, .ref (ad o)), (1, iv a1), (2, iv a2), (3, iv v3), (4, iv (v4 + 1))]) rfl ?_
    exact hr5 _ _  _ h
  have pC5 : ∀ (r5 : Int → Int → gSt → Prop) (X5_52 : Int → gSt → Prop) (hr5 : ∀ (v3 : Int) (v4 : Int) (M : gSt), r5 v3 v4 M → gG p l e (rmR 3 85) s m args below meth c Q D clC A (wC ad cI cS) 5 5 [(0, .ref (ad o)), (1, iv a1), (2, iv a2), (3, iv v3), (4, iv v4)] [] M) (hX5_52 : ∀ (v3 : Int) (M : gSt), X5_52 v3 M → gG p l e (rmR 3 85) s m args below meth c Q D clC A (wC ad cI cS) 5 52 [(3, iv v3)] [] M) (v3 : Int) (v4 : Int) (M : gSt), wC_X1_countedBelow_5 o a1 a2 k r5 X5_52 v3 v4 M → gG p l e (rmR 3 85) s m args below meth c Q D clC A (wC ad cI cS) 5 5 [(0, .ref (ad o)), (1, iv a1), (2, iv a2), (3, iv v3), (4, iv v4)] [] M := by
    intro r5 X5_52 hr5 hX5_52 v3 v4 M h
    unfold wC_X1_countedBelow_5 at h
    refine g_iload C dX1_countedBelow_5 rfl ?_
    refine g_iload_n C dX1_countedBelow_7 rfl ?_
    refine g_icmp_ge C 52 dX1_countedBelow_8 (by decide) (fun hc => ?_) (fun hc => ?_)
    · replace h := h.1 hc
      refine g_locals (lv' := [(3, iv v3)]) rfl ?_
      exact hX5_52 _  _ h
    · replace h := h.2 hc
      refine g_iload C dX1_countedBelow_11 rfl ?_
      refine g_aload_n C dX1_countedBelow_13 rfl ?_
      refine cf_X1_27 C h_o dX1_countedBelow_14 ?_
      refine g_callVi C (nargs := 0) (o := (o + 5)) (st := [iv v4]) (m_X4_size h) (show isRows (o + 5) from h.1).1 (show isRows (o + 5) from h.1).2.1 rfl rfl gc_X1_77 (by decide +kernel) ⟨rfl, rfl⟩ dX1_countedBelow_17 ⟨by decide, by decide⟩ rfl rfl (Nat.le_of_ble_eq_true rfl) ?_
      intro r17c M17 hN
      replace h := hN
      clear hN
      refine g_icmp_ge C 52 dX1_countedBelow_20 (by decide) (fun hc => ?_) (fun hc => ?_)
      · replace h := h.1 hc
        refine g_locals (lv' := [(3, iv v3)]) rfl ?_
        exact hX5_52 _  _ h
      · replace h := h.2 hc
        refine g_aload_n C dX1_countedBelow_23 rfl ?_
        refine cf_X1_27 C h_o dX1_countedBelow_24 ?_
        refine g_iload C dX1_countedBelow_27 rfl ?_
        refine g_iconst C dX1_countedBelow_29 ?_
        refine g_callVi C (nargs := 2) (o := (o + 5)) (st := []) (m_X4_at h) (show isRows (o + 5) from h.1).1 (show isRows (o + 5) from h.1).2.1 rfl rfl gc_X1_96 (by decide +kernel) ⟨rfl, rfl⟩ dX1_countedBelow_30 ⟨by decide, by decide⟩ rfl rfl (Nat.le_of_ble_eq_true rfl) ?_
        intro r30c M30 hN
        replace h := hN
        clear hN
        refine g_iload_n C dX1_countedBelow_33 rfl ?_
        refine g_icmp_ne C 46 dX1_countedBelow_34 (by decide) (fun hc => ?_) (fun hc => ?_)
        · replace h := h.1 hc
          refine g_locals (lv' := [(0, .ref (ad o)), (1, iv a1), (2, iv a2), (3, iv v3), (4, iv v4)]) rfl ?_
          exact pB46 r5 X5_52 hr5 hX5_52 _ _ _ h
        · replace h := h.2 hc
          refine g_iload_n C dX1_countedBelow_37 rfl ?_
          refine g_aload_n C dX1_countedBelow_38 rfl ?_
          refine g_iload C dX1_countedBelow_39 rfl ?_
          refine g_callVi C (nargs := 1) (o := o) (st := [iv v3]) (m_X1_counted h) (show isForge o from h.1).1 (show isForge o from h.1).2 rfl rfl gc_X1_103 (by decide +kernel) ⟨rfl, rfl⟩ dX1_countedBelow_41 ⟨by decide, by decide⟩ rfl rfl (Nat.le_of_ble_eq_true rfl) ?_
          intro r41c M41 hN
          replace h := hN
          clear hN
          refine g_iadd C dX1_countedBelow_44 ?_
          refine g_name (fun x3_45 hx3_45 => ?_)
          replace h := h x3_45 hx3_45
          refine g_istore_n C dX1_countedBelow_45 (by decide) rfl ?_
          refine g_locals (lv' := [(0, .ref (ad o)), (1, iv a1), (2, iv a2), (3, iv x3_45), (4, iv v4)]) rfl ?_
          refine g_locals (lv' := [(0, .ref (ad o)), (1, iv a1), (2, iv a2), (3, iv x3_45), (4, iv v4)]) rfl ?_
          exact pB46 r5 X5_52 hr5 hX5_52 _ _ _ h
  have pL5 : ∀  (X5_52 : Int → gSt → Prop) (hX5_52 : ∀ (v3 : Int) (M : gSt), X5_52 v3 M → gG p l e (rmR 3 85) s m args below meth c Q D clC A (wC ad cI cS) 5 52 [(3, iv v3)] [] M) (n : Nat) (v3 : Int) (v4 : Int) (M : gSt), wL_X1_countedBelow_5 o a1 a2 k  X5_52 n v3 v4 M → gG p l e (rmR 3 85) s m args below meth c Q D clC A (wC ad cI cS) 5 5 [(0, .ref (ad o)), (1, iv a1), (2, iv a2), (3, iv v3), (4, iv v4)] [] M := by
    intro  X5_52 hX5_52 n
    induction n with
    | zero => intro v3 v4 M h; exact h.elim
    | succ n ih =>
      intro v3 v4 M h
      exact pC5  (wL_X1_countedBelow_5 o a1 a2 k  X5_52 n) X5_52 ih hX5_52 v3 v4 M h
  refine g_locals (lv' := [(0, .ref (ad o)), (1, iv a1), (2, iv a2)]) rfl ?_
  refine g_iconst C dX1_countedBelow_0 ?_
  refine g_istore_n C dX1_countedBelow_1 (by decide) rfl ?_
  refine g_locals (lv' := [(0, .ref (ad o)), (1, iv a1), (2, iv a2), (3, iv 0)]) rfl ?_
  refine g_iconst C dX1_countedBelow_2 ?_
  refine g_istore C dX1_countedBelow_3 (by decide) rfl ?_
  refine g_locals (lv' := [(0, .ref (ad o)), (1, iv a1), (2, iv a2), (3, iv 0), (4, iv 0)]) rfl ?_
  refine g_locals (lv' := [(0, .ref (ad o)), (1, iv a1), (2, iv a2), (3, iv 0), (4, iv 0)]) rfl ?_
  obtain ⟨n, h⟩ := h
  refine pL5 _ ?_ n _ _ _ h
  · intro u3_5 M5 hN
    replace h := hN
    clear hN
    refine g_iload_n C dX1_countedBelow_52 rfl ?_
    exact hR _ _ _ _ dX1_countedBelow_53 rfl h
def w_X1_shareOf (o : Nat) (a1 : Int) (a2 : Int) (M : gSt) (k : Int → gSt → Prop) : Prop :=
  (isForge o) ∧ (w_X4_at (o + 5) a1 0 M (fun r6c M6 => w_X0_number (o + 1) r6c 2 M6 (fun r16c M16 => w_X1_counted o a1 M16 (fun r23c M23 => 
  (¬ wrap a2 = 0 →

    (¬ wrap a2 = 1 →
      w_X1_countedBelow o r6c a1 M23 (fun r100c M100 => w_X1_held (r16c - r100c) r23c M100 (fun r106c M106 => k r106c M106))) ∧
    (wrap a2 = 1 →
      w_X4_size (o + 5) M23 (fun r61c M61 => w_X1_countedBelow o r6c r61c M61 (fun r64c M64 => 
      (wrap r16c < wrap r64c →
        w_X8_quotient ((wrap r16c) * (wrap r23c)) (wrap r64c) M64 (fun r91c M91 => k r91c M91)) ∧
      (wrap r64c ≤ wrap r16c →
        k r23c M64))))) ∧
  (wrap a2 = 0 →
    w_X1_claimants o r6c M23 (fun r39c M39 => w_X8_quotient (wrap r16c) (wrap r39c) M39 (fun r43c M43 => k (xmin r23c r43c) M43)))))))
set_option maxHeartbeats 4000000 in
set_option maxRecDepth 100000 in
theorem m_X1_shareOf {l : Launch} {D : va_G} {tys : List (ClassId × FieldType)} {ad : Nat → Nat} {cI cS : ClassId} {o : Nat} {a1 : Int} {a2 : Int} {M : gSt} {k : Int → gSt → Prop} (h : w_X1_shareOf o a1 a2 M k) : MOi l yX1_shareOf cX1_shareOf 7 .int (rmR 4 109) D clC ((cI, .int) :: (cS, .object "OldBronze$Sheet") :: tys) (wC ad cI cS) tC zC [.ref (ad o), iv a1, iv a2] M k := by
  refine moi_intro (by decide +kernel) (Nat.le_of_ble_eq_true rfl) wc_188 ?_
  intro p e s m args below meth c A Q C hR
  unfold w_X1_shareOf at h
  obtain ⟨h_o, h⟩ := h
  refine g_locals (lv' := [(0, .ref (ad o)), (1, iv a1), (2, iv a2)]) rfl ?_
  refine g_aload_n C dX1_shareOf_0 rfl ?_
  refine cf_X1_27 C h_o dX1_shareOf_1 ?_
  refine g_iload_n C dX1_shareOf_4 rfl ?_
  refine g_iconst C dX1_shareOf_5 ?_
  refine g_callVi C (nargs := 2) (o := (o + 5)) (st := []) (m_X4_at h) (show isRows (o + 5) from h.1).1 (show isRows (o + 5) from h.1).2.1 rfl rfl gc_X1_96 (by decide +kernel) ⟨rfl, rfl⟩ dX1_shareOf_6 ⟨by decide, by decide⟩ rfl rfl (Nat.le_of_ble_eq_true rfl) ?_
  intro r6c M6 hN
  replace h := hN
  clear hN
  refine g_istore_n C dX1_shareOf_9 (by decide) rfl ?_
  refine g_locals (lv' := [(0, .ref (ad o)), (1, iv a1), (2, iv a2), (3, iv r6c)]) rfl ?_
  refine g_aload_n C dX1_shareOf_10 rfl ?_
  refine cf_X1_12 C h_o dX1_shareOf_11 ?_
  refine g_iload_n C dX1_shareOf_14 rfl ?_
  refine g_iconst C dX1_shareOf_15 ?_
  refine g_callVi C (nargs := 2) (o := (o + 1)) (st := []) (m_X0_number h) (show isBronze (o + 1) from h.1).1 (show isBronze (o + 1) from h.1).2.1 rfl rfl gc_X1_63 (by decide +kernel) ⟨rfl, rfl⟩ dX1_shareOf_16 ⟨by decide, by decide⟩ rfl rfl (Nat.le_of_ble_eq_true rfl) ?_
  intro r16c M16 hN
  replace h := hN
  clear hN
  refine g_istore C dX1_shareOf_19 (by decide) rfl ?_
  refine g_locals (lv' := [(0, .ref (ad o)), (1, iv a1), (2, iv a2), (3, iv r6c), (4, iv r16c)]) rfl ?_
  refine g_aload_n C dX1_shareOf_21 rfl ?_
  refine g_iload_n C dX1_shareOf_22 rfl ?_
  refine g_callVi C (nargs := 1) (o := o) (st := []) (m_X1_counted h) (show isForge o from h.1).1 (show isForge o from h.1).2 rfl rfl gc_X1_103 (by decide +kernel) ⟨rfl, rfl⟩ dX1_shareOf_23 ⟨by decide, by decide⟩ rfl rfl (Nat.le_of_ble_eq_true rfl) ?_
  intro r23c M23 hN
  replace h := hN
  clear hN
  refine g_istore C dX1_shareOf_26 (by decide) rfl ?_
  refine g_locals (lv' := [(0, .ref (ad o)), (1, iv a1), (2, iv a2), (3, iv r6c), (4, iv r16c), (5, iv r23c)]) rfl ?_
  refine g_iload_n C dX1_shareOf_28 rfl ?_
  refine g_if_ne C 50 dX1_shareOf_29 (by decide) (fun hc => ?_) (fun hc => ?_)
  · replace h := h.1 hc
    refine g_iload_n C dX1_shareOf_50 rfl ?_
    refine g_iconst C dX1_shareOf_51 ?_
    refine g_icmp_ne C 95 dX1_shareOf_52 (by decide) (fun hc => ?_) (fun hc => ?_)
    · replace h := h.1 hc
      refine g_iload C dX1_shareOf_95 rfl ?_
      refine g_aload_n C dX1_shareOf_97 rfl ?_
      refine g_iload_n C dX1_shareOf_98 rfl ?_
      refine g_iload_n C dX1_shareOf_99 rfl ?_
      refine g_callVi C (nargs := 2) (o := o) (st := [iv r16c]) (m_X1_countedBelow h) (show isForge o from h.1).1 (show isForge o from h.1).2 rfl rfl gc_X1_106 (by decide +kernel) ⟨rfl, rfl⟩ dX1_shareOf_100 ⟨by decide, by decide⟩ rfl rfl (Nat.le_of_ble_eq_true rfl) ?_
      intro r100c M100 hN
      replace h := hN
      clear hN
      refine g_isub C dX1_shareOf_103 ?_
      refine g_iload C dX1_shareOf_104 rfl ?_
      refine g_callSi C (nargs := 2) (st := []) (m_X1_held h) gc_X1_85 (by decide +kernel) ⟨rfl, rfl⟩ dX1_shareOf_106 ⟨by decide, by decide⟩ rfl rfl (Nat.le_of_ble_eq_true rfl) ?_
      intro r106c M106 hN
      replace h := hN
      clear hN
      exact hR _ _ _ _ dX1_shareOf_109 rfl h
    · replace h := h.2 hc
      refine g_aload_n C dX1_shareOf_55 rfl ?_
      refine g_iload_n C dX1_shareOf_56 rfl ?_
      refine g_aload_n C dX1_shareOf_57 rfl ?_
      refine cf_X1_27 C h_o dX1_shareOf_58 ?_
      refine g_callVi C (nargs := 0) (o := (o + 5)) (st := [iv r6c, .ref (ad o)]) (m_X4_size h) (show isRows (o + 5) from h.1).1 (show isRows (o + 5) from h.1).2.1 rfl rfl gc_X1_77 (by decide +kernel) ⟨rfl, rfl⟩ dX1_shareOf_61 ⟨by decide, by decide⟩ rfl rfl (Nat.le_of_ble_eq_true rfl) ?_
      intro r61c M61 hN
      replace h := hN
      clear hN
      refine g_callVi C (nargs := 2) (o := o) (st := []) (m_X1_countedBelow h) (show isForge o from h.1).1 (show isForge o from h.1).2 rfl rfl gc_X1_106 (by decide +kernel) ⟨rfl, rfl⟩ dX1_shareOf_64 ⟨by decide, by decide⟩ rfl rfl (Nat.le_of_ble_eq_true rfl) ?_
      intro r64c M64 hN
      replace h := hN
      clear hN
      refine g_istore C dX1_shareOf_67 (by decide) rfl ?_
      refine g_locals (lv' := [(0, .ref (ad o)), (1, iv a1), (2, iv a2), (3, iv r6c), (4, iv r16c), (5, iv r23c), (6, iv r64c)]) rfl ?_
      refine g_iload C dX1_shareOf_69 rfl ?_
      refine g_iload C dX1_shareOf_71 rfl ?_
      refine g_icmp_gt C 81 dX1_shareOf_73 (by decide) (fun hc => ?_) (fun hc => ?_)
      · replace h := h.1 hc
        refine g_iload C dX1_shareOf_81 rfl ?_
        refine g_i2l C dX1_shareOf_83 ?_
        refine g_iload C dX1_shareOf_84 rfl ?_
        refine g_i2l C dX1_shareOf_86 ?_
        refine g_lmul C dX1_shareOf_87 ?_
        refine g_iload C dX1_shareOf_88 rfl ?_
        refine g_i2l C dX1_shareOf_90 ?_
        refine g_callNSi C (nargs := 2) (st := []) (m_X8_quotient h) zn_4 (gc_code wc_52) wc_26 wc_54 (by decide +kernel) ⟨rfl, rfl⟩ dX1_shareOf_91 ⟨by decide, by decide⟩ rfl rfl (Nat.le_of_ble_eq_true rfl) ?_
        intro r91c M91 hN
        replace h := hN
        clear hN
        exact hR _ _ _ _ dX1_shareOf_94 rfl h
      · replace h := h.2 hc
        refine g_iload C dX1_shareOf_76 rfl ?_
        refine g_goto C 94 dX1_shareOf_78 (by decide) ?_
        exact hR _ _ _ _ dX1_shareOf_94 rfl h
  · replace h := h.2 hc
    refine g_iload C dX1_shareOf_32 rfl ?_
    refine g_iload C dX1_shareOf_34 rfl ?_
    refine g_i2l C dX1_shareOf_36 ?_
    refine g_aload_n C dX1_shareOf_37 rfl ?_
    refine g_iload_n C dX1_shareOf_38 rfl ?_
    refine g_callVi C (nargs := 1) (o := o) (st := [jv (wrap r16c), iv r23c]) (m_X1_claimants h) (show isForge o from h.1).1 (show isForge o from h.1).2 rfl rfl gc_X1_99 (by decide +kernel) ⟨rfl, rfl⟩ dX1_shareOf_39 ⟨by decide, by decide⟩ rfl rfl (Nat.le_of_ble_eq_true rfl) ?_
    intro r39c M39 hN
    replace h := hN
    clear hN
    refine g_i2l C dX1_shareOf_42 ?_
    refine g_callNSi C (nargs := 2) (st := [iv r23c]) (m_X8_quotient h) zn_4 (gc_code wc_52) wc_26 wc_54 (by decide +kernel) ⟨rfl, rfl⟩ dX1_shareOf_43 ⟨by decide, by decide⟩ rfl rfl (Nat.le_of_ble_eq_true rfl) ?_
    intro r43c M43 hN
    replace h := hN
    clear hN
    refine g_mmin C (st := []) dX1_shareOf_46 wc_155 wc_61 wc_62 wc_63 (by decide) (Nat.le_of_ble_eq_true rfl) ?_
    exact hR _ _ _ _ dX1_shareOf_49 rfl h
def wB_X1_leftOf_49 (o : Nat) (a1 : Int) (a2 : Int) (k : Int → gSt → Prop) (r13 : Int → Int → gSt → Prop) (X13_55 : Int → gSt → Prop) (v3 : Int) (v4 : Int) (M : gSt) : Prop :=
r13 v3 (v4 + 1) M
def wC_X1_leftOf_13 (o : Nat) (a1 : Int) (a2 : Int) (k : Int → gSt → Prop) (r13 : Int → Int → gSt → Prop) (X13_55 : Int → gSt → Prop) (v3 : Int) (v4 : Int) (M : gSt) : Prop :=
w_X4_size (o + 5) M (fun r19c M19 => 
  (wrap r19c ≤ wrap v4 →
    X13_55 v3 M19) ∧
  (wrap v4 < wrap r19c →
    w_X4_at (o + 5) v4 0 M19 (fun r32c M32 => 
    (¬ wrap r32c = wrap a1 →
      wB_X1_leftOf_49 o a1 a2 k r13 X13_55 v3 v4 M32) ∧
    (wrap r32c = wrap a1 →
      w_X1_shareOf o v4 a2 M32 (fun r44c M44 => ∀ x3_48 : Int, x3_48 = v3 - r44c → (wB_X1_leftOf_49 o a1 a2 k r13 X13_55 x3_48 v4 M44))))))
def wL_X1_leftOf_13 (o : Nat) (a1 : Int) (a2 : Int) (k : Int → gSt → Prop)  (X13_55 : Int → gSt → Prop) : Nat → Int → Int → gSt → Prop
  | 0 => fun _ _ _ => False
  | n + 1 => fun v3 v4 M => wC_X1_leftOf_13 o a1 a2 k  (wL_X1_leftOf_13 o a1 a2 k  X13_55 n) X13_55 v3 v4 M
def w_X1_leftOf (o : Nat) (a1 : Int) (a2 : Int) (M : gSt) (k : Int → gSt → Prop) : Prop :=
  (isForge o) ∧ (w_X0_number (o + 1) a1 2 M (fun r6c M6 => ∃ n, wL_X1_leftOf_13 o a1 a2 k  (fun u3_13 M13 =>
    k u3_13 M13) n r6c 0 M6))
set_option maxHeartbeats 4000000 in
set_option maxRecDepth 100000 in
theorem m_X1_leftOf {l : Launch} {D : va_G} {tys : List (ClassId × FieldType)} {ad : Nat → Nat} {cI cS : ClassId} {o : Nat} {a1 : Int} {a2 : Int} {M : gSt} {k : Int → gSt → Prop} (h : w_X1_leftOf o a1 a2 M k) : MOi l yX1_leftOf cX1_leftOf 5 .int (rmR 5 135) D clC ((cI, .int) :: (cS, .object "OldBronze$Sheet") :: tys) (wC ad cI cS) tC zC [.ref (ad o), iv a1, iv a2] M k := by
  refine moi_intro (by decide +kernel) (Nat.le_of_ble_eq_true rfl) wc_192 ?_
  intro p e s m args below meth c A Q C hR
  unfold w_X1_leftOf at h
  obtain ⟨h_o, h⟩ := h
  have pB49 : ∀ (r13 : Int → Int → gSt → Prop) (X13_55 : Int → gSt → Prop) (hr13 : ∀ (v3 : Int) (v4 : Int) (M : gSt), r13 v3 v4 M → gG p l e (rmR 5 135) s m args below meth c Q D clC A (wC ad cI cS) 5 13 [(0, .ref (ad o)), (1, iv a1), (2, iv a2), (3, iv v3), (4, iv v4)] [] M) (hX13_55 : ∀ (v3 : Int) (M : gSt), X13_55 v3 M → gG p l e (rmR 5 135) s m args below meth c Q D clC A (wC ad cI cS) 5 55 [(3, iv v3)] [] M) (v3 : Int) (v4 : Int) (M : gSt), wB_X1_leftOf_49 o a1 a2 k r13 X13_55 v3 v4 M → gG p l e (rmR 5 135) s m args below meth c Q D clC A (wC ad cI cS) 5 49 [(0, .ref (ad o)), (1, iv a1), (2, iv a2), (3, iv v3), (4, iv v4)] [] M := by
    intro r13 X13_55 hr13 hX13_55 v3 v4 M h
    unfold wB_X1_leftOf_49 at h
    refine g_iinc C dX1_leftOf_49 rfl (by decide) rfl ?_
    refine g_locals (lv' := [(0, .ref (ad o)), (1, iv a1), (2, iv a2), (3, iv v3), (4, iv (v4 + 1))]) rfl ?_
    refine g_goto C 13 dX1_leftOf_52 (by decide) ?_
    refine g_locals (lv' := [(0, .ref (ad o)), (1, iv a1), (2, iv a2), (3, iv v3), (4, iv (v4 + 1))]) rfl ?_
    exact hr13 _ _  _ h
  have pC13 : ∀ (r13 : Int → Int → gSt → Prop) (X13_55 : Int → gSt → Prop) (hr13 : ∀ (v3 : Int) (v4 : Int) (M : gSt), r13 v3 v4 M → gG p l e (rmR 5 135) s m args below meth c Q D clC A (wC ad cI cS) 5 13 [(0, .ref (ad o)), (1, iv a1), (2, iv a2), (3, iv v3), (4, iv v4)] [] M) (hX13_55 : ∀ (v3 : Int) (M : gSt), X13_55 v3 M → gG p l e (rmR 5 135) s m args below meth c Q D clC A (wC ad cI cS) 5 55 [(3, iv v3)] [] M) (v3 : Int) (v4 : Int) (M : gSt), wC_X1_leftOf_13 o a1 a2 k r13 X13_55 v3 v4 M → gG p l e (rmR 5 135) s m args below meth c Q D clC A (wC ad cI cS) 5 13 [(0, .ref (ad o)), (1, iv a1), (2, iv a2), (3, iv v3), (4, iv v4)] [] M := by
    intro r13 X13_55 hr13 hX13_55 v3 v4 M h
    unfold wC_X1_leftOf_13 at h
    refine g_iload C dX1_leftOf_13 rfl ?_
    refine g_aload_n C dX1_leftOf_15 rfl ?_
    refine cf_X1_27 C h_o dX1_leftOf_16 ?_
    refine g_callVi C (nargs := 0) (o := (o + 5)) (st := [iv v4]) (m_X4_size h) (show isRows (o + 5) from h.1).1 (show isRows (o + 5) from h.1).2.1 rfl rfl gc_X1_77 (by decide +kernel) ⟨rfl, rfl⟩ dX1_leftOf_19 ⟨by decide, by decide⟩ rfl rfl (Nat.le_of_ble_eq_true rfl) ?_
    intro r19c M19 hN
    replace h := hN
    clear hN
    refine g_icmp_ge C 55 dX1_leftOf_22 (by decide) (fun hc => ?_) (fun hc => ?_)
    · replace h := h.1 hc
      refine g_locals (lv' := [(3, iv v3)]) rfl ?_
      exact hX13_55 _  _ h
    · replace h := h.2 hc
      refine g_aload_n C dX1_leftOf_25 rfl ?_
      refine cf_X1_27 C h_o dX1_leftOf_26 ?_
      refine g_iload C dX1_leftOf_29 rfl ?_
      refine g_iconst C dX1_leftOf_31 ?_
      refine g_callVi C (nargs := 2) (o := (o + 5)) (st := []) (m_X4_at h) (show isRows (o + 5) from h.1).1 (show isRows (o + 5) from h.1).2.1 rfl rfl gc_X1_96 (by decide +kernel) ⟨rfl, rfl⟩ dX1_leftOf_32 ⟨by decide, by decide⟩ rfl rfl (Nat.le_of_ble_eq_true rfl) ?_
      intro r32c M32 hN
      replace h := hN
      clear hN
      refine g_iload_n C dX1_leftOf_35 rfl ?_
      refine g_icmp_ne C 49 dX1_leftOf_36 (by decide) (fun hc => ?_) (fun hc => ?_)
      · replace h := h.1 hc
        refine g_locals (lv' := [(0, .ref (ad o)), (1, iv a1), (2, iv a2), (3, iv v3), (4, iv v4)]) rfl ?_
        exact pB49 r13 X13_55 hr13 hX13_55 _ _ _ h
      · replace h := h.2 hc
        refine g_iload_n C dX1_leftOf_39 rfl ?_
        refine g_aload_n C dX1_leftOf_40 rfl ?_
        refine g_iload C dX1_leftOf_41 rfl ?_
        refine g_iload_n C dX1_leftOf_43 rfl ?_
        refine g_callVi C (nargs := 2) (o := o) (st := [iv v3]) (m_X1_shareOf h) (show isForge o from h.1).1 (show isForge o from h.1).2 rfl rfl gc_X1_109 (by decide +kernel) ⟨rfl, rfl⟩ dX1_leftOf_44 ⟨by decide, by decide⟩ rfl rfl (Nat.le_of_ble_eq_true rfl) ?_
        intro r44c M44 hN
        replace h := hN
        clear hN
        refine g_isub C dX1_leftOf_47 ?_
        refine g_name (fun x3_48 hx3_48 => ?_)
        replace h := h x3_48 hx3_48
        refine g_istore_n C dX1_leftOf_48 (by decide) rfl ?_
        refine g_locals (lv' := [(0, .ref (ad o)), (1, iv a1), (2, iv a2), (3, iv x3_48), (4, iv v4)]) rfl ?_
        refine g_locals (lv' := [(0, .ref (ad o)), (1, iv a1), (2, iv a2), (3, iv x3_48), (4, iv v4)]) rfl ?_
        exact pB49 r13 X13_55 hr13 hX13_55 _ _ _ h
  have pL13 : ∀  (X13_55 : Int → gSt → Prop) (hX13_55 : ∀ (v3 : Int) (M : gSt), X13_55 v3 M → gG p l e (rmR 5 135) s m args below meth c Q D clC A (wC ad cI cS) 5 55 [(3, iv v3)] [] M) (n : Nat) (v3 : Int) (v4 : Int) (M : gSt), wL_X1_leftOf_13 o a1 a2 k  X13_55 n v3 v4 M → gG p l e (rmR 5 135) s m args below meth c Q D clC A (wC ad cI cS) 5 13 [(0, .ref (ad o)), (1, iv a1), (2, iv a2), (3, iv v3), (4, iv v4)] [] M := by
    intro  X13_55 hX13_55 n
    induction n with
    | zero => intro v3 v4 M h; exact h.elim
    | succ n ih =>
      intro v3 v4 M h
      exact pC13  (wL_X1_leftOf_13 o a1 a2 k  X13_55 n) X13_55 ih hX13_55 v3 v4 M h
  refine g_locals (lv' := [(0, .ref (ad o)), (1, iv a1), (2, iv a2)]) rfl ?_
  refine g_aload_n C dX1_leftOf_0 rfl ?_
  refine cf_X1_12 C h_o dX1_leftOf_1 ?_
  refine g_iload_n C dX1_leftOf_4 rfl ?_
  refine g_iconst C dX1_leftOf_5 ?_
  refine g_callVi C (nargs := 2) (o := (o + 1)) (st := []) (m_X0_number h) (show isBronze (o + 1) from h.1).1 (show isBronze (o + 1) from h.1).2.1 rfl rfl gc_X1_63 (by decide +kernel) ⟨rfl, rfl⟩ dX1_leftOf_6 ⟨by decide, by decide⟩ rfl rfl (Nat.le_of_ble_eq_true rfl) ?_
  intro r6c M6 hN
  replace h := hN
  clear hN
  refine g_istore_n C dX1_leftOf_9 (by decide) rfl ?_
  refine g_locals (lv' := [(0, .ref (ad o)), (1, iv a1), (2, iv a2), (3, iv r6c)]) rfl ?_
  refine g_iconst C dX1_leftOf_10 ?_
  refine g_istore C dX1_leftOf_11 (by decide) rfl ?_
  refine g_locals (lv' := [(0, .ref (ad o)), (1, iv a1), (2, iv a2), (3, iv r6c), (4, iv 0)]) rfl ?_
  refine g_locals (lv' := [(0, .ref (ad o)), (1, iv a1), (2, iv a2), (3, iv r6c), (4, iv 0)]) rfl ?_
  obtain ⟨n, h⟩ := h
  refine pL13 _ ?_ n _ _ _ h
  · intro u3_13 M13 hN
    replace h := hN
    clear hN
    refine g_iload_n C dX1_leftOf_55 rfl ?_
    exact hR _ _ _ _ dX1_leftOf_56 rfl h
def wB_X2_follow_66 (o : Nat) (a1 : Nat) (a2 : Int) (k : gSt → Prop) (r19 : Nat → Int → gSt → Prop) (X19_72 : gSt → Prop) (v3 : Nat) (v4 : Int) (M : gSt) : Prop :=
r19 v3 (v4 + 1) M
def wC_X2_follow_19 (o : Nat) (a1 : Nat) (a2 : Int) (k : gSt → Prop) (r19 : Nat → Int → gSt → Prop) (X19_72 : gSt → Prop) (v3 : Nat) (v4 : Int) (M : gSt) : Prop :=
w_X4_size v3 M (fun r22c M22 => 
  (wrap r22c ≤ wrap v4 →
    X19_72  M22) ∧
  (wrap v4 < wrap r22c →

    (¬ wrap (xand (xshr a2 v4) 1) = 1 →
      wB_X2_follow_66 o a1 a2 k r19 X19_72 v3 v4 M22) ∧
    (wrap (xand (xshr a2 v4) 1) = 1 →
      w_X4_at v3 v4 0 M22 (fun r46c M46 => w_X4_at v3 v4 1 M46 (fun r53c M53 => w_X4_at v3 v4 2 M53 (fun r60c M60 => w_X0_pour (o + 1) r46c r53c r60c M60 (fun M63 => wB_X2_follow_66 o a1 a2 k r19 X19_72 v3 v4 M63)))))))
def wL_X2_follow_19 (o : Nat) (a1 : Nat) (a2 : Int) (k : gSt → Prop)  (X19_72 : gSt → Prop) : Nat → Nat → Int → gSt → Prop
  | 0 => fun _ _ _ => False
  | n + 1 => fun v3 v4 M => wC_X2_follow_19 o a1 a2 k  (wL_X2_follow_19 o a1 a2 k  X19_72 n) X19_72 v3 v4 M
def w_X2_follow (o : Nat) (a1 : Nat) (a2 : Int) (M : gSt) (k : gSt → Prop) : Prop :=
  (isHistories o) ∧ ((isForge a1) ∧ (w_X0_copyFrom (o + 1) (a1 + 1) M (fun M8 => ∃ n, wL_X2_follow_19 o a1 a2 k  (fun  M19 =>
    k M19) n (a1 + 7) 0 M8)))
set_option maxHeartbeats 4000000 in
set_option maxRecDepth 100000 in
theorem m_X2_follow {l : Launch} {D : va_G} {tys : List (ClassId × FieldType)} {ad : Nat → Nat} {cI cS : ClassId} {o : Nat} {a1 : Nat} {a2 : Int} {M : gSt} {k : gSt → Prop} (h : w_X2_follow o a1 a2 M k) : MOv l yX2_follow cX2_follow 5 (rmR 5 123) D clC ((cI, .int) :: (cS, .object "OldBronze$Sheet") :: tys) (wC ad cI cS) tC zC [.ref (ad o), .ref (ad a1), iv a2] M k := by
  refine mov_intro (by decide +kernel) (Nat.le_of_ble_eq_true rfl) wc_209 ?_
  intro p e s m args below meth c A Q C hR
  unfold w_X2_follow at h
  obtain ⟨h_o, h_a1, h⟩ := h
  have pB66 : ∀ (r19 : Nat → Int → gSt → Prop) (X19_72 : gSt → Prop) (hr19 : ∀ (v3 : Nat) (v4 : Int) (M : gSt), r19 v3 v4 M → gG p l e (rmR 5 123) s m args below meth c Q D clC A (wC ad cI cS) 5 19 [(0, .ref (ad o)), (2, iv a2), (3, .ref (ad v3)), (4, iv v4)] [] M) (hX19_72 : ∀  (M : gSt), X19_72  M → gG p l e (rmR 5 123) s m args below meth c Q D clC A (wC ad cI cS) 5 72 [] [] M) (v3 : Nat) (v4 : Int) (M : gSt), wB_X2_follow_66 o a1 a2 k r19 X19_72 v3 v4 M → gG p l e (rmR 5 123) s m args below meth c Q D clC A (wC ad cI cS) 5 66 [(0, .ref (ad o)), (2, iv a2), (3, .ref (ad v3)), (4, iv v4)] [] M := by
    intro r19 X19_72 hr19 hX19_72 v3 v4 M h
    unfold wB_X2_follow_66 at h
    refine g_iinc C dX2_follow_66 rfl (by decide) rfl ?_
    refine g_locals (lv' := [(0, .ref (ad o)), (2, iv a2), (3, .ref (ad v3)), (4, iv (v4 + 1))]) rfl ?_
    refine g_goto C 19 dX2_follow_69 (by decide) ?_
    refine g_locals (lv' := [(0, .ref (ad o)), (2, iv a2), (3, .ref (ad v3)), (4, iv (v4 + 1))]) rfl ?_
    exact hr19 _ _  _ h
  have pC19 : ∀ (r19 : Nat → Int → gSt → Prop) (X19_72 : gSt → Prop) (hr19 : ∀ (v3 : Nat) (v4 : Int) (M : gSt), r19 v3 v4 M → gG p l e (rmR 5 123) s m args below meth c Q D clC A (wC ad cI cS) 5 19 [(0, .ref (ad o)), (2, iv a2), (3, .ref (ad v3)), (4, iv v4)] [] M) (hX19_72 : ∀  (M : gSt), X19_72  M → gG p l e (rmR 5 123) s m args below meth c Q D clC A (wC ad cI cS) 5 72 [] [] M) (v3 : Nat) (v4 : Int) (M : gSt), wC_X2_follow_19 o a1 a2 k r19 X19_72 v3 v4 M → gG p l e (rmR 5 123) s m args below meth c Q D clC A (wC ad cI cS) 5 19 [(0, .ref (ad o)), (2, iv a2), (3, .ref (ad v3)), (4, iv v4)] [] M := by
    intro r19 X19_72 hr19 hX19_72 v3 v4 M h
    unfold wC_X2_follow_19 at h
    refine g_iload C dX2_follow_19 rfl ?_
    refine g_aload_n C dX2_follow_21 rfl ?_
    refine g_callVi C (nargs := 0) (o := v3) (st := [iv v4]) (m_X4_size h) (show isRows v3 from h.1).1 (show isRows v3 from h.1).2.1 rfl rfl gc_X2_43 (by decide +kernel) ⟨rfl, rfl⟩ dX2_follow_22 ⟨by decide, by decide⟩ rfl rfl (Nat.le_of_ble_eq_true rfl) ?_
    intro r22c M22 hN
    replace h := hN
    clear hN
    refine g_icmp_ge C 72 dX2_follow_25 (by decide) (fun hc => ?_) (fun hc => ?_)
    · replace h := h.1 hc
      refine g_locals (lv' := []) rfl ?_
      exact hX19_72  _ h
    · replace h := h.2 hc
      refine g_iload_n C dX2_follow_28 rfl ?_
      refine g_iload C dX2_follow_29 rfl ?_
      refine g_ishr C dX2_follow_31 ?_
      refine g_iconst C dX2_follow_32 ?_
      refine g_iand C dX2_follow_33 ?_
      refine g_iconst C dX2_follow_34 ?_
      refine g_icmp_ne C 66 dX2_follow_35 (by decide) (fun hc => ?_) (fun hc => ?_)
      · replace h := h.1 hc
        refine g_locals (lv' := [(0, .ref (ad o)), (2, iv a2), (3, .ref (ad v3)), (4, iv v4)]) rfl ?_
        exact pB66 r19 X19_72 hr19 hX19_72 _ _ _ h
      · replace h := h.2 hc
        refine g_aload_n C dX2_follow_38 rfl ?_
        refine cf_X2_12 C h_o dX2_follow_39 ?_
        refine g_aload_n C dX2_follow_42 rfl ?_
        refine g_iload C dX2_follow_43 rfl ?_
        refine g_iconst C dX2_follow_45 ?_
        refine g_callVi C (nargs := 2) (o := v3) (st := [.ref (ad (o + 1))]) (m_X4_at h) (show isRows v3 from h.1).1 (show isRows v3 from h.1).2.1 rfl rfl gc_X2_47 (by decide +kernel) ⟨rfl, rfl⟩ dX2_follow_46 ⟨by decide, by decide⟩ rfl rfl (Nat.le_of_ble_eq_true rfl) ?_
        intro r46c M46 hN
        replace h := hN
        clear hN
        refine g_aload_n C dX2_follow_49 rfl ?_
        refine g_iload C dX2_follow_50 rfl ?_
        refine g_iconst C dX2_follow_52 ?_
        refine g_callVi C (nargs := 2) (o := v3) (st := [iv r46c, .ref (ad (o + 1))]) (m_X4_at h) (show isRows v3 from h.1).1 (show isRows v3 from h.1).2.1 rfl rfl gc_X2_47 (by decide +kernel) ⟨rfl, rfl⟩ dX2_follow_53 ⟨by decide, by decide⟩ rfl rfl (Nat.le_of_ble_eq_true rfl) ?_
        intro r53c M53 hN
        replace h := hN
        clear hN
        refine g_aload_n C dX2_follow_56 rfl ?_
        refine g_iload C dX2_follow_57 rfl ?_
        refine g_iconst C dX2_follow_59 ?_
        refine g_callVi C (nargs := 2) (o := v3) (st := [iv r53c, iv r46c, .ref (ad (o + 1))]) (m_X4_at h) (show isRows v3 from h.1).1 (show isRows v3 from h.1).2.1 rfl rfl gc_X2_47 (by decide +kernel) ⟨rfl, rfl⟩ dX2_follow_60 ⟨by decide, by decide⟩ rfl rfl (Nat.le_of_ble_eq_true rfl) ?_
        intro r60c M60 hN
        replace h := hN
        clear hN
        refine g_callVv C (nargs := 3) (o := (o + 1)) (st := []) (m_X0_pour h) (show isBronze (o + 1) from h.1).1 (show isBronze (o + 1) from h.1).2.1 rfl rfl gc_X2_51 (by decide +kernel) ⟨rfl, rfl⟩ dX2_follow_63 ⟨by decide, by decide⟩ rfl rfl (Nat.le_of_ble_eq_true rfl) ?_
        intro M63 hN
        replace h := hN
        clear hN
        refine g_locals (lv' := [(0, .ref (ad o)), (2, iv a2), (3, .ref (ad v3)), (4, iv v4)]) rfl ?_
        exact pB66 r19 X19_72 hr19 hX19_72 _ _ _ h
  have pL19 : ∀  (X19_72 : gSt → Prop) (hX19_72 : ∀  (M : gSt), X19_72  M → gG p l e (rmR 5 123) s m args below meth c Q D clC A (wC ad cI cS) 5 72 [] [] M) (n : Nat) (v3 : Nat) (v4 : Int) (M : gSt), wL_X2_follow_19 o a1 a2 k  X19_72 n v3 v4 M → gG p l e (rmR 5 123) s m args below meth c Q D clC A (wC ad cI cS) 5 19 [(0, .ref (ad o)), (2, iv a2), (3, .ref (ad v3)), (4, iv v4)] [] M := by
    intro  X19_72 hX19_72 n
    induction n with
    | zero => intro v3 v4 M h; exact h.elim
    | succ n ih =>
      intro v3 v4 M h
      exact pC19  (wL_X2_follow_19 o a1 a2 k  X19_72 n) X19_72 ih hX19_72 v3 v4 M h
  refine g_locals (lv' := [(0, .ref (ad o)), (1, .ref (ad a1)), (2, iv a2)]) rfl ?_
  refine g_aload_n C dX2_follow_0 rfl ?_
  refine cf_X2_12 C h_o dX2_follow_1 ?_
  refine g_aload_n C dX2_follow_4 rfl ?_
  refine cf_X2_31 C h_a1 dX2_follow_5 ?_
  refine g_callVv C (nargs := 1) (o := (o + 1)) (st := []) (m_X0_copyFrom h) (show isBronze (o + 1) from h.1).1 (show isBronze (o + 1) from h.1).2.1 rfl rfl gc_X2_36 (by decide +kernel) ⟨rfl, rfl⟩ dX2_follow_8 ⟨by decide, by decide⟩ rfl rfl (Nat.le_of_ble_eq_true rfl) ?_
  intro M8 hN
  replace h := hN
  clear hN
  refine g_aload_n C dX2_follow_11 rfl ?_
  refine cf_X2_40 C h_a1 dX2_follow_12 ?_
  refine g_astore_n C dX2_follow_15 (by decide) rfl ?_
  refine g_locals (lv' := [(0, .ref (ad o)), (1, .ref (ad a1)), (2, iv a2), (3, .ref (ad (a1 + 7)))]) rfl ?_
  refine g_iconst C dX2_follow_16 ?_
  refine g_istore C dX2_follow_17 (by decide) rfl ?_
  refine g_locals (lv' := [(0, .ref (ad o)), (1, .ref (ad a1)), (2, iv a2), (3, .ref (ad (a1 + 7))), (4, iv 0)]) rfl ?_
  refine g_locals (lv' := [(0, .ref (ad o)), (2, iv a2), (3, .ref (ad (a1 + 7))), (4, iv 0)]) rfl ?_
  obtain ⟨n, h⟩ := h
  refine pL19 _ ?_ n _ _ _ h
  · intro  M19 hN
    replace h := hN
    clear hN
    exact hR _ _ _ dX2_follow_72 h
def w_X2_numberBehind (o : Nat) (a1 : Int) (a2 : Int) (M : gSt) (k : Int → gSt → Prop) : Prop :=
  (isHistories o) ∧ (w_X0_number (o + 1) a1 a2 M (fun r6c M6 => k r6c M6))
set_option maxHeartbeats 4000000 in
set_option maxRecDepth 100000 in
theorem m_X2_numberBehind {l : Launch} {D : va_G} {tys : List (ClassId × FieldType)} {ad : Nat → Nat} {cI cS : ClassId} {o : Nat} {a1 : Int} {a2 : Int} {M : gSt} {k : Int → gSt → Prop} (h : w_X2_numberBehind o a1 a2 M k) : MOi l yX2_numberBehind cX2_numberBehind 3 .int (rmR 2 45) D clC ((cI, .int) :: (cS, .object "OldBronze$Sheet") :: tys) (wC ad cI cS) tC zC [.ref (ad o), iv a1, iv a2] M k := by
  refine moi_intro (by decide +kernel) (Nat.le_of_ble_eq_true rfl) wc_210 ?_
  intro p e s m args below meth c A Q C hR
  unfold w_X2_numberBehind at h
  obtain ⟨h_o, h⟩ := h
  refine g_locals (lv' := [(0, .ref (ad o)), (1, iv a1), (2, iv a2)]) rfl ?_
  refine g_aload_n C dX2_numberBehind_0 rfl ?_
  refine cf_X2_12 C h_o dX2_numberBehind_1 ?_
  refine g_iload_n C dX2_numberBehind_4 rfl ?_
  refine g_iload_n C dX2_numberBehind_5 rfl ?_
  refine g_callVi C (nargs := 2) (o := (o + 1)) (st := []) (m_X0_number h) (show isBronze (o + 1) from h.1).1 (show isBronze (o + 1) from h.1).2.1 rfl rfl gc_X2_55 (by decide +kernel) ⟨rfl, rfl⟩ dX2_numberBehind_6 ⟨by decide, by decide⟩ rfl rfl (Nat.le_of_ble_eq_true rfl) ?_
  intro r6c M6 hN
  replace h := hN
  clear hN
  exact hR _ _ _ _ dX2_numberBehind_9 rfl h
def w_X4_clear (o : Nat) (M : gSt) (k : gSt → Prop) : Prop :=
  (isRows o) ∧ (∀ M2 : gSt, M2 = wr M o 3 0 → (k M2))
set_option maxHeartbeats 4000000 in
set_option maxRecDepth 100000 in
theorem m_X4_clear {l : Launch} {D : va_G} {tys : List (ClassId × FieldType)} {ad : Nat → Nat} {cI cS : ClassId} {o : Nat} {M : gSt} {k : gSt → Prop} (h : w_X4_clear o M k) : MOv l yX4_clear cX4_clear 1 (rmR 0 0) D clC ((cI, .int) :: (cS, .object "OldBronze$Sheet") :: tys) (wC ad cI cS) tC zC [.ref (ad o)] M k := by
  refine mov_intro (by decide +kernel) (Nat.le_of_ble_eq_true rfl) wc_212 ?_
  intro p e s m args below meth c A Q C hR
  unfold w_X4_clear at h
  obtain ⟨h_o, h⟩ := h
  refine g_locals (lv' := [(0, .ref (ad o))]) rfl ?_
  refine g_aload_n C dX4_clear_0 rfl ?_
  refine g_iconst C dX4_clear_1 ?_
  refine cp_X4_26 C h_o dX4_clear_2 ?_
  refine g_memname (fun M2 hM2 => ?_)
  replace h := h M2 hM2
  exact hR _ _ _ dX4_clear_5 h
def wC_X2_isSo_2 (o : Nat) (a1 : Nat) (k : Int → gSt → Prop) (r2 : Int → gSt → Prop) (X2_45 : gSt → Prop) (X2_53 : gSt → Prop) (v2 : Int) (M : gSt) : Prop :=
w_X4_size a1 M (fun r4c M4 => 
  (wrap r4c ≤ wrap v2 →
    X2_53  M4) ∧
  (wrap v2 < wrap r4c →
    w_X4_at a1 v2 0 M4 (fun r17c M17 => w_X0_number (o + 1) r17c 2 M17 (fun r21c M21 => w_X4_at a1 v2 1 M21 (fun r27c M27 => ∀ x3_31 : Int, x3_31 = r21c - r27c → (w_X4_at a1 v2 2 M27 (fun r39c M39 => 
    (wrap (xabs x3_31) ≤ wrap r39c →
      r2 (v2 + 1) M39) ∧
    (wrap r39c < wrap (xabs x3_31) →
      X2_45  M39))))))))
def wL_X2_isSo_2 (o : Nat) (a1 : Nat) (k : Int → gSt → Prop)  (X2_45 : gSt → Prop) (X2_53 : gSt → Prop) : Nat → Int → gSt → Prop
  | 0 => fun _ _ => False
  | n + 1 => fun v2 M => wC_X2_isSo_2 o a1 k  (wL_X2_isSo_2 o a1 k  X2_45 X2_53 n) X2_45 X2_53 v2 M
def w_X2_isSo (o : Nat) (a1 : Nat) (M : gSt) (k : Int → gSt → Prop) : Prop :=
  (isHistories o) ∧ ((isRows a1) ∧ (∃ n, wL_X2_isSo_2 o a1 k  (fun  M2 =>
    k 0 M2) (fun  M2 =>
    k 1 M2) n 0 M))
set_option maxHeartbeats 4000000 in
set_option maxRecDepth 100000 in
theorem m_X2_isSo {l : Launch} {D : va_G} {tys : List (ClassId × FieldType)} {ad : Nat → Nat} {cI cS : ClassId} {o : Nat} {a1 : Nat} {M : gSt} {k : Int → gSt → Prop} (h : w_X2_isSo o a1 M k) : MOi l yX2_isSo cX2_isSo 4 .boolean (rmR 2 45) D clC ((cI, .int) :: (cS, .object "OldBronze$Sheet") :: tys) (wC ad cI cS) tC zC [.ref (ad o), .ref (ad a1)] M k := by
  refine moi_intro (by decide +kernel) (Nat.le_of_ble_eq_true rfl) wc_216 ?_
  intro p e s m args below meth c A Q C hR
  unfold w_X2_isSo at h
  obtain ⟨h_o, h_a1, h⟩ := h
  have pC2 : ∀ (r2 : Int → gSt → Prop) (X2_45 : gSt → Prop) (X2_53 : gSt → Prop) (hr2 : ∀ (v2 : Int) (M : gSt), r2 v2 M → gG p l e (rmR 2 45) s m args below meth c Q D clC A (wC ad cI cS) 4 2 [(0, .ref (ad o)), (1, .ref (ad a1)), (2, iv v2)] [] M) (hX2_45 : ∀  (M : gSt), X2_45  M → gG p l e (rmR 2 45) s m args below meth c Q D clC A (wC ad cI cS) 4 45 [] [] M) (hX2_53 : ∀  (M : gSt), X2_53  M → gG p l e (rmR 2 45) s m args below meth c Q D clC A (wC ad cI cS) 4 53 [] [] M) (v2 : Int) (M : gSt), wC_X2_isSo_2 o a1 k r2 X2_45 X2_53 v2 M → gG p l e (rmR 2 45) s m args below meth c Q D clC A (wC ad cI cS) 4 2 [(0, .ref (ad o)), (1, .ref (ad a1)), (2, iv v2)] [] M := by
    intro r2 X2_45 X2_53 hr2 hX2_45 hX2_53 v2 M h
    unfold wC_X2_isSo_2 at h
    refine g_iload_n C dX2_isSo_2 rfl ?_
    refine g_aload_n C dX2_isSo_3 rfl ?_
    refine g_callVi C (nargs := 0) (o := a1) (st := [iv v2]) (m_X4_size h) (show isRows a1 from h.1).1 (show isRows a1 from h.1).2.1 rfl rfl gc_X2_43 (by decide +kernel) ⟨rfl, rfl⟩ dX2_isSo_4 ⟨by decide, by decide⟩ rfl rfl (Nat.le_of_ble_eq_true rfl) ?_
    intro r4c M4 hN
    replace h := hN
    clear hN
    refine g_icmp_ge C 53 dX2_isSo_7 (by decide) (fun hc => ?_) (fun hc => ?_)
    · replace h := h.1 hc
      refine g_locals (lv' := []) rfl ?_
      exact hX2_53  _ h
    · replace h := h.2 hc
      refine g_aload_n C dX2_isSo_10 rfl ?_
      refine cf_X2_12 C h_o dX2_isSo_11 ?_
      refine g_aload_n C dX2_isSo_14 rfl ?_
      refine g_iload_n C dX2_isSo_15 rfl ?_
      refine g_iconst C dX2_isSo_16 ?_
      refine g_callVi C (nargs := 2) (o := a1) (st := [.ref (ad (o + 1))]) (m_X4_at h) (show isRows a1 from h.1).1 (show isRows a1 from h.1).2.1 rfl rfl gc_X2_47 (by decide +kernel) ⟨rfl, rfl⟩ dX2_isSo_17 ⟨by decide, by decide⟩ rfl rfl (Nat.le_of_ble_eq_true rfl) ?_
      intro r17c M17 hN
      replace h := hN
      clear hN
      refine g_iconst C dX2_isSo_20 ?_
      refine g_callVi C (nargs := 2) (o := (o + 1)) (st := []) (m_X0_number h) (show isBronze (o + 1) from h.1).1 (show isBronze (o + 1) from h.1).2.1 rfl rfl gc_X2_55 (by decide +kernel) ⟨rfl, rfl⟩ dX2_isSo_21 ⟨by decide, by decide⟩ rfl rfl (Nat.le_of_ble_eq_true rfl) ?_
      intro r21c M21 hN
      replace h := hN
      clear hN
      refine g_aload_n C dX2_isSo_24 rfl ?_
      refine g_iload_n C dX2_isSo_25 rfl ?_
      refine g_iconst C dX2_isSo_26 ?_
      refine g_callVi C (nargs := 2) (o := a1) (st := [iv r21c]) (m_X4_at h) (show isRows a1 from h.1).1 (show isRows a1 from h.1).2.1 rfl rfl gc_X2_47 (by decide +kernel) ⟨rfl, rfl⟩ dX2_isSo_27 ⟨by decide, by decide⟩ rfl rfl (Nat.le_of_ble_eq_true rfl) ?_
      intro r27c M27 hN
      replace h := hN
      clear hN
      refine g_isub C dX2_isSo_30 ?_
      refine g_name (fun x3_31 hx3_31 => ?_)
      replace h := h x3_31 hx3_31
      refine g_istore_n C dX2_isSo_31 (by decide) rfl ?_
      refine g_locals (lv' := [(0, .ref (ad o)), (1, .ref (ad a1)), (2, iv v2), (3, iv x3_31)]) rfl ?_
      refine g_iload_n C dX2_isSo_32 rfl ?_
      refine g_mabs C (st := []) dX2_isSo_33 wc_213 wc_214 wc_62 wc_215 (by decide) (Nat.le_of_ble_eq_true rfl) ?_
      refine g_aload_n C dX2_isSo_36 rfl ?_
      refine g_iload_n C dX2_isSo_37 rfl ?_
      refine g_iconst C dX2_isSo_38 ?_
      refine g_callVi C (nargs := 2) (o := a1) (st := [iv (xabs x3_31)]) (m_X4_at h) (show isRows a1 from h.1).1 (show isRows a1 from h.1).2.1 rfl rfl gc_X2_47 (by decide +kernel) ⟨rfl, rfl⟩ dX2_isSo_39 ⟨by decide, by decide⟩ rfl rfl (Nat.le_of_ble_eq_true rfl) ?_
      intro r39c M39 hN
      replace h := hN
      clear hN
      refine g_icmp_le C 47 dX2_isSo_42 (by decide) (fun hc => ?_) (fun hc => ?_)
      · replace h := h.1 hc
        refine g_iinc C dX2_isSo_47 rfl (by decide) rfl ?_
        refine g_locals (lv' := [(0, .ref (ad o)), (1, .ref (ad a1)), (2, iv (v2 + 1)), (3, iv x3_31)]) rfl ?_
        refine g_goto C 2 dX2_isSo_50 (by decide) ?_
        refine g_locals (lv' := [(0, .ref (ad o)), (1, .ref (ad a1)), (2, iv (v2 + 1))]) rfl ?_
        exact hr2 _  _ h
      · replace h := h.2 hc
        refine g_locals (lv' := []) rfl ?_
        exact hX2_45  _ h
  have pL2 : ∀  (X2_45 : gSt → Prop) (X2_53 : gSt → Prop) (hX2_45 : ∀  (M : gSt), X2_45  M → gG p l e (rmR 2 45) s m args below meth c Q D clC A (wC ad cI cS) 4 45 [] [] M) (hX2_53 : ∀  (M : gSt), X2_53  M → gG p l e (rmR 2 45) s m args below meth c Q D clC A (wC ad cI cS) 4 53 [] [] M) (n : Nat) (v2 : Int) (M : gSt), wL_X2_isSo_2 o a1 k  X2_45 X2_53 n v2 M → gG p l e (rmR 2 45) s m args below meth c Q D clC A (wC ad cI cS) 4 2 [(0, .ref (ad o)), (1, .ref (ad a1)), (2, iv v2)] [] M := by
    intro  X2_45 X2_53 hX2_45 hX2_53 n
    induction n with
    | zero => intro v2 M h; exact h.elim
    | succ n ih =>
      intro v2 M h
      exact pC2  (wL_X2_isSo_2 o a1 k  X2_45 X2_53 n) X2_45 X2_53 ih hX2_45 hX2_53 v2 M h
  refine g_locals (lv' := [(0, .ref (ad o)), (1, .ref (ad a1))]) rfl ?_
  refine g_iconst C dX2_isSo_0 ?_
  refine g_istore_n C dX2_isSo_1 (by decide) rfl ?_
  refine g_locals (lv' := [(0, .ref (ad o)), (1, .ref (ad a1)), (2, iv 0)]) rfl ?_
  refine g_locals (lv' := [(0, .ref (ad o)), (1, .ref (ad a1)), (2, iv 0)]) rfl ?_
  obtain ⟨n, h⟩ := h
  refine pL2 _ _ ?_ ?_ n _ _ h
  · intro  M2 hN
    replace h := hN
    clear hN
    refine g_iconst C dX2_isSo_45 ?_
    exact hR _ _ _ _ dX2_isSo_46 rfl h
  · intro  M2 hN
    replace h := hN
    clear hN
    refine g_iconst C dX2_isSo_53 ?_
    exact hR _ _ _ _ dX2_isSo_54 rfl h
def w_X4_room (o : Nat) (M : gSt) (k : Int → gSt → Prop) : Prop :=
  (isRows o) ∧ (k ((M o 2) - (M o 3)) M)
set_option maxHeartbeats 4000000 in
set_option maxRecDepth 100000 in
theorem m_X4_room {l : Launch} {D : va_G} {tys : List (ClassId × FieldType)} {ad : Nat → Nat} {cI cS : ClassId} {o : Nat} {M : gSt} {k : Int → gSt → Prop} (h : w_X4_room o M k) : MOi l yX4_room cX4_room 1 .int (rmR 0 0) D clC ((cI, .int) :: (cS, .object "OldBronze$Sheet") :: tys) (wC ad cI cS) tC zC [.ref (ad o)] M k := by
  refine moi_intro (by decide +kernel) (Nat.le_of_ble_eq_true rfl) wc_217 ?_
  intro p e s m args below meth c A Q C hR
  unfold w_X4_room at h
  obtain ⟨h_o, h⟩ := h
  refine g_locals (lv' := [(0, .ref (ad o))]) rfl ?_
  refine g_aload_n C dX4_room_0 rfl ?_
  refine cf_X4_13 C h_o dX4_room_1 ?_
  refine g_aload_n C dX4_room_4 rfl ?_
  refine cf_X4_26 C h_o dX4_room_5 ?_
  refine g_isub C dX4_room_8 ?_
  exact hR _ _ _ _ dX4_room_9 rfl h
def w_X4_write (o : Nat) (a1 : Int) (a2 : Int) (M : gSt) (k : gSt → Prop) : Prop :=
  (isRows o) ∧ (∀ x3_11 : Int, x3_11 = ((M o 3) * (M o 0)) + a1 → (
  (wrap (M o 0) ≤ wrap a1 →
    k M) ∧
  (wrap a1 < wrap (M o 0) →

    (wrap x3_11 < 0 →
      k M) ∧
    (0 ≤ wrap x3_11 →

      (wrap (lenC (o + 1) : Int) ≤ wrap x3_11 →
        k M) ∧
      (wrap x3_11 < wrap (lenC (o + 1) : Int) →
        ((0 : Int) ≤ x3_11 ∧ x3_11 < lenC (o + 1)) ∧ (∀ M39 : gSt, M39 = wr M (o + 1) x3_11 a2 → (k M39)))))))
set_option maxHeartbeats 4000000 in
set_option maxRecDepth 100000 in
theorem m_X4_write {l : Launch} {D : va_G} {tys : List (ClassId × FieldType)} {ad : Nat → Nat} {cI cS : ClassId} {o : Nat} {a1 : Int} {a2 : Int} {M : gSt} {k : gSt → Prop} (h : w_X4_write o a1 a2 M k) : MOv l yX4_write cX4_write 4 (rmR 0 0) D clC ((cI, .int) :: (cS, .object "OldBronze$Sheet") :: tys) (wC ad cI cS) tC zC [.ref (ad o), iv a1, iv a2] M k := by
  refine mov_intro (by decide +kernel) (Nat.le_of_ble_eq_true rfl) wc_218 ?_
  intro p e s m args below meth c A Q C hR
  unfold w_X4_write at h
  obtain ⟨h_o, h⟩ := h
  refine g_locals (lv' := [(0, .ref (ad o)), (1, iv a1), (2, iv a2)]) rfl ?_
  refine g_aload_n C dX4_write_0 rfl ?_
  refine cf_X4_26 C h_o dX4_write_1 ?_
  refine g_aload_n C dX4_write_4 rfl ?_
  refine cf_X4_19 C h_o dX4_write_5 ?_
  refine g_imul C dX4_write_8 ?_
  refine g_iload_n C dX4_write_9 rfl ?_
  refine g_iadd C dX4_write_10 ?_
  refine g_name (fun x3_11 hx3_11 => ?_)
  replace h := h x3_11 hx3_11
  refine g_istore_n C dX4_write_11 (by decide) rfl ?_
  refine g_locals (lv' := [(0, .ref (ad o)), (1, iv a1), (2, iv a2), (3, iv x3_11)]) rfl ?_
  refine g_iload_n C dX4_write_12 rfl ?_
  refine g_aload_n C dX4_write_13 rfl ?_
  refine cf_X4_19 C h_o dX4_write_14 ?_
  refine g_icmp_ge C 40 dX4_write_17 (by decide) (fun hc => ?_) (fun hc => ?_)
  · replace h := h.1 hc
    exact hR _ _ _ dX4_write_40 h
  · replace h := h.2 hc
    refine g_iload_n C dX4_write_20 rfl ?_
    refine g_if_lt C 40 dX4_write_21 (by decide) (fun hc => ?_) (fun hc => ?_)
    · replace h := h.1 hc
      exact hR _ _ _ dX4_write_40 h
    · replace h := h.2 hc
      refine g_iload_n C dX4_write_24 rfl ?_
      refine g_aload_n C dX4_write_25 rfl ?_
      refine cf_X4_22 C h_o dX4_write_26 ?_
      refine g_alen C dX4_write_29 h_o.2.2.1 h_o.2.2.2.1 ?_
      refine g_icmp_ge C 40 dX4_write_30 (by decide) (fun hc => ?_) (fun hc => ?_)
      · replace h := h.1 hc
        exact hR _ _ _ dX4_write_40 h
      · replace h := h.2 hc
        refine g_aload_n C dX4_write_33 rfl ?_
        refine cf_X4_22 C h_o dX4_write_34 ?_
        refine g_iload_n C dX4_write_37 rfl ?_
        refine g_iload_n C dX4_write_38 rfl ?_
        refine g_iast C dX4_write_39 h_o.2.2.1 h_o.2.2.2 h.1 ?_
        replace h := h.2
        refine g_memname (fun M39 hM39 => ?_)
        replace h := h M39 hM39
        exact hR _ _ _ dX4_write_40 h
def w_X4_append (o : Nat) (a1 : Int) (a2 : Int) (a3 : Int) (M : gSt) (k : Int → gSt → Prop) : Prop :=
  (isRows o) ∧ (w_X4_room o M (fun r1c M1 => 
  (1 ≤ wrap r1c →
    w_X4_write o 0 a1 M1 (fun M13 => w_X4_write o 1 a2 M13 (fun M19 => w_X4_write o 2 a3 M19 (fun M25 => ∀ M35 : gSt, M35 = wr M25 o 3 ((M25 o 3) + 1) → (k ((M35 o 3) - 1) M35))))) ∧
  (wrap r1c < 1 →
    k (-1) M1)))
set_option maxHeartbeats 4000000 in
set_option maxRecDepth 100000 in
theorem m_X4_append {l : Launch} {D : va_G} {tys : List (ClassId × FieldType)} {ad : Nat → Nat} {cI cS : ClassId} {o : Nat} {a1 : Int} {a2 : Int} {a3 : Int} {M : gSt} {k : Int → gSt → Prop} (h : w_X4_append o a1 a2 a3 M k) : MOi l yX4_append cX4_append 4 .int (rmR 1 23) D clC ((cI, .int) :: (cS, .object "OldBronze$Sheet") :: tys) (wC ad cI cS) tC zC [.ref (ad o), iv a1, iv a2, iv a3] M k := by
  refine moi_intro (by decide +kernel) (Nat.le_of_ble_eq_true rfl) wc_219 ?_
  intro p e s m args below meth c A Q C hR
  unfold w_X4_append at h
  obtain ⟨h_o, h⟩ := h
  refine g_locals (lv' := [(0, .ref (ad o)), (1, iv a1), (2, iv a2), (3, iv a3)]) rfl ?_
  refine g_aload_n C dX4_append_0 rfl ?_
  refine g_callVi C (nargs := 0) (o := o) (st := []) (m_X4_room h) (show isRows o from h.1).1 (show isRows o from h.1).2.1 rfl rfl gc_X4_29 (by decide +kernel) ⟨rfl, rfl⟩ dX4_append_1 ⟨by decide, by decide⟩ rfl rfl (Nat.le_of_ble_eq_true rfl) ?_
  intro r1c M1 hN
  replace h := hN
  clear hN
  refine g_iconst C dX4_append_4 ?_
  refine g_icmp_ge C 10 dX4_append_5 (by decide) (fun hc => ?_) (fun hc => ?_)
  · replace h := h.1 hc
    refine g_aload_n C dX4_append_10 rfl ?_
    refine g_iconst C dX4_append_11 ?_
    refine g_iload_n C dX4_append_12 rfl ?_
    refine g_callVv C (nargs := 2) (o := o) (st := []) (m_X4_write h) (show isRows o from h.1).1 (show isRows o from h.1).2.1 rfl rfl gc_X4_33 (by decide +kernel) ⟨rfl, rfl⟩ dX4_append_13 ⟨by decide, by decide⟩ rfl rfl (Nat.le_of_ble_eq_true rfl) ?_
    intro M13 hN
    replace h := hN
    clear hN
    refine g_aload_n C dX4_append_16 rfl ?_
    refine g_iconst C dX4_append_17 ?_
    refine g_iload_n C dX4_append_18 rfl ?_
    refine g_callVv C (nargs := 2) (o := o) (st := []) (m_X4_write h) (show isRows o from h.1).1 (show isRows o from h.1).2.1 rfl rfl gc_X4_33 (by decide +kernel) ⟨rfl, rfl⟩ dX4_append_19 ⟨by decide, by decide⟩ rfl rfl (Nat.le_of_ble_eq_true rfl) ?_
    intro M19 hN
    replace h := hN
    clear hN
    refine g_aload_n C dX4_append_22 rfl ?_
    refine g_iconst C dX4_append_23 ?_
    refine g_iload_n C dX4_append_24 rfl ?_
    refine g_callVv C (nargs := 2) (o := o) (st := []) (m_X4_write h) (show isRows o from h.1).1 (show isRows o from h.1).2.1 rfl rfl gc_X4_33 (by decide +kernel) ⟨rfl, rfl⟩ dX4_append_25 ⟨by decide, by decide⟩ rfl rfl (Nat.le_of_ble_eq_true rfl) ?_
    intro M25 hN
    replace h := hN
    clear hN
    refine g_aload_n C dX4_append_28 rfl ?_
    refine g_dup C dX4_append_29 rfl ?_
    refine cf_X4_26 C h_o dX4_append_30 ?_
    refine g_iconst C dX4_append_33 ?_
    refine g_iadd C dX4_append_34 ?_
    refine cp_X4_26 C h_o dX4_append_35 ?_
    refine g_memname (fun M35 hM35 => ?_)
    replace h := h M35 hM35
    refine g_aload_n C dX4_append_38 rfl ?_
    refine cf_X4_26 C h_o dX4_append_39 ?_
    refine g_iconst C dX4_append_42 ?_
    refine g_isub C dX4_append_43 ?_
    exact hR _ _ _ _ dX4_append_44 rfl h
  · replace h := h.2 hc
    refine g_iconst C dX4_append_8 ?_
    exact hR _ _ _ _ dX4_append_9 rfl h
def wB_X2_noteGrams_43 (o : Nat) (a1 : Int) (k : gSt → Prop) (r2 : Int → gSt → Prop) (X2_49 : gSt → Prop) (v2 : Int) (M : gSt) : Prop :=
r2 (v2 + 1) M
def wC_X2_noteGrams_2 (o : Nat) (a1 : Int) (k : gSt → Prop) (r2 : Int → gSt → Prop) (X2_49 : gSt → Prop) (v2 : Int) (M : gSt) : Prop :=

  (12 ≤ wrap v2 →
    X2_49  M) ∧
  (wrap v2 < 12 →
    ∀ x3_14 : Int, x3_14 = (a1 * 12) + v2 → (
    (wrap x3_14 < 0 →
      wB_X2_noteGrams_43 o a1 k r2 X2_49 v2 M) ∧
    (0 ≤ wrap x3_14 →

      (wrap (lenC (o + 5) : Int) ≤ wrap x3_14 →
        wB_X2_noteGrams_43 o a1 k r2 X2_49 v2 M) ∧
      (wrap x3_14 < wrap (lenC (o + 5) : Int) →
        w_X0_number (o + 1) v2 2 M (fun r39c M39 => ((0 : Int) ≤ x3_14 ∧ x3_14 < lenC (o + 5)) ∧ (∀ M42 : gSt, M42 = wr M39 (o + 5) x3_14 r39c → (wB_X2_noteGrams_43 o a1 k r2 X2_49 v2 M42)))))))
def wL_X2_noteGrams_2 (o : Nat) (a1 : Int) (k : gSt → Prop)  (X2_49 : gSt → Prop) : Nat → Int → gSt → Prop
  | 0 => fun _ _ => False
  | n + 1 => fun v2 M => wC_X2_noteGrams_2 o a1 k  (wL_X2_noteGrams_2 o a1 k  X2_49 n) X2_49 v2 M
def w_X2_noteGrams (o : Nat) (a1 : Int) (M : gSt) (k : gSt → Prop) : Prop :=
  (isHistories o) ∧ (∃ n, wL_X2_noteGrams_2 o a1 k  (fun  M2 =>
    k M2) n 0 M)
set_option maxHeartbeats 4000000 in
set_option maxRecDepth 100000 in
theorem m_X2_noteGrams {l : Launch} {D : va_G} {tys : List (ClassId × FieldType)} {ad : Nat → Nat} {cI cS : ClassId} {o : Nat} {a1 : Int} {M : gSt} {k : gSt → Prop} (h : w_X2_noteGrams o a1 M k) : MOv l yX2_noteGrams cX2_noteGrams 4 (rmR 2 45) D clC ((cI, .int) :: (cS, .object "OldBronze$Sheet") :: tys) (wC ad cI cS) tC zC [.ref (ad o), iv a1] M k := by
  refine mov_intro (by decide +kernel) (Nat.le_of_ble_eq_true rfl) wc_226 ?_
  intro p e s m args below meth c A Q C hR
  unfold w_X2_noteGrams at h
  obtain ⟨h_o, h⟩ := h
  have pB43 : ∀ (r2 : Int → gSt → Prop) (X2_49 : gSt → Prop) (hr2 : ∀ (v2 : Int) (M : gSt), r2 v2 M → gG p l e (rmR 2 45) s m args below meth c Q D clC A (wC ad cI cS) 4 2 [(0, .ref (ad o)), (1, iv a1), (2, iv v2)] [] M) (hX2_49 : ∀  (M : gSt), X2_49  M → gG p l e (rmR 2 45) s m args below meth c Q D clC A (wC ad cI cS) 4 49 [] [] M) (v2 : Int) (M : gSt), wB_X2_noteGrams_43 o a1 k r2 X2_49 v2 M → gG p l e (rmR 2 45) s m args below meth c Q D clC A (wC ad cI cS) 4 43 [(0, .ref (ad o)), (1, iv a1), (2, iv v2)] [] M := by
    intro r2 X2_49 hr2 hX2_49 v2 M h
    unfold wB_X2_noteGrams_43 at h
    refine g_iinc C dX2_noteGrams_43 rfl (by decide) rfl ?_
    refine g_locals (lv' := [(0, .ref (ad o)), (1, iv a1), (2, iv (v2 + 1))]) rfl ?_
    refine g_goto C 2 dX2_noteGrams_46 (by decide) ?_
    refine g_locals (lv' := [(0, .ref (ad o)), (1, iv a1), (2, iv (v2 + 1))]) rfl ?_
    exact hr2 _  _ h
  have pC2 : ∀ (r2 : Int → gSt → Prop) (X2_49 : gSt → Prop) (hr2 : ∀ (v2 : Int) (M : gSt), r2 v2 M → gG p l e (rmR 2 45) s m args below meth c Q D clC A (wC ad cI cS) 4 2 [(0, .ref (ad o)), (1, iv a1), (2, iv v2)] [] M) (hX2_49 : ∀  (M : gSt), X2_49  M → gG p l e (rmR 2 45) s m args below meth c Q D clC A (wC ad cI cS) 4 49 [] [] M) (v2 : Int) (M : gSt), wC_X2_noteGrams_2 o a1 k r2 X2_49 v2 M → gG p l e (rmR 2 45) s m args below meth c Q D clC A (wC ad cI cS) 4 2 [(0, .ref (ad o)), (1, iv a1), (2, iv v2)] [] M := by
    intro r2 X2_49 hr2 hX2_49 v2 M h
    unfold wC_X2_noteGrams_2 at h
    refine g_iload_n C dX2_noteGrams_2 rfl ?_
    refine g_bipush C dX2_noteGrams_3 rfl ?_
    refine g_icmp_ge C 49 dX2_noteGrams_5 (by decide) (fun hc => ?_) (fun hc => ?_)
    · replace h := h.1 hc
      refine g_locals (lv' := []) rfl ?_
      exact hX2_49  _ h
    · replace h := h.2 hc
      refine g_iload_n C dX2_noteGrams_8 rfl ?_
      refine g_bipush C dX2_noteGrams_9 rfl ?_
      refine g_imul C dX2_noteGrams_11 ?_
      refine g_iload_n C dX2_noteGrams_12 rfl ?_
      refine g_iadd C dX2_noteGrams_13 ?_
      refine g_name (fun x3_14 hx3_14 => ?_)
      replace h := h x3_14 hx3_14
      refine g_istore_n C dX2_noteGrams_14 (by decide) rfl ?_
      refine g_locals (lv' := [(0, .ref (ad o)), (1, iv a1), (2, iv v2), (3, iv x3_14)]) rfl ?_
      refine g_iload_n C dX2_noteGrams_15 rfl ?_
      refine g_if_lt C 43 dX2_noteGrams_16 (by decide) (fun hc => ?_) (fun hc => ?_)
      · replace h := h.1 hc
        refine g_locals (lv' := [(0, .ref (ad o)), (1, iv a1), (2, iv v2)]) rfl ?_
        exact pB43 r2 X2_49 hr2 hX2_49 _ _ h
      · replace h := h.2 hc
        refine g_iload_n C dX2_noteGrams_19 rfl ?_
        refine g_aload_n C dX2_noteGrams_20 rfl ?_
        refine cf_X2_27 C h_o dX2_noteGrams_21 ?_
        refine g_alen C dX2_noteGrams_24 h_o.2.2.1 h_o.2.2.2.1 ?_
        refine g_icmp_ge C 43 dX2_noteGrams_25 (by decide) (fun hc => ?_) (fun hc => ?_)
        · replace h := h.1 hc
          refine g_locals (lv' := [(0, .ref (ad o)), (1, iv a1), (2, iv v2)]) rfl ?_
          exact pB43 r2 X2_49 hr2 hX2_49 _ _ h
        · replace h := h.2 hc
          refine g_aload_n C dX2_noteGrams_28 rfl ?_
          refine cf_X2_27 C h_o dX2_noteGrams_29 ?_
          refine g_iload_n C dX2_noteGrams_32 rfl ?_
          refine g_aload_n C dX2_noteGrams_33 rfl ?_
          refine cf_X2_12 C h_o dX2_noteGrams_34 ?_
          refine g_iload_n C dX2_noteGrams_37 rfl ?_
          refine g_iconst C dX2_noteGrams_38 ?_
          refine g_callVi C (nargs := 2) (o := (o + 1)) (st := [iv x3_14, .ref (ad (o + 5))]) (m_X0_number h) (show isBronze (o + 1) from h.1).1 (show isBronze (o + 1) from h.1).2.1 rfl rfl gc_X2_55 (by decide +kernel) ⟨rfl, rfl⟩ dX2_noteGrams_39 ⟨by decide, by decide⟩ rfl rfl (Nat.le_of_ble_eq_true rfl) ?_
          intro r39c M39 hN
          replace h := hN
          clear hN
          refine g_iast C dX2_noteGrams_42 h_o.2.2.1 h_o.2.2.2 h.1 ?_
          replace h := h.2
          refine g_memname (fun M42 hM42 => ?_)
          replace h := h M42 hM42
          refine g_locals (lv' := [(0, .ref (ad o)), (1, iv a1), (2, iv v2)]) rfl ?_
          exact pB43 r2 X2_49 hr2 hX2_49 _ _ h
  have pL2 : ∀  (X2_49 : gSt → Prop) (hX2_49 : ∀  (M : gSt), X2_49  M → gG p l e (rmR 2 45) s m args below meth c Q D clC A (wC ad cI cS) 4 49 [] [] M) (n : Nat) (v2 : Int) (M : gSt), wL_X2_noteGrams_2 o a1 k  X2_49 n v2 M → gG p l e (rmR 2 45) s m args below meth c Q D clC A (wC ad cI cS) 4 2 [(0, .ref (ad o)), (1, iv a1), (2, iv v2)] [] M := by
    intro  X2_49 hX2_49 n
    induction n with
    | zero => intro v2 M h; exact h.elim
    | succ n ih =>
      intro v2 M h
      exact pC2  (wL_X2_noteGrams_2 o a1 k  X2_49 n) X2_49 ih hX2_49 v2 M h
  refine g_locals (lv' := [(0, .ref (ad o)), (1, iv a1)]) rfl ?_
  refine g_iconst C dX2_noteGrams_0 ?_
  refine g_istore_n C dX2_noteGrams_1 (by decide) rfl ?_
  refine g_locals (lv' := [(0, .ref (ad o)), (1, iv a1), (2, iv 0)]) rfl ?_
  refine g_locals (lv' := [(0, .ref (ad o)), (1, iv a1), (2, iv 0)]) rfl ?_
  obtain ⟨n, h⟩ := h
  refine pL2 _ ?_ n _ _ h
  · intro  M2 hN
    replace h := hN
    clear hN
    exact hR _ _ _ dX2_noteGrams_49 h
end
section
def wB_X2_find_53 (o : Nat) (a1 : Nat) (k : gSt → Prop) (r9 : Int → gSt → Prop) (X9_59 : gSt → Prop) (v2 : Int) (M : gSt) : Prop :=
r9 (v2 + 1) M
def wC_X2_find_9 (o : Nat) (a1 : Nat) (k : gSt → Prop) (r9 : Int → gSt → Prop) (X9_59 : gSt → Prop) (v2 : Int) (M : gSt) : Prop :=
w_X4_size (a1 + 7) M (fun r15c M15 => 
  (wrap (xshl 1 r15c) ≤ wrap v2 →
    X9_59  M15) ∧
  (wrap v2 < wrap (xshl 1 r15c) →
    w_X2_follow o a1 v2 M15 (fun M25 => w_X2_isSo o (a1 + 9) M25 (fun r33c M33 => 
    (wrap r33c = 0 →
      wB_X2_find_53 o a1 k r9 X9_59 v2 M33) ∧
    (¬ wrap r33c = 0 →
      w_X4_append (o + 3) v2 0 0 M33 (fun r47c M47 => w_X2_noteGrams o r47c M47 (fun M50 => wB_X2_find_53 o a1 k r9 X9_59 v2 M50)))))))
def wL_X2_find_9 (o : Nat) (a1 : Nat) (k : gSt → Prop)  (X9_59 : gSt → Prop) : Nat → Int → gSt → Prop
  | 0 => fun _ _ => False
  | n + 1 => fun v2 M => wC_X2_find_9 o a1 k  (wL_X2_find_9 o a1 k  X9_59 n) X9_59 v2 M
def w_X2_find (o : Nat) (a1 : Nat) (M : gSt) (k : gSt → Prop) : Prop :=
  (isHistories o) ∧ ((isForge a1) ∧ (w_X4_clear (o + 3) M (fun M4 => ∃ n, wL_X2_find_9 o a1 k  (fun  M9 =>
    k M9) n 0 M4)))
set_option maxHeartbeats 4000000 in
set_option maxRecDepth 100000 in
theorem m_X2_find {l : Launch} {D : va_G} {tys : List (ClassId × FieldType)} {ad : Nat → Nat} {cI cS : ClassId} {o : Nat} {a1 : Nat} {M : gSt} {k : gSt → Prop} (h : w_X2_find o a1 M k) : MOv l yX2_find cX2_find 3 (rmR 6 147) D clC ((cI, .int) :: (cS, .object "OldBronze$Sheet") :: tys) (wC ad cI cS) tC zC [.ref (ad o), .ref (ad a1)] M k := by
  refine mov_intro (by decide +kernel) (Nat.le_of_ble_eq_true rfl) wc_244 ?_
  intro p e s m args below meth c A Q C hR
  unfold w_X2_find at h
  obtain ⟨h_o, h_a1, h⟩ := h
  have pB53 : ∀ (r9 : Int → gSt → Prop) (X9_59 : gSt → Prop) (hr9 : ∀ (v2 : Int) (M : gSt), r9 v2 M → gG p l e (rmR 6 147) s m args below meth c Q D clC A (wC ad cI cS) 3 9 [(0, .ref (ad o)), (1, .ref (ad a1)), (2, iv v2)] [] M) (hX9_59 : ∀  (M : gSt), X9_59  M → gG p l e (rmR 6 147) s m args below meth c Q D clC A (wC ad cI cS) 3 59 [] [] M) (v2 : Int) (M : gSt), wB_X2_find_53 o a1 k r9 X9_59 v2 M → gG p l e (rmR 6 147) s m args below meth c Q D clC A (wC ad cI cS) 3 53 [(0, .ref (ad o)), (1, .ref (ad a1)), (2, iv v2)] [] M := by
    intro r9 X9_59 hr9 hX9_59 v2 M h
    unfold wB_X2_find_53 at h
    refine g_iinc C dX2_find_53 rfl (by decide) rfl ?_
    refine g_locals (lv' := [(0, .ref (ad o)), (1, .ref (ad a1)), (2, iv (v2 + 1))]) rfl ?_
    refine g_goto C 9 dX2_find_56 (by decide) ?_
    refine g_locals (lv' := [(0, .ref (ad o)), (1, .ref (ad a1)), (2, iv (v2 + 1))]) rfl ?_
    exact hr9 _  _ h
  have pC9 : ∀ (r9 : Int → gSt → Prop) (X9_59 : gSt → Prop) (hr9 : ∀ (v2 : Int) (M : gSt), r9 v2 M → gG p l e (rmR 6 147) s m args below meth c Q D clC A (wC ad cI cS) 3 9 [(0, .ref (ad o)), (1, .ref (ad a1)), (2, iv v2)] [] M) (hX9_59 : ∀  (M : gSt), X9_59  M → gG p l e (rmR 6 147) s m args below meth c Q D clC A (wC ad cI cS) 3 59 [] [] M) (v2 : Int) (M : gSt), wC_X2_find_9 o a1 k r9 X9_59 v2 M → gG p l e (rmR 6 147) s m args below meth c Q D clC A (wC ad cI cS) 3 9 [(0, .ref (ad o)), (1, .ref (ad a1)), (2, iv v2)] [] M := by
    intro r9 X9_59 hr9 hX9_59 v2 M h
    unfold wC_X2_find_9 at h
    refine g_iload_n C dX2_find_9 rfl ?_
    refine g_iconst C dX2_find_10 ?_
    refine g_aload_n C dX2_find_11 rfl ?_
    refine cf_X2_40 C h_a1 dX2_find_12 ?_
    refine g_callVi C (nargs := 0) (o := (a1 + 7)) (st := [iv 1, iv v2]) (m_X4_size h) (show isRows (a1 + 7) from h.1).1 (show isRows (a1 + 7) from h.1).2.1 rfl rfl gc_X2_43 (by decide +kernel) ⟨rfl, rfl⟩ dX2_find_15 ⟨by decide, by decide⟩ rfl rfl (Nat.le_of_ble_eq_true rfl) ?_
    intro r15c M15 hN
    replace h := hN
    clear hN
    refine g_ishl C dX2_find_18 ?_
    refine g_icmp_ge C 59 dX2_find_19 (by decide) (fun hc => ?_) (fun hc => ?_)
    · replace h := h.1 hc
      refine g_locals (lv' := []) rfl ?_
      exact hX9_59  _ h
    · replace h := h.2 hc
      refine g_aload_n C dX2_find_22 rfl ?_
      refine g_aload_n C dX2_find_23 rfl ?_
      refine g_iload_n C dX2_find_24 rfl ?_
      refine g_callVv C (nargs := 2) (o := o) (st := []) (m_X2_follow h) (show isHistories o from h.1).1 (show isHistories o from h.1).2.1 rfl rfl gc_X2_61 (by decide +kernel) ⟨rfl, rfl⟩ dX2_find_25 ⟨by decide, by decide⟩ rfl rfl (Nat.le_of_ble_eq_true rfl) ?_
      intro M25 hN
      replace h := hN
      clear hN
      refine g_aload_n C dX2_find_28 rfl ?_
      refine g_aload_n C dX2_find_29 rfl ?_
      refine cf_X2_65 C h_a1 dX2_find_30 ?_
      refine g_callVi C (nargs := 1) (o := o) (st := []) (m_X2_isSo h) (show isHistories o from h.1).1 (show isHistories o from h.1).2.1 rfl rfl gc_X2_68 (by decide +kernel) ⟨rfl, rfl⟩ dX2_find_33 ⟨by decide, by decide⟩ rfl rfl (Nat.le_of_ble_eq_true rfl) ?_
      intro r33c M33 hN
      replace h := hN
      clear hN
      refine g_if_eq C 53 dX2_find_36 (by decide) (fun hc => ?_) (fun hc => ?_)
      · replace h := h.1 hc
        refine g_locals (lv' := [(0, .ref (ad o)), (1, .ref (ad a1)), (2, iv v2)]) rfl ?_
        exact pB53 r9 X9_59 hr9 hX9_59 _ _ h
      · replace h := h.2 hc
        refine g_aload_n C dX2_find_39 rfl ?_
        refine g_aload_n C dX2_find_40 rfl ?_
        refine cf_X2_23 C h_o dX2_find_41 ?_
        refine g_iload_n C dX2_find_44 rfl ?_
        refine g_iconst C dX2_find_45 ?_
        refine g_iconst C dX2_find_46 ?_
        refine g_callVi C (nargs := 3) (o := (o + 3)) (st := [.ref (ad o)]) (m_X4_append h) (show isRows (o + 3) from h.1).1 (show isRows (o + 3) from h.1).2.1 rfl rfl gc_X2_72 (by decide +kernel) ⟨rfl, rfl⟩ dX2_find_47 ⟨by decide, by decide⟩ rfl rfl (Nat.le_of_ble_eq_true rfl) ?_
        intro r47c M47 hN
        replace h := hN
        clear hN
        refine g_callVv C (nargs := 1) (o := o) (st := []) (m_X2_noteGrams h) (show isHistories o from h.1).1 (show isHistories o from h.1).2.1 rfl rfl gc_X2_76 (by decide +kernel) ⟨rfl, rfl⟩ dX2_find_50 ⟨by decide, by decide⟩ rfl rfl (Nat.le_of_ble_eq_true rfl) ?_
        intro M50 hN
        replace h := hN
        clear hN
        refine g_locals (lv' := [(0, .ref (ad o)), (1, .ref (ad a1)), (2, iv v2)]) rfl ?_
        exact pB53 r9 X9_59 hr9 hX9_59 _ _ h
  have pL9 : ∀  (X9_59 : gSt → Prop) (hX9_59 : ∀  (M : gSt), X9_59  M → gG p l e (rmR 6 147) s m args below meth c Q D clC A (wC ad cI cS) 3 59 [] [] M) (n : Nat) (v2 : Int) (M : gSt), wL_X2_find_9 o a1 k  X9_59 n v2 M → gG p l e (rmR 6 147) s m args below meth c Q D clC A (wC ad cI cS) 3 9 [(0, .ref (ad o)), (1, .ref (ad a1)), (2, iv v2)] [] M := by
    intro  X9_59 hX9_59 n
    induction n with
    | zero => intro v2 M h; exact h.elim
    | succ n ih =>
      intro v2 M h
      exact pC9  (wL_X2_find_9 o a1 k  X9_59 n) X9_59 ih hX9_59 v2 M h
  refine g_locals (lv' := [(0, .ref (ad o)), (1, .ref (ad a1))]) rfl ?_
  refine g_aload_n C dX2_find_0 rfl ?_
  refine cf_X2_23 C h_o dX2_find_1 ?_
  refine g_callVv C (nargs := 0) (o := (o + 3)) (st := []) (m_X4_clear h) (show isRows (o + 3) from h.1).1 (show isRows (o + 3) from h.1).2.1 rfl rfl gc_X2_58 (by decide +kernel) ⟨rfl, rfl⟩ dX2_find_4 ⟨by decide, by decide⟩ rfl rfl (Nat.le_of_ble_eq_true rfl) ?_
  intro M4 hN
  replace h := hN
  clear hN
  refine g_iconst C dX2_find_7 ?_
  refine g_istore_n C dX2_find_8 (by decide) rfl ?_
  refine g_locals (lv' := [(0, .ref (ad o)), (1, .ref (ad a1)), (2, iv 0)]) rfl ?_
  refine g_locals (lv' := [(0, .ref (ad o)), (1, .ref (ad a1)), (2, iv 0)]) rfl ?_
  obtain ⟨n, h⟩ := h
  refine pL9 _ ?_ n _ _ h
  · intro  M9 hN
    replace h := hN
    clear hN
    exact hR _ _ _ dX2_find_59 h
def w_X2_notedGrams (o : Nat) (a1 : Int) (a2 : Int) (M : gSt) (k : Int → gSt → Prop) : Prop :=
  (isHistories o) ∧ (∀ x3_6 : Int, x3_6 = (a1 * 12) + a2 → (
  (wrap x3_6 < 0 →
    k 0 M) ∧
  (0 ≤ wrap x3_6 →

    (wrap (lenC (o + 5) : Int) ≤ wrap x3_6 →
      k 0 M) ∧
    (wrap x3_6 < wrap (lenC (o + 5) : Int) →
      ((0 : Int) ≤ x3_6 ∧ x3_6 < lenC (o + 5)) ∧ (k (M (o + 5) x3_6) M)))))
set_option maxHeartbeats 4000000 in
set_option maxRecDepth 100000 in
theorem m_X2_notedGrams {l : Launch} {D : va_G} {tys : List (ClassId × FieldType)} {ad : Nat → Nat} {cI cS : ClassId} {o : Nat} {a1 : Int} {a2 : Int} {M : gSt} {k : Int → gSt → Prop} (h : w_X2_notedGrams o a1 a2 M k) : MOi l yX2_notedGrams cX2_notedGrams 4 .int (rmR 0 0) D clC ((cI, .int) :: (cS, .object "OldBronze$Sheet") :: tys) (wC ad cI cS) tC zC [.ref (ad o), iv a1, iv a2] M k := by
  refine moi_intro (by decide +kernel) (Nat.le_of_ble_eq_true rfl) wc_245 ?_
  intro p e s m args below meth c A Q C hR
  unfold w_X2_notedGrams at h
  obtain ⟨h_o, h⟩ := h
  refine g_locals (lv' := [(0, .ref (ad o)), (1, iv a1), (2, iv a2)]) rfl ?_
  refine g_iload_n C dX2_notedGrams_0 rfl ?_
  refine g_bipush C dX2_notedGrams_1 rfl ?_
  refine g_imul C dX2_notedGrams_3 ?_
  refine g_iload_n C dX2_notedGrams_4 rfl ?_
  refine g_iadd C dX2_notedGrams_5 ?_
  refine g_name (fun x3_6 hx3_6 => ?_)
  replace h := h x3_6 hx3_6
  refine g_istore_n C dX2_notedGrams_6 (by decide) rfl ?_
  refine g_locals (lv' := [(0, .ref (ad o)), (1, iv a1), (2, iv a2), (3, iv x3_6)]) rfl ?_
  refine g_iload_n C dX2_notedGrams_7 rfl ?_
  refine g_if_lt C 29 dX2_notedGrams_8 (by decide) (fun hc => ?_) (fun hc => ?_)
  · replace h := h.1 hc
    refine g_iconst C dX2_notedGrams_29 ?_
    exact hR _ _ _ _ dX2_notedGrams_30 rfl h
  · replace h := h.2 hc
    refine g_iload_n C dX2_notedGrams_11 rfl ?_
    refine g_aload_n C dX2_notedGrams_12 rfl ?_
    refine cf_X2_27 C h_o dX2_notedGrams_13 ?_
    refine g_alen C dX2_notedGrams_16 h_o.2.2.1 h_o.2.2.2.1 ?_
    refine g_icmp_ge C 29 dX2_notedGrams_17 (by decide) (fun hc => ?_) (fun hc => ?_)
    · replace h := h.1 hc
      refine g_iconst C dX2_notedGrams_29 ?_
      exact hR _ _ _ _ dX2_notedGrams_30 rfl h
    · replace h := h.2 hc
      refine g_aload_n C dX2_notedGrams_20 rfl ?_
      refine cf_X2_27 C h_o dX2_notedGrams_21 ?_
      refine g_iload_n C dX2_notedGrams_24 rfl ?_
      refine g_iald C dX2_notedGrams_25 h_o.2.2.1 h_o.2.2.2 h.1 ?_
      replace h := h.2
      refine g_goto C 30 dX2_notedGrams_26 (by decide) ?_
      exact hR _ _ _ _ dX2_notedGrams_30 rfl h
def w_X2_size (o : Nat) (M : gSt) (k : Int → gSt → Prop) : Prop :=
  (isHistories o) ∧ (w_X4_size (o + 3) M (fun r4c M4 => k r4c M4))
set_option maxHeartbeats 4000000 in
set_option maxRecDepth 100000 in
theorem m_X2_size {l : Launch} {D : va_G} {tys : List (ClassId × FieldType)} {ad : Nat → Nat} {cI cS : ClassId} {o : Nat} {M : gSt} {k : Int → gSt → Prop} (h : w_X2_size o M k) : MOi l yX2_size cX2_size 1 .int (rmR 1 20) D clC ((cI, .int) :: (cS, .object "OldBronze$Sheet") :: tys) (wC ad cI cS) tC zC [.ref (ad o)] M k := by
  refine moi_intro (by decide +kernel) (Nat.le_of_ble_eq_true rfl) wc_246 ?_
  intro p e s m args below meth c A Q C hR
  unfold w_X2_size at h
  obtain ⟨h_o, h⟩ := h
  refine g_locals (lv' := [(0, .ref (ad o))]) rfl ?_
  refine g_aload_n C dX2_size_0 rfl ?_
  refine cf_X2_23 C h_o dX2_size_1 ?_
  refine g_callVi C (nargs := 0) (o := (o + 3)) (st := []) (m_X4_size h) (show isRows (o + 3) from h.1).1 (show isRows (o + 3) from h.1).2.1 rfl rfl gc_X2_43 (by decide +kernel) ⟨rfl, rfl⟩ dX2_size_4 ⟨by decide, by decide⟩ rfl rfl (Nat.le_of_ble_eq_true rfl) ?_
  intro r4c M4 hN
  replace h := hN
  clear hN
  exact hR _ _ _ _ dX2_size_7 rfl h
def w_X2_fitting (o : Nat) (a1 : Int) (M : gSt) (k : Int → gSt → Prop) : Prop :=
  (isHistories o) ∧ (w_X4_at (o + 3) a1 0 M (fun r6c M6 => k r6c M6))
set_option maxHeartbeats 4000000 in
set_option maxRecDepth 100000 in
theorem m_X2_fitting {l : Launch} {D : va_G} {tys : List (ClassId × FieldType)} {ad : Nat → Nat} {cI cS : ClassId} {o : Nat} {a1 : Int} {M : gSt} {k : Int → gSt → Prop} (h : w_X2_fitting o a1 M k) : MOi l yX2_fitting cX2_fitting 2 .int (rmR 1 24) D clC ((cI, .int) :: (cS, .object "OldBronze$Sheet") :: tys) (wC ad cI cS) tC zC [.ref (ad o), iv a1] M k := by
  refine moi_intro (by decide +kernel) (Nat.le_of_ble_eq_true rfl) wc_247 ?_
  intro p e s m args below meth c A Q C hR
  unfold w_X2_fitting at h
  obtain ⟨h_o, h⟩ := h
  refine g_locals (lv' := [(0, .ref (ad o)), (1, iv a1)]) rfl ?_
  refine g_aload_n C dX2_fitting_0 rfl ?_
  refine cf_X2_23 C h_o dX2_fitting_1 ?_
  refine g_iload_n C dX2_fitting_4 rfl ?_
  refine g_iconst C dX2_fitting_5 ?_
  refine g_callVi C (nargs := 2) (o := (o + 3)) (st := []) (m_X4_at h) (show isRows (o + 3) from h.1).1 (show isRows (o + 3) from h.1).2.1 rfl rfl gc_X2_47 (by decide +kernel) ⟨rfl, rfl⟩ dX2_fitting_6 ⟨by decide, by decide⟩ rfl rfl (Nat.le_of_ble_eq_true rfl) ?_
  intro r6c M6 hN
  replace h := hN
  clear hN
  exact hR _ _ _ _ dX2_fitting_9 rfl h
def wC_X2_inAll_4 (o : Nat) (a1 : Int) (k : Int → gSt → Prop) (r4 : Int → Int → gSt → Prop) (X4_29 : Int → gSt → Prop) (v2 : Int) (v3 : Int) (M : gSt) : Prop :=
w_X4_size (o + 3) M (fun r9c M9 => 
  (wrap r9c ≤ wrap v3 →
    X4_29 v2 M9) ∧
  (wrap v3 < wrap r9c →
    w_X2_fitting o v3 M9 (fun r18c M18 => ∀ x2_22 : Int, x2_22 = xand v2 r18c → (r4 x2_22 (v3 + 1) M18))))
def wL_X2_inAll_4 (o : Nat) (a1 : Int) (k : Int → gSt → Prop)  (X4_29 : Int → gSt → Prop) : Nat → Int → Int → gSt → Prop
  | 0 => fun _ _ _ => False
  | n + 1 => fun v2 v3 M => wC_X2_inAll_4 o a1 k  (wL_X2_inAll_4 o a1 k  X4_29 n) X4_29 v2 v3 M
def w_X2_inAll (o : Nat) (a1 : Int) (M : gSt) (k : Int → gSt → Prop) : Prop :=
  (isHistories o) ∧ (∃ n, wL_X2_inAll_4 o a1 k  (fun u2_4 M4 =>
    k u2_4 M4) n a1 0 M)
set_option maxHeartbeats 4000000 in
set_option maxRecDepth 100000 in
theorem m_X2_inAll {l : Launch} {D : va_G} {tys : List (ClassId × FieldType)} {ad : Nat → Nat} {cI cS : ClassId} {o : Nat} {a1 : Int} {M : gSt} {k : Int → gSt → Prop} (h : w_X2_inAll o a1 M k) : MOi l yX2_inAll cX2_inAll 4 .int (rmR 2 45) D clC ((cI, .int) :: (cS, .object "OldBronze$Sheet") :: tys) (wC ad cI cS) tC zC [.ref (ad o), iv a1] M k := by
  refine moi_intro (by decide +kernel) (Nat.le_of_ble_eq_true rfl) wc_248 ?_
  intro p e s m args below meth c A Q C hR
  unfold w_X2_inAll at h
  obtain ⟨h_o, h⟩ := h
  have pC4 : ∀ (r4 : Int → Int → gSt → Prop) (X4_29 : Int → gSt → Prop) (hr4 : ∀ (v2 : Int) (v3 : Int) (M : gSt), r4 v2 v3 M → gG p l e (rmR 2 45) s m args below meth c Q D clC A (wC ad cI cS) 4 4 [(0, .ref (ad o)), (2, iv v2), (3, iv v3)] [] M) (hX4_29 : ∀ (v2 : Int) (M : gSt), X4_29 v2 M → gG p l e (rmR 2 45) s m args below meth c Q D clC A (wC ad cI cS) 4 29 [(2, iv v2)] [] M) (v2 : Int) (v3 : Int) (M : gSt), wC_X2_inAll_4 o a1 k r4 X4_29 v2 v3 M → gG p l e (rmR 2 45) s m args below meth c Q D clC A (wC ad cI cS) 4 4 [(0, .ref (ad o)), (2, iv v2), (3, iv v3)] [] M := by
    intro r4 X4_29 hr4 hX4_29 v2 v3 M h
    unfold wC_X2_inAll_4 at h
    refine g_iload_n C dX2_inAll_4 rfl ?_
    refine g_aload_n C dX2_inAll_5 rfl ?_
    refine cf_X2_23 C h_o dX2_inAll_6 ?_
    refine g_callVi C (nargs := 0) (o := (o + 3)) (st := [iv v3]) (m_X4_size h) (show isRows (o + 3) from h.1).1 (show isRows (o + 3) from h.1).2.1 rfl rfl gc_X2_43 (by decide +kernel) ⟨rfl, rfl⟩ dX2_inAll_9 ⟨by decide, by decide⟩ rfl rfl (Nat.le_of_ble_eq_true rfl) ?_
    intro r9c M9 hN
    replace h := hN
    clear hN
    refine g_icmp_ge C 29 dX2_inAll_12 (by decide) (fun hc => ?_) (fun hc => ?_)
    · replace h := h.1 hc
      refine g_locals (lv' := [(2, iv v2)]) rfl ?_
      exact hX4_29 _  _ h
    · replace h := h.2 hc
      refine g_iload_n C dX2_inAll_15 rfl ?_
      refine g_aload_n C dX2_inAll_16 rfl ?_
      refine g_iload_n C dX2_inAll_17 rfl ?_
      refine g_callVi C (nargs := 1) (o := o) (st := [iv v2]) (m_X2_fitting h) (show isHistories o from h.1).1 (show isHistories o from h.1).2.1 rfl rfl gc_X2_86 (by decide +kernel) ⟨rfl, rfl⟩ dX2_inAll_18 ⟨by decide, by decide⟩ rfl rfl (Nat.le_of_ble_eq_true rfl) ?_
      intro r18c M18 hN
      replace h := hN
      clear hN
      refine g_iand C dX2_inAll_21 ?_
      refine g_name (fun x2_22 hx2_22 => ?_)
      replace h := h x2_22 hx2_22
      refine g_istore_n C dX2_inAll_22 (by decide) rfl ?_
      refine g_locals (lv' := [(0, .ref (ad o)), (2, iv x2_22), (3, iv v3)]) rfl ?_
      refine g_iinc C dX2_inAll_23 rfl (by decide) rfl ?_
      refine g_locals (lv' := [(0, .ref (ad o)), (2, iv x2_22), (3, iv (v3 + 1))]) rfl ?_
      refine g_goto C 4 dX2_inAll_26 (by decide) ?_
      refine g_locals (lv' := [(0, .ref (ad o)), (2, iv x2_22), (3, iv (v3 + 1))]) rfl ?_
      exact hr4 _ _  _ h
  have pL4 : ∀  (X4_29 : Int → gSt → Prop) (hX4_29 : ∀ (v2 : Int) (M : gSt), X4_29 v2 M → gG p l e (rmR 2 45) s m args below meth c Q D clC A (wC ad cI cS) 4 29 [(2, iv v2)] [] M) (n : Nat) (v2 : Int) (v3 : Int) (M : gSt), wL_X2_inAll_4 o a1 k  X4_29 n v2 v3 M → gG p l e (rmR 2 45) s m args below meth c Q D clC A (wC ad cI cS) 4 4 [(0, .ref (ad o)), (2, iv v2), (3, iv v3)] [] M := by
    intro  X4_29 hX4_29 n
    induction n with
    | zero => intro v2 v3 M h; exact h.elim
    | succ n ih =>
      intro v2 v3 M h
      exact pC4  (wL_X2_inAll_4 o a1 k  X4_29 n) X4_29 ih hX4_29 v2 v3 M h
  refine g_locals (lv' := [(0, .ref (ad o)), (1, iv a1)]) rfl ?_
  refine g_iload_n C dX2_inAll_0 rfl ?_
  refine g_istore_n C dX2_inAll_1 (by decide) rfl ?_
  refine g_locals (lv' := [(0, .ref (ad o)), (1, iv a1), (2, iv a1)]) rfl ?_
  refine g_iconst C dX2_inAll_2 ?_
  refine g_istore_n C dX2_inAll_3 (by decide) rfl ?_
  refine g_locals (lv' := [(0, .ref (ad o)), (1, iv a1), (2, iv a1), (3, iv 0)]) rfl ?_
  refine g_locals (lv' := [(0, .ref (ad o)), (2, iv a1), (3, iv 0)]) rfl ?_
  obtain ⟨n, h⟩ := h
  refine pL4 _ ?_ n _ _ _ h
  · intro u2_4 M4 hN
    replace h := hN
    clear hN
    refine g_iload_n C dX2_inAll_29 rfl ?_
    exact hR _ _ _ _ dX2_inAll_30 rfl h
def wC_X2_inAny_4 (o : Nat) (k : Int → gSt → Prop) (r4 : Int → Int → gSt → Prop) (X4_29 : Int → gSt → Prop) (v1 : Int) (v2 : Int) (M : gSt) : Prop :=
w_X4_size (o + 3) M (fun r9c M9 => 
  (wrap r9c ≤ wrap v2 →
    X4_29 v1 M9) ∧
  (wrap v2 < wrap r9c →
    w_X2_fitting o v2 M9 (fun r18c M18 => ∀ x1_22 : Int, x1_22 = xor2 v1 r18c → (r4 x1_22 (v2 + 1) M18))))
def wL_X2_inAny_4 (o : Nat) (k : Int → gSt → Prop)  (X4_29 : Int → gSt → Prop) : Nat → Int → Int → gSt → Prop
  | 0 => fun _ _ _ => False
  | n + 1 => fun v1 v2 M => wC_X2_inAny_4 o k  (wL_X2_inAny_4 o k  X4_29 n) X4_29 v1 v2 M
def w_X2_inAny (o : Nat) (M : gSt) (k : Int → gSt → Prop) : Prop :=
  (isHistories o) ∧ (∃ n, wL_X2_inAny_4 o k  (fun u1_4 M4 =>
    k u1_4 M4) n 0 0 M)
set_option maxHeartbeats 4000000 in
set_option maxRecDepth 100000 in
theorem m_X2_inAny {l : Launch} {D : va_G} {tys : List (ClassId × FieldType)} {ad : Nat → Nat} {cI cS : ClassId} {o : Nat} {M : gSt} {k : Int → gSt → Prop} (h : w_X2_inAny o M k) : MOi l yX2_inAny cX2_inAny 3 .int (rmR 2 45) D clC ((cI, .int) :: (cS, .object "OldBronze$Sheet") :: tys) (wC ad cI cS) tC zC [.ref (ad o)] M k := by
  refine moi_intro (by decide +kernel) (Nat.le_of_ble_eq_true rfl) wc_252 ?_
  intro p e s m args below meth c A Q C hR
  unfold w_X2_inAny at h
  obtain ⟨h_o, h⟩ := h
  have pC4 : ∀ (r4 : Int → Int → gSt → Prop) (X4_29 : Int → gSt → Prop) (hr4 : ∀ (v1 : Int) (v2 : Int) (M : gSt), r4 v1 v2 M → gG p l e (rmR 2 45) s m args below meth c Q D clC A (wC ad cI cS) 3 4 [(0, .ref (ad o)), (1, iv v1), (2, iv v2)] [] M) (hX4_29 : ∀ (v1 : Int) (M : gSt), X4_29 v1 M → gG p l e (rmR 2 45) s m args below meth c Q D clC A (wC ad cI cS) 3 29 [(1, iv v1)] [] M) (v1 : Int) (v2 : Int) (M : gSt), wC_X2_inAny_4 o k r4 X4_29 v1 v2 M → gG p l e (rmR 2 45) s m args below meth c Q D clC A (wC ad cI cS) 3 4 [(0, .ref (ad o)), (1, iv v1), (2, iv v2)] [] M := by
    intro r4 X4_29 hr4 hX4_29 v1 v2 M h
    unfold wC_X2_inAny_4 at h
    refine g_iload_n C dX2_inAny_4 rfl ?_
    refine g_aload_n C dX2_inAny_5 rfl ?_
    refine cf_X2_23 C h_o dX2_inAny_6 ?_
    refine g_callVi C (nargs := 0) (o := (o + 3)) (st := [iv v2]) (m_X4_size h) (show isRows (o + 3) from h.1).1 (show isRows (o + 3) from h.1).2.1 rfl rfl gc_X2_43 (by decide +kernel) ⟨rfl, rfl⟩ dX2_inAny_9 ⟨by decide, by decide⟩ rfl rfl (Nat.le_of_ble_eq_true rfl) ?_
    intro r9c M9 hN
    replace h := hN
    clear hN
    refine g_icmp_ge C 29 dX2_inAny_12 (by decide) (fun hc => ?_) (fun hc => ?_)
    · replace h := h.1 hc
      refine g_locals (lv' := [(1, iv v1)]) rfl ?_
      exact hX4_29 _  _ h
    · replace h := h.2 hc
      refine g_iload_n C dX2_inAny_15 rfl ?_
      refine g_aload_n C dX2_inAny_16 rfl ?_
      refine g_iload_n C dX2_inAny_17 rfl ?_
      refine g_callVi C (nargs := 1) (o := o) (st := [iv v1]) (m_X2_fitting h) (show isHistories o from h.1).1 (show isHistories o from h.1).2.1 rfl rfl gc_X2_86 (by decide +kernel) ⟨rfl, rfl⟩ dX2_inAny_18 ⟨by decide, by decide⟩ rfl rfl (Nat.le_of_ble_eq_true rfl) ?_
      intro r18c M18 hN
      replace h := hN
      clear hN
      refine g_ior C dX2_inAny_21 ?_
      refine g_name (fun x1_22 hx1_22 => ?_)
      replace h := h x1_22 hx1_22
      refine g_istore_n C dX2_inAny_22 (by decide) rfl ?_
      refine g_locals (lv' := [(0, .ref (ad o)), (1, iv x1_22), (2, iv v2)]) rfl ?_
      refine g_iinc C dX2_inAny_23 rfl (by decide) rfl ?_
      refine g_locals (lv' := [(0, .ref (ad o)), (1, iv x1_22), (2, iv (v2 + 1))]) rfl ?_
      refine g_goto C 4 dX2_inAny_26 (by decide) ?_
      refine g_locals (lv' := [(0, .ref (ad o)), (1, iv x1_22), (2, iv (v2 + 1))]) rfl ?_
      exact hr4 _ _  _ h
  have pL4 : ∀  (X4_29 : Int → gSt → Prop) (hX4_29 : ∀ (v1 : Int) (M : gSt), X4_29 v1 M → gG p l e (rmR 2 45) s m args below meth c Q D clC A (wC ad cI cS) 3 29 [(1, iv v1)] [] M) (n : Nat) (v1 : Int) (v2 : Int) (M : gSt), wL_X2_inAny_4 o k  X4_29 n v1 v2 M → gG p l e (rmR 2 45) s m args below meth c Q D clC A (wC ad cI cS) 3 4 [(0, .ref (ad o)), (1, iv v1), (2, iv v2)] [] M := by
    intro  X4_29 hX4_29 n
    induction n with
    | zero => intro v1 v2 M h; exact h.elim
    | succ n ih =>
      intro v1 v2 M h
      exact pC4  (wL_X2_inAny_4 o k  X4_29 n) X4_29 ih hX4_29 v1 v2 M h
  refine g_locals (lv' := [(0, .ref (ad o))]) rfl ?_
  refine g_iconst C dX2_inAny_0 ?_
  refine g_istore_n C dX2_inAny_1 (by decide) rfl ?_
  refine g_locals (lv' := [(0, .ref (ad o)), (1, iv 0)]) rfl ?_
  refine g_iconst C dX2_inAny_2 ?_
  refine g_istore_n C dX2_inAny_3 (by decide) rfl ?_
  refine g_locals (lv' := [(0, .ref (ad o)), (1, iv 0), (2, iv 0)]) rfl ?_
  refine g_locals (lv' := [(0, .ref (ad o)), (1, iv 0), (2, iv 0)]) rfl ?_
  obtain ⟨n, h⟩ := h
  refine pL4 _ ?_ n _ _ _ h
  · intro u1_4 M4 hN
    replace h := hN
    clear hN
    refine g_iload_n C dX2_inAny_29 rfl ?_
    exact hR _ _ _ _ dX2_inAny_30 rfl h
def wC_X2_mostPapers_4 (o : Nat) (k : Int → gSt → Prop) (r4 : Int → Int → gSt → Prop) (X4_34 : Int → gSt → Prop) (v1 : Int) (v2 : Int) (M : gSt) : Prop :=
w_X4_size (o + 3) M (fun r9c M9 => 
  (wrap r9c ≤ wrap v2 →
    X4_34 v1 M9) ∧
  (wrap v2 < wrap r9c →
    w_X2_fitting o v2 M9 (fun r18c M18 => w_J6_bitCount_0f7a4 r18c M18 (fun r21c M21 => ∀ x1_27 : Int, x1_27 = xmax v1 r21c → (r4 x1_27 (v2 + 1) M21)))))
def wL_X2_mostPapers_4 (o : Nat) (k : Int → gSt → Prop)  (X4_34 : Int → gSt → Prop) : Nat → Int → Int → gSt → Prop
  | 0 => fun _ _ _ => False
  | n + 1 => fun v1 v2 M => wC_X2_mostPapers_4 o k  (wL_X2_mostPapers_4 o k  X4_34 n) X4_34 v1 v2 M
def w_X2_mostPapers (o : Nat) (M : gSt) (k : Int → gSt → Prop) : Prop :=
  (isHistories o) ∧ (∃ n, wL_X2_mostPapers_4 o k  (fun u1_4 M4 =>
    k u1_4 M4) n 0 0 M)
set_option maxHeartbeats 4000000 in
set_option maxRecDepth 100000 in
theorem m_X2_mostPapers {l : Launch} {D : va_G} {tys : List (ClassId × FieldType)} {ad : Nat → Nat} {cI cS : ClassId} {o : Nat} {M : gSt} {k : Int → gSt → Prop} (h : w_X2_mostPapers o M k) : MOi l yX2_mostPapers cX2_mostPapers 3 .int (rmR 2 45) D clC ((cI, .int) :: (cS, .object "OldBronze$Sheet") :: tys) (wC ad cI cS) tC zC [.ref (ad o)] M k := by
  refine moi_intro (by decide +kernel) (Nat.le_of_ble_eq_true rfl) wc_255 ?_
  intro p e s m args below meth c A Q C hR
  unfold w_X2_mostPapers at h
  obtain ⟨h_o, h⟩ := h
  have pC4 : ∀ (r4 : Int → Int → gSt → Prop) (X4_34 : Int → gSt → Prop) (hr4 : ∀ (v1 : Int) (v2 : Int) (M : gSt), r4 v1 v2 M → gG p l e (rmR 2 45) s m args below meth c Q D clC A (wC ad cI cS) 3 4 [(0, .ref (ad o)), (1, iv v1), (2, iv v2)] [] M) (hX4_34 : ∀ (v1 : Int) (M : gSt), X4_34 v1 M → gG p l e (rmR 2 45) s m args below meth c Q D clC A (wC ad cI cS) 3 34 [(1, iv v1)] [] M) (v1 : Int) (v2 : Int) (M : gSt), wC_X2_mostPapers_4 o k r4 X4_34 v1 v2 M → gG p l e (rmR 2 45) s m args below meth c Q D clC A (wC ad cI cS) 3 4 [(0, .ref (ad o)), (1, iv v1), (2, iv v2)] [] M := by
    intro r4 X4_34 hr4 hX4_34 v1 v2 M h
    unfold wC_X2_mostPapers_4 at h
    refine g_iload_n C dX2_mostPapers_4 rfl ?_
    refine g_aload_n C dX2_mostPapers_5 rfl ?_
    refine cf_X2_23 C h_o dX2_mostPapers_6 ?_
    refine g_callVi C (nargs := 0) (o := (o + 3)) (st := [iv v2]) (m_X4_size h) (show isRows (o + 3) from h.1).1 (show isRows (o + 3) from h.1).2.1 rfl rfl gc_X2_43 (by decide +kernel) ⟨rfl, rfl⟩ dX2_mostPapers_9 ⟨by decide, by decide⟩ rfl rfl (Nat.le_of_ble_eq_true rfl) ?_
    intro r9c M9 hN
    replace h := hN
    clear hN
    refine g_icmp_ge C 34 dX2_mostPapers_12 (by decide) (fun hc => ?_) (fun hc => ?_)
    · replace h := h.1 hc
      refine g_locals (lv' := [(1, iv v1)]) rfl ?_
      exact hX4_34 _  _ h
    · replace h := h.2 hc
      refine g_iload_n C dX2_mostPapers_15 rfl ?_
      refine g_aload_n C dX2_mostPapers_16 rfl ?_
      refine g_iload_n C dX2_mostPapers_17 rfl ?_
      refine g_callVi C (nargs := 1) (o := o) (st := [iv v1]) (m_X2_fitting h) (show isHistories o from h.1).1 (show isHistories o from h.1).2.1 rfl rfl gc_X2_86 (by decide +kernel) ⟨rfl, rfl⟩ dX2_mostPapers_18 ⟨by decide, by decide⟩ rfl rfl (Nat.le_of_ble_eq_true rfl) ?_
      intro r18c M18 hN
      replace h := hN
      clear hN
      refine g_callSi C (nargs := 1) (st := [iv v1]) (m_J6_bitCount_0f7a4 h) gc_X2_89 (by decide +kernel) ⟨rfl, rfl⟩ dX2_mostPapers_21 ⟨by decide, by decide⟩ rfl rfl (Nat.le_of_ble_eq_true rfl) ?_
      intro r21c M21 hN
      replace h := hN
      clear hN
      refine g_mmax C (st := []) dX2_mostPapers_24 wc_253 wc_91 wc_62 wc_92 (by decide) (Nat.le_of_ble_eq_true rfl) ?_
      refine g_name (fun x1_27 hx1_27 => ?_)
      replace h := h x1_27 hx1_27
      refine g_istore_n C dX2_mostPapers_27 (by decide) rfl ?_
      refine g_locals (lv' := [(0, .ref (ad o)), (1, iv x1_27), (2, iv v2)]) rfl ?_
      refine g_iinc C dX2_mostPapers_28 rfl (by decide) rfl ?_
      refine g_locals (lv' := [(0, .ref (ad o)), (1, iv x1_27), (2, iv (v2 + 1))]) rfl ?_
      refine g_goto C 4 dX2_mostPapers_31 (by decide) ?_
      refine g_locals (lv' := [(0, .ref (ad o)), (1, iv x1_27), (2, iv (v2 + 1))]) rfl ?_
      exact hr4 _ _  _ h
  have pL4 : ∀  (X4_34 : Int → gSt → Prop) (hX4_34 : ∀ (v1 : Int) (M : gSt), X4_34 v1 M → gG p l e (rmR 2 45) s m args below meth c Q D clC A (wC ad cI cS) 3 34 [(1, iv v1)] [] M) (n : Nat) (v1 : Int) (v2 : Int) (M : gSt), wL_X2_mostPapers_4 o k  X4_34 n v1 v2 M → gG p l e (rmR 2 45) s m args below meth c Q D clC A (wC ad cI cS) 3 4 [(0, .ref (ad o)), (1, iv v1), (2, iv v2)] [] M := by
    intro  X4_34 hX4_34 n
    induction n with
    | zero => intro v1 v2 M h; exact h.elim
    | succ n ih =>
      intro v1 v2 M h
      exact pC4  (wL_X2_mostPapers_4 o k  X4_34 n) X4_34 ih hX4_34 v1 v2 M h
  refine g_locals (lv' := [(0, .ref (ad o))]) rfl ?_
  refine g_iconst C dX2_mostPapers_0 ?_
  refine g_istore_n C dX2_mostPapers_1 (by decide) rfl ?_
  refine g_locals (lv' := [(0, .ref (ad o)), (1, iv 0)]) rfl ?_
  refine g_iconst C dX2_mostPapers_2 ?_
  refine g_istore_n C dX2_mostPapers_3 (by decide) rfl ?_
  refine g_locals (lv' := [(0, .ref (ad o)), (1, iv 0), (2, iv 0)]) rfl ?_
  refine g_locals (lv' := [(0, .ref (ad o)), (1, iv 0), (2, iv 0)]) rfl ?_
  obtain ⟨n, h⟩ := h
  refine pL4 _ ?_ n _ _ _ h
  · intro u1_4 M4 hN
    replace h := hN
    clear hN
    refine g_iload_n C dX2_mostPapers_34 rfl ?_
    exact hR _ _ _ _ dX2_mostPapers_35 rfl h
def wB_X2_outermost_71 (o : Nat) (a1 : Nat) (a2 : Int) (a3 : Int) (a4 : Int) (k : Int → gSt → Prop) (r6 : Int → Int → gSt → Prop) (X6_77 : Int → gSt → Prop) (v5 : Int) (v6 : Int) (M : gSt) : Prop :=
r6 v5 (v6 + 1) M
def wB_X2_outermost_67 (o : Nat) (a1 : Nat) (a2 : Int) (a3 : Int) (a4 : Int) (k : Int → gSt → Prop) (r6 : Int → Int → gSt → Prop) (X6_77 : Int → gSt → Prop) (v6 : Int) (v7 : Int) (M : gSt) : Prop :=
wB_X2_outermost_71 o a1 a2 a3 a4 k r6 X6_77 v7 v6 M
def wC_X2_outermost_6 (o : Nat) (a1 : Nat) (a2 : Int) (a3 : Int) (a4 : Int) (k : Int → gSt → Prop) (r6 : Int → Int → gSt → Prop) (X6_77 : Int → gSt → Prop) (v5 : Int) (v6 : Int) (M : gSt) : Prop :=
w_X4_size (o + 3) M (fun r12c M12 => 
  (wrap r12c ≤ wrap v6 →
    X6_77 v5 M12) ∧
  (wrap v6 < wrap r12c →
    w_X2_fitting o v6 M12 (fun r23c M23 => w_X2_follow o a1 r23c M23 (fun M26 => w_X0_number (o + 1) a2 a3 M26 (fun r35c M35 => 
    (wrap v6 = 0 →
      wB_X2_outermost_67 o a1 a2 a3 a4 k r6 X6_77 v6 r35c M35) ∧
    (¬ wrap v6 = 0 →

      (wrap a4 = 0 →

        (wrap v5 ≤ wrap r35c →
          wB_X2_outermost_71 o a1 a2 a3 a4 k r6 X6_77 v5 v6 M35) ∧
        (wrap r35c < wrap v5 →
          wB_X2_outermost_67 o a1 a2 a3 a4 k r6 X6_77 v6 r35c M35)) ∧
      (¬ wrap a4 = 0 →

        (wrap r35c ≤ wrap v5 →
          wB_X2_outermost_71 o a1 a2 a3 a4 k r6 X6_77 v5 v6 M35) ∧
        (wrap v5 < wrap r35c →
          wB_X2_outermost_67 o a1 a2 a3 a4 k r6 X6_77 v6 r35c M35))))))))
def wL_X2_outermost_6 (o : Nat) (a1 : Nat) (a2 : Int) (a3 : Int) (a4 : Int) (k : Int → gSt → Prop)  (X6_77 : Int → gSt → Prop) : Nat → Int → Int → gSt → Prop
  | 0 => fun _ _ _ => False
  | n + 1 => fun v5 v6 M => wC_X2_outermost_6 o a1 a2 a3 a4 k  (wL_X2_outermost_6 o a1 a2 a3 a4 k  X6_77 n) X6_77 v5 v6 M
def w_X2_outermost (o : Nat) (a1 : Nat) (a2 : Int) (a3 : Int) (a4 : Int) (M : gSt) (k : Int → gSt → Prop) : Prop :=
  (isHistories o) ∧ ((isForge a1) ∧ (∃ n, wL_X2_outermost_6 o a1 a2 a3 a4 k  (fun u5_6 M6 =>
    k u5_6 M6) n 0 0 M))
set_option maxHeartbeats 4000000 in
set_option maxRecDepth 100000 in
theorem m_X2_outermost {l : Launch} {D : va_G} {tys : List (ClassId × FieldType)} {ad : Nat → Nat} {cI cS : ClassId} {o : Nat} {a1 : Nat} {a2 : Int} {a3 : Int} {a4 : Int} {M : gSt} {k : Int → gSt → Prop} (h : w_X2_outermost o a1 a2 a3 a4 M k) : MOi l yX2_outermost cX2_outermost 8 .int (rmR 6 147) D clC ((cI, .int) :: (cS, .object "OldBronze$Sheet") :: tys) (wC ad cI cS) tC zC [.ref (ad o), .ref (ad a1), iv a2, iv a3, iv a4] M k := by
  refine moi_intro (by decide +kernel) (Nat.le_of_ble_eq_true rfl) wc_256 ?_
  intro p e s m args below meth c A Q C hR
  unfold w_X2_outermost at h
  obtain ⟨h_o, h_a1, h⟩ := h
  have pB71 : ∀ (r6 : Int → Int → gSt → Prop) (X6_77 : Int → gSt → Prop) (hr6 : ∀ (v5 : Int) (v6 : Int) (M : gSt), r6 v5 v6 M → gG p l e (rmR 6 147) s m args below meth c Q D clC A (wC ad cI cS) 8 6 [(0, .ref (ad o)), (1, .ref (ad a1)), (2, iv a2), (3, iv a3), (4, iv a4), (5, iv v5), (6, iv v6)] [] M) (hX6_77 : ∀ (v5 : Int) (M : gSt), X6_77 v5 M → gG p l e (rmR 6 147) s m args below meth c Q D clC A (wC ad cI cS) 8 77 [(5, iv v5)] [] M) (v5 : Int) (v6 : Int) (M : gSt), wB_X2_outermost_71 o a1 a2 a3 a4 k r6 X6_77 v5 v6 M → gG p l e (rmR 6 147) s m args below meth c Q D clC A (wC ad cI cS) 8 71 [(0, .ref (ad o)), (1, .ref (ad a1)), (2, iv a2), (3, iv a3), (4, iv a4), (5, iv v5), (6, iv v6)] [] M := by
    intro r6 X6_77 hr6 hX6_77 v5 v6 M h
    unfold wB_X2_outermost_71 at h
    refine g_iinc C dX2_outermost_71 rfl (by decide) rfl ?_
    refine g_locals (lv' := [(0, .ref (ad o)), (1, .ref (ad a1)), (2, iv a2), (3, iv a3), (4, iv a4), (5, iv v5), (6, iv (v6 + 1))]) rfl ?_
    refine g_goto C 6 dX2_outermost_74 (by decide) ?_
    refine g_locals (lv' := [(0, .ref (ad o)), (1, .ref (ad a1)), (2, iv a2), (3, iv a3), (4, iv a4), (5, iv v5), (6, iv (v6 + 1))]) rfl ?_
    exact hr6 _ _  _ h
  have pB67 : ∀ (r6 : Int → Int → gSt → Prop) (X6_77 : Int → gSt → Prop) (hr6 : ∀ (v5 : Int) (v6 : Int) (M : gSt), r6 v5 v6 M → gG p l e (rmR 6 147) s m args below meth c Q D clC A (wC ad cI cS) 8 6 [(0, .ref (ad o)), (1, .ref (ad a1)), (2, iv a2), (3, iv a3), (4, iv a4), (5, iv v5), (6, iv v6)] [] M) (hX6_77 : ∀ (v5 : Int) (M : gSt), X6_77 v5 M → gG p l e (rmR 6 147) s m args below meth c Q D clC A (wC ad cI cS) 8 77 [(5, iv v5)] [] M) (v6 : Int) (v7 : Int) (M : gSt), wB_X2_outermost_67 o a1 a2 a3 a4 k r6 X6_77 v6 v7 M → gG p l e (rmR 6 147) s m args below meth c Q D clC A (wC ad cI cS) 8 67 [(0, .ref (ad o)), (1, .ref (ad a1)), (2, iv a2), (3, iv a3), (4, iv a4), (6, iv v6), (7, iv v7)] [] M := by
    intro r6 X6_77 hr6 hX6_77 v6 v7 M h
    unfold wB_X2_outermost_67 at h
    refine g_iload C dX2_outermost_67 rfl ?_
    refine g_istore C dX2_outermost_69 (by decide) rfl ?_
    refine g_locals (lv' := [(0, .ref (ad o)), (1, .ref (ad a1)), (2, iv a2), (3, iv a3), (4, iv a4), (5, iv v7), (6, iv v6), (7, iv v7)]) rfl ?_
    refine g_locals (lv' := [(0, .ref (ad o)), (1, .ref (ad a1)), (2, iv a2), (3, iv a3), (4, iv a4), (5, iv v7), (6, iv v6)]) rfl ?_
    exact pB71 r6 X6_77 hr6 hX6_77 _ _ _ h
  have pC6 : ∀ (r6 : Int → Int → gSt → Prop) (X6_77 : Int → gSt → Prop) (hr6 : ∀ (v5 : Int) (v6 : Int) (M : gSt), r6 v5 v6 M → gG p l e (rmR 6 147) s m args below meth c Q D clC A (wC ad cI cS) 8 6 [(0, .ref (ad o)), (1, .ref (ad a1)), (2, iv a2), (3, iv a3), (4, iv a4), (5, iv v5), (6, iv v6)] [] M) (hX6_77 : ∀ (v5 : Int) (M : gSt), X6_77 v5 M → gG p l e (rmR 6 147) s m args below meth c Q D clC A (wC ad cI cS) 8 77 [(5, iv v5)] [] M) (v5 : Int) (v6 : Int) (M : gSt), wC_X2_outermost_6 o a1 a2 a3 a4 k r6 X6_77 v5 v6 M → gG p l e (rmR 6 147) s m args below meth c Q D clC A (wC ad cI cS) 8 6 [(0, .ref (ad o)), (1, .ref (ad a1)), (2, iv a2), (3, iv a3), (4, iv a4), (5, iv v5), (6, iv v6)] [] M := by
    intro r6 X6_77 hr6 hX6_77 v5 v6 M h
    unfold wC_X2_outermost_6 at h
    refine g_iload C dX2_outermost_6 rfl ?_
    refine g_aload_n C dX2_outermost_8 rfl ?_
    refine cf_X2_23 C h_o dX2_outermost_9 ?_
    refine g_callVi C (nargs := 0) (o := (o + 3)) (st := [iv v6]) (m_X4_size h) (show isRows (o + 3) from h.1).1 (show isRows (o + 3) from h.1).2.1 rfl rfl gc_X2_43 (by decide +kernel) ⟨rfl, rfl⟩ dX2_outermost_12 ⟨by decide, by decide⟩ rfl rfl (Nat.le_of_ble_eq_true rfl) ?_
    intro r12c M12 hN
    replace h := hN
    clear hN
    refine g_icmp_ge C 77 dX2_outermost_15 (by decide) (fun hc => ?_) (fun hc => ?_)
    · replace h := h.1 hc
      refine g_locals (lv' := [(5, iv v5)]) rfl ?_
      exact hX6_77 _  _ h
    · replace h := h.2 hc
      refine g_aload_n C dX2_outermost_18 rfl ?_
      refine g_aload_n C dX2_outermost_19 rfl ?_
      refine g_aload_n C dX2_outermost_20 rfl ?_
      refine g_iload C dX2_outermost_21 rfl ?_
      refine g_callVi C (nargs := 1) (o := o) (st := [.ref (ad a1), .ref (ad o)]) (m_X2_fitting h) (show isHistories o from h.1).1 (show isHistories o from h.1).2.1 rfl rfl gc_X2_86 (by decide +kernel) ⟨rfl, rfl⟩ dX2_outermost_23 ⟨by decide, by decide⟩ rfl rfl (Nat.le_of_ble_eq_true rfl) ?_
      intro r23c M23 hN
      replace h := hN
      clear hN
      refine g_callVv C (nargs := 2) (o := o) (st := []) (m_X2_follow h) (show isHistories o from h.1).1 (show isHistories o from h.1).2.1 rfl rfl gc_X2_61 (by decide +kernel) ⟨rfl, rfl⟩ dX2_outermost_26 ⟨by decide, by decide⟩ rfl rfl (Nat.le_of_ble_eq_true rfl) ?_
      intro M26 hN
      replace h := hN
      clear hN
      refine g_aload_n C dX2_outermost_29 rfl ?_
      refine cf_X2_12 C h_o dX2_outermost_30 ?_
      refine g_iload_n C dX2_outermost_33 rfl ?_
      refine g_iload_n C dX2_outermost_34 rfl ?_
      refine g_callVi C (nargs := 2) (o := (o + 1)) (st := []) (m_X0_number h) (show isBronze (o + 1) from h.1).1 (show isBronze (o + 1) from h.1).2.1 rfl rfl gc_X2_55 (by decide +kernel) ⟨rfl, rfl⟩ dX2_outermost_35 ⟨by decide, by decide⟩ rfl rfl (Nat.le_of_ble_eq_true rfl) ?_
      intro r35c M35 hN
      replace h := hN
      clear hN
      refine g_istore C dX2_outermost_38 (by decide) rfl ?_
      refine g_locals (lv' := [(0, .ref (ad o)), (1, .ref (ad a1)), (2, iv a2), (3, iv a3), (4, iv a4), (5, iv v5), (6, iv v6), (7, iv r35c)]) rfl ?_
      refine g_iload C dX2_outermost_40 rfl ?_
      refine g_if_eq C 67 dX2_outermost_42 (by decide) (fun hc => ?_) (fun hc => ?_)
      · replace h := h.1 hc
        refine g_locals (lv' := [(0, .ref (ad o)), (1, .ref (ad a1)), (2, iv a2), (3, iv a3), (4, iv a4), (6, iv v6), (7, iv r35c)]) rfl ?_
        exact pB67 r6 X6_77 hr6 hX6_77 _ _ _ h
      · replace h := h.2 hc
        refine g_iload C dX2_outermost_45 rfl ?_
        refine g_if_eq C 60 dX2_outermost_47 (by decide) (fun hc => ?_) (fun hc => ?_)
        · replace h := h.1 hc
          refine g_iload C dX2_outermost_60 rfl ?_
          refine g_iload C dX2_outermost_62 rfl ?_
          refine g_icmp_ge C 71 dX2_outermost_64 (by decide) (fun hc => ?_) (fun hc => ?_)
          · replace h := h.1 hc
            refine g_locals (lv' := [(0, .ref (ad o)), (1, .ref (ad a1)), (2, iv a2), (3, iv a3), (4, iv a4), (5, iv v5), (6, iv v6)]) rfl ?_
            exact pB71 r6 X6_77 hr6 hX6_77 _ _ _ h
          · replace h := h.2 hc
            refine g_locals (lv' := [(0, .ref (ad o)), (1, .ref (ad a1)), (2, iv a2), (3, iv a3), (4, iv a4), (6, iv v6), (7, iv r35c)]) rfl ?_
            exact pB67 r6 X6_77 hr6 hX6_77 _ _ _ h
        · replace h := h.2 hc
          refine g_iload C dX2_outermost_50 rfl ?_
          refine g_iload C dX2_outermost_52 rfl ?_
          refine g_icmp_le C 71 dX2_outermost_54 (by decide) (fun hc => ?_) (fun hc => ?_)
          · replace h := h.1 hc
            refine g_locals (lv' := [(0, .ref (ad o)), (1, .ref (ad a1)), (2, iv a2), (3, iv a3), (4, iv a4), (5, iv v5), (6, iv v6)]) rfl ?_
            exact pB71 r6 X6_77 hr6 hX6_77 _ _ _ h
          · replace h := h.2 hc
            refine g_goto C 67 dX2_outermost_57 (by decide) ?_
            refine g_locals (lv' := [(0, .ref (ad o)), (1, .ref (ad a1)), (2, iv a2), (3, iv a3), (4, iv a4), (6, iv v6), (7, iv r35c)]) rfl ?_
            exact pB67 r6 X6_77 hr6 hX6_77 _ _ _ h
  have pL6 : ∀  (X6_77 : Int → gSt → Prop) (hX6_77 : ∀ (v5 : Int) (M : gSt), X6_77 v5 M → gG p l e (rmR 6 147) s m args below meth c Q D clC A (wC ad cI cS) 8 77 [(5, iv v5)] [] M) (n : Nat) (v5 : Int) (v6 : Int) (M : gSt), wL_X2_outermost_6 o a1 a2 a3 a4 k  X6_77 n v5 v6 M → gG p l e (rmR 6 147) s m args below meth c Q D clC A (wC ad cI cS) 8 6 [(0, .ref (ad o)), (1, .ref (ad a1)), (2, iv a2), (3, iv a3), (4, iv a4), (5, iv v5), (6, iv v6)] [] M := by
    intro  X6_77 hX6_77 n
    induction n with
    | zero => intro v5 v6 M h; exact h.elim
    | succ n ih =>
      intro v5 v6 M h
      exact pC6  (wL_X2_outermost_6 o a1 a2 a3 a4 k  X6_77 n) X6_77 ih hX6_77 v5 v6 M h
  refine g_locals (lv' := [(0, .ref (ad o)), (1, .ref (ad a1)), (2, iv a2), (3, iv a3), (4, iv a4)]) rfl ?_
  refine g_iconst C dX2_outermost_0 ?_
  refine g_istore C dX2_outermost_1 (by decide) rfl ?_
  refine g_locals (lv' := [(0, .ref (ad o)), (1, .ref (ad a1)), (2, iv a2), (3, iv a3), (4, iv a4), (5, iv 0)]) rfl ?_
  refine g_iconst C dX2_outermost_3 ?_
  refine g_istore C dX2_outermost_4 (by decide) rfl ?_
  refine g_locals (lv' := [(0, .ref (ad o)), (1, .ref (ad a1)), (2, iv a2), (3, iv a3), (4, iv a4), (5, iv 0), (6, iv 0)]) rfl ?_
  refine g_locals (lv' := [(0, .ref (ad o)), (1, .ref (ad a1)), (2, iv a2), (3, iv a3), (4, iv a4), (5, iv 0), (6, iv 0)]) rfl ?_
  obtain ⟨n, h⟩ := h
  refine pL6 _ ?_ n _ _ _ h
  · intro u5_6 M6 hN
    replace h := hN
    clear hN
    refine g_iload C dX2_outermost_77 rfl ?_
    exact hR _ _ _ _ dX2_outermost_79 rfl h
def wB_X2_greatestHeap_52 (o : Nat) (a1 : Int) (k : Int → gSt → Prop) (r4 : Int → Int → gSt → Prop) (X4_71 : Int → gSt → Prop) (r21 : Int → Int → Int → Int → gSt → Prop) (X21_58 : Int → Int → Int → gSt → Prop) (v2 : Int) (v3 : Int) (v4 : Int) (v5 : Int) (M : gSt) : Prop :=
r21 v2 v3 v4 (v5 + 1) M
def wC_X2_greatestHeap_21 (o : Nat) (a1 : Int) (k : Int → gSt → Prop) (r4 : Int → Int → gSt → Prop) (X4_71 : Int → gSt → Prop) (r21 : Int → Int → Int → Int → gSt → Prop) (X21_58 : Int → Int → Int → gSt → Prop) (v2 : Int) (v3 : Int) (v4 : Int) (v5 : Int) (M : gSt) : Prop :=
w_X4_size (o + 3) M (fun r27c M27 => 
  (wrap r27c ≤ wrap v5 →
    X21_58 v2 v3 v4 M27) ∧
  (wrap v5 < wrap r27c →
    w_X2_notedGrams o v5 a1 M27 (fun r37c M37 => w_X2_notedGrams o v3 a1 M37 (fun r43c M43 => 
    (¬ wrap r37c = wrap r43c →
      wB_X2_greatestHeap_52 o a1 k r4 X4_71 r21 X21_58 v2 v3 v4 v5 M43) ∧
    (wrap r37c = wrap r43c →
      wB_X2_greatestHeap_52 o a1 k r4 X4_71 r21 X21_58 v2 v3 (v4 + 1) v5 M43)))))
def wL_X2_greatestHeap_21 (o : Nat) (a1 : Int) (k : Int → gSt → Prop) (r4 : Int → Int → gSt → Prop) (X4_71 : Int → gSt → Prop) (X21_58 : Int → Int → Int → gSt → Prop) : Nat → Int → Int → Int → Int → gSt → Prop
  | 0 => fun _ _ _ _ _ => False
  | n + 1 => fun v2 v3 v4 v5 M => wC_X2_greatestHeap_21 o a1 k r4 X4_71 (wL_X2_greatestHeap_21 o a1 k r4 X4_71 X21_58 n) X21_58 v2 v3 v4 v5 M
def wC_X2_greatestHeap_4 (o : Nat) (a1 : Int) (k : Int → gSt → Prop) (r4 : Int → Int → gSt → Prop) (X4_71 : Int → gSt → Prop) (v2 : Int) (v3 : Int) (M : gSt) : Prop :=
w_X4_size (o + 3) M (fun r9c M9 => 
  (wrap r9c ≤ wrap v3 →
    X4_71 v2 M9) ∧
  (wrap v3 < wrap r9c →
    ∃ n, wL_X2_greatestHeap_21 o a1 k r4 X4_71 (fun u2_21 u3_21 u4_21 M21 =>
      ∀ x2_64 : Int, x2_64 = xmax u2_21 u4_21 → (r4 x2_64 (u3_21 + 1) M21)) n v2 v3 0 v3 M9))
def wL_X2_greatestHeap_4 (o : Nat) (a1 : Int) (k : Int → gSt → Prop)  (X4_71 : Int → gSt → Prop) : Nat → Int → Int → gSt → Prop
  | 0 => fun _ _ _ => False
  | n + 1 => fun v2 v3 M => wC_X2_greatestHeap_4 o a1 k  (wL_X2_greatestHeap_4 o a1 k  X4_71 n) X4_71 v2 v3 M
def w_X2_greatestHeap (o : Nat) (a1 : Int) (M : gSt) (k : Int → gSt → Prop) : Prop :=
  (isHistories o) ∧ (∃ n, wL_X2_greatestHeap_4 o a1 k  (fun u2_4 M4 =>
    k u2_4 M4) n 0 0 M)
set_option maxHeartbeats 4000000 in
set_option maxRecDepth 100000 in
theorem m_X2_greatestHeap {l : Launch} {D : va_G} {tys : List (ClassId × FieldType)} {ad : Nat → Nat} {cI cS : ClassId} {o : Nat} {a1 : Int} {M : gSt} {k : Int → gSt → Prop} (h : w_X2_greatestHeap o a1 M k) : MOi l yX2_greatestHeap cX2_greatestHeap 6 .int (rmR 1 40) D clC ((cI, .int) :: (cS, .object "OldBronze$Sheet") :: tys) (wC ad cI cS) tC zC [.ref (ad o), iv a1] M k := by
  refine moi_intro (by decide +kernel) (Nat.le_of_ble_eq_true rfl) wc_257 ?_
  intro p e s m args below meth c A Q C hR
  unfold w_X2_greatestHeap at h
  obtain ⟨h_o, h⟩ := h
  have pB52 : ∀ (r4 : Int → Int → gSt → Prop) (X4_71 : Int → gSt → Prop) (r21 : Int → Int → Int → Int → gSt → Prop) (X21_58 : Int → Int → Int → gSt → Prop) (hr4 : ∀ (v2 : Int) (v3 : Int) (M : gSt), r4 v2 v3 M → gG p l e (rmR 1 40) s m args below meth c Q D clC A (wC ad cI cS) 6 4 [(0, .ref (ad o)), (1, iv a1), (2, iv v2), (3, iv v3)] [] M) (hX4_71 : ∀ (v2 : Int) (M : gSt), X4_71 v2 M → gG p l e (rmR 1 40) s m args below meth c Q D clC A (wC ad cI cS) 6 71 [(2, iv v2)] [] M) (hr21 : ∀ (v2 : Int) (v3 : Int) (v4 : Int) (v5 : Int) (M : gSt), r21 v2 v3 v4 v5 M → gG p l e (rmR 1 40) s m args below meth c Q D clC A (wC ad cI cS) 6 21 [(0, .ref (ad o)), (1, iv a1), (2, iv v2), (3, iv v3), (4, iv v4), (5, iv v5)] [] M) (hX21_58 : ∀ (v2 : Int) (v3 : Int) (v4 : Int) (M : gSt), X21_58 v2 v3 v4 M → gG p l e (rmR 1 40) s m args below meth c Q D clC A (wC ad cI cS) 6 58 [(0, .ref (ad o)), (1, iv a1), (2, iv v2), (3, iv v3), (4, iv v4)] [] M) (v2 : Int) (v3 : Int) (v4 : Int) (v5 : Int) (M : gSt), wB_X2_greatestHeap_52 o a1 k r4 X4_71 r21 X21_58 v2 v3 v4 v5 M → gG p l e (rmR 1 40) s m args below meth c Q D clC A (wC ad cI cS) 6 52 [(0, .ref (ad o)), (1, iv a1), (2, iv v2), (3, iv v3), (4, iv v4), (5, iv v5)] [] M := by
    intro r4 X4_71 r21 X21_58 hr4 hX4_71 hr21 hX21_58 v2 v3 v4 v5 M h
    unfold wB_X2_greatestHeap_52 at h
    refine g_iinc C dX2_greatestHeap_52 rfl (by decide) rfl ?_
    refine g_locals (lv' := [(0, .ref (ad o)), (1, iv a1), (2, iv v2), (3, iv v3), (4, iv v4), (5, iv (v5 + 1))]) rfl ?_
    refine g_goto C 21 dX2_greatestHeap_55 (by decide) ?_
    refine g_locals (lv' := [(0, .ref (ad o)), (1, iv a1), (2, iv v2), (3, iv v3), (4, iv v4), (5, iv (v5 + 1))]) rfl ?_
    exact hr21 _ _ _ _  _ h
  have pC21 : ∀ (r4 : Int → Int → gSt → Prop) (X4_71 : Int → gSt → Prop) (r21 : Int → Int → Int → Int → gSt → Prop) (X21_58 : Int → Int → Int → gSt → Prop) (hr4 : ∀ (v2 : Int) (v3 : Int) (M : gSt), r4 v2 v3 M → gG p l e (rmR 1 40) s m args below meth c Q D clC A (wC ad cI cS) 6 4 [(0, .ref (ad o)), (1, iv a1), (2, iv v2), (3, iv v3)] [] M) (hX4_71 : ∀ (v2 : Int) (M : gSt), X4_71 v2 M → gG p l e (rmR 1 40) s m args below meth c Q D clC A (wC ad cI cS) 6 71 [(2, iv v2)] [] M) (hr21 : ∀ (v2 : Int) (v3 : Int) (v4 : Int) (v5 : Int) (M : gSt), r21 v2 v3 v4 v5 M → gG p l e (rmR 1 40) s m args below meth c Q D clC A (wC ad cI cS) 6 21 [(0, .ref (ad o)), (1, iv a1), (2, iv v2), (3, iv v3), (4, iv v4), (5, iv v5)] [] M) (hX21_58 : ∀ (v2 : Int) (v3 : Int) (v4 : Int) (M : gSt), X21_58 v2 v3 v4 M → gG p l e (rmR 1 40) s m args below meth c Q D clC A (wC ad cI cS) 6 58 [(0, .ref (ad o)), (1, iv a1), (2, iv v2), (3, iv v3), (4, iv v4)] [] M) (v2 : Int) (v3 : Int) (v4 : Int) (v5 : Int) (M : gSt), wC_X2_greatestHeap_21 o a1 k r4 X4_71 r21 X21_58 v2 v3 v4 v5 M → gG p l e (rmR 1 40) s m args below meth c Q D clC A (wC ad cI cS) 6 21 [(0, .ref (ad o)), (1, iv a1), (2, iv v2), (3, iv v3), (4, iv v4), (5, iv v5)] [] M := by
    intro r4 X4_71 r21 X21_58 hr4 hX4_71 hr21 hX21_58 v2 v3 v4 v5 M h
    unfold wC_X2_greatestHeap_21 at h
    refine g_iload C dX2_greatestHeap_21 rfl ?_
    refine g_aload_n C dX2_greatestHeap_23 rfl ?_
    refine cf_X2_23 C h_o dX2_greatestHeap_24 ?_
    refine g_callVi C (nargs := 0) (o := (o + 3)) (st := [iv v5]) (m_X4_size h) (show isRows (o + 3) from h.1).1 (show isRows (o + 3) from h.1).2.1 rfl rfl gc_X2_43 (by decide +kernel) ⟨rfl, rfl⟩ dX2_greatestHeap_27 ⟨by decide, by decide⟩ rfl rfl (Nat.le_of_ble_eq_true rfl) ?_
    intro r27c M27 hN
    replace h := hN
    clear hN
    refine g_icmp_ge C 58 dX2_greatestHeap_30 (by decide) (fun hc => ?_) (fun hc => ?_)
    · replace h := h.1 hc
      refine g_locals (lv' := [(0, .ref (ad o)), (1, iv a1), (2, iv v2), (3, iv v3), (4, iv v4)]) rfl ?_
      exact hX21_58 _ _ _  _ h
    · replace h := h.2 hc
      refine g_aload_n C dX2_greatestHeap_33 rfl ?_
      refine g_iload C dX2_greatestHeap_34 rfl ?_
      refine g_iload_n C dX2_greatestHeap_36 rfl ?_
      refine g_callVi C (nargs := 2) (o := o) (st := []) (m_X2_notedGrams h) (show isHistories o from h.1).1 (show isHistories o from h.1).2.1 rfl rfl gc_X2_100 (by decide +kernel) ⟨rfl, rfl⟩ dX2_greatestHeap_37 ⟨by decide, by decide⟩ rfl rfl (Nat.le_of_ble_eq_true rfl) ?_
      intro r37c M37 hN
      replace h := hN
      clear hN
      refine g_aload_n C dX2_greatestHeap_40 rfl ?_
      refine g_iload_n C dX2_greatestHeap_41 rfl ?_
      refine g_iload_n C dX2_greatestHeap_42 rfl ?_
      refine g_callVi C (nargs := 2) (o := o) (st := [iv r37c]) (m_X2_notedGrams h) (show isHistories o from h.1).1 (show isHistories o from h.1).2.1 rfl rfl gc_X2_100 (by decide +kernel) ⟨rfl, rfl⟩ dX2_greatestHeap_43 ⟨by decide, by decide⟩ rfl rfl (Nat.le_of_ble_eq_true rfl) ?_
      intro r43c M43 hN
      replace h := hN
      clear hN
      refine g_icmp_ne C 52 dX2_greatestHeap_46 (by decide) (fun hc => ?_) (fun hc => ?_)
      · replace h := h.1 hc
        refine g_locals (lv' := [(0, .ref (ad o)), (1, iv a1), (2, iv v2), (3, iv v3), (4, iv v4), (5, iv v5)]) rfl ?_
        exact pB52 r4 X4_71 r21 X21_58 hr4 hX4_71 hr21 hX21_58 _ _ _ _ _ h
      · replace h := h.2 hc
        refine g_iinc C dX2_greatestHeap_49 rfl (by decide) rfl ?_
        refine g_locals (lv' := [(0, .ref (ad o)), (1, iv a1), (2, iv v2), (3, iv v3), (4, iv (v4 + 1)), (5, iv v5)]) rfl ?_
        refine g_locals (lv' := [(0, .ref (ad o)), (1, iv a1), (2, iv v2), (3, iv v3), (4, iv (v4 + 1)), (5, iv v5)]) rfl ?_
        exact pB52 r4 X4_71 r21 X21_58 hr4 hX4_71 hr21 hX21_58 _ _ _ _ _ h
  have pL21 : ∀ (r4 : Int → Int → gSt → Prop) (X4_71 : Int → gSt → Prop) (X21_58 : Int → Int → Int → gSt → Prop) (hr4 : ∀ (v2 : Int) (v3 : Int) (M : gSt), r4 v2 v3 M → gG p l e (rmR 1 40) s m args below meth c Q D clC A (wC ad cI cS) 6 4 [(0, .ref (ad o)), (1, iv a1), (2, iv v2), (3, iv v3)] [] M) (hX4_71 : ∀ (v2 : Int) (M : gSt), X4_71 v2 M → gG p l e (rmR 1 40) s m args below meth c Q D clC A (wC ad cI cS) 6 71 [(2, iv v2)] [] M) (hX21_58 : ∀ (v2 : Int) (v3 : Int) (v4 : Int) (M : gSt), X21_58 v2 v3 v4 M → gG p l e (rmR 1 40) s m args below meth c Q D clC A (wC ad cI cS) 6 58 [(0, .ref (ad o)), (1, iv a1), (2, iv v2), (3, iv v3), (4, iv v4)] [] M) (n : Nat) (v2 : Int) (v3 : Int) (v4 : Int) (v5 : Int) (M : gSt), wL_X2_greatestHeap_21 o a1 k r4 X4_71 X21_58 n v2 v3 v4 v5 M → gG p l e (rmR 1 40) s m args below meth c Q D clC A (wC ad cI cS) 6 21 [(0, .ref (ad o)), (1, iv a1), (2, iv v2), (3, iv v3), (4, iv v4), (5, iv v5)] [] M := by
    intro r4 X4_71 X21_58 hr4 hX4_71 hX21_58 n
    induction n with
    | zero => intro v2 v3 v4 v5 M h; exact h.elim
    | succ n ih =>
      intro v2 v3 v4 v5 M h
      exact pC21 r4 X4_71 (wL_X2_greatestHeap_21 o a1 k r4 X4_71 X21_58 n) X21_58 hr4 hX4_71 ih hX21_58 v2 v3 v4 v5 M h
  have pC4 : ∀ (r4 : Int → Int → gSt → Prop) (X4_71 : Int → gSt → Prop) (hr4 : ∀ (v2 : Int) (v3 : Int) (M : gSt), r4 v2 v3 M → gG p l e (rmR 1 40) s m args below meth c Q D clC A (wC ad cI cS) 6 4 [(0, .ref (ad o)), (1, iv a1), (2, iv v2), (3, iv v3)] [] M) (hX4_71 : ∀ (v2 : Int) (M : gSt), X4_71 v2 M → gG p l e (rmR 1 40) s m args below meth c Q D clC A (wC ad cI cS) 6 71 [(2, iv v2)] [] M) (v2 : Int) (v3 : Int) (M : gSt), wC_X2_greatestHeap_4 o a1 k r4 X4_71 v2 v3 M → gG p l e (rmR 1 40) s m args below meth c Q D clC A (wC ad cI cS) 6 4 [(0, .ref (ad o)), (1, iv a1), (2, iv v2), (3, iv v3)] [] M := by
    intro r4 X4_71 hr4 hX4_71 v2 v3 M h
    unfold wC_X2_greatestHeap_4 at h
    refine g_iload_n C dX2_greatestHeap_4 rfl ?_
    refine g_aload_n C dX2_greatestHeap_5 rfl ?_
    refine cf_X2_23 C h_o dX2_greatestHeap_6 ?_
    refine g_callVi C (nargs := 0) (o := (o + 3)) (st := [iv v3]) (m_X4_size h) (show isRows (o + 3) from h.1).1 (show isRows (o + 3) from h.1).2.1 rfl rfl gc_X2_43 (by decide +kernel) ⟨rfl, rfl⟩ dX2_greatestHeap_9 ⟨by decide, by decide⟩ rfl rfl (Nat.le_of_ble_eq_true rfl) ?_
    intro r9c M9 hN
    replace h := hN
    clear hN
    refine g_icmp_ge C 71 dX2_greatestHeap_12 (by decide) (fun hc => ?_) (fun hc => ?_)
    · replace h := h.1 hc
      refine g_locals (lv' := [(2, iv v2)]) rfl ?_
      exact hX4_71 _  _ h
    · replace h := h.2 hc
      refine g_iconst C dX2_greatestHeap_15 ?_
      refine g_istore C dX2_greatestHeap_16 (by decide) rfl ?_
      refine g_locals (lv' := [(0, .ref (ad o)), (1, iv a1), (2, iv v2), (3, iv v3), (4, iv 0)]) rfl ?_
      refine g_iload_n C dX2_greatestHeap_18 rfl ?_
      refine g_istore C dX2_greatestHeap_19 (by decide) rfl ?_
      refine g_locals (lv' := [(0, .ref (ad o)), (1, iv a1), (2, iv v2), (3, iv v3), (4, iv 0), (5, iv v3)]) rfl ?_
      refine g_locals (lv' := [(0, .ref (ad o)), (1, iv a1), (2, iv v2), (3, iv v3), (4, iv 0), (5, iv v3)]) rfl ?_
      obtain ⟨n, h⟩ := h
      refine pL21 r4 X4_71 _ hr4 hX4_71 ?_ n _ _ _ _ _ h
      · intro u2_21 u3_21 u4_21 M21 hN
        replace h := hN
        clear hN
        refine g_iload_n C dX2_greatestHeap_58 rfl ?_
        refine g_iload C dX2_greatestHeap_59 rfl ?_
        refine g_mmax C (st := []) dX2_greatestHeap_61 wc_253 wc_91 wc_62 wc_92 (by decide) (Nat.le_of_ble_eq_true rfl) ?_
        refine g_name (fun x2_64 hx2_64 => ?_)
        replace h := h x2_64 hx2_64
        refine g_istore_n C dX2_greatestHeap_64 (by decide) rfl ?_
        refine g_locals (lv' := [(0, .ref (ad o)), (1, iv a1), (2, iv x2_64), (3, iv u3_21), (4, iv u4_21)]) rfl ?_
        refine g_iinc C dX2_greatestHeap_65 rfl (by decide) rfl ?_
        refine g_locals (lv' := [(0, .ref (ad o)), (1, iv a1), (2, iv x2_64), (3, iv (u3_21 + 1)), (4, iv u4_21)]) rfl ?_
        refine g_goto C 4 dX2_greatestHeap_68 (by decide) ?_
        refine g_locals (lv' := [(0, .ref (ad o)), (1, iv a1), (2, iv x2_64), (3, iv (u3_21 + 1))]) rfl ?_
        exact hr4 _ _  _ h
  have pL4 : ∀  (X4_71 : Int → gSt → Prop) (hX4_71 : ∀ (v2 : Int) (M : gSt), X4_71 v2 M → gG p l e (rmR 1 40) s m args below meth c Q D clC A (wC ad cI cS) 6 71 [(2, iv v2)] [] M) (n : Nat) (v2 : Int) (v3 : Int) (M : gSt), wL_X2_greatestHeap_4 o a1 k  X4_71 n v2 v3 M → gG p l e (rmR 1 40) s m args below meth c Q D clC A (wC ad cI cS) 6 4 [(0, .ref (ad o)), (1, iv a1), (2, iv v2), (3, iv v3)] [] M := by
    intro  X4_71 hX4_71 n
    induction n with
    | zero => intro v2 v3 M h; exact h.elim
    | succ n ih =>
      intro v2 v3 M h
      exact pC4  (wL_X2_greatestHeap_4 o a1 k  X4_71 n) X4_71 ih hX4_71 v2 v3 M h
  refine g_locals (lv' := [(0, .ref (ad o)), (1, iv a1)]) rfl ?_
  refine g_iconst C dX2_greatestHeap_0 ?_
  refine g_istore_n C dX2_greatestHeap_1 (by decide) rfl ?_
  refine g_locals (lv' := [(0, .ref (ad o)), (1, iv a1), (2, iv 0)]) rfl ?_
  refine g_iconst C dX2_greatestHeap_2 ?_
  refine g_istore_n C dX2_greatestHeap_3 (by decide) rfl ?_
  refine g_locals (lv' := [(0, .ref (ad o)), (1, iv a1), (2, iv 0), (3, iv 0)]) rfl ?_
  refine g_locals (lv' := [(0, .ref (ad o)), (1, iv a1), (2, iv 0), (3, iv 0)]) rfl ?_
  obtain ⟨n, h⟩ := h
  refine pL4 _ ?_ n _ _ _ h
  · intro u2_4 M4 hN
    replace h := hN
    clear hN
    refine g_iload_n C dX2_greatestHeap_71 rfl ?_
    exact hR _ _ _ _ dX2_greatestHeap_72 rfl h
def wB_X2_bestParted_34 (o : Nat) (a1 : Int) (k : Int → gSt → Prop) (r8 : Int → Int → Int → gSt → Prop) (X8_40 : Int → gSt → Prop) (v2 : Int) (v3 : Int) (v4 : Int) (M : gSt) : Prop :=
r8 v2 v3 (v4 + 1) M
def wC_X2_bestParted_8 (o : Nat) (a1 : Int) (k : Int → gSt → Prop) (r8 : Int → Int → Int → gSt → Prop) (X8_40 : Int → gSt → Prop) (v2 : Int) (v3 : Int) (v4 : Int) (M : gSt) : Prop :=

  (wrap a1 ≤ wrap v4 →
    X8_40 v2 M) ∧
  (wrap v4 < wrap a1 →
    w_X2_greatestHeap o v4 M (fun r17c M17 => 
    (wrap v3 ≤ wrap r17c →
      wB_X2_bestParted_34 o a1 k r8 X8_40 v2 v3 v4 M17) ∧
    (wrap r17c < wrap v3 →
      wB_X2_bestParted_34 o a1 k r8 X8_40 v4 r17c v4 M17)))
def wL_X2_bestParted_8 (o : Nat) (a1 : Int) (k : Int → gSt → Prop)  (X8_40 : Int → gSt → Prop) : Nat → Int → Int → Int → gSt → Prop
  | 0 => fun _ _ _ _ => False
  | n + 1 => fun v2 v3 v4 M => wC_X2_bestParted_8 o a1 k  (wL_X2_bestParted_8 o a1 k  X8_40 n) X8_40 v2 v3 v4 M
def w_X2_bestParted (o : Nat) (a1 : Int) (M : gSt) (k : Int → gSt → Prop) : Prop :=
  (isHistories o) ∧ (∃ n, wL_X2_bestParted_8 o a1 k  (fun u2_8 M8 =>
    k u2_8 M8) n 0 65 0 M)
set_option maxHeartbeats 4000000 in
set_option maxRecDepth 100000 in
theorem m_X2_bestParted {l : Launch} {D : va_G} {tys : List (ClassId × FieldType)} {ad : Nat → Nat} {cI cS : ClassId} {o : Nat} {a1 : Int} {M : gSt} {k : Int → gSt → Prop} (h : w_X2_bestParted o a1 M k) : MOi l yX2_bestParted cX2_bestParted 6 .int (rmR 2 65) D clC ((cI, .int) :: (cS, .object "OldBronze$Sheet") :: tys) (wC ad cI cS) tC zC [.ref (ad o), iv a1] M k := by
  refine moi_intro (by decide +kernel) (Nat.le_of_ble_eq_true rfl) wc_261 ?_
  intro p e s m args below meth c A Q C hR
  unfold w_X2_bestParted at h
  obtain ⟨h_o, h⟩ := h
  have pB34 : ∀ (r8 : Int → Int → Int → gSt → Prop) (X8_40 : Int → gSt → Prop) (hr8 : ∀ (v2 : Int) (v3 : Int) (v4 : Int) (M : gSt), r8 v2 v3 v4 M → gG p l e (rmR 2 65) s m args below meth c Q D clC A (wC ad cI cS) 6 8 [(0, .ref (ad o)), (1, iv a1), (2, iv v2), (3, iv v3), (4, iv v4)] [] M) (hX8_40 : ∀ (v2 : Int) (M : gSt), X8_40 v2 M → gG p l e (rmR 2 65) s m args below meth c Q D clC A (wC ad cI cS) 6 40 [(2, iv v2)] [] M) (v2 : Int) (v3 : Int) (v4 : Int) (M : gSt), wB_X2_bestParted_34 o a1 k r8 X8_40 v2 v3 v4 M → gG p l e (rmR 2 65) s m args below meth c Q D clC A (wC ad cI cS) 6 34 [(0, .ref (ad o)), (1, iv a1), (2, iv v2), (3, iv v3), (4, iv v4)] [] M := by
    intro r8 X8_40 hr8 hX8_40 v2 v3 v4 M h
    unfold wB_X2_bestParted_34 at h
    refine g_iinc C dX2_bestParted_34 rfl (by decide) rfl ?_
    refine g_locals (lv' := [(0, .ref (ad o)), (1, iv a1), (2, iv v2), (3, iv v3), (4, iv (v4 + 1))]) rfl ?_
    refine g_goto C 8 dX2_bestParted_37 (by decide) ?_
    refine g_locals (lv' := [(0, .ref (ad o)), (1, iv a1), (2, iv v2), (3, iv v3), (4, iv (v4 + 1))]) rfl ?_
    exact hr8 _ _ _  _ h
  have pC8 : ∀ (r8 : Int → Int → Int → gSt → Prop) (X8_40 : Int → gSt → Prop) (hr8 : ∀ (v2 : Int) (v3 : Int) (v4 : Int) (M : gSt), r8 v2 v3 v4 M → gG p l e (rmR 2 65) s m args below meth c Q D clC A (wC ad cI cS) 6 8 [(0, .ref (ad o)), (1, iv a1), (2, iv v2), (3, iv v3), (4, iv v4)] [] M) (hX8_40 : ∀ (v2 : Int) (M : gSt), X8_40 v2 M → gG p l e (rmR 2 65) s m args below meth c Q D clC A (wC ad cI cS) 6 40 [(2, iv v2)] [] M) (v2 : Int) (v3 : Int) (v4 : Int) (M : gSt), wC_X2_bestParted_8 o a1 k r8 X8_40 v2 v3 v4 M → gG p l e (rmR 2 65) s m args below meth c Q D clC A (wC ad cI cS) 6 8 [(0, .ref (ad o)), (1, iv a1), (2, iv v2), (3, iv v3), (4, iv v4)] [] M := by
    intro r8 X8_40 hr8 hX8_40 v2 v3 v4 M h
    unfold wC_X2_bestParted_8 at h
    refine g_iload C dX2_bestParted_8 rfl ?_
    refine g_iload_n C dX2_bestParted_10 rfl ?_
    refine g_icmp_ge C 40 dX2_bestParted_11 (by decide) (fun hc => ?_) (fun hc => ?_)
    · replace h := h.1 hc
      refine g_locals (lv' := [(2, iv v2)]) rfl ?_
      exact hX8_40 _  _ h
    · replace h := h.2 hc
      refine g_aload_n C dX2_bestParted_14 rfl ?_
      refine g_iload C dX2_bestParted_15 rfl ?_
      refine g_callVi C (nargs := 1) (o := o) (st := []) (m_X2_greatestHeap h) (show isHistories o from h.1).1 (show isHistories o from h.1).2.1 rfl rfl gc_X2_97 (by decide +kernel) ⟨rfl, rfl⟩ dX2_bestParted_17 ⟨by decide, by decide⟩ rfl rfl (Nat.le_of_ble_eq_true rfl) ?_
      intro r17c M17 hN
      replace h := hN
      clear hN
      refine g_istore C dX2_bestParted_20 (by decide) rfl ?_
      refine g_locals (lv' := [(0, .ref (ad o)), (1, iv a1), (2, iv v2), (3, iv v3), (4, iv v4), (5, iv r17c)]) rfl ?_
      refine g_iload C dX2_bestParted_22 rfl ?_
      refine g_iload_n C dX2_bestParted_24 rfl ?_
      refine g_icmp_ge C 34 dX2_bestParted_25 (by decide) (fun hc => ?_) (fun hc => ?_)
      · replace h := h.1 hc
        refine g_locals (lv' := [(0, .ref (ad o)), (1, iv a1), (2, iv v2), (3, iv v3), (4, iv v4)]) rfl ?_
        exact pB34 r8 X8_40 hr8 hX8_40 _ _ _ _ h
      · replace h := h.2 hc
        refine g_iload C dX2_bestParted_28 rfl ?_
        refine g_istore_n C dX2_bestParted_30 (by decide) rfl ?_
        refine g_locals (lv' := [(0, .ref (ad o)), (1, iv a1), (2, iv v4), (3, iv v3), (4, iv v4), (5, iv r17c)]) rfl ?_
        refine g_iload C dX2_bestParted_31 rfl ?_
        refine g_istore_n C dX2_bestParted_33 (by decide) rfl ?_
        refine g_locals (lv' := [(0, .ref (ad o)), (1, iv a1), (2, iv v4), (3, iv r17c), (4, iv v4), (5, iv r17c)]) rfl ?_
        refine g_locals (lv' := [(0, .ref (ad o)), (1, iv a1), (2, iv v4), (3, iv r17c), (4, iv v4)]) rfl ?_
        exact pB34 r8 X8_40 hr8 hX8_40 _ _ _ _ h
  have pL8 : ∀  (X8_40 : Int → gSt → Prop) (hX8_40 : ∀ (v2 : Int) (M : gSt), X8_40 v2 M → gG p l e (rmR 2 65) s m args below meth c Q D clC A (wC ad cI cS) 6 40 [(2, iv v2)] [] M) (n : Nat) (v2 : Int) (v3 : Int) (v4 : Int) (M : gSt), wL_X2_bestParted_8 o a1 k  X8_40 n v2 v3 v4 M → gG p l e (rmR 2 65) s m args below meth c Q D clC A (wC ad cI cS) 6 8 [(0, .ref (ad o)), (1, iv a1), (2, iv v2), (3, iv v3), (4, iv v4)] [] M := by
    intro  X8_40 hX8_40 n
    induction n with
    | zero => intro v2 v3 v4 M h; exact h.elim
    | succ n ih =>
      intro v2 v3 v4 M h
      exact pC8  (wL_X2_bestParted_8 o a1 k  X8_40 n) X8_40 ih hX8_40 v2 v3 v4 M h
  refine g_locals (lv' := [(0, .ref (ad o)), (1, iv a1)]) rfl ?_
  refine g_iconst C dX2_bestParted_0 ?_
  refine g_istore_n C dX2_bestParted_1 (by decide) rfl ?_
  refine g_locals (lv' := [(0, .ref (ad o)), (1, iv a1), (2, iv 0)]) rfl ?_
  refine g_bipush C dX2_bestParted_2 rfl ?_
  refine g_istore_n C dX2_bestParted_4 (by decide) rfl ?_
  refine g_locals (lv' := [(0, .ref (ad o)), (1, iv a1), (2, iv 0), (3, iv 65)]) rfl ?_
  refine g_iconst C dX2_bestParted_5 ?_
  refine g_istore C dX2_bestParted_6 (by decide) rfl ?_
  refine g_locals (lv' := [(0, .ref (ad o)), (1, iv a1), (2, iv 0), (3, iv 65), (4, iv 0)]) rfl ?_
  refine g_locals (lv' := [(0, .ref (ad o)), (1, iv a1), (2, iv 0), (3, iv 65), (4, iv 0)]) rfl ?_
  obtain ⟨n, h⟩ := h
  refine pL8 _ ?_ n _ _ _ _ h
  · intro u2_8 M8 hN
    replace h := hN
    clear hN
    refine g_iload_n C dX2_bestParted_40 rfl ?_
    exact hR _ _ _ _ dX2_bestParted_41 rfl h
def w_X4_has (o : Nat) (a1 : Int) (M : gSt) (k : Int → gSt → Prop) : Prop :=
  (isRows o) ∧ (
  (wrap a1 < 0 →
    k 0 M) ∧
  (0 ≤ wrap a1 →

    (wrap (M o 3) ≤ wrap a1 →
      k 0 M) ∧
    (wrap a1 < wrap (M o 3) →
      k 1 M)))
set_option maxHeartbeats 4000000 in
set_option maxRecDepth 100000 in
theorem m_X4_has {l : Launch} {D : va_G} {tys : List (ClassId × FieldType)} {ad : Nat → Nat} {cI cS : ClassId} {o : Nat} {a1 : Int} {M : gSt} {k : Int → gSt → Prop} (h : w_X4_has o a1 M k) : MOi l yX4_has cX4_has 2 .boolean (rmR 0 0) D clC ((cI, .int) :: (cS, .object "OldBronze$Sheet") :: tys) (wC ad cI cS) tC zC [.ref (ad o), iv a1] M k := by
  refine moi_intro (by decide +kernel) (Nat.le_of_ble_eq_true rfl) wc_265 ?_
  intro p e s m args below meth c A Q C hR
  unfold w_X4_has at h
  obtain ⟨h_o, h⟩ := h
  refine g_locals (lv' := [(0, .ref (ad o)), (1, iv a1)]) rfl ?_
  refine g_iload_n C dX4_has_0 rfl ?_
  refine g_if_lt C 16 dX4_has_1 (by decide) (fun hc => ?_) (fun hc => ?_)
  · replace h := h.1 hc
    refine g_iconst C dX4_has_16 ?_
    exact hR _ _ _ _ dX4_has_17 rfl h
  · replace h := h.2 hc
    refine g_iload_n C dX4_has_4 rfl ?_
    refine g_aload_n C dX4_has_5 rfl ?_
    refine cf_X4_26 C h_o dX4_has_6 ?_
    refine g_icmp_ge C 16 dX4_has_9 (by decide) (fun hc => ?_) (fun hc => ?_)
    · replace h := h.1 hc
      refine g_iconst C dX4_has_16 ?_
      exact hR _ _ _ _ dX4_has_17 rfl h
    · replace h := h.2 hc
      refine g_iconst C dX4_has_12 ?_
      refine g_goto C 17 dX4_has_13 (by decide) ?_
      exact hR _ _ _ _ dX4_has_17 rfl h
def wC_X2_firstUnlike_17 (o : Nat) (a1 : Nat) (k : Int → gSt → Prop) (r17 : Int → Int → gSt → Prop) (X17_55 : Int → gSt → Prop) (X17_63 : gSt → Prop) (v2 : Int) (v3 : Int) (M : gSt) : Prop :=

  (wrap v2 ≤ wrap v3 →
    X17_63  M) ∧
  (wrap v3 < wrap v2 →
    w_X4_has a1 v3 M (fun r24c M24 => 
    (wrap r24c = 0 →
      X17_55 v3 M24) ∧
    (¬ wrap r24c = 0 →
      w_X4_has (o + 3) v3 M24 (fun r35c M35 => 
      (wrap r35c = 0 →
        X17_55 v3 M35) ∧
      (¬ wrap r35c = 0 →
        w_X4_at a1 v3 0 M35 (fun r44c M44 => w_X2_fitting o v3 M44 (fun r49c M49 => 
        (wrap r44c = wrap r49c →
          r17 v2 (v3 + 1) M49) ∧
        (¬ wrap r44c = wrap r49c →
          X17_55 v3 M49))))))))
def wL_X2_firstUnlike_17 (o : Nat) (a1 : Nat) (k : Int → gSt → Prop)  (X17_55 : Int → gSt → Prop) (X17_63 : gSt → Prop) : Nat → Int → Int → gSt → Prop
  | 0 => fun _ _ _ => False
  | n + 1 => fun v2 v3 M => wC_X2_firstUnlike_17 o a1 k  (wL_X2_firstUnlike_17 o a1 k  X17_55 X17_63 n) X17_55 X17_63 v2 v3 M
def w_X2_firstUnlike (o : Nat) (a1 : Nat) (M : gSt) (k : Int → gSt → Prop) : Prop :=
  (isHistories o) ∧ ((isRows a1) ∧ (w_X4_size a1 M (fun r1c M1 => w_X4_size (o + 3) M1 (fun r8c M8 => ∀ x2_14 : Int, x2_14 = xmax r1c r8c → (∃ n, wL_X2_firstUnlike_17 o a1 k  (fun u3_17 M17 =>
    k u3_17 M17) (fun  M17 =>
    k (-1) M17) n x2_14 0 M8)))))
set_option maxHeartbeats 4000000 in
set_option maxRecDepth 100000 in
theorem m_X2_firstUnlike {l : Launch} {D : va_G} {tys : List (ClassId × FieldType)} {ad : Nat → Nat} {cI cS : ClassId} {o : Nat} {a1 : Nat} {M : gSt} {k : Int → gSt → Prop} (h : w_X2_firstUnlike o a1 M k) : MOi l yX2_firstUnlike cX2_firstUnlike 4 .int (rmR 2 45) D clC ((cI, .int) :: (cS, .object "OldBronze$Sheet") :: tys) (wC ad cI cS) tC zC [.ref (ad o), .ref (ad a1)] M k := by
  refine moi_intro (by decide +kernel) (Nat.le_of_ble_eq_true rfl) wc_269 ?_
  intro p e s m args below meth c A Q C hR
  unfold w_X2_firstUnlike at h
  obtain ⟨h_o, h_a1, h⟩ := h
  have pC17 : ∀ (r17 : Int → Int → gSt → Prop) (X17_55 : Int → gSt → Prop) (X17_63 : gSt → Prop) (hr17 : ∀ (v2 : Int) (v3 : Int) (M : gSt), r17 v2 v3 M → gG p l e (rmR 2 45) s m args below meth c Q D clC A (wC ad cI cS) 4 17 [(0, .ref (ad o)), (1, .ref (ad a1)), (2, iv v2), (3, iv v3)] [] M) (hX17_55 : ∀ (v3 : Int) (M : gSt), X17_55 v3 M → gG p l e (rmR 2 45) s m args below meth c Q D clC A (wC ad cI cS) 4 55 [(3, iv v3)] [] M) (hX17_63 : ∀  (M : gSt), X17_63  M → gG p l e (rmR 2 45) s m args below meth c Q D clC A (wC ad cI cS) 4 63 [] [] M) (v2 : Int) (v3 : Int) (M : gSt), wC_X2_firstUnlike_17 o a1 k r17 X17_55 X17_63 v2 v3 M → gG p l e (rmR 2 45) s m args below meth c Q D clC A (wC ad cI cS) 4 17 [(0, .ref (ad o)), (1, .ref (ad a1)), (2, iv v2), (3, iv v3)] [] M := by
    intro r17 X17_55 X17_63 hr17 hX17_55 hX17_63 v2 v3 M h
    unfold wC_X2_firstUnlike_17 at h
    refine g_iload_n C dX2_firstUnlike_17 rfl ?_
    refine g_iload_n C dX2_firstUnlike_18 rfl ?_
    refine g_icmp_ge C 63 dX2_firstUnlike_19 (by decide) (fun hc => ?_) (fun hc => ?_)
    · replace h := h.1 hc
      refine g_locals (lv' := []) rfl ?_
      exact hX17_63  _ h
    · replace h := h.2 hc
      refine g_aload_n C dX2_firstUnlike_22 rfl ?_
      refine g_iload_n C dX2_firstUnlike_23 rfl ?_
      refine g_callVi C (nargs := 1) (o := a1) (st := []) (m_X4_has h) (show isRows a1 from h.1).1 (show isRows a1 from h.1).2.1 rfl rfl gc_X2_103 (by decide +kernel) ⟨rfl, rfl⟩ dX2_firstUnlike_24 ⟨by decide, by decide⟩ rfl rfl (Nat.le_of_ble_eq_true rfl) ?_
      intro r24c M24 hN
      replace h := hN
      clear hN
      refine g_if_eq C 55 dX2_firstUnlike_27 (by decide) (fun hc => ?_) (fun hc => ?_)
      · replace h := h.1 hc
        refine g_locals (lv' := [(3, iv v3)]) rfl ?_
        exact hX17_55 _  _ h
      · replace h := h.2 hc
        refine g_aload_n C dX2_firstUnlike_30 rfl ?_
        refine cf_X2_23 C h_o dX2_firstUnlike_31 ?_
        refine g_iload_n C dX2_firstUnlike_34 rfl ?_
        refine g_callVi C (nargs := 1) (o := (o + 3)) (st := []) (m_X4_has h) (show isRows (o + 3) from h.1).1 (show isRows (o + 3) from h.1).2.1 rfl rfl gc_X2_103 (by decide +kernel) ⟨rfl, rfl⟩ dX2_firstUnlike_35 ⟨by decide, by decide⟩ rfl rfl (Nat.le_of_ble_eq_true rfl) ?_
        intro r35c M35 hN
        replace h := hN
        clear hN
        refine g_if_eq C 55 dX2_firstUnlike_38 (by decide) (fun hc => ?_) (fun hc => ?_)
        · replace h := h.1 hc
          refine g_locals (lv' := [(3, iv v3)]) rfl ?_
          exact hX17_55 _  _ h
        · replace h := h.2 hc
          refine g_aload_n C dX2_firstUnlike_41 rfl ?_
          refine g_iload_n C dX2_firstUnlike_42 rfl ?_
          refine g_iconst C dX2_firstUnlike_43 ?_
          refine g_callVi C (nargs := 2) (o := a1) (st := []) (m_X4_at h) (show isRows a1 from h.1).1 (show isRows a1 from h.1).2.1 rfl rfl gc_X2_47 (by decide +kernel) ⟨rfl, rfl⟩ dX2_firstUnlike_44 ⟨by decide, by decide⟩ rfl rfl (Nat.le_of_ble_eq_true rfl) ?_
          intro r44c M44 hN
          replace h := hN
          clear hN
          refine g_aload_n C dX2_firstUnlike_47 rfl ?_
          refine g_iload_n C dX2_firstUnlike_48 rfl ?_
          refine g_callVi C (nargs := 1) (o := o) (st := [iv r44c]) (m_X2_fitting h) (show isHistories o from h.1).1 (show isHistories o from h.1).2.1 rfl rfl gc_X2_86 (by decide +kernel) ⟨rfl, rfl⟩ dX2_firstUnlike_49 ⟨by decide, by decide⟩ rfl rfl (Nat.le_of_ble_eq_true rfl) ?_
          intro r49c M49 hN
          replace h := hN
          clear hN
          refine g_icmp_eq C 57 dX2_firstUnlike_52 (by decide) (fun hc => ?_) (fun hc => ?_)
          · replace h := h.1 hc
            refine g_iinc C dX2_firstUnlike_57 rfl (by decide) rfl ?_
            refine g_locals (lv' := [(0, .ref (ad o)), (1, .ref (ad a1)), (2, iv v2), (3, iv (v3 + 1))]) rfl ?_
            refine g_goto C 17 dX2_firstUnlike_60 (by decide) ?_
            refine g_locals (lv' := [(0, .ref (ad o)), (1, .ref (ad a1)), (2, iv v2), (3, iv (v3 + 1))]) rfl ?_
            exact hr17 _ _  _ h
          · replace h := h.2 hc
            refine g_locals (lv' := [(3, iv v3)]) rfl ?_
            exact hX17_55 _  _ h
  have pL17 : ∀  (X17_55 : Int → gSt → Prop) (X17_63 : gSt → Prop) (hX17_55 : ∀ (v3 : Int) (M : gSt), X17_55 v3 M → gG p l e (rmR 2 45) s m args below meth c Q D clC A (wC ad cI cS) 4 55 [(3, iv v3)] [] M) (hX17_63 : ∀  (M : gSt), X17_63  M → gG p l e (rmR 2 45) s m args below meth c Q D clC A (wC ad cI cS) 4 63 [] [] M) (n : Nat) (v2 : Int) (v3 : Int) (M : gSt), wL_X2_firstUnlike_17 o a1 k  X17_55 X17_63 n v2 v3 M → gG p l e (rmR 2 45) s m args below meth c Q D clC A (wC ad cI cS) 4 17 [(0, .ref (ad o)), (1, .ref (ad a1)), (2, iv v2), (3, iv v3)] [] M := by
    intro  X17_55 X17_63 hX17_55 hX17_63 n
    induction n with
    | zero => intro v2 v3 M h; exact h.elim
    | succ n ih =>
      intro v2 v3 M h
      exact pC17  (wL_X2_firstUnlike_17 o a1 k  X17_55 X17_63 n) X17_55 X17_63 ih hX17_55 hX17_63 v2 v3 M h
  refine g_locals (lv' := [(0, .ref (ad o)), (1, .ref (ad a1))]) rfl ?_
  refine g_aload_n C dX2_firstUnlike_0 rfl ?_
  refine g_callVi C (nargs := 0) (o := a1) (st := []) (m_X4_size h) (show isRows a1 from h.1).1 (show isRows a1 from h.1).2.1 rfl rfl gc_X2_43 (by decide +kernel) ⟨rfl, rfl⟩ dX2_firstUnlike_1 ⟨by decide, by decide⟩ rfl rfl (Nat.le_of_ble_eq_true rfl) ?_
  intro r1c M1 hN
  replace h := hN
  clear hN
  refine g_aload_n C dX2_firstUnlike_4 rfl ?_
  refine cf_X2_23 C h_o dX2_firstUnlike_5 ?_
  refine g_callVi C (nargs := 0) (o := (o + 3)) (st := [iv r1c]) (m_X4_size h) (show isRows (o + 3) from h.1).1 (show isRows (o + 3) from h.1).2.1 rfl rfl gc_X2_43 (by decide +kernel) ⟨rfl, rfl⟩ dX2_firstUnlike_8 ⟨by decide, by decide⟩ rfl rfl (Nat.le_of_ble_eq_true rfl) ?_
  intro r8c M8 hN
  replace h := hN
  clear hN
  refine g_mmax C (st := []) dX2_firstUnlike_11 wc_253 wc_91 wc_62 wc_92 (by decide) (Nat.le_of_ble_eq_true rfl) ?_
  refine g_name (fun x2_14 hx2_14 => ?_)
  replace h := h x2_14 hx2_14
  refine g_istore_n C dX2_firstUnlike_14 (by decide) rfl ?_
  refine g_locals (lv' := [(0, .ref (ad o)), (1, .ref (ad a1)), (2, iv x2_14)]) rfl ?_
  refine g_iconst C dX2_firstUnlike_15 ?_
  refine g_istore_n C dX2_firstUnlike_16 (by decide) rfl ?_
  refine g_locals (lv' := [(0, .ref (ad o)), (1, .ref (ad a1)), (2, iv x2_14), (3, iv 0)]) rfl ?_
  refine g_locals (lv' := [(0, .ref (ad o)), (1, .ref (ad a1)), (2, iv x2_14), (3, iv 0)]) rfl ?_
  obtain ⟨n, h⟩ := h
  refine pL17 _ _ ?_ ?_ n _ _ _ h
  · intro u3_17 M17 hN
    replace h := hN
    clear hN
    refine g_iload_n C dX2_firstUnlike_55 rfl ?_
    exact hR _ _ _ _ dX2_firstUnlike_56 rfl h
  · intro  M17 hN
    replace h := hN
    clear hN
    refine g_iconst C dX2_firstUnlike_63 ?_
    exact hR _ _ _ _ dX2_firstUnlike_64 rfl h
end
section
def w_X3_peek (o : Nat) (M : gSt) (k : Int → gSt → Prop) : Prop :=
  (isReader o) ∧ (w_X4_has (o + 1) (M o 3) M (fun r8c M8 => 
  (wrap r8c = 0 →
    k (-1) M8) ∧
  (¬ wrap r8c = 0 →
    w_X4_at (o + 1) (M8 o 3) 0 M8 (fun r23c M23 => k r23c M23))))
set_option maxHeartbeats 4000000 in
set_option maxRecDepth 100000 in
theorem m_X3_peek {l : Launch} {D : va_G} {tys : List (ClassId × FieldType)} {ad : Nat → Nat} {cI cS : ClassId} {o : Nat} {M : gSt} {k : Int → gSt → Prop} (h : w_X3_peek o M k) : MOi l yX3_peek cX3_peek 1 .int (rmR 1 24) D clC ((cI, .int) :: (cS, .object "OldBronze$Sheet") :: tys) (wC ad cI cS) tC zC [.ref (ad o)] M k := by
  refine moi_intro (by decide +kernel) (Nat.le_of_ble_eq_true rfl) wc_276 ?_
  intro p e s m args below meth c A Q C hR
  unfold w_X3_peek at h
  obtain ⟨h_o, h⟩ := h
  refine g_locals (lv' := [(0, .ref (ad o))]) rfl ?_
  refine g_aload_n C dX3_peek_0 rfl ?_
  refine cf_X3_14 C h_o dX3_peek_1 ?_
  refine g_aload_n C dX3_peek_4 rfl ?_
  refine cf_X3_34 C h_o dX3_peek_5 ?_
  refine g_callVi C (nargs := 1) (o := (o + 1)) (st := []) (m_X4_has h) (show isRows (o + 1) from h.1).1 (show isRows (o + 1) from h.1).2.1 rfl rfl gc_X3_45 (by decide +kernel) ⟨rfl, rfl⟩ dX3_peek_8 ⟨by decide, by decide⟩ rfl rfl (Nat.le_of_ble_eq_true rfl) ?_
  intro r8c M8 hN
  replace h := hN
  clear hN
  refine g_if_eq C 29 dX3_peek_11 (by decide) (fun hc => ?_) (fun hc => ?_)
  · replace h := h.1 hc
    refine g_iconst C dX3_peek_29 ?_
    exact hR _ _ _ _ dX3_peek_30 rfl h
  · replace h := h.2 hc
    refine g_aload_n C dX3_peek_14 rfl ?_
    refine cf_X3_14 C h_o dX3_peek_15 ?_
    refine g_aload_n C dX3_peek_18 rfl ?_
    refine cf_X3_34 C h_o dX3_peek_19 ?_
    refine g_iconst C dX3_peek_22 ?_
    refine g_callVi C (nargs := 2) (o := (o + 1)) (st := []) (m_X4_at h) (show isRows (o + 1) from h.1).1 (show isRows (o + 1) from h.1).2.1 rfl rfl gc_X3_49 (by decide +kernel) ⟨rfl, rfl⟩ dX3_peek_23 ⟨by decide, by decide⟩ rfl rfl (Nat.le_of_ble_eq_true rfl) ?_
    intro r23c M23 hN
    replace h := hN
    clear hN
    refine g_goto C 30 dX3_peek_26 (by decide) ?_
    exact hR _ _ _ _ dX3_peek_30 rfl h
def w_X3_levelOf (a1 : Int) (M : gSt) (k : Int → gSt → Prop) : Prop :=
  
  (wrap a1 = 37 →
    k 4 M) ∧
  (wrap a1 = 38 →
    k 1 M) ∧
  (wrap a1 = 42 →
    k 4 M) ∧
  (wrap a1 = 43 →
    k 3 M) ∧
  (wrap a1 = 45 →
    k 3 M) ∧
  (wrap a1 = 47 →
    k 4 M) ∧
  (wrap a1 = 60 →
    k 2 M) ∧
  (wrap a1 = 61 →
    k 2 M) ∧
  (wrap a1 = 62 →
    k 2 M) ∧
  (wrap a1 = 124 →
    k 0 M) ∧
  (¬ wrap a1 = 37 ∧ ¬ wrap a1 = 38 ∧ ¬ wrap a1 = 42 ∧ ¬ wrap a1 = 43 ∧ ¬ wrap a1 = 45 ∧ ¬ wrap a1 = 47 ∧ ¬ wrap a1 = 60 ∧ ¬ wrap a1 = 61 ∧ ¬ wrap a1 = 62 ∧ ¬ wrap a1 = 124 →
    k (-1) M)
set_option maxHeartbeats 4000000 in
set_option maxRecDepth 100000 in
theorem m_X3_levelOf {l : Launch} {D : va_G} {tys : List (ClassId × FieldType)} {ad : Nat → Nat} {cI cS : ClassId} {a1 : Int} {M : gSt} {k : Int → gSt → Prop} (h : w_X3_levelOf a1 M k) : MOi l yX3_levelOf cX3_levelOf 1 .int (rmR 0 0) D clC ((cI, .int) :: (cS, .object "OldBronze$Sheet") :: tys) (wC ad cI cS) tC zC [iv a1] M k := by
  refine moi_intro (by decide +kernel) (Nat.le_of_ble_eq_true rfl) wc_280 ?_
  intro p e s m args below meth c A Q C hR
  unfold w_X3_levelOf at h
  refine g_locals (lv' := [(0, iv a1)]) rfl ?_
  refine g_iload_n C dX3_levelOf_0 rfl ?_
  by_cases hc37 : wrap a1 = 37
  · refine g_lookup C 100 dX3_levelOf_1 (by decide) (by rw [hc37] <;> rfl) (by decide) ?_
    replace h := h.1 hc37
    refine g_iconst C dX3_levelOf_100 ?_
    exact hR _ _ _ _ dX3_levelOf_101 rfl h
  · by_cases hc38 : wrap a1 = 38
    · refine g_lookup C 94 dX3_levelOf_1 (by decide) (by rw [hc38] <;> rfl) (by decide) ?_
      replace h := h.2.1 hc38
      refine g_iconst C dX3_levelOf_94 ?_
      exact hR _ _ _ _ dX3_levelOf_95 rfl h
    · by_cases hc42 : wrap a1 = 42
      · refine g_lookup C 100 dX3_levelOf_1 (by decide) (by rw [hc42] <;> rfl) (by decide) ?_
        replace h := h.2.2.1 hc42
        refine g_iconst C dX3_levelOf_100 ?_
        exact hR _ _ _ _ dX3_levelOf_101 rfl h
      · by_cases hc43 : wrap a1 = 43
        · refine g_lookup C 98 dX3_levelOf_1 (by decide) (by rw [hc43] <;> rfl) (by decide) ?_
          replace h := h.2.2.2.1 hc43
          refine g_iconst C dX3_levelOf_98 ?_
          exact hR _ _ _ _ dX3_levelOf_99 rfl h
        · by_cases hc45 : wrap a1 = 45
          · refine g_lookup C 98 dX3_levelOf_1 (by decide) (by rw [hc45] <;> rfl) (by decide) ?_
            replace h := h.2.2.2.2.1 hc45
            refine g_iconst C dX3_levelOf_98 ?_
            exact hR _ _ _ _ dX3_levelOf_99 rfl h
          · by_cases hc47 : wrap a1 = 47
            · refine g_lookup C 100 dX3_levelOf_1 (by decide) (by rw [hc47] <;> rfl) (by decide) ?_
              replace h := h.2.2.2.2.2.1 hc47
              refine g_iconst C dX3_levelOf_100 ?_
              exact hR _ _ _ _ dX3_levelOf_101 rfl h
            · by_cases hc60 : wrap a1 = 60
              · refine g_lookup C 96 dX3_levelOf_1 (by decide) (by rw [hc60] <;> rfl) (by decide) ?_
                replace h := h.2.2.2.2.2.2.1 hc60
                refine g_iconst C dX3_levelOf_96 ?_
                exact hR _ _ _ _ dX3_levelOf_97 rfl h
              · by_cases hc61 : wrap a1 = 61
                · refine g_lookup C 96 dX3_levelOf_1 (by decide) (by rw [hc61] <;> rfl) (by decide) ?_
                  replace h := h.2.2.2.2.2.2.2.1 hc61
                  refine g_iconst C dX3_levelOf_96 ?_
                  exact hR _ _ _ _ dX3_levelOf_97 rfl h
                · by_cases hc62 : wrap a1 = 62
                  · refine g_lookup C 96 dX3_levelOf_1 (by decide) (by rw [hc62] <;> rfl) (by decide) ?_
                    replace h := h.2.2.2.2.2.2.2.2.1 hc62
                    refine g_iconst C dX3_levelOf_96 ?_
                    exact hR _ _ _ _ dX3_levelOf_97 rfl h
                  · by_cases hc124 : wrap a1 = 124
                    · refine g_lookup C 92 dX3_levelOf_1 (by decide) (by rw [hc124] <;> rfl) (by decide) ?_
                      replace h := h.2.2.2.2.2.2.2.2.2.1 hc124
                      refine g_iconst C dX3_levelOf_92 ?_
                      exact hR _ _ _ _ dX3_levelOf_93 rfl h
                    · refine g_lookup C (off := 101) 102 dX3_levelOf_1 (by decide) (by simp [Op.lookupswitch.offset, Ne.symm hc37, Ne.symm hc38, Ne.symm hc42, Ne.symm hc43, Ne.symm hc45, Ne.symm hc47, Ne.symm hc60, Ne.symm hc61, Ne.symm hc62, Ne.symm hc124]) (by decide) ?_
                      replace h := h.2.2.2.2.2.2.2.2.2.2 ⟨hc37, hc38, hc42, hc43, hc45, hc47, hc60, hc61, hc62, hc124⟩
                      refine g_iconst C dX3_levelOf_102 ?_
                      exact hR _ _ _ _ dX3_levelOf_103 rfl h
def w_X3_isDigit (a1 : Int) (M : gSt) (k : Int → gSt → Prop) : Prop :=
  
  (wrap a1 < 48 →
    k 0 M) ∧
  (48 ≤ wrap a1 →

    (57 < wrap a1 →
      k 0 M) ∧
    (wrap a1 ≤ 57 →
      k 1 M))
set_option maxHeartbeats 4000000 in
set_option maxRecDepth 100000 in
theorem m_X3_isDigit {l : Launch} {D : va_G} {tys : List (ClassId × FieldType)} {ad : Nat → Nat} {cI cS : ClassId} {a1 : Int} {M : gSt} {k : Int → gSt → Prop} (h : w_X3_isDigit a1 M k) : MOi l yX3_isDigit cX3_isDigit 1 .boolean (rmR 0 0) D clC ((cI, .int) :: (cS, .object "OldBronze$Sheet") :: tys) (wC ad cI cS) tC zC [iv a1] M k := by
  refine moi_intro (by decide +kernel) (Nat.le_of_ble_eq_true rfl) wc_281 ?_
  intro p e s m args below meth c A Q C hR
  unfold w_X3_isDigit at h
  refine g_locals (lv' := [(0, iv a1)]) rfl ?_
  refine g_iload_n C dX3_isDigit_0 rfl ?_
  refine g_bipush C dX3_isDigit_1 rfl ?_
  refine g_icmp_lt C 16 dX3_isDigit_3 (by decide) (fun hc => ?_) (fun hc => ?_)
  · replace h := h.1 hc
    refine g_iconst C dX3_isDigit_16 ?_
    exact hR _ _ _ _ dX3_isDigit_17 rfl h
  · replace h := h.2 hc
    refine g_iload_n C dX3_isDigit_6 rfl ?_
    refine g_bipush C dX3_isDigit_7 rfl ?_
    refine g_icmp_gt C 16 dX3_isDigit_9 (by decide) (fun hc => ?_) (fun hc => ?_)
    · replace h := h.1 hc
      refine g_iconst C dX3_isDigit_16 ?_
      exact hR _ _ _ _ dX3_isDigit_17 rfl h
    · replace h := h.2 hc
      refine g_iconst C dX3_isDigit_12 ?_
      refine g_goto C 17 dX3_isDigit_13 (by decide) ?_
      exact hR _ _ _ _ dX3_isDigit_17 rfl h
def wC_X3_readNumber_4 (o : Nat) (k : gSt → Prop) (r4 : Int → Int → gSt → Prop) (X4_48 : Int → gSt → Prop) (v1 : Int) (v2 : Int) (M : gSt) : Prop :=

  (4 ≤ wrap v2 →
    X4_48 v1 M) ∧
  (wrap v2 < 4 →
    w_X3_peek o M (fun r10c M10 => w_X3_isDigit r10c M10 (fun r13c M13 => 
    (wrap r13c = 0 →
      X4_48 v1 M13) ∧
    (¬ wrap r13c = 0 →
      w_X3_peek o M13 (fun r24c M24 => ∀ x1_31 : Int, x1_31 = ((v1 * 10) + r24c) - 48 → (∀ M39 : gSt, M39 = wr M24 o 3 ((M24 o 3) + 1) → (r4 x1_31 (v2 + 1) M39)))))))
def wL_X3_readNumber_4 (o : Nat) (k : gSt → Prop)  (X4_48 : Int → gSt → Prop) : Nat → Int → Int → gSt → Prop
  | 0 => fun _ _ _ => False
  | n + 1 => fun v1 v2 M => wC_X3_readNumber_4 o k  (wL_X3_readNumber_4 o k  X4_48 n) X4_48 v1 v2 M
def wB_X3_readNumber_48 (o : Nat) (k : gSt → Prop)  (v1 : Int) (M : gSt) : Prop :=
w_X4_append (o + 3) v1 0 0 M (fun r55c M55 => k M55)
def w_X3_readNumber (o : Nat) (M : gSt) (k : gSt → Prop) : Prop :=
  (isReader o) ∧ (∃ n, wL_X3_readNumber_4 o k  (fun u1_4 M4 =>
    wB_X3_readNumber_48 o k  u1_4 M4) n 0 0 M)
set_option maxHeartbeats 4000000 in
set_option maxRecDepth 100000 in
theorem m_X3_readNumber {l : Launch} {D : va_G} {tys : List (ClassId × FieldType)} {ad : Nat → Nat} {cI cS : ClassId} {o : Nat} {M : gSt} {k : gSt → Prop} (h : w_X3_readNumber o M k) : MOv l yX3_readNumber cX3_readNumber 3 (rmR 2 46) D clC ((cI, .int) :: (cS, .object "OldBronze$Sheet") :: tys) (wC ad cI cS) tC zC [.ref (ad o)] M k := by
  refine mov_intro (by decide +kernel) (Nat.le_of_ble_eq_true rfl) wc_289 ?_
  intro p e s m args below meth c A Q C hR
  unfold w_X3_readNumber at h
  obtain ⟨h_o, h⟩ := h
  have pC4 : ∀ (r4 : Int → Int → gSt → Prop) (X4_48 : Int → gSt → Prop) (hr4 : ∀ (v1 : Int) (v2 : Int) (M : gSt), r4 v1 v2 M → gG p l e (rmR 2 46) s m args below meth c Q D clC A (wC ad cI cS) 3 4 [(0, .ref (ad o)), (1, iv v1), (2, iv v2)] [] M) (hX4_48 : ∀ (v1 : Int) (M : gSt), X4_48 v1 M → gG p l e (rmR 2 46) s m args below meth c Q D clC A (wC ad cI cS) 3 48 [(0, .ref (ad o)), (1, iv v1)] [] M) (v1 : Int) (v2 : Int) (M : gSt), wC_X3_readNumber_4 o k r4 X4_48 v1 v2 M → gG p l e (rmR 2 46) s m args below meth c Q D clC A (wC ad cI cS) 3 4 [(0, .ref (ad o)), (1, iv v1), (2, iv v2)] [] M := by
    intro r4 X4_48 hr4 hX4_48 v1 v2 M h
    unfold wC_X3_readNumber_4 at h
    refine g_iload_n C dX3_readNumber_4 rfl ?_
    refine g_iconst C dX3_readNumber_5 ?_
    refine g_icmp_ge C 48 dX3_readNumber_6 (by decide) (fun hc => ?_) (fun hc => ?_)
    · replace h := h.1 hc
      refine g_locals (lv' := [(0, .ref (ad o)), (1, iv v1)]) rfl ?_
      exact hX4_48 _  _ h
    · replace h := h.2 hc
      refine g_aload_n C dX3_readNumber_9 rfl ?_
      refine g_callVi C (nargs := 0) (o := o) (st := []) (m_X3_peek h) (show isReader o from h.1).1 (show isReader o from h.1).2 rfl rfl gc_X3_56 (by decide +kernel) ⟨rfl, rfl⟩ dX3_readNumber_10 ⟨by decide, by decide⟩ rfl rfl (Nat.le_of_ble_eq_true rfl) ?_
      intro r10c M10 hN
      replace h := hN
      clear hN
      refine g_callSi C (nargs := 1) (st := []) (m_X3_isDigit h) gc_X3_67 (by decide +kernel) ⟨rfl, rfl⟩ dX3_readNumber_13 ⟨by decide, by decide⟩ rfl rfl (Nat.le_of_ble_eq_true rfl) ?_
      intro r13c M13 hN
      replace h := hN
      clear hN
      refine g_if_eq C 48 dX3_readNumber_16 (by decide) (fun hc => ?_) (fun hc => ?_)
      · replace h := h.1 hc
        refine g_locals (lv' := [(0, .ref (ad o)), (1, iv v1)]) rfl ?_
        exact hX4_48 _  _ h
      · replace h := h.2 hc
        refine g_iload_n C dX3_readNumber_19 rfl ?_
        refine g_bipush C dX3_readNumber_20 rfl ?_
        refine g_imul C dX3_readNumber_22 ?_
        refine g_aload_n C dX3_readNumber_23 rfl ?_
        refine g_callVi C (nargs := 0) (o := o) (st := [iv (v1 * 10)]) (m_X3_peek h) (show isReader o from h.1).1 (show isReader o from h.1).2 rfl rfl gc_X3_56 (by decide +kernel) ⟨rfl, rfl⟩ dX3_readNumber_24 ⟨by decide, by decide⟩ rfl rfl (Nat.le_of_ble_eq_true rfl) ?_
        intro r24c M24 hN
        replace h := hN
        clear hN
        refine g_iadd C dX3_readNumber_27 ?_
        refine g_bipush C dX3_readNumber_28 rfl ?_
        refine g_isub C dX3_readNumber_30 ?_
        refine g_name (fun x1_31 hx1_31 => ?_)
        replace h := h x1_31 hx1_31
        refine g_istore_n C dX3_readNumber_31 (by decide) rfl ?_
        refine g_locals (lv' := [(0, .ref (ad o)), (1, iv x1_31), (2, iv v2)]) rfl ?_
        refine g_aload_n C dX3_readNumber_32 rfl ?_
        refine g_dup C dX3_readNumber_33 rfl ?_
        refine cf_X3_34 C h_o dX3_readNumber_34 ?_
        refine g_iconst C dX3_readNumber_37 ?_
        refine g_iadd C dX3_readNumber_38 ?_
        refine cp_X3_34 C h_o dX3_readNumber_39 ?_
        refine g_memname (fun M39 hM39 => ?_)
        replace h := h M39 hM39
        refine g_iinc C dX3_readNumber_42 rfl (by decide) rfl ?_
        refine g_locals (lv' := [(0, .ref (ad o)), (1, iv x1_31), (2, iv (v2 + 1))]) rfl ?_
        refine g_goto C 4 dX3_readNumber_45 (by decide) ?_
        refine g_locals (lv' := [(0, .ref (ad o)), (1, iv x1_31), (2, iv (v2 + 1))]) rfl ?_
        exact hr4 _ _  _ h
  have pL4 : ∀  (X4_48 : Int → gSt → Prop) (hX4_48 : ∀ (v1 : Int) (M : gSt), X4_48 v1 M → gG p l e (rmR 2 46) s m args below meth c Q D clC A (wC ad cI cS) 3 48 [(0, .ref (ad o)), (1, iv v1)] [] M) (n : Nat) (v1 : Int) (v2 : Int) (M : gSt), wL_X3_readNumber_4 o k  X4_48 n v1 v2 M → gG p l e (rmR 2 46) s m args below meth c Q D clC A (wC ad cI cS) 3 4 [(0, .ref (ad o)), (1, iv v1), (2, iv v2)] [] M := by
    intro  X4_48 hX4_48 n
    induction n with
    | zero => intro v1 v2 M h; exact h.elim
    | succ n ih =>
      intro v1 v2 M h
      exact pC4  (wL_X3_readNumber_4 o k  X4_48 n) X4_48 ih hX4_48 v1 v2 M h
  have pB48 : ∀   (v1 : Int) (M : gSt), wB_X3_readNumber_48 o k  v1 M → gG p l e (rmR 2 46) s m args below meth c Q D clC A (wC ad cI cS) 3 48 [(0, .ref (ad o)), (1, iv v1)] [] M := by
    intro   v1 M h
    unfold wB_X3_readNumber_48 at h
    refine g_aload_n C dX3_readNumber_48 rfl ?_
    refine cf_X3_20 C h_o dX3_readNumber_49 ?_
    refine g_iload_n C dX3_readNumber_52 rfl ?_
    refine g_iconst C dX3_readNumber_53 ?_
    refine g_iconst C dX3_readNumber_54 ?_
    refine g_callVi C (nargs := 3) (o := (o + 3)) (st := []) (m_X4_append h) (show isRows (o + 3) from h.1).1 (show isRows (o + 3) from h.1).2.1 rfl rfl gc_X3_63 (by decide +kernel) ⟨rfl, rfl⟩ dX3_readNumber_55 ⟨by decide, by decide⟩ rfl rfl (Nat.le_of_ble_eq_true rfl) ?_
    intro r55c M55 hN
    replace h := hN
    clear hN
    refine g_pop C dX3_readNumber_58 rfl ?_
    exact hR _ _ _ dX3_readNumber_59 h
  refine g_locals (lv' := [(0, .ref (ad o))]) rfl ?_
  refine g_iconst C dX3_readNumber_0 ?_
  refine g_istore_n C dX3_readNumber_1 (by decide) rfl ?_
  refine g_locals (lv' := [(0, .ref (ad o)), (1, iv 0)]) rfl ?_
  refine g_iconst C dX3_readNumber_2 ?_
  refine g_istore_n C dX3_readNumber_3 (by decide) rfl ?_
  refine g_locals (lv' := [(0, .ref (ad o)), (1, iv 0), (2, iv 0)]) rfl ?_
  refine g_locals (lv' := [(0, .ref (ad o)), (1, iv 0), (2, iv 0)]) rfl ?_
  obtain ⟨n, h⟩ := h
  refine pL4 _ ?_ n _ _ _ h
  · intro u1_4 M4 hN
    replace h := hN
    clear hN
    refine g_locals (lv' := [(0, .ref (ad o)), (1, iv u1_4)]) rfl ?_
    exact pB48 _ _ h
def wB_X3_nameOf_39 (o : Nat) (a1 : Int) (k : Int → gSt → Prop) (r2 : Int → gSt → Prop) (X2_37 : Int → gSt → Prop) (X2_45 : gSt → Prop) (v2 : Int) (M : gSt) : Prop :=
r2 (v2 + 1) M
def wC_X3_nameOf_2 (o : Nat) (a1 : Int) (k : Int → gSt → Prop) (r2 : Int → gSt → Prop) (X2_37 : Int → gSt → Prop) (X2_45 : gSt → Prop) (v2 : Int) (M : gSt) : Prop :=

  (3 ≤ wrap v2 →
    X2_45  M) ∧
  (wrap v2 < 3 →
    ∀ x3_15 : Int, x3_15 = ((M o 2) * 3) + v2 → (
    (wrap x3_15 < 0 →
      wB_X3_nameOf_39 o a1 k r2 X2_37 X2_45 v2 M) ∧
    (0 ≤ wrap x3_15 →

      (6 ≤ wrap x3_15 →
        wB_X3_nameOf_39 o a1 k r2 X2_37 X2_45 v2 M) ∧
      (wrap x3_15 < 6 →
        (0 ≤ x3_15 ∧ x3_15 < 6) ∧ (
        (¬ wrap (tb_NAMES x3_15) = wrap a1 →
          wB_X3_nameOf_39 o a1 k r2 X2_37 X2_45 v2 M) ∧
        (wrap (tb_NAMES x3_15) = wrap a1 →
          X2_37 v2 M))))))
def wL_X3_nameOf_2 (o : Nat) (a1 : Int) (k : Int → gSt → Prop)  (X2_37 : Int → gSt → Prop) (X2_45 : gSt → Prop) : Nat → Int → gSt → Prop
  | 0 => fun _ _ => False
  | n + 1 => fun v2 M => wC_X3_nameOf_2 o a1 k  (wL_X3_nameOf_2 o a1 k  X2_37 X2_45 n) X2_37 X2_45 v2 M
def w_X3_nameOf (o : Nat) (a1 : Int) (M : gSt) (k : Int → gSt → Prop) : Prop :=
  (isReader o) ∧ (∃ n, wL_X3_nameOf_2 o a1 k  (fun u2_2 M2 =>
    k u2_2 M2) (fun  M2 =>
    k (-1) M2) n 0 M)
set_option maxHeartbeats 4000000 in
set_option maxRecDepth 100000 in
theorem m_X3_nameOf {l : Launch} {D : va_G} {tys : List (ClassId × FieldType)} {ad : Nat → Nat} {cI cS : ClassId} {o : Nat} {a1 : Int} {M : gSt} {k : Int → gSt → Prop} (h : w_X3_nameOf o a1 M k) : MOi l yX3_nameOf cX3_nameOf 4 .int (rmR 0 0) D clC ((cI, .int) :: (cS, .object "OldBronze$Sheet") :: tys) (wC ad cI cS) tC zC [.ref (ad o), iv a1] M k := by
  refine moi_intro (by decide +kernel) (Nat.le_of_ble_eq_true rfl) wc_290 ?_
  intro p e s m args below meth c A Q C hR
  obtain ⟨⟨⟨tABOVE, hzABOVE, hTABOVE⟩, ⟨tNAMES, hzNAMES, hTNAMES⟩, ⟨tBODIES, hzBODIES, hTBODIES⟩⟩, hzn⟩ := C.2.2.2.2.2.2.2.2.1
  unfold w_X3_nameOf at h
  obtain ⟨h_o, h⟩ := h
  have pB39 : ∀ (r2 : Int → gSt → Prop) (X2_37 : Int → gSt → Prop) (X2_45 : gSt → Prop) (hr2 : ∀ (v2 : Int) (M : gSt), r2 v2 M → gG p l e (rmR 0 0) s m args below meth c Q D clC A (wC ad cI cS) 4 2 [(0, .ref (ad o)), (1, iv a1), (2, iv v2)] [] M) (hX2_37 : ∀ (v2 : Int) (M : gSt), X2_37 v2 M → gG p l e (rmR 0 0) s m args below meth c Q D clC A (wC ad cI cS) 4 37 [(2, iv v2)] [] M) (hX2_45 : ∀  (M : gSt), X2_45  M → gG p l e (rmR 0 0) s m args below meth c Q D clC A (wC ad cI cS) 4 45 [] [] M) (v2 : Int) (M : gSt), wB_X3_nameOf_39 o a1 k r2 X2_37 X2_45 v2 M → gG p l e (rmR 0 0) s m args below meth c Q D clC A (wC ad cI cS) 4 39 [(0, .ref (ad o)), (1, iv a1), (2, iv v2)] [] M := by
    intro r2 X2_37 X2_45 hr2 hX2_37 hX2_45 v2 M h
    unfold wB_X3_nameOf_39 at h
    refine g_iinc C dX3_nameOf_39 rfl (by decide) rfl ?_
    refine g_locals (lv' := [(0, .ref (ad o)), (1, iv a1), (2, iv (v2 + 1))]) rfl ?_
    refine g_goto C 2 dX3_nameOf_42 (by decide) ?_
    refine g_locals (lv' := [(0, .ref (ad o)), (1, iv a1), (2, iv (v2 + 1))]) rfl ?_
    exact hr2 _  _ h
  have pC2 : ∀ (r2 : Int → gSt → Prop) (X2_37 : Int → gSt → Prop) (X2_45 : gSt → Prop) (hr2 : ∀ (v2 : Int) (M : gSt), r2 v2 M → gG p l e (rmR 0 0) s m args below meth c Q D clC A (wC ad cI cS) 4 2 [(0, .ref (ad o)), (1, iv a1), (2, iv v2)] [] M) (hX2_37 : ∀ (v2 : Int) (M : gSt), X2_37 v2 M → gG p l e (rmR 0 0) s m args below meth c Q D clC A (wC ad cI cS) 4 37 [(2, iv v2)] [] M) (hX2_45 : ∀  (M : gSt), X2_45  M → gG p l e (rmR 0 0) s m args below meth c Q D clC A (wC ad cI cS) 4 45 [] [] M) (v2 : Int) (M : gSt), wC_X3_nameOf_2 o a1 k r2 X2_37 X2_45 v2 M → gG p l e (rmR 0 0) s m args below meth c Q D clC A (wC ad cI cS) 4 2 [(0, .ref (ad o)), (1, iv a1), (2, iv v2)] [] M := by
    intro r2 X2_37 X2_45 hr2 hX2_37 hX2_45 v2 M h
    unfold wC_X3_nameOf_2 at h
    refine g_iload_n C dX3_nameOf_2 rfl ?_
    refine g_iconst C dX3_nameOf_3 ?_
    refine g_icmp_ge C 45 dX3_nameOf_4 (by decide) (fun hc => ?_) (fun hc => ?_)
    · replace h := h.1 hc
      refine g_locals (lv' := []) rfl ?_
      exact hX2_45  _ h
    · replace h := h.2 hc
      refine g_aload_n C dX3_nameOf_7 rfl ?_
      refine cf_X3_30 C h_o dX3_nameOf_8 ?_
      refine g_iconst C dX3_nameOf_11 ?_
      refine g_imul C dX3_nameOf_12 ?_
      refine g_iload_n C dX3_nameOf_13 rfl ?_
      refine g_iadd C dX3_nameOf_14 ?_
      refine g_name (fun x3_15 hx3_15 => ?_)
      replace h := h x3_15 hx3_15
      refine g_istore_n C dX3_nameOf_15 (by decide) rfl ?_
      refine g_locals (lv' := [(0, .ref (ad o)), (1, iv a1), (2, iv v2), (3, iv x3_15)]) rfl ?_
      refine g_iload_n C dX3_nameOf_16 rfl ?_
      refine g_if_lt C 39 dX3_nameOf_17 (by decide) (fun hc => ?_) (fun hc => ?_)
      · replace h := h.1 hc
        refine g_locals (lv' := [(0, .ref (ad o)), (1, iv a1), (2, iv v2)]) rfl ?_
        exact pB39 r2 X2_37 X2_45 hr2 hX2_37 hX2_45 _ _ h
      · replace h := h.2 hc
        refine g_iload_n C dX3_nameOf_20 rfl ?_
        refine g_getsTN C hzNAMES (zn_14 _ _ C.2.2.2.2.2.2.2.2.1) rfl dX3_nameOf_21 ?_
        refine g_talen C dX3_nameOf_24 hTNAMES ?_
        refine g_top (y := 6) rfl ?_
        refine g_icmp_ge C 39 dX3_nameOf_25 (by decide) (fun hc => ?_) (fun hc => ?_)
        · replace h := h.1 hc
          refine g_locals (lv' := [(0, .ref (ad o)), (1, iv a1), (2, iv v2)]) rfl ?_
          exact pB39 r2 X2_37 X2_45 hr2 hX2_37 hX2_45 _ _ h
        · replace h := h.2 hc
          refine g_getsTN C hzNAMES (zn_14 _ _ C.2.2.2.2.2.2.2.2.1) rfl dX3_nameOf_28 ?_
          refine g_iload_n C dX3_nameOf_31 rfl ?_
          refine g_tald C dX3_nameOf_32 hTNAMES (by decide) h.1 ?_
          refine g_top (y := tb_NAMES x3_15) rfl ?_
          replace h := h.2
          refine g_iload_n C dX3_nameOf_33 rfl ?_
          refine g_icmp_ne C 39 dX3_nameOf_34 (by decide) (fun hc => ?_) (fun hc => ?_)
          · replace h := h.1 hc
            refine g_locals (lv' := [(0, .ref (ad o)), (1, iv a1), (2, iv v2)]) rfl ?_
            exact pB39 r2 X2_37 X2_45 hr2 hX2_37 hX2_45 _ _ h
          · replace h := h.2 hc
            refine g_locals (lv' := [(2, iv v2)]) rfl ?_
            exact hX2_37 _  _ h
  have pL2 : ∀  (X2_37 : Int → gSt → Prop) (X2_45 : gSt → Prop) (hX2_37 : ∀ (v2 : Int) (M : gSt), X2_37 v2 M → gG p l e (rmR 0 0) s m args below meth c Q D clC A (wC ad cI cS) 4 37 [(2, iv v2)] [] M) (hX2_45 : ∀  (M : gSt), X2_45  M → gG p l e (rmR 0 0) s m args below meth c Q D clC A (wC ad cI cS) 4 45 [] [] M) (n : Nat) (v2 : Int) (M : gSt), wL_X3_nameOf_2 o a1 k  X2_37 X2_45 n v2 M → gG p l e (rmR 0 0) s m args below meth c Q D clC A (wC ad cI cS) 4 2 [(0, .ref (ad o)), (1, iv a1), (2, iv v2)] [] M := by
    intro  X2_37 X2_45 hX2_37 hX2_45 n
    induction n with
    | zero => intro v2 M h; exact h.elim
    | succ n ih =>
      intro v2 M h
      exact pC2  (wL_X3_nameOf_2 o a1 k  X2_37 X2_45 n) X2_37 X2_45 ih hX2_37 hX2_45 v2 M h
  refine g_locals (lv' := [(0, .ref (ad o)), (1, iv a1)]) rfl ?_
  refine g_iconst C dX3_nameOf_0 ?_
  refine g_istore_n C dX3_nameOf_1 (by decide) rfl ?_
  refine g_locals (lv' := [(0, .ref (ad o)), (1, iv a1), (2, iv 0)]) rfl ?_
  refine g_locals (lv' := [(0, .ref (ad o)), (1, iv a1), (2, iv 0)]) rfl ?_
  obtain ⟨n, h⟩ := h
  refine pL2 _ _ ?_ ?_ n _ _ h
  · intro u2_2 M2 hN
    replace h := hN
    clear hN
    refine g_iload_n C dX3_nameOf_37 rfl ?_
    exact hR _ _ _ _ dX3_nameOf_38 rfl h
  · intro  M2 hN
    replace h := hN
    clear hN
    refine g_iconst C dX3_nameOf_45 ?_
    exact hR _ _ _ _ dX3_nameOf_46 rfl h
def wC_X3_readLevel_39 (rc : Nat → List Int → gSt → (Int → gSt → Prop) → Prop) (o : Nat) (a1 : Int) (a2 : Int) (k : Int → gSt → Prop) (r39 : Int → Int → gSt → Prop) (X39_83 : gSt → Prop) (X39_104 : gSt → Prop) (v3 : Int) (v4 : Int) (M : gSt) : Prop :=

  (wrap v3 ≤ wrap v4 →
    X39_104  M) ∧
  (wrap v4 < wrap v3 →
    w_X3_peek o M (fun r46c M46 => w_X3_levelOf r46c M46 (fun r49c M49 => 
    (¬ wrap r49c = wrap a1 →
      X39_104  M49) ∧
    (wrap r49c = wrap a1 →
      w_X3_peek o M49 (fun r57c M57 => ∀ M69 : gSt, M69 = wr M57 o 3 ((M57 o 3) + 1) → (rc 0 [a1 + 1, a2] M69 (fun r77c M77 => 
      (¬ wrap r77c = 0 →
        w_X4_append (o + 3) (-r57c) 0 0 M77 (fun r94c M94 => r39 v3 (v4 + 1) M94)) ∧
      (wrap r77c = 0 →
        X39_83  M77))))))))
def wL_X3_readLevel_39 (rc : Nat → List Int → gSt → (Int → gSt → Prop) → Prop) (o : Nat) (a1 : Int) (a2 : Int) (k : Int → gSt → Prop)  (X39_83 : gSt → Prop) (X39_104 : gSt → Prop) : Nat → Int → Int → gSt → Prop
  | 0 => fun _ _ _ => False
  | n + 1 => fun v3 v4 M => wC_X3_readLevel_39 rc o a1 a2 k  (wL_X3_readLevel_39 rc o a1 a2 k  X39_83 X39_104 n) X39_83 X39_104 v3 v4 M
def wB_X3_readLevel_35 (rc : Nat → List Int → gSt → (Int → gSt → Prop) → Prop) (o : Nat) (a1 : Int) (a2 : Int) (k : Int → gSt → Prop)  (s0 : Int) (M : gSt) : Prop :=
∃ n, wL_X3_readLevel_39 rc o a1 a2 k  (fun  M39 =>
    k 0 M39) (fun  M39 =>
    k 1 M39) n s0 0 M
def wb_X3_readLevel (rc : Nat → List Int → gSt → (Int → gSt → Prop) → Prop) (o : Nat) (a1 : Int) (a2 : Int) (M : gSt) (k : Int → gSt → Prop) : Prop :=
  (isReader o) ∧ (
  (wrap a1 ≤ 4 →
    rc 0 [a1 + 1, a2] M (fun r16c M16 => 
    (¬ wrap r16c = 0 →

      (¬ wrap a1 = 2 →
        wB_X3_readLevel_35 rc o a1 a2 k  60 M16) ∧
      (wrap a1 = 2 →
        wB_X3_readLevel_35 rc o a1 a2 k  1 M16)) ∧
    (wrap r16c = 0 →
      k 0 M16))) ∧
  (4 < wrap a1 →
    rc 1 [a2] M (fun r7c M7 => (r7c = 0 ∨ r7c = 1) ∧ (k r7c M7))))
set_option maxHeartbeats 4000000 in
set_option maxRecDepth 100000 in
theorem mb_X3_readLevel {l : Launch} {D : va_G} {tys : List (ClassId × FieldType)} {ad : Nat → Nat} {cI cS : ClassId} {rc : Nat → List Int → gSt → (Int → gSt → Prop) → Prop} {o : Nat} {a1 : Int} {a2 : Int} {d : Nat} (hrc0 : ∀ {a1 a2 : Int} {M : gSt} {k : Int → gSt → Prop}, rc 0 [a1, a2] M k → MOi l yX3_readLevel cX3_readLevel 6 .boolean (rmR (d + 3) (d * 25 + 68)) D clC ((cI, .int) :: (cS, .object "OldBronze$Sheet") :: tys) (wC ad cI cS) tC zC [.ref (ad o), iv a1, iv a2] M k) (hrc1 : ∀ {a1 : Int} {M : gSt} {k : Int → gSt → Prop}, rc 1 [a1] M k → MOi l yX3_readValue cX3_readValue 4 .boolean (rmR (d + 3) (d * 25 + 68)) D clC ((cI, .int) :: (cS, .object "OldBronze$Sheet") :: tys) (wC ad cI cS) tC zC [.ref (ad o), iv a1] M k) (hrc2 : ∀ {a1 a2 : Int} {M : gSt} {k : Int → gSt → Prop}, rc 2 [a1, a2] M k → MOi l yX3_readOpened cX3_readOpened 3 .boolean (rmR (d + 3) (d * 25 + 68)) D clC ((cI, .int) :: (cS, .object "OldBronze$Sheet") :: tys) (wC ad cI cS) tC zC [.ref (ad o), iv a1, iv a2] M k) {M : gSt} {k : Int → gSt → Prop} (h : wb_X3_readLevel rc o a1 a2 M k) : MOi l yX3_readLevel cX3_readLevel 6 .boolean (rmR (d + 1 + 3) ((d + 1) * 25 + 68)) D clC ((cI, .int) :: (cS, .object "OldBronze$Sheet") :: tys) (wC ad cI cS) tC zC [.ref (ad o), iv a1, iv a2] M k := by
  refine moi_intro (by decide +kernel) (Nat.le_of_ble_eq_true rfl) wc_311 ?_
  intro p e s m args below meth c A Q C hR
  unfold wb_X3_readLevel at h
  obtain ⟨h_o, h⟩ := h
  have pC39 : ∀ (r39 : Int → Int → gSt → Prop) (X39_83 : gSt → Prop) (X39_104 : gSt → Prop) (hr39 : ∀ (v3 : Int) (v4 : Int) (M : gSt), r39 v3 v4 M → gG p l e (rmR (d + 1 + 3) ((d + 1) * 25 + 68)) s m args below meth c Q D clC A (wC ad cI cS) 6 39 [(0, .ref (ad o)), (1, iv a1), (2, iv a2), (3, iv v3), (4, iv v4)] [] M) (hX39_83 : ∀  (M : gSt), X39_83  M → gG p l e (rmR (d + 1 + 3) ((d + 1) * 25 + 68)) s m args below meth c Q D clC A (wC ad cI cS) 6 83 [] [] M) (hX39_104 : ∀  (M : gSt), X39_104  M → gG p l e (rmR (d + 1 + 3) ((d + 1) * 25 + 68)) s m args below meth c Q D clC A (wC ad cI cS) 6 104 [] [] M) (v3 : Int) (v4 : Int) (M : gSt), wC_X3_readLevel_39 rc o a1 a2 k r39 X39_83 X39_104 v3 v4 M → gG p l e (rmR (d + 1 + 3) ((d + 1) * 25 + 68)) s m args below meth c Q D clC A (wC ad cI cS) 6 39 [(0, .ref (ad o)), (1, iv a1), (2, iv a2), (3, iv v3), (4, iv v4)] [] M := by
    intro r39 X39_83 X39_104 hr39 hX39_83 hX39_104 v3 v4 M h
    unfold wC_X3_readLevel_39 at h
    refine g_iload C dX3_readLevel_39 rfl ?_
    refine g_iload_n C dX3_readLevel_41 rfl ?_
    refine g_icmp_ge C 104 dX3_readLevel_42 (by decide) (fun hc => ?_) (fun hc => ?_)
    · replace h := h.1 hc
      refine g_locals (lv' := []) rfl ?_
      exact hX39_104  _ h
    · replace h := h.2 hc
      refine g_aload_n C dX3_readLevel_45 rfl ?_
      refine g_callVi C (nargs := 0) (o := o) (st := []) (m_X3_peek h) (show isReader o from h.1).1 (show isReader o from h.1).2 rfl rfl gc_X3_56 (by decide +kernel) ⟨rfl, rfl⟩ dX3_readLevel_46 ⟨by simp only [rmR]; omega, by simp only [rmR]; omega⟩ rfl rfl (Nat.le_of_ble_eq_true rfl) ?_
      intro r46c M46 hN
      replace h := hN
      clear hN
      refine g_callSi C (nargs := 1) (st := []) (m_X3_levelOf h) gc_X3_59 (by decide +kernel) ⟨rfl, rfl⟩ dX3_readLevel_49 ⟨by simp only [rmR]; omega, by simp only [rmR]; omega⟩ rfl rfl (Nat.le_of_ble_eq_true rfl) ?_
      intro r49c M49 hN
      replace h := hN
      clear hN
      refine g_iload_n C dX3_readLevel_52 rfl ?_
      refine g_icmp_ne C 104 dX3_readLevel_53 (by decide) (fun hc => ?_) (fun hc => ?_)
      · replace h := h.1 hc
        refine g_locals (lv' := []) rfl ?_
        exact hX39_104  _ h
      · replace h := h.2 hc
        refine g_aload_n C dX3_readLevel_56 rfl ?_
        refine g_callVi C (nargs := 0) (o := o) (st := []) (m_X3_peek h) (show isReader o from h.1).1 (show isReader o from h.1).2 rfl rfl gc_X3_56 (by decide +kernel) ⟨rfl, rfl⟩ dX3_readLevel_57 ⟨by simp only [rmR]; omega, by simp only [rmR]; omega⟩ rfl rfl (Nat.le_of_ble_eq_true rfl) ?_
        intro r57c M57 hN
        replace h := hN
        clear hN
        refine g_istore C dX3_readLevel_60 (by decide) rfl ?_
        refine g_locals (lv' := [(0, .ref (ad o)), (1, iv a1), (2, iv a2), (3, iv v3), (4, iv v4), (5, iv r57c)]) rfl ?_
        refine g_aload_n C dX3_readLevel_62 rfl ?_
        refine g_dup C dX3_readLevel_63 rfl ?_
        refine cf_X3_34 C h_o dX3_readLevel_64 ?_
        refine g_iconst C dX3_readLevel_67 ?_
        refine g_iadd C dX3_readLevel_68 ?_
        refine cp_X3_34 C h_o dX3_readLevel_69 ?_
        refine g_memname (fun M69 hM69 => ?_)
        replace h := h M69 hM69
        refine g_aload_n C dX3_readLevel_72 rfl ?_
        refine g_iload_n C dX3_readLevel_73 rfl ?_
        refine g_iconst C dX3_readLevel_74 ?_
        refine g_iadd C dX3_readLevel_75 ?_
        refine g_iload_n C dX3_readLevel_76 rfl ?_
        refine g_callVi C (nargs := 2) (o := o) (st := []) (hrc0 h) h_o.1 h_o.2 rfl rfl gc_X3_37 (by decide +kernel) ⟨rfl, rfl⟩ dX3_readLevel_77 ⟨by simp only [rmR]; omega, by simp only [rmR]; omega⟩ rfl rfl (Nat.le_of_ble_eq_true rfl) ?_
        intro r77c M77 hN
        replace h := hN
        clear hN
        refine g_if_ne C 85 dX3_readLevel_80 (by decide) (fun hc => ?_) (fun hc => ?_)
        · replace h := h.1 hc
          refine g_aload_n C dX3_readLevel_85 rfl ?_
          refine cf_X3_20 C h_o dX3_readLevel_86 ?_
          refine g_iload C dX3_readLevel_89 rfl ?_
          refine g_ineg C dX3_readLevel_91 ?_
          refine g_iconst C dX3_readLevel_92 ?_
          refine g_iconst C dX3_readLevel_93 ?_
          refine g_callVi C (nargs := 3) (o := (o + 3)) (st := []) (m_X4_append h) (show isRows (o + 3) from h.1).1 (show isRows (o + 3) from h.1).2.1 rfl rfl gc_X3_63 (by decide +kernel) ⟨rfl, rfl⟩ dX3_readLevel_94 ⟨by simp only [rmR]; omega, by simp only [rmR]; omega⟩ rfl rfl (Nat.le_of_ble_eq_true rfl) ?_
          intro r94c M94 hN
          replace h := hN
          clear hN
          refine g_pop C dX3_readLevel_97 rfl ?_
          refine g_iinc C dX3_readLevel_98 rfl (by decide) rfl ?_
          refine g_locals (lv' := [(0, .ref (ad o)), (1, iv a1), (2, iv a2), (3, iv v3), (4, iv (v4 + 1)), (5, iv r57c)]) rfl ?_
          refine g_goto C 39 dX3_readLevel_101 (by decide) ?_
          refine g_locals (lv' := [(0, .ref (ad o)), (1, iv a1), (2, iv a2), (3, iv v3), (4, iv (v4 + 1))]) rfl ?_
          exact hr39 _ _  _ h
        · replace h := h.2 hc
          refine g_locals (lv' := []) rfl ?_
          exact hX39_83  _ h
  have pL39 : ∀  (X39_83 : gSt → Prop) (X39_104 : gSt → Prop) (hX39_83 : ∀  (M : gSt), X39_83  M → gG p l e (rmR (d + 1 + 3) ((d + 1) * 25 + 68)) s m args below meth c Q D clC A (wC ad cI cS) 6 83 [] [] M) (hX39_104 : ∀  (M : gSt), X39_104  M → gG p l e (rmR (d + 1 + 3) ((d + 1) * 25 + 68)) s m args below meth c Q D clC A (wC ad cI cS) 6 104 [] [] M) (n : Nat) (v3 : Int) (v4 : Int) (M : gSt), wL_X3_readLevel_39 rc o a1 a2 k  X39_83 X39_104 n v3 v4 M → gG p l e (rmR (d + 1 + 3) ((d + 1) * 25 + 68)) s m args below meth c Q D clC A (wC ad cI cS) 6 39 [(0, .ref (ad o)), (1, iv a1), (2, iv a2), (3, iv v3), (4, iv v4)] [] M := by
    intro  X39_83 X39_104 hX39_83 hX39_104 n
    induction n with
    | zero => intro v3 v4 M h; exact h.elim
    | succ n ih =>
      intro v3 v4 M h
      exact pC39  (wL_X3_readLevel_39 rc o a1 a2 k  X39_83 X39_104 n) X39_83 X39_104 ih hX39_83 hX39_104 v3 v4 M h
  have pB35 : ∀   (s0 : Int) (M : gSt), wB_X3_readLevel_35 rc o a1 a2 k  s0 M → gG p l e (rmR (d + 1 + 3) ((d + 1) * 25 + 68)) s m args below meth c Q D clC A (wC ad cI cS) 6 35 [(0, .ref (ad o)), (1, iv a1), (2, iv a2)] [iv s0] M := by
    intro   s0 M h
    unfold wB_X3_readLevel_35 at h
    refine g_istore_n C dX3_readLevel_35 (by decide) rfl ?_
    refine g_locals (lv' := [(0, .ref (ad o)), (1, iv a1), (2, iv a2), (3, iv s0)]) rfl ?_
    refine g_iconst C dX3_readLevel_36 ?_
    refine g_istore C dX3_readLevel_37 (by decide) rfl ?_
    refine g_locals (lv' := [(0, .ref (ad o)), (1, iv a1), (2, iv a2), (3, iv s0), (4, iv 0)]) rfl ?_
    refine g_locals (lv' := [(0, .ref (ad o)), (1, iv a1), (2, iv a2), (3, iv s0), (4, iv 0)]) rfl ?_
    obtain ⟨n, h⟩ := h
    refine pL39 _ _ ?_ ?_ n _ _ _ h
    · intro  M39 hN
      replace h := hN
      clear hN
      refine g_iconst C dX3_readLevel_83 ?_
      exact hR _ _ _ _ dX3_readLevel_84 rfl h
    · intro  M39 hN
      replace h := hN
      clear hN
      refine g_iconst C dX3_readLevel_104 ?_
      exact hR _ _ _ _ dX3_readLevel_105 rfl h
  refine g_locals (lv' := [(0, .ref (ad o)), (1, iv a1), (2, iv a2)]) rfl ?_
  refine g_iload_n C dX3_readLevel_0 rfl ?_
  refine g_iconst C dX3_readLevel_1 ?_
  refine g_icmp_le C 11 dX3_readLevel_2 (by decide) (fun hc => ?_) (fun hc => ?_)
  · replace h := h.1 hc
    refine g_aload_n C dX3_readLevel_11 rfl ?_
    refine g_iload_n C dX3_readLevel_12 rfl ?_
    refine g_iconst C dX3_readLevel_13 ?_
    refine g_iadd C dX3_readLevel_14 ?_
    refine g_iload_n C dX3_readLevel_15 rfl ?_
    refine g_callVi C (nargs := 2) (o := o) (st := []) (hrc0 h) h_o.1 h_o.2 rfl rfl gc_X3_37 (by decide +kernel) ⟨rfl, rfl⟩ dX3_readLevel_16 ⟨by simp only [rmR]; omega, by simp only [rmR]; omega⟩ rfl rfl (Nat.le_of_ble_eq_true rfl) ?_
    intro r16c M16 hN
    replace h := hN
    clear hN
    refine g_if_ne C 24 dX3_readLevel_19 (by decide) (fun hc => ?_) (fun hc => ?_)
    · replace h := h.1 hc
      refine g_iload_n C dX3_readLevel_24 rfl ?_
      refine g_iconst C dX3_readLevel_25 ?_
      refine g_icmp_ne C 33 dX3_readLevel_26 (by decide) (fun hc => ?_) (fun hc => ?_)
      · replace h := h.1 hc
        refine g_bipush C dX3_readLevel_33 rfl ?_
        refine g_locals (lv' := [(0, .ref (ad o)), (1, iv a1), (2, iv a2)]) rfl ?_
        exact pB35 _ _ h
      · replace h := h.2 hc
        refine g_iconst C dX3_readLevel_29 ?_
        refine g_goto C 35 dX3_readLevel_30 (by decide) ?_
        refine g_locals (lv' := [(0, .ref (ad o)), (1, iv a1), (2, iv a2)]) rfl ?_
        exact pB35 _ _ h
    · replace h := h.2 hc
      refine g_iconst C dX3_readLevel_22 ?_
      exact hR _ _ _ _ dX3_readLevel_23 rfl h
  · replace h := h.2 hc
    refine g_aload_n C dX3_readLevel_5 rfl ?_
    refine g_iload_n C dX3_readLevel_6 rfl ?_
    refine g_callVi C (nargs := 1) (o := o) (st := []) (hrc1 h) h_o.1 h_o.2 rfl rfl gc_X3_53 (by decide +kernel) ⟨rfl, rfl⟩ dX3_readLevel_7 ⟨by simp only [rmR]; omega, by simp only [rmR]; omega⟩ rfl rfl (Nat.le_of_ble_eq_true rfl) ?_
    intro r7c M7 hN
    replace h := hN
    clear hN
    exact hR _ _ _ _ dX3_readLevel_10 (zn_bool h.1).1 h.2
def wB_X3_readValue_30 (rc : Nat → List Int → gSt → (Int → gSt → Prop) → Prop) (o : Nat) (a1 : Int) (k : Int → gSt → Prop)  (v2 : Int) (M : gSt) : Prop :=

  (5 ≤ wrap a1 →
    k 0 M) ∧
  (wrap a1 < 5 →
    rc 2 [v2, a1 + 1] M (fun r40c M40 => 
    (wrap r40c = 0 →
      k 0 M40) ∧
    (¬ wrap r40c = 0 →
      k 1 M40)))
def wb_X3_readValue (rc : Nat → List Int → gSt → (Int → gSt → Prop) → Prop) (o : Nat) (a1 : Int) (M : gSt) (k : Int → gSt → Prop) : Prop :=
  (isReader o) ∧ (w_X3_peek o M (fun r1c M1 => w_X3_isDigit r1c M1 (fun r6c M6 => 
  (wrap r6c = 0 →

    (wrap r1c = 33 →
      wB_X3_readValue_30 rc o a1 k  r1c M6) ∧
    (¬ wrap r1c = 33 →

      (¬ wrap r1c = 40 →
        w_X3_nameOf o r1c M6 (fun r54c M54 => 
        (0 ≤ wrap r54c →
          ∀ M71 : gSt, M71 = wr M54 o 3 ((M54 o 3) + 1) → (w_X4_append (o + 3) ((-1) - r54c) 0 0 M71 (fun r83c M83 => k 1 M83))) ∧
        (wrap r54c < 0 →
          k 0 M54))) ∧
      (wrap r1c = 40 →
        wB_X3_readValue_30 rc o a1 k  r1c M6))) ∧
  (¬ wrap r6c = 0 →
    w_X3_readNumber o M6 (fun M13 => k 1 M13)))))
set_option maxHeartbeats 4000000 in
set_option maxRecDepth 100000 in
theorem mb_X3_readValue {l : Launch} {D : va_G} {tys : List (ClassId × FieldType)} {ad : Nat → Nat} {cI cS : ClassId} {rc : Nat → List Int → gSt → (Int → gSt → Prop) → Prop} {o : Nat} {a1 : Int} {d : Nat} (hrc0 : ∀ {a1 a2 : Int} {M : gSt} {k : Int → gSt → Prop}, rc 0 [a1, a2] M k → MOi l yX3_readLevel cX3_readLevel 6 .boolean (rmR (d + 3) (d * 25 + 68)) D clC ((cI, .int) :: (cS, .object "OldBronze$Sheet") :: tys) (wC ad cI cS) tC zC [.ref (ad o), iv a1, iv a2] M k) (hrc1 : ∀ {a1 : Int} {M : gSt} {k : Int → gSt → Prop}, rc 1 [a1] M k → MOi l yX3_readValue cX3_readValue 4 .boolean (rmR (d + 3) (d * 25 + 68)) D clC ((cI, .int) :: (cS, .object "OldBronze$Sheet") :: tys) (wC ad cI cS) tC zC [.ref (ad o), iv a1] M k) (hrc2 : ∀ {a1 a2 : Int} {M : gSt} {k : Int → gSt → Prop}, rc 2 [a1, a2] M k → MOi l yX3_readOpened cX3_readOpened 3 .boolean (rmR (d + 3) (d * 25 + 68)) D clC ((cI, .int) :: (cS, .object "OldBronze$Sheet") :: tys) (wC ad cI cS) tC zC [.ref (ad o), iv a1, iv a2] M k) {M : gSt} {k : Int → gSt → Prop} (h : wb_X3_readValue rc o a1 M k) : MOi l yX3_readValue cX3_readValue 4 .boolean (rmR (d + 1 + 3) ((d + 1) * 25 + 68)) D clC ((cI, .int) :: (cS, .object "OldBronze$Sheet") :: tys) (wC ad cI cS) tC zC [.ref (ad o), iv a1] M k := by
  refine moi_intro (by decide +kernel) (Nat.le_of_ble_eq_true rfl) wc_301 ?_
  intro p e s m args below meth c A Q C hR
  unfold wb_X3_readValue at h
  obtain ⟨h_o, h⟩ := h
  have pB30 : ∀   (v2 : Int) (M : gSt), wB_X3_readValue_30 rc o a1 k  v2 M → gG p l e (rmR (d + 1 + 3) ((d + 1) * 25 + 68)) s m args below meth c Q D clC A (wC ad cI cS) 4 30 [(0, .ref (ad o)), (1, iv a1), (2, iv v2)] [] M := by
    intro   v2 M h
    unfold wB_X3_readValue_30 at h
    refine g_iload_n C dX3_readValue_30 rfl ?_
    refine g_iconst C dX3_readValue_31 ?_
    refine g_icmp_ge C 50 dX3_readValue_32 (by decide) (fun hc => ?_) (fun hc => ?_)
    · replace h := h.1 hc
      refine g_iconst C dX3_readValue_50 ?_
      exact hR _ _ _ _ dX3_readValue_51 rfl h
    · replace h := h.2 hc
      refine g_aload_n C dX3_readValue_35 rfl ?_
      refine g_iload_n C dX3_readValue_36 rfl ?_
      refine g_iload_n C dX3_readValue_37 rfl ?_
      refine g_iconst C dX3_readValue_38 ?_
      refine g_iadd C dX3_readValue_39 ?_
      refine g_callVi C (nargs := 2) (o := o) (st := []) (hrc2 h) h_o.1 h_o.2 rfl rfl gc_X3_73 (by decide +kernel) ⟨rfl, rfl⟩ dX3_readValue_40 ⟨by simp only [rmR]; omega, by simp only [rmR]; omega⟩ rfl rfl (Nat.le_of_ble_eq_true rfl) ?_
      intro r40c M40 hN
      replace h := hN
      clear hN
      refine g_if_eq C 50 dX3_readValue_43 (by decide) (fun hc => ?_) (fun hc => ?_)
      · replace h := h.1 hc
        refine g_iconst C dX3_readValue_50 ?_
        exact hR _ _ _ _ dX3_readValue_51 rfl h
      · replace h := h.2 hc
        refine g_iconst C dX3_readValue_46 ?_
        refine g_goto C 51 dX3_readValue_47 (by decide) ?_
        exact hR _ _ _ _ dX3_readValue_51 rfl h
  refine g_locals (lv' := [(0, .ref (ad o)), (1, iv a1)]) rfl ?_
  refine g_aload_n C dX3_readValue_0 rfl ?_
  refine g_callVi C (nargs := 0) (o := o) (st := []) (m_X3_peek h) (show isReader o from h.1).1 (show isReader o from h.1).2 rfl rfl gc_X3_56 (by decide +kernel) ⟨rfl, rfl⟩ dX3_readValue_1 ⟨by simp only [rmR]; omega, by simp only [rmR]; omega⟩ rfl rfl (Nat.le_of_ble_eq_true rfl) ?_
  intro r1c M1 hN
  replace h := hN
  clear hN
  refine g_istore_n C dX3_readValue_4 (by decide) rfl ?_
  refine g_locals (lv' := [(0, .ref (ad o)), (1, iv a1), (2, iv r1c)]) rfl ?_
  refine g_iload_n C dX3_readValue_5 rfl ?_
  refine g_callSi C (nargs := 1) (st := []) (m_X3_isDigit h) gc_X3_67 (by decide +kernel) ⟨rfl, rfl⟩ dX3_readValue_6 ⟨by simp only [rmR]; omega, by simp only [rmR]; omega⟩ rfl rfl (Nat.le_of_ble_eq_true rfl) ?_
  intro r6c M6 hN
  replace h := hN
  clear hN
  refine g_if_eq C 18 dX3_readValue_9 (by decide) (fun hc => ?_) (fun hc => ?_)
  · replace h := h.1 hc
    refine g_iload_n C dX3_readValue_18 rfl ?_
    refine g_bipush C dX3_readValue_19 rfl ?_
    refine g_icmp_eq C 30 dX3_readValue_21 (by decide) (fun hc => ?_) (fun hc => ?_)
    · replace h := h.1 hc
      refine g_locals (lv' := [(0, .ref (ad o)), (1, iv a1), (2, iv r1c)]) rfl ?_
      exact pB30 _ _ h
    · replace h := h.2 hc
      refine g_iload_n C dX3_readValue_24 rfl ?_
      refine g_bipush C dX3_readValue_25 rfl ?_
      refine g_icmp_ne C 52 dX3_readValue_27 (by decide) (fun hc => ?_) (fun hc => ?_)
      · replace h := h.1 hc
        refine g_aload_n C dX3_readValue_52 rfl ?_
        refine g_iload_n C dX3_readValue_53 rfl ?_
        refine g_callVi C (nargs := 1) (o := o) (st := []) (m_X3_nameOf h) (show isReader o from h.1).1 (show isReader o from h.1).2 rfl rfl gc_X3_76 (by decide +kernel) ⟨rfl, rfl⟩ dX3_readValue_54 ⟨by simp only [rmR]; omega, by simp only [rmR]; omega⟩ rfl rfl (Nat.le_of_ble_eq_true rfl) ?_
        intro r54c M54 hN
        replace h := hN
        clear hN
        refine g_istore_n C dX3_readValue_57 (by decide) rfl ?_
        refine g_locals (lv' := [(0, .ref (ad o)), (1, iv a1), (2, iv r1c), (3, iv r54c)]) rfl ?_
        refine g_iload_n C dX3_readValue_58 rfl ?_
        refine g_if_ge C 64 dX3_readValue_59 (by decide) (fun hc => ?_) (fun hc => ?_)
        · replace h := h.1 hc
          refine g_aload_n C dX3_readValue_64 rfl ?_
          refine g_dup C dX3_readValue_65 rfl ?_
          refine cf_X3_34 C h_o dX3_readValue_66 ?_
          refine g_iconst C dX3_readValue_69 ?_
          refine g_iadd C dX3_readValue_70 ?_
          refine cp_X3_34 C h_o dX3_readValue_71 ?_
          refine g_memname (fun M71 hM71 => ?_)
          replace h := h M71 hM71
          refine g_aload_n C dX3_readValue_74 rfl ?_
          refine cf_X3_20 C h_o dX3_readValue_75 ?_
          refine g_iconst C dX3_readValue_78 ?_
          refine g_iload_n C dX3_readValue_79 rfl ?_
          refine g_isub C dX3_readValue_80 ?_
          refine g_iconst C dX3_readValue_81 ?_
          refine g_iconst C dX3_readValue_82 ?_
          refine g_callVi C (nargs := 3) (o := (o + 3)) (st := []) (m_X4_append h) (show isRows (o + 3) from h.1).1 (show isRows (o + 3) from h.1).2.1 rfl rfl gc_X3_63 (by decide +kernel) ⟨rfl, rfl⟩ dX3_readValue_83 ⟨by simp only [rmR]; omega, by simp only [rmR]; omega⟩ rfl rfl (Nat.le_of_ble_eq_true rfl) ?_
          intro r83c M83 hN
          replace h := hN
          clear hN
          refine g_pop C dX3_readValue_86 rfl ?_
          refine g_iconst C dX3_readValue_87 ?_
          exact hR _ _ _ _ dX3_readValue_88 rfl h
        · replace h := h.2 hc
          refine g_iconst C dX3_readValue_62 ?_
          exact hR _ _ _ _ dX3_readValue_63 rfl h
      · replace h := h.2 hc
        refine g_locals (lv' := [(0, .ref (ad o)), (1, iv a1), (2, iv r1c)]) rfl ?_
        exact pB30 _ _ h
  · replace h := h.2 hc
    refine g_aload_n C dX3_readValue_12 rfl ?_
    refine g_callVv C (nargs := 0) (o := o) (st := []) (m_X3_readNumber h) (show isReader o from h.1).1 (show isReader o from h.1).2 rfl rfl gc_X3_70 (by decide +kernel) ⟨rfl, rfl⟩ dX3_readValue_13 ⟨by simp only [rmR]; omega, by simp only [rmR]; omega⟩ rfl rfl (Nat.le_of_ble_eq_true rfl) ?_
    intro M13 hN
    replace h := hN
    clear hN
    refine g_iconst C dX3_readValue_16 ?_
    exact hR _ _ _ _ dX3_readValue_17 rfl h
def wb_X3_readOpened (rc : Nat → List Int → gSt → (Int → gSt → Prop) → Prop) (o : Nat) (a1 : Int) (a2 : Int) (M : gSt) (k : Int → gSt → Prop) : Prop :=
  (isReader o) ∧ (∀ M7 : gSt, M7 = wr M o 3 ((M o 3) + 1) → (
  (¬ wrap a1 = 33 →
    rc 0 [0, a2] M7 (fun r43c M43 => 
    (wrap r43c = 0 →
      k 0 M43) ∧
    (¬ wrap r43c = 0 →
      w_X3_peek o M43 (fun r50c M50 => 
      (wrap r50c = 41 →
        ∀ M67 : gSt, M67 = wr M50 o 3 ((M50 o 3) + 1) → (k 1 M67)) ∧
      (¬ wrap r50c = 41 →
        k 0 M50))))) ∧
  (wrap a1 = 33 →
    rc 1 [a2] M7 (fun r18c M18 => 
    (¬ wrap r18c = 0 →
      w_X4_append (o + 3) (-a1) 0 0 M18 (fun r34c M34 => k 1 M34)) ∧
    (wrap r18c = 0 →
      k 0 M18)))))
set_option maxHeartbeats 4000000 in
set_option maxRecDepth 100000 in
theorem mb_X3_readOpened {l : Launch} {D : va_G} {tys : List (ClassId × FieldType)} {ad : Nat → Nat} {cI cS : ClassId} {rc : Nat → List Int → gSt → (Int → gSt → Prop) → Prop} {o : Nat} {a1 : Int} {a2 : Int} {d : Nat} (hrc0 : ∀ {a1 a2 : Int} {M : gSt} {k : Int → gSt → Prop}, rc 0 [a1, a2] M k → MOi l yX3_readLevel cX3_readLevel 6 .boolean (rmR (d + 3) (d * 25 + 68)) D clC ((cI, .int) :: (cS, .object "OldBronze$Sheet") :: tys) (wC ad cI cS) tC zC [.ref (ad o), iv a1, iv a2] M k) (hrc1 : ∀ {a1 : Int} {M : gSt} {k : Int → gSt → Prop}, rc 1 [a1] M k → MOi l yX3_readValue cX3_readValue 4 .boolean (rmR (d + 3) (d * 25 + 68)) D clC ((cI, .int) :: (cS, .object "OldBronze$Sheet") :: tys) (wC ad cI cS) tC zC [.ref (ad o), iv a1] M k) (hrc2 : ∀ {a1 a2 : Int} {M : gSt} {k : Int → gSt → Prop}, rc 2 [a1, a2] M k → MOi l yX3_readOpened cX3_readOpened 3 .boolean (rmR (d + 3) (d * 25 + 68)) D clC ((cI, .int) :: (cS, .object "OldBronze$Sheet") :: tys) (wC ad cI cS) tC zC [.ref (ad o), iv a1, iv a2] M k) {M : gSt} {k : Int → gSt → Prop} (h : wb_X3_readOpened rc o a1 a2 M k) : MOi l yX3_readOpened cX3_readOpened 3 .boolean (rmR (d + 1 + 3) ((d + 1) * 25 + 68)) D clC ((cI, .int) :: (cS, .object "OldBronze$Sheet") :: tys) (wC ad cI cS) tC zC [.ref (ad o), iv a1, iv a2] M k := by
  refine moi_intro (by decide +kernel) (Nat.le_of_ble_eq_true rfl) wc_300 ?_
  intro p e s m args below meth c A Q C hR
  unfold wb_X3_readOpened at h
  obtain ⟨h_o, h⟩ := h
  refine g_locals (lv' := [(0, .ref (ad o)), (1, iv a1), (2, iv a2)]) rfl ?_
  refine g_aload_n C dX3_readOpened_0 rfl ?_
  refine g_dup C dX3_readOpened_1 rfl ?_
  refine cf_X3_34 C h_o dX3_readOpened_2 ?_
  refine g_iconst C dX3_readOpened_5 ?_
  refine g_iadd C dX3_readOpened_6 ?_
  refine cp_X3_34 C h_o dX3_readOpened_7 ?_
  refine g_memname (fun M7 hM7 => ?_)
  replace h := h M7 hM7
  refine g_iload_n C dX3_readOpened_10 rfl ?_
  refine g_bipush C dX3_readOpened_11 rfl ?_
  refine g_icmp_ne C 40 dX3_readOpened_13 (by decide) (fun hc => ?_) (fun hc => ?_)
  · replace h := h.1 hc
    refine g_aload_n C dX3_readOpened_40 rfl ?_
    refine g_iconst C dX3_readOpened_41 ?_
    refine g_iload_n C dX3_readOpened_42 rfl ?_
    refine g_callVi C (nargs := 2) (o := o) (st := []) (hrc0 h) h_o.1 h_o.2 rfl rfl gc_X3_37 (by decide +kernel) ⟨rfl, rfl⟩ dX3_readOpened_43 ⟨by simp only [rmR]; omega, by simp only [rmR]; omega⟩ rfl rfl (Nat.le_of_ble_eq_true rfl) ?_
    intro r43c M43 hN
    replace h := hN
    clear hN
    refine g_if_eq C 58 dX3_readOpened_46 (by decide) (fun hc => ?_) (fun hc => ?_)
    · replace h := h.1 hc
      refine g_iconst C dX3_readOpened_58 ?_
      exact hR _ _ _ _ dX3_readOpened_59 rfl h
    · replace h := h.2 hc
      refine g_aload_n C dX3_readOpened_49 rfl ?_
      refine g_callVi C (nargs := 0) (o := o) (st := []) (m_X3_peek h) (show isReader o from h.1).1 (show isReader o from h.1).2 rfl rfl gc_X3_56 (by decide +kernel) ⟨rfl, rfl⟩ dX3_readOpened_50 ⟨by simp only [rmR]; omega, by simp only [rmR]; omega⟩ rfl rfl (Nat.le_of_ble_eq_true rfl) ?_
      intro r50c M50 hN
      replace h := hN
      clear hN
      refine g_bipush C dX3_readOpened_53 rfl ?_
      refine g_icmp_eq C 60 dX3_readOpened_55 (by decide) (fun hc => ?_) (fun hc => ?_)
      · replace h := h.1 hc
        refine g_aload_n C dX3_readOpened_60 rfl ?_
        refine g_dup C dX3_readOpened_61 rfl ?_
        refine cf_X3_34 C h_o dX3_readOpened_62 ?_
        refine g_iconst C dX3_readOpened_65 ?_
        refine g_iadd C dX3_readOpened_66 ?_
        refine cp_X3_34 C h_o dX3_readOpened_67 ?_
        refine g_memname (fun M67 hM67 => ?_)
        replace h := h M67 hM67
        refine g_iconst C dX3_readOpened_70 ?_
        exact hR _ _ _ _ dX3_readOpened_71 rfl h
      · replace h := h.2 hc
        refine g_iconst C dX3_readOpened_58 ?_
        exact hR _ _ _ _ dX3_readOpened_59 rfl h
  · replace h := h.2 hc
    refine g_aload_n C dX3_readOpened_16 rfl ?_
    refine g_iload_n C dX3_readOpened_17 rfl ?_
    refine g_callVi C (nargs := 1) (o := o) (st := []) (hrc1 h) h_o.1 h_o.2 rfl rfl gc_X3_53 (by decide +kernel) ⟨rfl, rfl⟩ dX3_readOpened_18 ⟨by simp only [rmR]; omega, by simp only [rmR]; omega⟩ rfl rfl (Nat.le_of_ble_eq_true rfl) ?_
    intro r18c M18 hN
    replace h := hN
    clear hN
    refine g_if_ne C 26 dX3_readOpened_21 (by decide) (fun hc => ?_) (fun hc => ?_)
    · replace h := h.1 hc
      refine g_aload_n C dX3_readOpened_26 rfl ?_
      refine cf_X3_20 C h_o dX3_readOpened_27 ?_
      refine g_iload_n C dX3_readOpened_30 rfl ?_
      refine g_ineg C dX3_readOpened_31 ?_
      refine g_iconst C dX3_readOpened_32 ?_
      refine g_iconst C dX3_readOpened_33 ?_
      refine g_callVi C (nargs := 3) (o := (o + 3)) (st := []) (m_X4_append h) (show isRows (o + 3) from h.1).1 (show isRows (o + 3) from h.1).2.1 rfl rfl gc_X3_63 (by decide +kernel) ⟨rfl, rfl⟩ dX3_readOpened_34 ⟨by simp only [rmR]; omega, by simp only [rmR]; omega⟩ rfl rfl (Nat.le_of_ble_eq_true rfl) ?_
      intro r34c M34 hN
      replace h := hN
      clear hN
      refine g_pop C dX3_readOpened_37 rfl ?_
      refine g_iconst C dX3_readOpened_38 ?_
      exact hR _ _ _ _ dX3_readOpened_39 rfl h
    · replace h := h.2 hc
      refine g_iconst C dX3_readOpened_24 ?_
      exact hR _ _ _ _ dX3_readOpened_25 rfl h
def wg_X3_readLevel (o : Nat) : Nat → Nat → List Int → gSt → (Int → gSt → Prop) → Prop
  | 0 => fun _ _ _ _ => False
  | d + 1 => fun i xs M k => match i, xs with
    | 0, [a1, a2] => wb_X3_readLevel (wg_X3_readLevel o d) o a1 a2 M k
    | 1, [a1] => wb_X3_readValue (wg_X3_readLevel o d) o a1 M k
    | 2, [a1, a2] => wb_X3_readOpened (wg_X3_readLevel o d) o a1 a2 M k
    | _, _ => False
theorem mg_X3_readLevel {l : Launch} {D : va_G} {tys : List (ClassId × FieldType)} {ad : Nat → Nat} {cI cS : ClassId} {o : Nat} (d : Nat) : (∀ {a1 a2 : Int} {M : gSt} {k : Int → gSt → Prop}, wg_X3_readLevel o d 0 [a1, a2] M k → MOi l yX3_readLevel cX3_readLevel 6 .boolean (rmR (d + 3) (d * 25 + 68)) D clC ((cI, .int) :: (cS, .object "OldBronze$Sheet") :: tys) (wC ad cI cS) tC zC [.ref (ad o), iv a1, iv a2] M k) ∧ (∀ {a1 : Int} {M : gSt} {k : Int → gSt → Prop}, wg_X3_readLevel o d 1 [a1] M k → MOi l yX3_readValue cX3_readValue 4 .boolean (rmR (d + 3) (d * 25 + 68)) D clC ((cI, .int) :: (cS, .object "OldBronze$Sheet") :: tys) (wC ad cI cS) tC zC [.ref (ad o), iv a1] M k) ∧ (∀ {a1 a2 : Int} {M : gSt} {k : Int → gSt → Prop}, wg_X3_readLevel o d 2 [a1, a2] M k → MOi l yX3_readOpened cX3_readOpened 3 .boolean (rmR (d + 3) (d * 25 + 68)) D clC ((cI, .int) :: (cS, .object "OldBronze$Sheet") :: tys) (wC ad cI cS) tC zC [.ref (ad o), iv a1, iv a2] M k) := by
  induction d with
  | zero => exact ⟨fun h => False.elim h, fun h => False.elim h, fun h => False.elim h⟩
  | succ d ih =>
    obtain ⟨h0, h1, h2⟩ := ih
    exact ⟨fun h => mb_X3_readLevel (rc := wg_X3_readLevel o d) h0 h1 h2 h, fun h => mb_X3_readValue (rc := wg_X3_readLevel o d) h0 h1 h2 h, fun h => mb_X3_readOpened (rc := wg_X3_readLevel o d) h0 h1 h2 h⟩
def w_X3_readLevel (o : Nat) (a1 a2 : Int) (M : gSt) (k : Int → gSt → Prop) : Prop := isReader o ∧ wg_X3_readLevel o 60 0 [a1, a2] M k
theorem m_X3_readLevel {l : Launch} {D : va_G} {tys : List (ClassId × FieldType)} {ad : Nat → Nat} {cI cS : ClassId} {o : Nat} {a1 a2 : Int} {M : gSt} {k : Int → gSt → Prop} (h : w_X3_readLevel o a1 a2 M k) : MOi l yX3_readLevel cX3_readLevel 6 .boolean (rmR 63 1568) D clC ((cI, .int) :: (cS, .object "OldBronze$Sheet") :: tys) (wC ad cI cS) tC zC [.ref (ad o), iv a1, iv a2] M k := (mg_X3_readLevel 60).1 h.2
def w_X3_readValue (o : Nat) (a1 : Int) (M : gSt) (k : Int → gSt → Prop) : Prop := isReader o ∧ wg_X3_readLevel o 60 1 [a1] M k
theorem m_X3_readValue {l : Launch} {D : va_G} {tys : List (ClassId × FieldType)} {ad : Nat → Nat} {cI cS : ClassId} {o : Nat} {a1 : Int} {M : gSt} {k : Int → gSt → Prop} (h : w_X3_readValue o a1 M k) : MOi l yX3_readValue cX3_readValue 4 .boolean (rmR 63 1568) D clC ((cI, .int) :: (cS, .object "OldBronze$Sheet") :: tys) (wC ad cI cS) tC zC [.ref (ad o), iv a1] M k := (mg_X3_readLevel 60).2.1 h.2
def w_X3_readOpened (o : Nat) (a1 a2 : Int) (M : gSt) (k : Int → gSt → Prop) : Prop := isReader o ∧ wg_X3_readLevel o 60 2 [a1, a2] M k
theorem m_X3_readOpened {l : Launch} {D : va_G} {tys : List (ClassId × FieldType)} {ad : Nat → Nat} {cI cS : ClassId} {o : Nat} {a1 a2 : Int} {M : gSt} {k : Int → gSt → Prop} (h : w_X3_readOpened o a1 a2 M k) : MOi l yX3_readOpened cX3_readOpened 3 .boolean (rmR 63 1568) D clC ((cI, .int) :: (cS, .object "OldBronze$Sheet") :: tys) (wC ad cI cS) tC zC [.ref (ad o), iv a1, iv a2] M k := (mg_X3_readLevel 60).2.2 h.2
def wB_X3_read_53 (o : Nat) (a1 : Nat) (a2 : Int) (k : Int → gSt → Prop)  (s0 : Int) (M : gSt) : Prop :=

  (wrap s0 = 0 →
    k (M o 3) M) ∧
  (¬ wrap s0 = 0 →
    k (-1) M)
def wB_X3_read_52 (o : Nat) (a1 : Nat) (a2 : Int) (k : Int → gSt → Prop)   (M : gSt) : Prop :=
wB_X3_read_53 o a1 a2 k  0 M
def w_X3_read (o : Nat) (a1 : Nat) (a2 : Int) (M : gSt) (k : Int → gSt → Prop) : Prop :=
  (isReader o) ∧ ((isRows a1) ∧ (w_X4_copyFrom (o + 1) a1 M (fun M5 => w_X4_clear (o + 3) M5 (fun M12 => ∀ M17 : gSt, M17 = wr M12 o 2 a2 → (∀ M22 : gSt, M22 = wr M17 o 3 0 → (w_X3_readLevel o 0 0 M22 (fun r28c M28 => 
  (wrap r28c = 0 →
    wB_X3_read_52 o a1 a2 k   M28) ∧
  (¬ wrap r28c = 0 →
    w_X4_size (o + 1) M28 (fun r42c M42 => 
    (¬ wrap (M28 o 3) = wrap r42c →
      wB_X3_read_52 o a1 a2 k   M42) ∧
    (wrap (M28 o 3) = wrap r42c →
      wB_X3_read_53 o a1 a2 k  1 M42))))))))))
set_option maxHeartbeats 4000000 in
set_option maxRecDepth 100000 in
theorem m_X3_read {l : Launch} {D : va_G} {tys : List (ClassId × FieldType)} {ad : Nat → Nat} {cI cS : ClassId} {o : Nat} {a1 : Nat} {a2 : Int} {M : gSt} {k : Int → gSt → Prop} (h : w_X3_read o a1 a2 M k) : MOi l yX3_read cX3_read 4 .int (rmR 64 1593) D clC ((cI, .int) :: (cS, .object "OldBronze$Sheet") :: tys) (wC ad cI cS) tC zC [.ref (ad o), .ref (ad a1), iv a2] M k := by
  refine moi_intro (by decide +kernel) (Nat.le_of_ble_eq_true rfl) wc_315 ?_
  intro p e s m args below meth c A Q C hR
  unfold w_X3_read at h
  obtain ⟨h_o, h_a1, h⟩ := h
  have pB53 : ∀   (s0 : Int) (M : gSt), wB_X3_read_53 o a1 a2 k  s0 M → gG p l e (rmR 64 1593) s m args below meth c Q D clC A (wC ad cI cS) 4 53 [(0, .ref (ad o))] [iv s0] M := by
    intro   s0 M h
    unfold wB_X3_read_53 at h
    refine g_istore_n C dX3_read_53 (by decide) rfl ?_
    refine g_locals (lv' := [(0, .ref (ad o)), (3, iv s0)]) rfl ?_
    refine g_iload_n C dX3_read_54 rfl ?_
    refine g_if_eq C 62 dX3_read_55 (by decide) (fun hc => ?_) (fun hc => ?_)
    · replace h := h.1 hc
      refine g_aload_n C dX3_read_62 rfl ?_
      refine cf_X3_34 C h_o dX3_read_63 ?_
      exact hR _ _ _ _ dX3_read_66 rfl h
    · replace h := h.2 hc
      refine g_iconst C dX3_read_58 ?_
      refine g_goto C 66 dX3_read_59 (by decide) ?_
      exact hR _ _ _ _ dX3_read_66 rfl h
  have pB52 : ∀    (M : gSt), wB_X3_read_52 o a1 a2 k   M → gG p l e (rmR 64 1593) s m args below meth c Q D clC A (wC ad cI cS) 4 52 [(0, .ref (ad o))] [] M := by
    intro    M h
    unfold wB_X3_read_52 at h
    refine g_iconst C dX3_read_52 ?_
    refine g_locals (lv' := [(0, .ref (ad o))]) rfl ?_
    exact pB53 _ _ h
  refine g_locals (lv' := [(0, .ref (ad o)), (1, .ref (ad a1)), (2, iv a2)]) rfl ?_
  refine g_aload_n C dX3_read_0 rfl ?_
  refine cf_X3_14 C h_o dX3_read_1 ?_
  refine g_aload_n C dX3_read_4 rfl ?_
  refine g_callVv C (nargs := 1) (o := (o + 1)) (st := []) (m_X4_copyFrom h) (show isRows (o + 1) from h.1).1 (show isRows (o + 1) from h.1).2.1 rfl rfl gc_X3_23 (by decide +kernel) ⟨rfl, rfl⟩ dX3_read_5 ⟨by decide, by decide⟩ rfl rfl (Nat.le_of_ble_eq_true rfl) ?_
  intro M5 hN
  replace h := hN
  clear hN
  refine g_aload_n C dX3_read_8 rfl ?_
  refine cf_X3_20 C h_o dX3_read_9 ?_
  refine g_callVv C (nargs := 0) (o := (o + 3)) (st := []) (m_X4_clear h) (show isRows (o + 3) from h.1).1 (show isRows (o + 3) from h.1).2.1 rfl rfl gc_X3_27 (by decide +kernel) ⟨rfl, rfl⟩ dX3_read_12 ⟨by decide, by decide⟩ rfl rfl (Nat.le_of_ble_eq_true rfl) ?_
  intro M12 hN
  replace h := hN
  clear hN
  refine g_aload_n C dX3_read_15 rfl ?_
  refine g_iload_n C dX3_read_16 rfl ?_
  refine cp_X3_30 C h_o dX3_read_17 ?_
  refine g_memname (fun M17 hM17 => ?_)
  replace h := h M17 hM17
  refine g_aload_n C dX3_read_20 rfl ?_
  refine g_iconst C dX3_read_21 ?_
  refine cp_X3_34 C h_o dX3_read_22 ?_
  refine g_memname (fun M22 hM22 => ?_)
  replace h := h M22 hM22
  refine g_aload_n C dX3_read_25 rfl ?_
  refine g_iconst C dX3_read_26 ?_
  refine g_iconst C dX3_read_27 ?_
  refine g_callVi C (nargs := 2) (o := o) (st := []) (m_X3_readLevel h) (show isReader o from h.1).1 (show isReader o from h.1).2 rfl rfl gc_X3_37 (by decide +kernel) ⟨rfl, rfl⟩ dX3_read_28 ⟨by decide, by decide⟩ rfl rfl (Nat.le_of_ble_eq_true rfl) ?_
  intro r28c M28 hN
  replace h := hN
  clear hN
  refine g_if_eq C 52 dX3_read_31 (by decide) (fun hc => ?_) (fun hc => ?_)
  · replace h := h.1 hc
    refine g_locals (lv' := [(0, .ref (ad o))]) rfl ?_
    exact pB52  _ h
  · replace h := h.2 hc
    refine g_aload_n C dX3_read_34 rfl ?_
    refine cf_X3_34 C h_o dX3_read_35 ?_
    refine g_aload_n C dX3_read_38 rfl ?_
    refine cf_X3_14 C h_o dX3_read_39 ?_
    refine g_callVi C (nargs := 0) (o := (o + 1)) (st := [iv (M28 o 3)]) (m_X4_size h) (show isRows (o + 1) from h.1).1 (show isRows (o + 1) from h.1).2.1 rfl rfl gc_X3_41 (by decide +kernel) ⟨rfl, rfl⟩ dX3_read_42 ⟨by decide, by decide⟩ rfl rfl (Nat.le_of_ble_eq_true rfl) ?_
    intro r42c M42 hN
    replace h := hN
    clear hN
    refine g_icmp_ne C 52 dX3_read_45 (by decide) (fun hc => ?_) (fun hc => ?_)
    · replace h := h.1 hc
      refine g_locals (lv' := [(0, .ref (ad o))]) rfl ?_
      exact pB52  _ h
    · replace h := h.2 hc
      refine g_iconst C dX3_read_48 ?_
      refine g_goto C 53 dX3_read_49 (by decide) ?_
      refine g_locals (lv' := [(0, .ref (ad o))]) rfl ?_
      exact pB53 _ _ h
end
