-- WHAT EACH METHOD OF THE CLASS COMES TO, and that its call comes to it (walk.py, cls_walk.py)
theorem orv_cat (ad : Nat → Nat) (r : Option Nat) : (orv ad r).category = 1 := by cases r <;> rfl
def w_X0_size (o : Nat) (M : gSt) (k : Int → gSt → Prop) : Prop :=
  (isBronze o) ∧ (k (M o 1) M)
set_option maxHeartbeats 4000000 in
set_option maxRecDepth 100000 in
theorem m_X0_size {l : Launch} {D : va_G} {tys : List (ClassId × FieldType)} {ad : Nat → Nat} {cI cS : ClassId} {o : Nat} {M : gSt} {k : Int → gSt → Prop} (h : w_X0_size o M k) : MOi l yX0_size cX0_size 1 .int (rmR 0 0) D clC ((cI, .int) :: (cS, .object "OldBronze$Sheet") :: tys) (wC ad cI cS) tC zC [.ref (ad o)] M k := by
  refine moi_intro (by decide +kernel) (Nat.le_of_ble_eq_true rfl) wc_7 ?_
  intro p e s m args below meth c A Q C hR
  unfold w_X0_size at h
  obtain ⟨h_o, h⟩ := h
  refine g_locals (lv' := [(0, .ref (ad o))]) rfl ?_
  refine g_aload_n C dX0_size_0 rfl ?_
  refine cf_X0_19 C h_o dX0_size_1 ?_
  exact hR _ _ _ _ dX0_size_4 rfl h
def w_X0_room (o : Nat) (M : gSt) (k : Int → gSt → Prop) : Prop :=
  (isBronze o) ∧ (k (12 - (M o 1)) M)
set_option maxHeartbeats 4000000 in
set_option maxRecDepth 100000 in
theorem m_X0_room {l : Launch} {D : va_G} {tys : List (ClassId × FieldType)} {ad : Nat → Nat} {cI cS : ClassId} {o : Nat} {M : gSt} {k : Int → gSt → Prop} (h : w_X0_room o M k) : MOi l yX0_room cX0_room 1 .int (rmR 0 0) D clC ((cI, .int) :: (cS, .object "OldBronze$Sheet") :: tys) (wC ad cI cS) tC zC [.ref (ad o)] M k := by
  refine moi_intro (by decide +kernel) (Nat.le_of_ble_eq_true rfl) wc_9 ?_
  intro p e s m args below meth c A Q C hR
  unfold w_X0_room at h
  obtain ⟨h_o, h⟩ := h
  refine g_locals (lv' := [(0, .ref (ad o))]) rfl ?_
  refine g_bipush C dX0_room_0 rfl ?_
  refine g_aload_n C dX0_room_2 rfl ?_
  refine cf_X0_19 C h_o dX0_room_3 ?_
  refine g_isub C dX0_room_6 ?_
  exact hR _ _ _ _ dX0_room_7 rfl h
def w_X0_has (o : Nat) (a1 : Int) (M : gSt) (k : Int → gSt → Prop) : Prop :=
  (isBronze o) ∧ (
  (wrap a1 < 0 →
    k 0 M) ∧
  (0 ≤ wrap a1 →

    (wrap (M o 1) ≤ wrap a1 →
      k 0 M) ∧
    (wrap a1 < wrap (M o 1) →
      k 1 M)))
set_option maxHeartbeats 4000000 in
set_option maxRecDepth 100000 in
theorem m_X0_has {l : Launch} {D : va_G} {tys : List (ClassId × FieldType)} {ad : Nat → Nat} {cI cS : ClassId} {o : Nat} {a1 : Int} {M : gSt} {k : Int → gSt → Prop} (h : w_X0_has o a1 M k) : MOi l yX0_has cX0_has 2 .boolean (rmR 0 0) D clC ((cI, .int) :: (cS, .object "OldBronze$Sheet") :: tys) (wC ad cI cS) tC zC [.ref (ad o), iv a1] M k := by
  refine moi_intro (by decide +kernel) (Nat.le_of_ble_eq_true rfl) wc_10 ?_
  intro p e s m args below meth c A Q C hR
  unfold w_X0_has at h
  obtain ⟨h_o, h⟩ := h
  refine g_locals (lv' := [(0, .ref (ad o)), (1, iv a1)]) rfl ?_
  refine g_iload_n C dX0_has_0 rfl ?_
  refine g_if_lt C 16 dX0_has_1 (by decide) (fun hc => ?_) (fun hc => ?_)
  · replace h := h.1 hc
    refine g_iconst C dX0_has_16 ?_
    exact hR _ _ _ _ dX0_has_17 rfl h
  · replace h := h.2 hc
    refine g_iload_n C dX0_has_4 rfl ?_
    refine g_aload_n C dX0_has_5 rfl ?_
    refine cf_X0_19 C h_o dX0_has_6 ?_
    refine g_icmp_ge C 16 dX0_has_9 (by decide) (fun hc => ?_) (fun hc => ?_)
    · replace h := h.1 hc
      refine g_iconst C dX0_has_16 ?_
      exact hR _ _ _ _ dX0_has_17 rfl h
    · replace h := h.2 hc
      refine g_iconst C dX0_has_12 ?_
      refine g_goto C 17 dX0_has_13 (by decide) ?_
      exact hR _ _ _ _ dX0_has_17 rfl h
def w_X0_firstsThatCount (o : Nat) (M : gSt) (k : Int → gSt → Prop) : Prop :=
  (isBronze o) ∧ (k (M o 2) M)
set_option maxHeartbeats 4000000 in
set_option maxRecDepth 100000 in
theorem m_X0_firstsThatCount {l : Launch} {D : va_G} {tys : List (ClassId × FieldType)} {ad : Nat → Nat} {cI cS : ClassId} {o : Nat} {M : gSt} {k : Int → gSt → Prop} (h : w_X0_firstsThatCount o M k) : MOi l yX0_firstsThatCount cX0_firstsThatCount 1 .int (rmR 0 0) D clC ((cI, .int) :: (cS, .object "OldBronze$Sheet") :: tys) (wC ad cI cS) tC zC [.ref (ad o)] M k := by
  refine moi_intro (by decide +kernel) (Nat.le_of_ble_eq_true rfl) wc_11 ?_
  intro p e s m args below meth c A Q C hR
  unfold w_X0_firstsThatCount at h
  obtain ⟨h_o, h⟩ := h
  refine g_locals (lv' := [(0, .ref (ad o))]) rfl ?_
  refine g_aload_n C dX0_firstsThatCount_0 rfl ?_
  refine cf_X0_22 C h_o dX0_firstsThatCount_1 ?_
  exact hR _ _ _ _ dX0_firstsThatCount_4 rfl h
def w_X0_yearsSoFar (o : Nat) (M : gSt) (k : Int → gSt → Prop) : Prop :=
  (isBronze o) ∧ (k (M o 3) M)
set_option maxHeartbeats 4000000 in
set_option maxRecDepth 100000 in
theorem m_X0_yearsSoFar {l : Launch} {D : va_G} {tys : List (ClassId × FieldType)} {ad : Nat → Nat} {cI cS : ClassId} {o : Nat} {M : gSt} {k : Int → gSt → Prop} (h : w_X0_yearsSoFar o M k) : MOi l yX0_yearsSoFar cX0_yearsSoFar 1 .int (rmR 0 0) D clC ((cI, .int) :: (cS, .object "OldBronze$Sheet") :: tys) (wC ad cI cS) tC zC [.ref (ad o)] M k := by
  refine moi_intro (by decide +kernel) (Nat.le_of_ble_eq_true rfl) wc_13 ?_
  intro p e s m args below meth c A Q C hR
  unfold w_X0_yearsSoFar at h
  obtain ⟨h_o, h⟩ := h
  refine g_locals (lv' := [(0, .ref (ad o))]) rfl ?_
  refine g_aload_n C dX0_yearsSoFar_0 rfl ?_
  refine cf_X0_25 C h_o dX0_yearsSoFar_1 ?_
  exact hR _ _ _ _ dX0_yearsSoFar_4 rfl h
def w_X0_lastDraw (o : Nat) (M : gSt) (k : Int → gSt → Prop) : Prop :=
  (isBronze o) ∧ (k (M o 4) M)
set_option maxHeartbeats 4000000 in
set_option maxRecDepth 100000 in
theorem m_X0_lastDraw {l : Launch} {D : va_G} {tys : List (ClassId × FieldType)} {ad : Nat → Nat} {cI cS : ClassId} {o : Nat} {M : gSt} {k : Int → gSt → Prop} (h : w_X0_lastDraw o M k) : MOi l yX0_lastDraw cX0_lastDraw 1 .int (rmR 0 0) D clC ((cI, .int) :: (cS, .object "OldBronze$Sheet") :: tys) (wC ad cI cS) tC zC [.ref (ad o)] M k := by
  refine moi_intro (by decide +kernel) (Nat.le_of_ble_eq_true rfl) wc_15 ?_
  intro p e s m args below meth c A Q C hR
  unfold w_X0_lastDraw at h
  obtain ⟨h_o, h⟩ := h
  refine g_locals (lv' := [(0, .ref (ad o))]) rfl ?_
  refine g_aload_n C dX0_lastDraw_0 rfl ?_
  refine cf_X0_15 C h_o dX0_lastDraw_1 ?_
  exact hR _ _ _ _ dX0_lastDraw_4 rfl h
def w_X0_reseed (o : Nat) (a1 : Int) (M : gSt) (k : Int → gSt → Prop) : Prop :=
  (isBronze o) ∧ (∀ x2_4 : Int, x2_4 = M o 4 → (∀ M7 : gSt, M7 = wr M o 4 a1 → (k x2_4 M7)))
set_option maxHeartbeats 4000000 in
set_option maxRecDepth 100000 in
theorem m_X0_reseed {l : Launch} {D : va_G} {tys : List (ClassId × FieldType)} {ad : Nat → Nat} {cI cS : ClassId} {o : Nat} {a1 : Int} {M : gSt} {k : Int → gSt → Prop} (h : w_X0_reseed o a1 M k) : MOi l yX0_reseed cX0_reseed 3 .int (rmR 0 0) D clC ((cI, .int) :: (cS, .object "OldBronze$Sheet") :: tys) (wC ad cI cS) tC zC [.ref (ad o), iv a1] M k := by
  refine moi_intro (by decide +kernel) (Nat.le_of_ble_eq_true rfl) wc_16 ?_
  intro p e s m args below meth c A Q C hR
  unfold w_X0_reseed at h
  obtain ⟨h_o, h⟩ := h
  refine g_locals (lv' := [(0, .ref (ad o)), (1, iv a1)]) rfl ?_
  refine g_aload_n C dX0_reseed_0 rfl ?_
  refine cf_X0_15 C h_o dX0_reseed_1 ?_
  refine g_name (fun x2_4 hx2_4 => ?_)
  replace h := h x2_4 hx2_4
  refine g_istore_n C dX0_reseed_4 (by decide) rfl ?_
  refine g_locals (lv' := [(0, .ref (ad o)), (1, iv a1), (2, iv x2_4)]) rfl ?_
  refine g_aload_n C dX0_reseed_5 rfl ?_
  refine g_iload_n C dX0_reseed_6 rfl ?_
  refine cp_X0_15 C h_o dX0_reseed_7 ?_
  refine g_memname (fun M7 hM7 => ?_)
  replace h := h M7 hM7
  refine g_iload_n C dX0_reseed_10 rfl ?_
  exact hR _ _ _ _ dX0_reseed_11 rfl h
def wB_X0_placeOf_25 (a1 : Int) (a2 : Int) (k : Int → gSt → Prop)  (s0 : Int) (M : gSt) : Prop :=

  (wrap s0 = 0 →
    k (-1) M) ∧
  (¬ wrap s0 = 0 →
    k ((a1 * 10) + a2) M)
def wB_X0_placeOf_24 (a1 : Int) (a2 : Int) (k : Int → gSt → Prop)   (M : gSt) : Prop :=
wB_X0_placeOf_25 a1 a2 k  0 M
def w_X0_placeOf (a1 : Int) (a2 : Int) (M : gSt) (k : Int → gSt → Prop) : Prop :=
  
  (wrap a1 < 0 →
    wB_X0_placeOf_24 a1 a2 k   M) ∧
  (0 ≤ wrap a1 →

    (12 < wrap a1 →
      wB_X0_placeOf_24 a1 a2 k   M) ∧
    (wrap a1 ≤ 12 →

      (wrap a2 < 0 →
        wB_X0_placeOf_24 a1 a2 k   M) ∧
      (0 ≤ wrap a2 →

        (10 ≤ wrap a2 →
          wB_X0_placeOf_24 a1 a2 k   M) ∧
        (wrap a2 < 10 →
          wB_X0_placeOf_25 a1 a2 k  1 M))))
set_option maxHeartbeats 4000000 in
set_option maxRecDepth 100000 in
theorem m_X0_placeOf {l : Launch} {D : va_G} {tys : List (ClassId × FieldType)} {ad : Nat → Nat} {cI cS : ClassId} {a1 : Int} {a2 : Int} {M : gSt} {k : Int → gSt → Prop} (h : w_X0_placeOf a1 a2 M k) : MOi l yX0_placeOf cX0_placeOf 3 .int (rmR 0 0) D clC ((cI, .int) :: (cS, .object "OldBronze$Sheet") :: tys) (wC ad cI cS) tC zC [iv a1, iv a2] M k := by
  refine moi_intro (by decide +kernel) (Nat.le_of_ble_eq_true rfl) wc_17 ?_
  intro p e s m args below meth c A Q C hR
  unfold w_X0_placeOf at h
  have pB25 : ∀   (s0 : Int) (M : gSt), wB_X0_placeOf_25 a1 a2 k  s0 M → gG p l e (rmR 0 0) s m args below meth c Q D clC A (wC ad cI cS) 3 25 [(0, iv a1), (1, iv a2)] [iv s0] M := by
    intro   s0 M h
    unfold wB_X0_placeOf_25 at h
    refine g_istore_n C dX0_placeOf_25 (by decide) rfl ?_
    refine g_locals (lv' := [(0, iv a1), (1, iv a2), (2, iv s0)]) rfl ?_
    refine g_iload_n C dX0_placeOf_26 rfl ?_
    refine g_if_eq C 39 dX0_placeOf_27 (by decide) (fun hc => ?_) (fun hc => ?_)
    · replace h := h.1 hc
      refine g_iconst C dX0_placeOf_39 ?_
      exact hR _ _ _ _ dX0_placeOf_40 rfl h
    · replace h := h.2 hc
      refine g_iload_n C dX0_placeOf_30 rfl ?_
      refine g_bipush C dX0_placeOf_31 rfl ?_
      refine g_imul C dX0_placeOf_33 ?_
      refine g_iload_n C dX0_placeOf_34 rfl ?_
      refine g_iadd C dX0_placeOf_35 ?_
      refine g_goto C 40 dX0_placeOf_36 (by decide) ?_
      exact hR _ _ _ _ dX0_placeOf_40 rfl h
  have pB24 : ∀    (M : gSt), wB_X0_placeOf_24 a1 a2 k   M → gG p l e (rmR 0 0) s m args below meth c Q D clC A (wC ad cI cS) 3 24 [(0, iv a1), (1, iv a2)] [] M := by
    intro    M h
    unfold wB_X0_placeOf_24 at h
    refine g_iconst C dX0_placeOf_24 ?_
    refine g_locals (lv' := [(0, iv a1), (1, iv a2)]) rfl ?_
    exact pB25 _ _ h
  refine g_locals (lv' := [(0, iv a1), (1, iv a2)]) rfl ?_
  refine g_iload_n C dX0_placeOf_0 rfl ?_
  refine g_if_lt C 24 dX0_placeOf_1 (by decide) (fun hc => ?_) (fun hc => ?_)
  · replace h := h.1 hc
    refine g_locals (lv' := [(0, iv a1), (1, iv a2)]) rfl ?_
    exact pB24  _ h
  · replace h := h.2 hc
    refine g_iload_n C dX0_placeOf_4 rfl ?_
    refine g_bipush C dX0_placeOf_5 rfl ?_
    refine g_icmp_gt C 24 dX0_placeOf_7 (by decide) (fun hc => ?_) (fun hc => ?_)
    · replace h := h.1 hc
      refine g_locals (lv' := [(0, iv a1), (1, iv a2)]) rfl ?_
      exact pB24  _ h
    · replace h := h.2 hc
      refine g_iload_n C dX0_placeOf_10 rfl ?_
      refine g_if_lt C 24 dX0_placeOf_11 (by decide) (fun hc => ?_) (fun hc => ?_)
      · replace h := h.1 hc
        refine g_locals (lv' := [(0, iv a1), (1, iv a2)]) rfl ?_
        exact pB24  _ h
      · replace h := h.2 hc
        refine g_iload_n C dX0_placeOf_14 rfl ?_
        refine g_bipush C dX0_placeOf_15 rfl ?_
        refine g_icmp_ge C 24 dX0_placeOf_17 (by decide) (fun hc => ?_) (fun hc => ?_)
        · replace h := h.1 hc
          refine g_locals (lv' := [(0, iv a1), (1, iv a2)]) rfl ?_
          exact pB24  _ h
        · replace h := h.2 hc
          refine g_iconst C dX0_placeOf_20 ?_
          refine g_goto C 25 dX0_placeOf_21 (by decide) ?_
          refine g_locals (lv' := [(0, iv a1), (1, iv a2)]) rfl ?_
          exact pB25 _ _ h
def w_X0_number (o : Nat) (a1 : Int) (a2 : Int) (M : gSt) (k : Int → gSt → Prop) : Prop :=
  (isBronze o) ∧ (w_X0_placeOf a1 a2 M (fun r2c M2 => 
  (wrap r2c < 0 →
    k 0 M2) ∧
  (0 ≤ wrap r2c →

    (wrap (lenC (o + 1) : Int) ≤ wrap r2c →
      k 0 M2) ∧
    (wrap r2c < wrap (lenC (o + 1) : Int) →
      ((0 : Int) ≤ r2c ∧ r2c < lenC (o + 1)) ∧ (k (M2 (o + 1) r2c) M2)))))
set_option maxHeartbeats 4000000 in
set_option maxRecDepth 100000 in
theorem m_X0_number {l : Launch} {D : va_G} {tys : List (ClassId × FieldType)} {ad : Nat → Nat} {cI cS : ClassId} {o : Nat} {a1 : Int} {a2 : Int} {M : gSt} {k : Int → gSt → Prop} (h : w_X0_number o a1 a2 M k) : MOi l yX0_number cX0_number 4 .int (rmR 1 22) D clC ((cI, .int) :: (cS, .object "OldBronze$Sheet") :: tys) (wC ad cI cS) tC zC [.ref (ad o), iv a1, iv a2] M k := by
  refine moi_intro (by decide +kernel) (Nat.le_of_ble_eq_true rfl) wc_18 ?_
  intro p e s m args below meth c A Q C hR
  unfold w_X0_number at h
  obtain ⟨h_o, h⟩ := h
  refine g_locals (lv' := [(0, .ref (ad o)), (1, iv a1), (2, iv a2)]) rfl ?_
  refine g_iload_n C dX0_number_0 rfl ?_
  refine g_iload_n C dX0_number_1 rfl ?_
  refine g_callSi C (nargs := 2) (st := []) (m_X0_placeOf h) gc_X0_28 (by decide +kernel) ⟨rfl, rfl⟩ dX0_number_2 ⟨by decide, by decide⟩ rfl rfl (Nat.le_of_ble_eq_true rfl) ?_
  intro r2c M2 hN
  replace h := hN
  clear hN
  refine g_istore_n C dX0_number_5 (by decide) rfl ?_
  refine g_locals (lv' := [(0, .ref (ad o)), (1, iv a1), (2, iv a2), (3, iv r2c)]) rfl ?_
  refine g_iload_n C dX0_number_6 rfl ?_
  refine g_if_lt C 28 dX0_number_7 (by decide) (fun hc => ?_) (fun hc => ?_)
  · replace h := h.1 hc
    refine g_iconst C dX0_number_28 ?_
    exact hR _ _ _ _ dX0_number_29 rfl h
  · replace h := h.2 hc
    refine g_iload_n C dX0_number_10 rfl ?_
    refine g_aload_n C dX0_number_11 rfl ?_
    refine cf_X0_9 C h_o dX0_number_12 ?_
    refine g_alen C dX0_number_15 h_o.2.2.1 h_o.2.2.2.1 ?_
    refine g_icmp_ge C 28 dX0_number_16 (by decide) (fun hc => ?_) (fun hc => ?_)
    · replace h := h.1 hc
      refine g_iconst C dX0_number_28 ?_
      exact hR _ _ _ _ dX0_number_29 rfl h
    · replace h := h.2 hc
      refine g_aload_n C dX0_number_19 rfl ?_
      refine cf_X0_9 C h_o dX0_number_20 ?_
      refine g_iload_n C dX0_number_23 rfl ?_
      refine g_iald C dX0_number_24 h_o.2.2.1 h_o.2.2.2 h.1 ?_
      replace h := h.2
      refine g_goto C 29 dX0_number_25 (by decide) ?_
      exact hR _ _ _ _ dX0_number_29 rfl h
def w_X0_become (o : Nat) (a1 : Int) (a2 : Int) (a3 : Int) (M : gSt) (k : gSt → Prop) : Prop :=
  (isBronze o) ∧ (w_X0_placeOf a1 a2 M (fun r2c M2 => 
  (wrap r2c < 0 →
    k M2) ∧
  (0 ≤ wrap r2c →

    (wrap (lenC (o + 1) : Int) ≤ wrap r2c →
      k M2) ∧
    (wrap r2c < wrap (lenC (o + 1) : Int) →
      ((0 : Int) ≤ r2c ∧ r2c < lenC (o + 1)) ∧ (∀ M29 : gSt, M29 = wr M2 (o + 1) r2c a3 → (k M29))))))
set_option maxHeartbeats 4000000 in
set_option maxRecDepth 100000 in
theorem m_X0_become {l : Launch} {D : va_G} {tys : List (ClassId × FieldType)} {ad : Nat → Nat} {cI cS : ClassId} {o : Nat} {a1 : Int} {a2 : Int} {a3 : Int} {M : gSt} {k : gSt → Prop} (h : w_X0_become o a1 a2 a3 M k) : MOv l yX0_become cX0_become 5 (rmR 1 22) D clC ((cI, .int) :: (cS, .object "OldBronze$Sheet") :: tys) (wC ad cI cS) tC zC [.ref (ad o), iv a1, iv a2, iv a3] M k := by
  refine mov_intro (by decide +kernel) (Nat.le_of_ble_eq_true rfl) wc_22 ?_
  intro p e s m args below meth c A Q C hR
  unfold w_X0_become at h
  obtain ⟨h_o, h⟩ := h
  refine g_locals (lv' := [(0, .ref (ad o)), (1, iv a1), (2, iv a2), (3, iv a3)]) rfl ?_
  refine g_iload_n C dX0_become_0 rfl ?_
  refine g_iload_n C dX0_become_1 rfl ?_
  refine g_callSi C (nargs := 2) (st := []) (m_X0_placeOf h) gc_X0_28 (by decide +kernel) ⟨rfl, rfl⟩ dX0_become_2 ⟨by decide, by decide⟩ rfl rfl (Nat.le_of_ble_eq_true rfl) ?_
  intro r2c M2 hN
  replace h := hN
  clear hN
  refine g_istore C dX0_become_5 (by decide) rfl ?_
  refine g_locals (lv' := [(0, .ref (ad o)), (1, iv a1), (2, iv a2), (3, iv a3), (4, iv r2c)]) rfl ?_
  refine g_iload C dX0_become_7 rfl ?_
  refine g_if_lt C 30 dX0_become_9 (by decide) (fun hc => ?_) (fun hc => ?_)
  · replace h := h.1 hc
    exact hR _ _ _ dX0_become_30 h
  · replace h := h.2 hc
    refine g_iload C dX0_become_12 rfl ?_
    refine g_aload_n C dX0_become_14 rfl ?_
    refine cf_X0_9 C h_o dX0_become_15 ?_
    refine g_alen C dX0_become_18 h_o.2.2.1 h_o.2.2.2.1 ?_
    refine g_icmp_ge C 30 dX0_become_19 (by decide) (fun hc => ?_) (fun hc => ?_)
    · replace h := h.1 hc
      exact hR _ _ _ dX0_become_30 h
    · replace h := h.2 hc
      refine g_aload_n C dX0_become_22 rfl ?_
      refine cf_X0_9 C h_o dX0_become_23 ?_
      refine g_iload C dX0_become_26 rfl ?_
      refine g_iload_n C dX0_become_28 rfl ?_
      refine g_iast C dX0_become_29 h_o.2.2.1 h_o.2.2.2 h.1 ?_
      replace h := h.2
      refine g_memname (fun M29 hM29 => ?_)
      replace h := h M29 hM29
      exact hR _ _ _ dX0_become_30 h
def w_X8_within (a1 : Int) (a2 : Int) (a3 : Int) (M : gSt) (k : Int → gSt → Prop) : Prop :=
  
  (wrap a1 < wrap a2 →
    k 0 M) ∧
  (wrap a2 ≤ wrap a1 →

    (wrap a3 < wrap a1 →
      k 0 M) ∧
    (wrap a1 ≤ wrap a3 →
      k 1 M))
set_option maxHeartbeats 4000000 in
set_option maxRecDepth 100000 in
theorem m_X8_within {l : Launch} {D : va_G} {tys : List (ClassId × FieldType)} {ad : Nat → Nat} {cI cS : ClassId} {a1 : Int} {a2 : Int} {a3 : Int} {M : gSt} {k : Int → gSt → Prop} (h : w_X8_within a1 a2 a3 M k) : MOi l yX8_within cX8_within 3 .boolean (rmR 0 0) D clC ((cI, .int) :: (cS, .object "OldBronze$Sheet") :: tys) (wC ad cI cS) tC zC [iv a1, iv a2, iv a3] M k := by
  refine moi_intro (by decide +kernel) (Nat.le_of_ble_eq_true rfl) wc_23 ?_
  intro p e s m args below meth c A Q C hR
  unfold w_X8_within at h
  refine g_locals (lv' := [(0, iv a1), (1, iv a2), (2, iv a3)]) rfl ?_
  refine g_iload_n C dX8_within_0 rfl ?_
  refine g_iload_n C dX8_within_1 rfl ?_
  refine g_icmp_lt C 14 dX8_within_2 (by decide) (fun hc => ?_) (fun hc => ?_)
  · replace h := h.1 hc
    refine g_iconst C dX8_within_14 ?_
    exact hR _ _ _ _ dX8_within_15 rfl h
  · replace h := h.2 hc
    refine g_iload_n C dX8_within_5 rfl ?_
    refine g_iload_n C dX8_within_6 rfl ?_
    refine g_icmp_gt C 14 dX8_within_7 (by decide) (fun hc => ?_) (fun hc => ?_)
    · replace h := h.1 hc
      refine g_iconst C dX8_within_14 ?_
      exact hR _ _ _ _ dX8_within_15 rfl h
    · replace h := h.2 hc
      refine g_iconst C dX8_within_10 ?_
      refine g_goto C 15 dX8_within_11 (by decide) ?_
      exact hR _ _ _ _ dX8_within_15 rfl h
def w_X0_mostSettable (o : Nat) (a1 : Int) (a2 : Int) (M : gSt) (k : Int → gSt → Prop) : Prop :=
  (isBronze o) ∧ (
  (¬ wrap a2 = 0 →

    (¬ wrap a2 = 1 →
      w_X8_within a2 3 5 M (fun r18c M18 => 
      (wrap r18c = 0 →
        k (-1) M18) ∧
      (¬ wrap r18c = 0 →
        w_X0_number o a1 2 M18 (fun r27c M27 => k r27c M27)))) ∧
    (wrap a2 = 1 →
      k 99 M)) ∧
  (wrap a2 = 0 →
    k 6 M))
set_option maxHeartbeats 4000000 in
set_option maxRecDepth 100000 in
theorem m_X0_mostSettable {l : Launch} {D : va_G} {tys : List (ClassId × FieldType)} {ad : Nat → Nat} {cI cS : ClassId} {o : Nat} {a1 : Int} {a2 : Int} {M : gSt} {k : Int → gSt → Prop} (h : w_X0_mostSettable o a1 a2 M k) : MOi l yX0_mostSettable cX0_mostSettable 3 .int (rmR 2 45) D clC ((cI, .int) :: (cS, .object "OldBronze$Sheet") :: tys) (wC ad cI cS) tC zC [.ref (ad o), iv a1, iv a2] M k := by
  refine moi_intro (by decide +kernel) (Nat.le_of_ble_eq_true rfl) wc_24 ?_
  intro p e s m args below meth c A Q C hR
  unfold w_X0_mostSettable at h
  obtain ⟨h_o, h⟩ := h
  refine g_locals (lv' := [(0, .ref (ad o)), (1, iv a1), (2, iv a2)]) rfl ?_
  refine g_iload_n C dX0_mostSettable_0 rfl ?_
  refine g_if_ne C 7 dX0_mostSettable_1 (by decide) (fun hc => ?_) (fun hc => ?_)
  · replace h := h.1 hc
    refine g_iload_n C dX0_mostSettable_7 rfl ?_
    refine g_iconst C dX0_mostSettable_8 ?_
    refine g_icmp_ne C 15 dX0_mostSettable_9 (by decide) (fun hc => ?_) (fun hc => ?_)
    · replace h := h.1 hc
      refine g_iload_n C dX0_mostSettable_15 rfl ?_
      refine g_iconst C dX0_mostSettable_16 ?_
      refine g_iconst C dX0_mostSettable_17 ?_
      refine g_callNSi C (nargs := 3) (st := []) (m_X8_within h) zn_0 (gc_code wc_23) wc_26 wc_25 (by decide +kernel) ⟨rfl, rfl⟩ dX0_mostSettable_18 ⟨by decide, by decide⟩ rfl rfl (Nat.le_of_ble_eq_true rfl) ?_
      intro r18c M18 hN
      replace h := hN
      clear hN
      refine g_if_eq C 33 dX0_mostSettable_21 (by decide) (fun hc => ?_) (fun hc => ?_)
      · replace h := h.1 hc
        refine g_iconst C dX0_mostSettable_33 ?_
        exact hR _ _ _ _ dX0_mostSettable_34 rfl h
      · replace h := h.2 hc
        refine g_aload_n C dX0_mostSettable_24 rfl ?_
        refine g_iload_n C dX0_mostSettable_25 rfl ?_
        refine g_iconst C dX0_mostSettable_26 ?_
        refine g_callVi C (nargs := 2) (o := o) (st := []) (m_X0_number h) (show isBronze o from h.1).1 (show isBronze o from h.1).2.1 rfl rfl gc_X0_36 (by decide +kernel) ⟨rfl, rfl⟩ dX0_mostSettable_27 ⟨by decide, by decide⟩ rfl rfl (Nat.le_of_ble_eq_true rfl) ?_
        intro r27c M27 hN
        replace h := hN
        clear hN
        refine g_goto C 34 dX0_mostSettable_30 (by decide) ?_
        exact hR _ _ _ _ dX0_mostSettable_34 rfl h
    · replace h := h.2 hc
      refine g_bipush C dX0_mostSettable_12 rfl ?_
      exact hR _ _ _ _ dX0_mostSettable_14 rfl h
  · replace h := h.2 hc
    refine g_bipush C dX0_mostSettable_4 rfl ?_
    exact hR _ _ _ _ dX0_mostSettable_6 rfl h
def wC_X0_allGrams_4 (o : Nat) (k : Int → gSt → Prop) (r4 : Int → Int → gSt → Prop) (X4_27 : Int → gSt → Prop) (v1 : Int) (v2 : Int) (M : gSt) : Prop :=

  (wrap (M o 1) ≤ wrap v2 →
    X4_27 v1 M) ∧
  (wrap v2 < wrap (M o 1) →
    w_X0_number o v2 2 M (fun r16c M16 => ∀ x1_20 : Int, x1_20 = v1 + r16c → (r4 x1_20 (v2 + 1) M16)))
def wL_X0_allGrams_4 (o : Nat) (k : Int → gSt → Prop)  (X4_27 : Int → gSt → Prop) : Nat → Int → Int → gSt → Prop
  | 0 => fun _ _ _ => False
  | n + 1 => fun v1 v2 M => wC_X0_allGrams_4 o k  (wL_X0_allGrams_4 o k  X4_27 n) X4_27 v1 v2 M
def w_X0_allGrams (o : Nat) (M : gSt) (k : Int → gSt → Prop) : Prop :=
  (isBronze o) ∧ (∃ n, wL_X0_allGrams_4 o k  (fun u1_4 M4 =>
    k u1_4 M4) n 0 0 M)
set_option maxHeartbeats 4000000 in
set_option maxRecDepth 100000 in
theorem m_X0_allGrams {l : Launch} {D : va_G} {tys : List (ClassId × FieldType)} {ad : Nat → Nat} {cI cS : ClassId} {o : Nat} {M : gSt} {k : Int → gSt → Prop} (h : w_X0_allGrams o M k) : MOi l yX0_allGrams cX0_allGrams 3 .int (rmR 2 45) D clC ((cI, .int) :: (cS, .object "OldBronze$Sheet") :: tys) (wC ad cI cS) tC zC [.ref (ad o)] M k := by
  refine moi_intro (by decide +kernel) (Nat.le_of_ble_eq_true rfl) wc_30 ?_
  intro p e s m args below meth c A Q C hR
  unfold w_X0_allGrams at h
  obtain ⟨h_o, h⟩ := h
  have pC4 : ∀ (r4 : Int → Int → gSt → Prop) (X4_27 : Int → gSt → Prop) (hr4 : ∀ (v1 : Int) (v2 : Int) (M : gSt), r4 v1 v2 M → gG p l e (rmR 2 45) s m args below meth c Q D clC A (wC ad cI cS) 3 4 [(0, .ref (ad o)), (1, iv v1), (2, iv v2)] [] M) (hX4_27 : ∀ (v1 : Int) (M : gSt), X4_27 v1 M → gG p l e (rmR 2 45) s m args below meth c Q D clC A (wC ad cI cS) 3 27 [(1, iv v1)] [] M) (v1 : Int) (v2 : Int) (M : gSt), wC_X0_allGrams_4 o k r4 X4_27 v1 v2 M → gG p l e (rmR 2 45) s m args below meth c Q D clC A (wC ad cI cS) 3 4 [(0, .ref (ad o)), (1, iv v1), (2, iv v2)] [] M := by
    intro r4 X4_27 hr4 hX4_27 v1 v2 M h
    unfold wC_X0_allGrams_4 at h
    refine g_iload_n C dX0_allGrams_4 rfl ?_
    refine g_aload_n C dX0_allGrams_5 rfl ?_
    refine cf_X0_19 C h_o dX0_allGrams_6 ?_
    refine g_icmp_ge C 27 dX0_allGrams_9 (by decide) (fun hc => ?_) (fun hc => ?_)
    · replace h := h.1 hc
      refine g_locals (lv' := [(1, iv v1)]) rfl ?_
      exact hX4_27 _  _ h
    · replace h := h.2 hc
      refine g_iload_n C dX0_allGrams_12 rfl ?_
      refine g_aload_n C dX0_allGrams_13 rfl ?_
      refine g_iload_n C dX0_allGrams_14 rfl ?_
      refine g_iconst C dX0_allGrams_15 ?_
      refine g_callVi C (nargs := 2) (o := o) (st := [iv v1]) (m_X0_number h) (show isBronze o from h.1).1 (show isBronze o from h.1).2.1 rfl rfl gc_X0_36 (by decide +kernel) ⟨rfl, rfl⟩ dX0_allGrams_16 ⟨by decide, by decide⟩ rfl rfl (Nat.le_of_ble_eq_true rfl) ?_
      intro r16c M16 hN
      replace h := hN
      clear hN
      refine g_iadd C dX0_allGrams_19 ?_
      refine g_name (fun x1_20 hx1_20 => ?_)
      replace h := h x1_20 hx1_20
      refine g_istore_n C dX0_allGrams_20 (by decide) rfl ?_
      refine g_locals (lv' := [(0, .ref (ad o)), (1, iv x1_20), (2, iv v2)]) rfl ?_
      refine g_iinc C dX0_allGrams_21 rfl (by decide) rfl ?_
      refine g_locals (lv' := [(0, .ref (ad o)), (1, iv x1_20), (2, iv (v2 + 1))]) rfl ?_
      refine g_goto C 4 dX0_allGrams_24 (by decide) ?_
      refine g_locals (lv' := [(0, .ref (ad o)), (1, iv x1_20), (2, iv (v2 + 1))]) rfl ?_
      exact hr4 _ _  _ h
  have pL4 : ∀  (X4_27 : Int → gSt → Prop) (hX4_27 : ∀ (v1 : Int) (M : gSt), X4_27 v1 M → gG p l e (rmR 2 45) s m args below meth c Q D clC A (wC ad cI cS) 3 27 [(1, iv v1)] [] M) (n : Nat) (v1 : Int) (v2 : Int) (M : gSt), wL_X0_allGrams_4 o k  X4_27 n v1 v2 M → gG p l e (rmR 2 45) s m args below meth c Q D clC A (wC ad cI cS) 3 4 [(0, .ref (ad o)), (1, iv v1), (2, iv v2)] [] M := by
    intro  X4_27 hX4_27 n
    induction n with
    | zero => intro v1 v2 M h; exact h.elim
    | succ n ih =>
      intro v1 v2 M h
      exact pC4  (wL_X0_allGrams_4 o k  X4_27 n) X4_27 ih hX4_27 v1 v2 M h
  refine g_locals (lv' := [(0, .ref (ad o))]) rfl ?_
  refine g_iconst C dX0_allGrams_0 ?_
  refine g_istore_n C dX0_allGrams_1 (by decide) rfl ?_
  refine g_locals (lv' := [(0, .ref (ad o)), (1, iv 0)]) rfl ?_
  refine g_iconst C dX0_allGrams_2 ?_
  refine g_istore_n C dX0_allGrams_3 (by decide) rfl ?_
  refine g_locals (lv' := [(0, .ref (ad o)), (1, iv 0), (2, iv 0)]) rfl ?_
  refine g_locals (lv' := [(0, .ref (ad o)), (1, iv 0), (2, iv 0)]) rfl ?_
  obtain ⟨n, h⟩ := h
  refine pL4 _ ?_ n _ _ _ h
  · intro u1_4 M4 hN
    replace h := hN
    clear hN
    refine g_iload_n C dX0_allGrams_27 rfl ?_
    exact hR _ _ _ _ dX0_allGrams_28 rfl h
def w_X0_copyFrom (o : Nat) (a1 : Nat) (M : gSt) (k : gSt → Prop) : Prop :=
  (isBronze o) ∧ ((isBronze a1) ∧ (
  (wrap (lenC (a1 + 1) : Int) = wrap (lenC (o + 1) : Int) →
    ((0 : Int) ≤ 0 ∧ (0 : Int) ≤ 0 ∧ (0 : Int) ≤ (lenC (o + 1) : Int) ∧ 0 + (lenC (o + 1) : Int) ≤ lenC (a1 + 1) ∧ 0 + (lenC (o + 1) : Int) ≤ lenC (o + 1)) ∧ (∀ M29 : gSt, M29 = cpy M (a1 + 1) 0 (o + 1) 0 (lenC (o + 1) : Int) → (∀ M37 : gSt, M37 = wr M29 o 1 (M29 a1 1) → (∀ M45 : gSt, M45 = wr M37 o 2 (M37 a1 2) → (∀ M53 : gSt, M53 = wr M45 o 3 (M45 a1 3) → (∀ M61 : gSt, M61 = wr M53 o 4 (M53 a1 4) → (k M61))))))) ∧
  (¬ wrap (lenC (a1 + 1) : Int) = wrap (lenC (o + 1) : Int) →
    k M)))
set_option maxHeartbeats 4000000 in
set_option maxRecDepth 100000 in
theorem m_X0_copyFrom {l : Launch} {D : va_G} {tys : List (ClassId × FieldType)} {ad : Nat → Nat} {cI cS : ClassId} {o : Nat} {a1 : Nat} {M : gSt} {k : gSt → Prop} (h : w_X0_copyFrom o a1 M k) : MOv l yX0_copyFrom cX0_copyFrom 2 (rmR 1 40) D clC ((cI, .int) :: (cS, .object "OldBronze$Sheet") :: tys) (wC ad cI cS) tC zC [.ref (ad o), .ref (ad a1)] M k := by
  refine mov_intro (by decide +kernel) (Nat.le_of_ble_eq_true rfl) wc_31 ?_
  intro p e s m args below meth c A Q C hR
  unfold w_X0_copyFrom at h
  obtain ⟨h_o, h_a1, h⟩ := h
  refine g_locals (lv' := [(0, .ref (ad o)), (1, .ref (ad a1))]) rfl ?_
  refine g_aload_n C dX0_copyFrom_0 rfl ?_
  refine cf_X0_9 C h_a1 dX0_copyFrom_1 ?_
  refine g_alen C dX0_copyFrom_4 h_a1.2.2.1 h_a1.2.2.2.1 ?_
  refine g_aload_n C dX0_copyFrom_5 rfl ?_
  refine cf_X0_9 C h_o dX0_copyFrom_6 ?_
  refine g_alen C dX0_copyFrom_9 h_o.2.2.1 h_o.2.2.2.1 ?_
  refine g_icmp_eq C 14 dX0_copyFrom_10 (by decide) (fun hc => ?_) (fun hc => ?_)
  · replace h := h.1 hc
    refine g_aload_n C dX0_copyFrom_14 rfl ?_
    refine cf_X0_9 C h_a1 dX0_copyFrom_15 ?_
    refine g_iconst C dX0_copyFrom_18 ?_
    refine g_aload_n C dX0_copyFrom_19 rfl ?_
    refine cf_X0_9 C h_o dX0_copyFrom_20 ?_
    refine g_iconst C dX0_copyFrom_23 ?_
    refine g_aload_n C dX0_copyFrom_24 rfl ?_
    refine cf_X0_9 C h_o dX0_copyFrom_25 ?_
    refine g_alen C dX0_copyFrom_28 h_o.2.2.1 h_o.2.2.2.1 ?_
    refine g_copy C (st := []) dX0_copyFrom_29 h_a1.2.2.1 h_o.2.2.1 ⟨h_a1.2.2.2.1, h_o.2.2.2.1, h_a1.2.2.2.2, h_o.2.2.2.2⟩ h.1 wc_32 wc_33 wc_34 wc_35 (by decide) (Nat.le_of_ble_eq_true rfl) ?_
    replace h := h.2
    refine g_memname (fun M29 hM29 => ?_)
    replace h := h M29 hM29
    refine g_aload_n C dX0_copyFrom_32 rfl ?_
    refine g_aload_n C dX0_copyFrom_33 rfl ?_
    refine cf_X0_19 C h_a1 dX0_copyFrom_34 ?_
    refine cp_X0_19 C h_o dX0_copyFrom_37 ?_
    refine g_memname (fun M37 hM37 => ?_)
    replace h := h M37 hM37
    refine g_aload_n C dX0_copyFrom_40 rfl ?_
    refine g_aload_n C dX0_copyFrom_41 rfl ?_
    refine cf_X0_22 C h_a1 dX0_copyFrom_42 ?_
    refine cp_X0_22 C h_o dX0_copyFrom_45 ?_
    refine g_memname (fun M45 hM45 => ?_)
    replace h := h M45 hM45
    refine g_aload_n C dX0_copyFrom_48 rfl ?_
    refine g_aload_n C dX0_copyFrom_49 rfl ?_
    refine cf_X0_25 C h_a1 dX0_copyFrom_50 ?_
    refine cp_X0_25 C h_o dX0_copyFrom_53 ?_
    refine g_memname (fun M53 hM53 => ?_)
    replace h := h M53 hM53
    refine g_aload_n C dX0_copyFrom_56 rfl ?_
    refine g_aload_n C dX0_copyFrom_57 rfl ?_
    refine cf_X0_15 C h_a1 dX0_copyFrom_58 ?_
    refine cp_X0_15 C h_o dX0_copyFrom_61 ?_
    refine g_memname (fun M61 hM61 => ?_)
    replace h := h M61 hM61
    exact hR _ _ _ dX0_copyFrom_64 h
  · replace h := h.2 hc
    exact hR _ _ _ dX0_copyFrom_13 h
def wC_X0_fill_2 (o : Nat) (a1 : Int) (a2 : Int) (k : gSt → Prop) (r2 : Int → gSt → Prop) (X2_21 : gSt → Prop) (v3 : Int) (M : gSt) : Prop :=

  (10 ≤ wrap v3 →
    X2_21  M) ∧
  (wrap v3 < 10 →
    w_X0_become o a1 v3 a2 M (fun M12 => r2 (v3 + 1) M12))
def wL_X0_fill_2 (o : Nat) (a1 : Int) (a2 : Int) (k : gSt → Prop)  (X2_21 : gSt → Prop) : Nat → Int → gSt → Prop
  | 0 => fun _ _ => False
  | n + 1 => fun v3 M => wC_X0_fill_2 o a1 a2 k  (wL_X0_fill_2 o a1 a2 k  X2_21 n) X2_21 v3 M
def w_X0_fill (o : Nat) (a1 : Int) (a2 : Int) (M : gSt) (k : gSt → Prop) : Prop :=
  (isBronze o) ∧ (∃ n, wL_X0_fill_2 o a1 a2 k  (fun  M2 =>
    k M2) n 0 M)
set_option maxHeartbeats 4000000 in
set_option maxRecDepth 100000 in
theorem m_X0_fill {l : Launch} {D : va_G} {tys : List (ClassId × FieldType)} {ad : Nat → Nat} {cI cS : ClassId} {o : Nat} {a1 : Int} {a2 : Int} {M : gSt} {k : gSt → Prop} (h : w_X0_fill o a1 a2 M k) : MOv l yX0_fill cX0_fill 4 (rmR 2 46) D clC ((cI, .int) :: (cS, .object "OldBronze$Sheet") :: tys) (wC ad cI cS) tC zC [.ref (ad o), iv a1, iv a2] M k := by
  refine mov_intro (by decide +kernel) (Nat.le_of_ble_eq_true rfl) wc_36 ?_
  intro p e s m args below meth c A Q C hR
  unfold w_X0_fill at h
  obtain ⟨h_o, h⟩ := h
  have pC2 : ∀ (r2 : Int → gSt → Prop) (X2_21 : gSt → Prop) (hr2 : ∀ (v3 : Int) (M : gSt), r2 v3 M → gG p l e (rmR 2 46) s m args below meth c Q D clC A (wC ad cI cS) 4 2 [(0, .ref (ad o)), (1, iv a1), (2, iv a2), (3, iv v3)] [] M) (hX2_21 : ∀  (M : gSt), X2_21  M → gG p l e (rmR 2 46) s m args below meth c Q D clC A (wC ad cI cS) 4 21 [] [] M) (v3 : Int) (M : gSt), wC_X0_fill_2 o a1 a2 k r2 X2_21 v3 M → gG p l e (rmR 2 46) s m args below meth c Q D clC A (wC ad cI cS) 4 2 [(0, .ref (ad o)), (1, iv a1), (2, iv a2), (3, iv v3)] [] M := by
    intro r2 X2_21 hr2 hX2_21 v3 M h
    unfold wC_X0_fill_2 at h
    refine g_iload_n C dX0_fill_2 rfl ?_
    refine g_bipush C dX0_fill_3 rfl ?_
    refine g_icmp_ge C 21 dX0_fill_5 (by decide) (fun hc => ?_) (fun hc => ?_)
    · replace h := h.1 hc
      refine g_locals (lv' := []) rfl ?_
      exact hX2_21  _ h
    · replace h := h.2 hc
      refine g_aload_n C dX0_fill_8 rfl ?_
      refine g_iload_n C dX0_fill_9 rfl ?_
      refine g_iload_n C dX0_fill_10 rfl ?_
      refine g_iload_n C dX0_fill_11 rfl ?_
      refine g_callVv C (nargs := 3) (o := o) (st := []) (m_X0_become h) (show isBronze o from h.1).1 (show isBronze o from h.1).2.1 rfl rfl gc_X0_53 (by decide +kernel) ⟨rfl, rfl⟩ dX0_fill_12 ⟨by decide, by decide⟩ rfl rfl (Nat.le_of_ble_eq_true rfl) ?_
      intro M12 hN
      replace h := hN
      clear hN
      refine g_iinc C dX0_fill_15 rfl (by decide) rfl ?_
      refine g_locals (lv' := [(0, .ref (ad o)), (1, iv a1), (2, iv a2), (3, iv (v3 + 1))]) rfl ?_
      refine g_goto C 2 dX0_fill_18 (by decide) ?_
      refine g_locals (lv' := [(0, .ref (ad o)), (1, iv a1), (2, iv a2), (3, iv (v3 + 1))]) rfl ?_
      exact hr2 _  _ h
  have pL2 : ∀  (X2_21 : gSt → Prop) (hX2_21 : ∀  (M : gSt), X2_21  M → gG p l e (rmR 2 46) s m args below meth c Q D clC A (wC ad cI cS) 4 21 [] [] M) (n : Nat) (v3 : Int) (M : gSt), wL_X0_fill_2 o a1 a2 k  X2_21 n v3 M → gG p l e (rmR 2 46) s m args below meth c Q D clC A (wC ad cI cS) 4 2 [(0, .ref (ad o)), (1, iv a1), (2, iv a2), (3, iv v3)] [] M := by
    intro  X2_21 hX2_21 n
    induction n with
    | zero => intro v3 M h; exact h.elim
    | succ n ih =>
      intro v3 M h
      exact pC2  (wL_X0_fill_2 o a1 a2 k  X2_21 n) X2_21 ih hX2_21 v3 M h
  refine g_locals (lv' := [(0, .ref (ad o)), (1, iv a1), (2, iv a2)]) rfl ?_
  refine g_iconst C dX0_fill_0 ?_
  refine g_istore_n C dX0_fill_1 (by decide) rfl ?_
  refine g_locals (lv' := [(0, .ref (ad o)), (1, iv a1), (2, iv a2), (3, iv 0)]) rfl ?_
  refine g_locals (lv' := [(0, .ref (ad o)), (1, iv a1), (2, iv a2), (3, iv 0)]) rfl ?_
  obtain ⟨n, h⟩ := h
  refine pL2 _ ?_ n _ _ h
  · intro  M2 hN
    replace h := hN
    clear hN
    exact hR _ _ _ dX0_fill_21 h
def w_X0_add (o : Nat) (a1 : Int) (M : gSt) (k : Int → gSt → Prop) : Prop :=
  (isBronze o) ∧ (w_X0_room o M (fun r1c M1 => 
  (1 ≤ wrap r1c →
    ∀ x2_14 : Int, x2_14 = M1 o 1 → (∀ M22 : gSt, M22 = wr M1 o 1 ((M1 o 1) + 1) → (w_X0_fill o x2_14 0 M22 (fun M28 => w_X0_become o x2_14 0 (Int.tdiv (wrap a1) 100) M28 (fun M38 => w_X0_become o x2_14 1 (Int.tmod (wrap a1) 100) M38 (fun M48 => k x2_14 M48)))))) ∧
  (wrap r1c < 1 →
    k (-1) M1)))
set_option maxHeartbeats 4000000 in
set_option maxRecDepth 100000 in
theorem m_X0_add {l : Launch} {D : va_G} {tys : List (ClassId × FieldType)} {ad : Nat → Nat} {cI cS : ClassId} {o : Nat} {a1 : Int} {M : gSt} {k : Int → gSt → Prop} (h : w_X0_add o a1 M k) : MOi l yX0_add cX0_add 3 .int (rmR 3 69) D clC ((cI, .int) :: (cS, .object "OldBronze$Sheet") :: tys) (wC ad cI cS) tC zC [.ref (ad o), iv a1] M k := by
  refine moi_intro (by decide +kernel) (Nat.le_of_ble_eq_true rfl) wc_40 ?_
  intro p e s m args below meth c A Q C hR
  unfold w_X0_add at h
  obtain ⟨h_o, h⟩ := h
  refine g_locals (lv' := [(0, .ref (ad o)), (1, iv a1)]) rfl ?_
  refine g_aload_n C dX0_add_0 rfl ?_
  refine g_callVi C (nargs := 0) (o := o) (st := []) (m_X0_room h) (show isBronze o from h.1).1 (show isBronze o from h.1).2.1 rfl rfl gc_X0_45 (by decide +kernel) ⟨rfl, rfl⟩ dX0_add_1 ⟨by decide, by decide⟩ rfl rfl (Nat.le_of_ble_eq_true rfl) ?_
  intro r1c M1 hN
  replace h := hN
  clear hN
  refine g_iconst C dX0_add_4 ?_
  refine g_icmp_ge C 10 dX0_add_5 (by decide) (fun hc => ?_) (fun hc => ?_)
  · replace h := h.1 hc
    refine g_aload_n C dX0_add_10 rfl ?_
    refine cf_X0_19 C h_o dX0_add_11 ?_
    refine g_name (fun x2_14 hx2_14 => ?_)
    replace h := h x2_14 hx2_14
    refine g_istore_n C dX0_add_14 (by decide) rfl ?_
    refine g_locals (lv' := [(0, .ref (ad o)), (1, iv a1), (2, iv x2_14)]) rfl ?_
    refine g_aload_n C dX0_add_15 rfl ?_
    refine g_dup C dX0_add_16 rfl ?_
    refine cf_X0_19 C h_o dX0_add_17 ?_
    refine g_iconst C dX0_add_20 ?_
    refine g_iadd C dX0_add_21 ?_
    refine cp_X0_19 C h_o dX0_add_22 ?_
    refine g_memname (fun M22 hM22 => ?_)
    replace h := h M22 hM22
    refine g_aload_n C dX0_add_25 rfl ?_
    refine g_iload_n C dX0_add_26 rfl ?_
    refine g_iconst C dX0_add_27 ?_
    refine g_callVv C (nargs := 2) (o := o) (st := []) (m_X0_fill h) (show isBronze o from h.1).1 (show isBronze o from h.1).2.1 rfl rfl gc_X0_49 (by decide +kernel) ⟨rfl, rfl⟩ dX0_add_28 ⟨by decide, by decide⟩ rfl rfl (Nat.le_of_ble_eq_true rfl) ?_
    intro M28 hN
    replace h := hN
    clear hN
    refine g_aload_n C dX0_add_31 rfl ?_
    refine g_iload_n C dX0_add_32 rfl ?_
    refine g_iconst C dX0_add_33 ?_
    refine g_iload_n C dX0_add_34 rfl ?_
    refine g_bipush C dX0_add_35 rfl ?_
    refine g_idiv C dX0_add_37 (by decide) ?_
    refine g_top (y := Int.tdiv (wrap a1) 100) rfl ?_
    refine g_callVv C (nargs := 3) (o := o) (st := []) (m_X0_become h) (show isBronze o from h.1).1 (show isBronze o from h.1).2.1 rfl rfl gc_X0_53 (by decide +kernel) ⟨rfl, rfl⟩ dX0_add_38 ⟨by decide, by decide⟩ rfl rfl (Nat.le_of_ble_eq_true rfl) ?_
    intro M38 hN
    replace h := hN
    clear hN
    refine g_aload_n C dX0_add_41 rfl ?_
    refine g_iload_n C dX0_add_42 rfl ?_
    refine g_iconst C dX0_add_43 ?_
    refine g_iload_n C dX0_add_44 rfl ?_
    refine g_bipush C dX0_add_45 rfl ?_
    refine g_irem C dX0_add_47 (by decide) ?_
    refine g_top (y := Int.tmod (wrap a1) 100) rfl ?_
    refine g_callVv C (nargs := 3) (o := o) (st := []) (m_X0_become h) (show isBronze o from h.1).1 (show isBronze o from h.1).2.1 rfl rfl gc_X0_53 (by decide +kernel) ⟨rfl, rfl⟩ dX0_add_48 ⟨by decide, by decide⟩ rfl rfl (Nat.le_of_ble_eq_true rfl) ?_
    intro M48 hN
    replace h := hN
    clear hN
    refine g_iload_n C dX0_add_51 rfl ?_
    exact hR _ _ _ _ dX0_add_52 rfl h
  · replace h := h.2 hc
    refine g_iconst C dX0_add_8 ?_
    exact hR _ _ _ _ dX0_add_9 rfl h
def w_X0_addFirst (o : Nat) (a1 : Int) (a2 : Int) (M : gSt) (k : Int → gSt → Prop) : Prop :=
  (isBronze o) ∧ (w_X0_add o a1 M (fun r2c M2 => w_X0_become o r2c 2 a2 M2 (fun M10 => 
  (4 ≤ wrap (M10 o 2) →
    k r2c M10) ∧
  (wrap (M10 o 2) < 4 →
    w_X0_become o r2c (6 + (M10 o 2)) 1000000 M10 (fun M32 => ∀ M42 : gSt, M42 = wr M32 o 2 ((M32 o 2) + 1) → (k r2c M42))))))
set_option maxHeartbeats 4000000 in
set_option maxRecDepth 100000 in
theorem m_X0_addFirst {l : Launch} {D : va_G} {tys : List (ClassId × FieldType)} {ad : Nat → Nat} {cI cS : ClassId} {o : Nat} {a1 : Int} {a2 : Int} {M : gSt} {k : Int → gSt → Prop} (h : w_X0_addFirst o a1 a2 M k) : MOi l yX0_addFirst cX0_addFirst 4 .int (rmR 4 91) D clC ((cI, .int) :: (cS, .object "OldBronze$Sheet") :: tys) (wC ad cI cS) tC zC [.ref (ad o), iv a1, iv a2] M k := by
  refine moi_intro (by decide +kernel) (Nat.le_of_ble_eq_true rfl) wc_47 ?_
  intro p e s m args below meth c A Q C hR
  unfold w_X0_addFirst at h
  obtain ⟨h_o, h⟩ := h
  refine g_locals (lv' := [(0, .ref (ad o)), (1, iv a1), (2, iv a2)]) rfl ?_
  refine g_aload_n C dX0_addFirst_0 rfl ?_
  refine g_iload_n C dX0_addFirst_1 rfl ?_
  refine g_callVi C (nargs := 1) (o := o) (st := []) (m_X0_add h) (show isBronze o from h.1).1 (show isBronze o from h.1).2.1 rfl rfl gc_X0_57 (by decide +kernel) ⟨rfl, rfl⟩ dX0_addFirst_2 ⟨by decide, by decide⟩ rfl rfl (Nat.le_of_ble_eq_true rfl) ?_
  intro r2c M2 hN
  replace h := hN
  clear hN
  refine g_istore_n C dX0_addFirst_5 (by decide) rfl ?_
  refine g_locals (lv' := [(0, .ref (ad o)), (1, iv a1), (2, iv a2), (3, iv r2c)]) rfl ?_
  refine g_aload_n C dX0_addFirst_6 rfl ?_
  refine g_iload_n C dX0_addFirst_7 rfl ?_
  refine g_iconst C dX0_addFirst_8 ?_
  refine g_iload_n C dX0_addFirst_9 rfl ?_
  refine g_callVv C (nargs := 3) (o := o) (st := []) (m_X0_become h) (show isBronze o from h.1).1 (show isBronze o from h.1).2.1 rfl rfl gc_X0_53 (by decide +kernel) ⟨rfl, rfl⟩ dX0_addFirst_10 ⟨by decide, by decide⟩ rfl rfl (Nat.le_of_ble_eq_true rfl) ?_
  intro M10 hN
  replace h := hN
  clear hN
  refine g_aload_n C dX0_addFirst_13 rfl ?_
  refine cf_X0_22 C h_o dX0_addFirst_14 ?_
  refine g_iconst C dX0_addFirst_17 ?_
  refine g_icmp_ge C 45 dX0_addFirst_18 (by decide) (fun hc => ?_) (fun hc => ?_)
  · replace h := h.1 hc
    refine g_iload_n C dX0_addFirst_45 rfl ?_
    exact hR _ _ _ _ dX0_addFirst_46 rfl h
  · replace h := h.2 hc
    refine g_aload_n C dX0_addFirst_21 rfl ?_
    refine g_iload_n C dX0_addFirst_22 rfl ?_
    refine g_bipush C dX0_addFirst_23 rfl ?_
    refine g_aload_n C dX0_addFirst_25 rfl ?_
    refine cf_X0_22 C h_o dX0_addFirst_26 ?_
    refine g_iadd C dX0_addFirst_29 ?_
    refine g_ldc C 1000000 wc_48 rfl dX0_addFirst_30 ?_
    refine g_callVv C (nargs := 3) (o := o) (st := []) (m_X0_become h) (show isBronze o from h.1).1 (show isBronze o from h.1).2.1 rfl rfl gc_X0_53 (by decide +kernel) ⟨rfl, rfl⟩ dX0_addFirst_32 ⟨by decide, by decide⟩ rfl rfl (Nat.le_of_ble_eq_true rfl) ?_
    intro M32 hN
    replace h := hN
    clear hN
    refine g_aload_n C dX0_addFirst_35 rfl ?_
    refine g_dup C dX0_addFirst_36 rfl ?_
    refine cf_X0_22 C h_o dX0_addFirst_37 ?_
    refine g_iconst C dX0_addFirst_40 ?_
    refine g_iadd C dX0_addFirst_41 ?_
    refine cp_X0_22 C h_o dX0_addFirst_42 ?_
    refine g_memname (fun M42 hM42 => ?_)
    replace h := h M42 hM42
    refine g_iload_n C dX0_addFirst_45 rfl ?_
    exact hR _ _ _ _ dX0_addFirst_46 rfl h
def w_X8_quotient (a1 : Int) (a2 : Int) (M : gSt) (k : Int → gSt → Prop) : Prop :=
  
  (¬ wrap (ycmp a2 0) = 0 →
    (wrapL a2 ≠ 0) ∧ (k (Int.tdiv (wrapL a1) (wrapL a2)) M)) ∧
  (wrap (ycmp a2 0) = 0 →
    k 0 M)
set_option maxHeartbeats 4000000 in
set_option maxRecDepth 100000 in
theorem m_X8_quotient {l : Launch} {D : va_G} {tys : List (ClassId × FieldType)} {ad : Nat → Nat} {cI cS : ClassId} {a1 : Int} {a2 : Int} {M : gSt} {k : Int → gSt → Prop} (h : w_X8_quotient a1 a2 M k) : MOi l yX8_quotient cX8_quotient 4 .int (rmR 0 0) D clC ((cI, .int) :: (cS, .object "OldBronze$Sheet") :: tys) (wC ad cI cS) tC zC [jv a1, jv a2] M k := by
  refine moi_intro (by decide +kernel) (Nat.le_of_ble_eq_true rfl) wc_52 ?_
  intro p e s m args below meth c A Q C hR
  unfold w_X8_quotient at h
  refine g_locals (lv' := [(0, jv a1), (2, jv a2)]) rfl ?_
  refine g_lload_n C dX8_quotient_0 rfl ?_
  refine g_lconst C 0 rfl dX8_quotient_1 ?_
  refine g_lcmp C dX8_quotient_2 ?_
  refine g_if_ne C 10 dX8_quotient_3 (by decide) (fun hc => ?_) (fun hc => ?_)
  · replace h := h.1 hc
    refine g_lload_n C dX8_quotient_10 rfl ?_
    refine g_lload_n C dX8_quotient_11 rfl ?_
    refine g_ldiv C dX8_quotient_12 h.1 ?_
    replace h := h.2
    refine g_topL (y := Int.tdiv (wrapL a1) (wrapL a2)) rfl ?_
    refine g_l2i C dX8_quotient_13 ?_
    exact hR _ _ _ _ dX8_quotient_14 rfl h
  · replace h := h.2 hc
    refine g_iconst C dX8_quotient_6 ?_
    refine g_goto C 14 dX8_quotient_7 (by decide) ?_
    exact hR _ _ _ _ dX8_quotient_14 rfl h
def w_X0_partOf (o : Nat) (a1 : Int) (a2 : Int) (a3 : Int) (a4 : Int) (M : gSt) (k : Int → gSt → Prop) : Prop :=
  (isBronze o) ∧ (w_X0_number o a1 a2 M (fun r3c M3 => w_X8_quotient ((wrap r3c) * (wrap a3)) (wrap a4) M3 (fun r13c M13 => k r13c M13)))
set_option maxHeartbeats 4000000 in
set_option maxRecDepth 100000 in
theorem m_X0_partOf {l : Launch} {D : va_G} {tys : List (ClassId × FieldType)} {ad : Nat → Nat} {cI cS : ClassId} {o : Nat} {a1 : Int} {a2 : Int} {a3 : Int} {a4 : Int} {M : gSt} {k : Int → gSt → Prop} (h : w_X0_partOf o a1 a2 a3 a4 M k) : MOi l yX0_partOf cX0_partOf 5 .int (rmR 2 45) D clC ((cI, .int) :: (cS, .object "OldBronze$Sheet") :: tys) (wC ad cI cS) tC zC [.ref (ad o), iv a1, iv a2, iv a3, iv a4] M k := by
  refine moi_intro (by decide +kernel) (Nat.le_of_ble_eq_true rfl) wc_53 ?_
  intro p e s m args below meth c A Q C hR
  unfold w_X0_partOf at h
  obtain ⟨h_o, h⟩ := h
  refine g_locals (lv' := [(0, .ref (ad o)), (1, iv a1), (2, iv a2), (3, iv a3), (4, iv a4)]) rfl ?_
  refine g_aload_n C dX0_partOf_0 rfl ?_
  refine g_iload_n C dX0_partOf_1 rfl ?_
  refine g_iload_n C dX0_partOf_2 rfl ?_
  refine g_callVi C (nargs := 2) (o := o) (st := []) (m_X0_number h) (show isBronze o from h.1).1 (show isBronze o from h.1).2.1 rfl rfl gc_X0_36 (by decide +kernel) ⟨rfl, rfl⟩ dX0_partOf_3 ⟨by decide, by decide⟩ rfl rfl (Nat.le_of_ble_eq_true rfl) ?_
  intro r3c M3 hN
  replace h := hN
  clear hN
  refine g_i2l C dX0_partOf_6 ?_
  refine g_iload_n C dX0_partOf_7 rfl ?_
  refine g_i2l C dX0_partOf_8 ?_
  refine g_lmul C dX0_partOf_9 ?_
  refine g_iload C dX0_partOf_10 rfl ?_
  refine g_i2l C dX0_partOf_12 ?_
  refine g_callNSi C (nargs := 2) (st := []) (m_X8_quotient h) zn_1 (gc_code wc_52) wc_26 wc_54 (by decide +kernel) ⟨rfl, rfl⟩ dX0_partOf_13 ⟨by decide, by decide⟩ rfl rfl (Nat.le_of_ble_eq_true rfl) ?_
  intro r13c M13 hN
  replace h := hN
  clear hN
  exact hR _ _ _ _ dX0_partOf_16 rfl h
def wC_X0_lose_3 (o : Nat) (a1 : Int) (a2 : Int) (a3 : Int) (k : gSt → Prop) (r3 : Int → gSt → Prop) (X3_40 : gSt → Prop) (v4 : Int) (M : gSt) : Prop :=

  (6 ≤ wrap v4 →
    X3_40  M) ∧
  (wrap v4 < 6 →
    w_X0_number o a1 v4 M (fun r18c M18 => w_X0_partOf o a1 v4 a2 a3 M18 (fun r27c M27 => w_X0_become o a1 v4 (r18c - r27c) M27 (fun M31 => r3 (v4 + 1) M31))))
def wL_X0_lose_3 (o : Nat) (a1 : Int) (a2 : Int) (a3 : Int) (k : gSt → Prop)  (X3_40 : gSt → Prop) : Nat → Int → gSt → Prop
  | 0 => fun _ _ => False
  | n + 1 => fun v4 M => wC_X0_lose_3 o a1 a2 a3 k  (wL_X0_lose_3 o a1 a2 a3 k  X3_40 n) X3_40 v4 M
def w_X0_lose (o : Nat) (a1 : Int) (a2 : Int) (a3 : Int) (M : gSt) (k : gSt → Prop) : Prop :=
  (isBronze o) ∧ (∃ n, wL_X0_lose_3 o a1 a2 a3 k  (fun  M3 =>
    k M3) n 2 M)
set_option maxHeartbeats 4000000 in
set_option maxRecDepth 100000 in
theorem m_X0_lose {l : Launch} {D : va_G} {tys : List (ClassId × FieldType)} {ad : Nat → Nat} {cI cS : ClassId} {o : Nat} {a1 : Int} {a2 : Int} {a3 : Int} {M : gSt} {k : gSt → Prop} (h : w_X0_lose o a1 a2 a3 M k) : MOv l yX0_lose cX0_lose 5 (rmR 3 69) D clC ((cI, .int) :: (cS, .object "OldBronze$Sheet") :: tys) (wC ad cI cS) tC zC [.ref (ad o), iv a1, iv a2, iv a3] M k := by
  refine mov_intro (by decide +kernel) (Nat.le_of_ble_eq_true rfl) wc_55 ?_
  intro p e s m args below meth c A Q C hR
  unfold w_X0_lose at h
  obtain ⟨h_o, h⟩ := h
  have pC3 : ∀ (r3 : Int → gSt → Prop) (X3_40 : gSt → Prop) (hr3 : ∀ (v4 : Int) (M : gSt), r3 v4 M → gG p l e (rmR 3 69) s m args below meth c Q D clC A (wC ad cI cS) 5 3 [(0, .ref (ad o)), (1, iv a1), (2, iv a2), (3, iv a3), (4, iv v4)] [] M) (hX3_40 : ∀  (M : gSt), X3_40  M → gG p l e (rmR 3 69) s m args below meth c Q D clC A (wC ad cI cS) 5 40 [] [] M) (v4 : Int) (M : gSt), wC_X0_lose_3 o a1 a2 a3 k r3 X3_40 v4 M → gG p l e (rmR 3 69) s m args below meth c Q D clC A (wC ad cI cS) 5 3 [(0, .ref (ad o)), (1, iv a1), (2, iv a2), (3, iv a3), (4, iv v4)] [] M := by
    intro r3 X3_40 hr3 hX3_40 v4 M h
    unfold wC_X0_lose_3 at h
    refine g_iload C dX0_lose_3 rfl ?_
    refine g_bipush C dX0_lose_5 rfl ?_
    refine g_icmp_ge C 40 dX0_lose_7 (by decide) (fun hc => ?_) (fun hc => ?_)
    · replace h := h.1 hc
      refine g_locals (lv' := []) rfl ?_
      exact hX3_40  _ h
    · replace h := h.2 hc
      refine g_aload_n C dX0_lose_10 rfl ?_
      refine g_iload_n C dX0_lose_11 rfl ?_
      refine g_iload C dX0_lose_12 rfl ?_
      refine g_aload_n C dX0_lose_14 rfl ?_
      refine g_iload_n C dX0_lose_15 rfl ?_
      refine g_iload C dX0_lose_16 rfl ?_
      refine g_callVi C (nargs := 2) (o := o) (st := [iv v4, iv a1, .ref (ad o)]) (m_X0_number h) (show isBronze o from h.1).1 (show isBronze o from h.1).2.1 rfl rfl gc_X0_36 (by decide +kernel) ⟨rfl, rfl⟩ dX0_lose_18 ⟨by decide, by decide⟩ rfl rfl (Nat.le_of_ble_eq_true rfl) ?_
      intro r18c M18 hN
      replace h := hN
      clear hN
      refine g_aload_n C dX0_lose_21 rfl ?_
      refine g_iload_n C dX0_lose_22 rfl ?_
      refine g_iload C dX0_lose_23 rfl ?_
      refine g_iload_n C dX0_lose_25 rfl ?_
      refine g_iload_n C dX0_lose_26 rfl ?_
      refine g_callVi C (nargs := 4) (o := o) (st := [iv r18c, iv v4, iv a1, .ref (ad o)]) (m_X0_partOf h) (show isBronze o from h.1).1 (show isBronze o from h.1).2.1 rfl rfl gc_X0_62 (by decide +kernel) ⟨rfl, rfl⟩ dX0_lose_27 ⟨by decide, by decide⟩ rfl rfl (Nat.le_of_ble_eq_true rfl) ?_
      intro r27c M27 hN
      replace h := hN
      clear hN
      refine g_isub C dX0_lose_30 ?_
      refine g_callVv C (nargs := 3) (o := o) (st := []) (m_X0_become h) (show isBronze o from h.1).1 (show isBronze o from h.1).2.1 rfl rfl gc_X0_53 (by decide +kernel) ⟨rfl, rfl⟩ dX0_lose_31 ⟨by decide, by decide⟩ rfl rfl (Nat.le_of_ble_eq_true rfl) ?_
      intro M31 hN
      replace h := hN
      clear hN
      refine g_iinc C dX0_lose_34 rfl (by decide) rfl ?_
      refine g_locals (lv' := [(0, .ref (ad o)), (1, iv a1), (2, iv a2), (3, iv a3), (4, iv (v4 + 1))]) rfl ?_
      refine g_goto C 3 dX0_lose_37 (by decide) ?_
      refine g_locals (lv' := [(0, .ref (ad o)), (1, iv a1), (2, iv a2), (3, iv a3), (4, iv (v4 + 1))]) rfl ?_
      exact hr3 _  _ h
  have pL3 : ∀  (X3_40 : gSt → Prop) (hX3_40 : ∀  (M : gSt), X3_40  M → gG p l e (rmR 3 69) s m args below meth c Q D clC A (wC ad cI cS) 5 40 [] [] M) (n : Nat) (v4 : Int) (M : gSt), wL_X0_lose_3 o a1 a2 a3 k  X3_40 n v4 M → gG p l e (rmR 3 69) s m args below meth c Q D clC A (wC ad cI cS) 5 3 [(0, .ref (ad o)), (1, iv a1), (2, iv a2), (3, iv a3), (4, iv v4)] [] M := by
    intro  X3_40 hX3_40 n
    induction n with
    | zero => intro v4 M h; exact h.elim
    | succ n ih =>
      intro v4 M h
      exact pC3  (wL_X0_lose_3 o a1 a2 a3 k  X3_40 n) X3_40 ih hX3_40 v4 M h
  refine g_locals (lv' := [(0, .ref (ad o)), (1, iv a1), (2, iv a2), (3, iv a3)]) rfl ?_
  refine g_iconst C dX0_lose_0 ?_
  refine g_istore C dX0_lose_1 (by decide) rfl ?_
  refine g_locals (lv' := [(0, .ref (ad o)), (1, iv a1), (2, iv a2), (3, iv a3), (4, iv 2)]) rfl ?_
  refine g_locals (lv' := [(0, .ref (ad o)), (1, iv a1), (2, iv a2), (3, iv a3), (4, iv 2)]) rfl ?_
  obtain ⟨n, h⟩ := h
  refine pL3 _ ?_ n _ _ h
  · intro  M3 hN
    replace h := hN
    clear hN
    exact hR _ _ _ dX0_lose_40 h
def wC_X0_pour_23 (o : Nat) (a1 : Int) (a2 : Int) (a3 : Int) (k : gSt → Prop) (r23 : Int → Int → Int → gSt → Prop) (X23_85 : Int → Int → gSt → Prop) (v4 : Int) (v5 : Int) (v6 : Int) (M : gSt) : Prop :=

  (10 ≤ wrap v6 →
    X23_85 v4 v5 M) ∧
  (wrap v6 < 10 →
    w_X0_number o a1 v6 M (fun r37c M37 => ∀ x7_42 : Int, x7_42 = (wrap v4) * (wrap r37c) → (w_X0_number o a2 v6 M37 (fun r51c M51 => ∀ x9_56 : Int, x9_56 = (wrap v5) * (wrap r51c) → (w_X8_quotient (x7_42 + x9_56) (wrap (v4 + v5)) M51 (fun r73c M73 => w_X0_become o a2 v6 r73c M73 (fun M76 => r23 v4 v5 (v6 + 1) M76)))))))
def wL_X0_pour_23 (o : Nat) (a1 : Int) (a2 : Int) (a3 : Int) (k : gSt → Prop)  (X23_85 : Int → Int → gSt → Prop) : Nat → Int → Int → Int → gSt → Prop
  | 0 => fun _ _ _ _ => False
  | n + 1 => fun v4 v5 v6 M => wC_X0_pour_23 o a1 a2 a3 k  (wL_X0_pour_23 o a1 a2 a3 k  X23_85 n) X23_85 v4 v5 v6 M
def wC_X0_pour_108 (o : Nat) (a1 : Int) (a2 : Int) (a3 : Int) (k : gSt → Prop) (r108 : Int → Int → gSt → Prop) (X108_155 : gSt → Prop) (v6 : Int) (v7 : Int) (M : gSt) : Prop :=

  (6 ≤ wrap v7 →
    X108_155  M) ∧
  (wrap v7 < 6 →
    w_X0_number o a2 v7 M (fun r119c M119 => w_X0_partOf o a1 v7 a3 8 M119 (fun r129c M129 => ∀ x8_133 : Int, x8_133 = r119c + r129c → (w_X0_become o a2 v7 (xmin v6 x8_133) M129 (fun M146 => r108 v6 (v7 + 1) M146)))))
def wL_X0_pour_108 (o : Nat) (a1 : Int) (a2 : Int) (a3 : Int) (k : gSt → Prop)  (X108_155 : gSt → Prop) : Nat → Int → Int → gSt → Prop
  | 0 => fun _ _ _ => False
  | n + 1 => fun v6 v7 M => wC_X0_pour_108 o a1 a2 a3 k  (wL_X0_pour_108 o a1 a2 a3 k  X108_155 n) X108_155 v6 v7 M
def w_X0_pour (o : Nat) (a1 : Int) (a2 : Int) (a3 : Int) (M : gSt) (k : gSt → Prop) : Prop :=
  (isBronze o) ∧ (w_X0_partOf o a1 2 a3 8 M (fun r6c M6 => w_X0_number o a2 2 M6 (fun r14c M14 => ∃ n, wL_X0_pour_23 o a1 a2 a3 k  (fun u4_23 u5_23 M23 =>
    ∀ x6_95 : Int, x6_95 = xmin 9999999 (u5_23 + u4_23) → (w_X0_become o a2 2 x6_95 M23 (fun M102 => ∃ n, wL_X0_pour_108 o a1 a2 a3 k  (fun  M108 =>
      w_X0_lose o a1 a3 8 M108 (fun M160 => k M160)) n x6_95 3 M102))) n r6c r14c 6 M14)))
set_option maxHeartbeats 4000000 in
set_option maxRecDepth 100000 in
theorem m_X0_pour {l : Launch} {D : va_G} {tys : List (ClassId × FieldType)} {ad : Nat → Nat} {cI cS : ClassId} {o : Nat} {a1 : Int} {a2 : Int} {a3 : Int} {M : gSt} {k : gSt → Prop} (h : w_X0_pour o a1 a2 a3 M k) : MOv l yX0_pour cX0_pour 11 (rmR 4 93) D clC ((cI, .int) :: (cS, .object "OldBronze$Sheet") :: tys) (wC ad cI cS) tC zC [.ref (ad o), iv a1, iv a2, iv a3] M k := by
  refine mov_intro (by decide +kernel) (Nat.le_of_ble_eq_true rfl) wc_67 ?_
  intro p e s m args below meth c A Q C hR
  unfold w_X0_pour at h
  obtain ⟨h_o, h⟩ := h
  have pC23 : ∀ (r23 : Int → Int → Int → gSt → Prop) (X23_85 : Int → Int → gSt → Prop) (hr23 : ∀ (v4 : Int) (v5 : Int) (v6 : Int) (M : gSt), r23 v4 v5 v6 M → gG p l e (rmR 4 93) s m args below meth c Q D clC A (wC ad cI cS) 11 23 [(0, .ref (ad o)), (1, iv a1), (2, iv a2), (3, iv a3), (4, iv v4), (5, iv v5), (6, iv v6)] [] M) (hX23_85 : ∀ (v4 : Int) (v5 : Int) (M : gSt), X23_85 v4 v5 M → gG p l e (rmR 4 93) s m args below meth c Q D clC A (wC ad cI cS) 11 85 [(0, .ref (ad o)), (1, iv a1), (2, iv a2), (3, iv a3), (4, iv v4), (5, iv v5)] [] M) (v4 : Int) (v5 : Int) (v6 : Int) (M : gSt), wC_X0_pour_23 o a1 a2 a3 k r23 X23_85 v4 v5 v6 M → gG p l e (rmR 4 93) s m args below meth c Q D clC A (wC ad cI cS) 11 23 [(0, .ref (ad o)), (1, iv a1), (2, iv a2), (3, iv a3), (4, iv v4), (5, iv v5), (6, iv v6)] [] M := by
    intro r23 X23_85 hr23 hX23_85 v4 v5 v6 M h
    unfold wC_X0_pour_23 at h
    refine g_iload C dX0_pour_23 rfl ?_
    refine g_bipush C dX0_pour_25 rfl ?_
    refine g_icmp_ge C 85 dX0_pour_27 (by decide) (fun hc => ?_) (fun hc => ?_)
    · replace h := h.1 hc
      refine g_locals (lv' := [(0, .ref (ad o)), (1, iv a1), (2, iv a2), (3, iv a3), (4, iv v4), (5, iv v5)]) rfl ?_
      exact hX23_85 _ _  _ h
    · replace h := h.2 hc
      refine g_iload C dX0_pour_30 rfl ?_
      refine g_i2l C dX0_pour_32 ?_
      refine g_aload_n C dX0_pour_33 rfl ?_
      refine g_iload_n C dX0_pour_34 rfl ?_
      refine g_iload C dX0_pour_35 rfl ?_
      refine g_callVi C (nargs := 2) (o := o) (st := [jv (wrap v4)]) (m_X0_number h) (show isBronze o from h.1).1 (show isBronze o from h.1).2.1 rfl rfl gc_X0_36 (by decide +kernel) ⟨rfl, rfl⟩ dX0_pour_37 ⟨by decide, by decide⟩ rfl rfl (Nat.le_of_ble_eq_true rfl) ?_
      intro r37c M37 hN
      replace h := hN
      clear hN
      refine g_i2l C dX0_pour_40 ?_
      refine g_lmul C dX0_pour_41 ?_
      refine g_nameL (fun x7_42 hx7_42 => ?_)
      replace h := h x7_42 hx7_42
      refine g_lstore C dX0_pour_42 (by decide) rfl ?_
      refine g_locals (lv' := [(0, .ref (ad o)), (1, iv a1), (2, iv a2), (3, iv a3), (4, iv v4), (5, iv v5), (6, iv v6), (7, jv x7_42)]) rfl ?_
      refine g_iload C dX0_pour_44 rfl ?_
      refine g_i2l C dX0_pour_46 ?_
      refine g_aload_n C dX0_pour_47 rfl ?_
      refine g_iload_n C dX0_pour_48 rfl ?_
      refine g_iload C dX0_pour_49 rfl ?_
      refine g_callVi C (nargs := 2) (o := o) (st := [jv (wrap v5)]) (m_X0_number h) (show isBronze o from h.1).1 (show isBronze o from h.1).2.1 rfl rfl gc_X0_36 (by decide +kernel) ⟨rfl, rfl⟩ dX0_pour_51 ⟨by decide, by decide⟩ rfl rfl (Nat.le_of_ble_eq_true rfl) ?_
      intro r51c M51 hN
      replace h := hN
      clear hN
      refine g_i2l C dX0_pour_54 ?_
      refine g_lmul C dX0_pour_55 ?_
      refine g_nameL (fun x9_56 hx9_56 => ?_)
      replace h := h x9_56 hx9_56
      refine g_lstore C dX0_pour_56 (by decide) rfl ?_
      refine g_locals (lv' := [(0, .ref (ad o)), (1, iv a1), (2, iv a2), (3, iv a3), (4, iv v4), (5, iv v5), (6, iv v6), (7, jv x7_42), (9, jv x9_56)]) rfl ?_
      refine g_aload_n C dX0_pour_58 rfl ?_
      refine g_iload_n C dX0_pour_59 rfl ?_
      refine g_iload C dX0_pour_60 rfl ?_
      refine g_lload C dX0_pour_62 rfl ?_
      refine g_lload C dX0_pour_64 rfl ?_
      refine g_ladd C dX0_pour_66 ?_
      refine g_iload C dX0_pour_67 rfl ?_
      refine g_iload C dX0_pour_69 rfl ?_
      refine g_iadd C dX0_pour_71 ?_
      refine g_i2l C dX0_pour_72 ?_
      refine g_callNSi C (nargs := 2) (st := [iv v6, iv a2, .ref (ad o)]) (m_X8_quotient h) zn_1 (gc_code wc_52) wc_26 wc_54 (by decide +kernel) ⟨rfl, rfl⟩ dX0_pour_73 ⟨by decide, by decide⟩ rfl rfl (Nat.le_of_ble_eq_true rfl) ?_
      intro r73c M73 hN
      replace h := hN
      clear hN
      refine g_callVv C (nargs := 3) (o := o) (st := []) (m_X0_become h) (show isBronze o from h.1).1 (show isBronze o from h.1).2.1 rfl rfl gc_X0_53 (by decide +kernel) ⟨rfl, rfl⟩ dX0_pour_76 ⟨by decide, by decide⟩ rfl rfl (Nat.le_of_ble_eq_true rfl) ?_
      intro M76 hN
      replace h := hN
      clear hN
      refine g_iinc C dX0_pour_79 rfl (by decide) rfl ?_
      refine g_locals (lv' := [(0, .ref (ad o)), (1, iv a1), (2, iv a2), (3, iv a3), (4, iv v4), (5, iv v5), (6, iv (v6 + 1)), (7, jv x7_42), (9, jv x9_56)]) rfl ?_
      refine g_goto C 23 dX0_pour_82 (by decide) ?_
      refine g_locals (lv' := [(0, .ref (ad o)), (1, iv a1), (2, iv a2), (3, iv a3), (4, iv v4), (5, iv v5), (6, iv (v6 + 1))]) rfl ?_
      exact hr23 _ _ _  _ h
  have pL23 : ∀  (X23_85 : Int → Int → gSt → Prop) (hX23_85 : ∀ (v4 : Int) (v5 : Int) (M : gSt), X23_85 v4 v5 M → gG p l e (rmR 4 93) s m args below meth c Q D clC A (wC ad cI cS) 11 85 [(0, .ref (ad o)), (1, iv a1), (2, iv a2), (3, iv a3), (4, iv v4), (5, iv v5)] [] M) (n : Nat) (v4 : Int) (v5 : Int) (v6 : Int) (M : gSt), wL_X0_pour_23 o a1 a2 a3 k  X23_85 n v4 v5 v6 M → gG p l e (rmR 4 93) s m args below meth c Q D clC A (wC ad cI cS) 11 23 [(0, .ref (ad o)), (1, iv a1), (2, iv a2), (3, iv a3), (4, iv v4), (5, iv v5), (6, iv v6)] [] M := by
    intro  X23_85 hX23_85 n
    induction n with
    | zero => intro v4 v5 v6 M h; exact h.elim
    | succ n ih =>
      intro v4 v5 v6 M h
      exact pC23  (wL_X0_pour_23 o a1 a2 a3 k  X23_85 n) X23_85 ih hX23_85 v4 v5 v6 M h
  have pC108 : ∀ (r108 : Int → Int → gSt → Prop) (X108_155 : gSt → Prop) (hr108 : ∀ (v6 : Int) (v7 : Int) (M : gSt), r108 v6 v7 M → gG p l e (rmR 4 93) s m args below meth c Q D clC A (wC ad cI cS) 11 108 [(0, .ref (ad o)), (1, iv a1), (2, iv a2), (3, iv a3), (6, iv v6), (7, iv v7)] [] M) (hX108_155 : ∀  (M : gSt), X108_155  M → gG p l e (rmR 4 93) s m args below meth c Q D clC A (wC ad cI cS) 11 155 [(0, .ref (ad o)), (1, iv a1), (3, iv a3)] [] M) (v6 : Int) (v7 : Int) (M : gSt), wC_X0_pour_108 o a1 a2 a3 k r108 X108_155 v6 v7 M → gG p l e (rmR 4 93) s m args below meth c Q D clC A (wC ad cI cS) 11 108 [(0, .ref (ad o)), (1, iv a1), (2, iv a2), (3, iv a3), (6, iv v6), (7, iv v7)] [] M := by
    intro r108 X108_155 hr108 hX108_155 v6 v7 M h
    unfold wC_X0_pour_108 at h
    refine g_iload C dX0_pour_108 rfl ?_
    refine g_bipush C dX0_pour_110 rfl ?_
    refine g_icmp_ge C 155 dX0_pour_112 (by decide) (fun hc => ?_) (fun hc => ?_)
    · replace h := h.1 hc
      refine g_locals (lv' := [(0, .ref (ad o)), (1, iv a1), (3, iv a3)]) rfl ?_
      exact hX108_155  _ h
    · replace h := h.2 hc
      refine g_aload_n C dX0_pour_115 rfl ?_
      refine g_iload_n C dX0_pour_116 rfl ?_
      refine g_iload C dX0_pour_117 rfl ?_
      refine g_callVi C (nargs := 2) (o := o) (st := []) (m_X0_number h) (show isBronze o from h.1).1 (show isBronze o from h.1).2.1 rfl rfl gc_X0_36 (by decide +kernel) ⟨rfl, rfl⟩ dX0_pour_119 ⟨by decide, by decide⟩ rfl rfl (Nat.le_of_ble_eq_true rfl) ?_
      intro r119c M119 hN
      replace h := hN
      clear hN
      refine g_aload_n C dX0_pour_122 rfl ?_
      refine g_iload_n C dX0_pour_123 rfl ?_
      refine g_iload C dX0_pour_124 rfl ?_
      refine g_iload_n C dX0_pour_126 rfl ?_
      refine g_bipush C dX0_pour_127 rfl ?_
      refine g_callVi C (nargs := 4) (o := o) (st := [iv r119c]) (m_X0_partOf h) (show isBronze o from h.1).1 (show isBronze o from h.1).2.1 rfl rfl gc_X0_62 (by decide +kernel) ⟨rfl, rfl⟩ dX0_pour_129 ⟨by decide, by decide⟩ rfl rfl (Nat.le_of_ble_eq_true rfl) ?_
      intro r129c M129 hN
      replace h := hN
      clear hN
      refine g_iadd C dX0_pour_132 ?_
      refine g_name (fun x8_133 hx8_133 => ?_)
      replace h := h x8_133 hx8_133
      refine g_istore C dX0_pour_133 (by decide) rfl ?_
      refine g_locals (lv' := [(0, .ref (ad o)), (1, iv a1), (2, iv a2), (3, iv a3), (6, iv v6), (7, iv v7), (8, iv x8_133)]) rfl ?_
      refine g_aload_n C dX0_pour_135 rfl ?_
      refine g_iload_n C dX0_pour_136 rfl ?_
      refine g_iload C dX0_pour_137 rfl ?_
      refine g_iload C dX0_pour_139 rfl ?_
      refine g_iload C dX0_pour_141 rfl ?_
      refine g_mmin C (st := [iv v7, iv a2, .ref (ad o)]) dX0_pour_143 wc_60 wc_61 wc_62 wc_63 (by decide) (Nat.le_of_ble_eq_true rfl) ?_
      refine g_callVv C (nargs := 3) (o := o) (st := []) (m_X0_become h) (show isBronze o from h.1).1 (show isBronze o from h.1).2.1 rfl rfl gc_X0_53 (by decide +kernel) ⟨rfl, rfl⟩ dX0_pour_146 ⟨by decide, by decide⟩ rfl rfl (Nat.le_of_ble_eq_true rfl) ?_
      intro M146 hN
      replace h := hN
      clear hN
      refine g_iinc C dX0_pour_149 rfl (by decide) rfl ?_
      refine g_locals (lv' := [(0, .ref (ad o)), (1, iv a1), (2, iv a2), (3, iv a3), (6, iv v6), (7, iv (v7 + 1)), (8, iv x8_133)]) rfl ?_
      refine g_goto C 108 dX0_pour_152 (by decide) ?_
      refine g_locals (lv' := [(0, .ref (ad o)), (1, iv a1), (2, iv a2), (3, iv a3), (6, iv v6), (7, iv (v7 + 1))]) rfl ?_
      exact hr108 _ _  _ h
  have pL108 : ∀  (X108_155 : gSt → Prop) (hX108_155 : ∀  (M : gSt), X108_155  M → gG p l e (rmR 4 93) s m args below meth c Q D clC A (wC ad cI cS) 11 155 [(0, .ref (ad o)), (1, iv a1), (3, iv a3)] [] M) (n : Nat) (v6 : Int) (v7 : Int) (M : gSt), wL_X0_pour_108 o a1 a2 a3 k  X108_155 n v6 v7 M → gG p l e (rmR 4 93) s m args below meth c Q D clC A (wC ad cI cS) 11 108 [(0, .ref (ad o)), (1, iv a1), (2, iv a2), (3, iv a3), (6, iv v6), (7, iv v7)] [] M := by
    intro  X108_155 hX108_155 n
    induction n with
    | zero => intro v6 v7 M h; exact h.elim
    | succ n ih =>
      intro v6 v7 M h
      exact pC108  (wL_X0_pour_108 o a1 a2 a3 k  X108_155 n) X108_155 ih hX108_155 v6 v7 M h
  refine g_locals (lv' := [(0, .ref (ad o)), (1, iv a1), (2, iv a2), (3, iv a3)]) rfl ?_
  refine g_aload_n C dX0_pour_0 rfl ?_
  refine g_iload_n C dX0_pour_1 rfl ?_
  refine g_iconst C dX0_pour_2 ?_
  refine g_iload_n C dX0_pour_3 rfl ?_
  refine g_bipush C dX0_pour_4 rfl ?_
  refine g_callVi C (nargs := 4) (o := o) (st := []) (m_X0_partOf h) (show isBronze o from h.1).1 (show isBronze o from h.1).2.1 rfl rfl gc_X0_62 (by decide +kernel) ⟨rfl, rfl⟩ dX0_pour_6 ⟨by decide, by decide⟩ rfl rfl (Nat.le_of_ble_eq_true rfl) ?_
  intro r6c M6 hN
  replace h := hN
  clear hN
  refine g_istore C dX0_pour_9 (by decide) rfl ?_
  refine g_locals (lv' := [(0, .ref (ad o)), (1, iv a1), (2, iv a2), (3, iv a3), (4, iv r6c)]) rfl ?_
  refine g_aload_n C dX0_pour_11 rfl ?_
  refine g_iload_n C dX0_pour_12 rfl ?_
  refine g_iconst C dX0_pour_13 ?_
  refine g_callVi C (nargs := 2) (o := o) (st := []) (m_X0_number h) (show isBronze o from h.1).1 (show isBronze o from h.1).2.1 rfl rfl gc_X0_36 (by decide +kernel) ⟨rfl, rfl⟩ dX0_pour_14 ⟨by decide, by decide⟩ rfl rfl (Nat.le_of_ble_eq_true rfl) ?_
  intro r14c M14 hN
  replace h := hN
  clear hN
  refine g_istore C dX0_pour_17 (by decide) rfl ?_
  refine g_locals (lv' := [(0, .ref (ad o)), (1, iv a1), (2, iv a2), (3, iv a3), (4, iv r6c), (5, iv r14c)]) rfl ?_
  refine g_bipush C dX0_pour_19 rfl ?_
  refine g_istore C dX0_pour_21 (by decide) rfl ?_
  refine g_locals (lv' := [(0, .ref (ad o)), (1, iv a1), (2, iv a2), (3, iv a3), (4, iv r6c), (5, iv r14c), (6, iv 6)]) rfl ?_
  refine g_locals (lv' := [(0, .ref (ad o)), (1, iv a1), (2, iv a2), (3, iv a3), (4, iv r6c), (5, iv r14c), (6, iv 6)]) rfl ?_
  obtain ⟨n, h⟩ := h
  refine pL23 _ ?_ n _ _ _ _ h
  · intro u4_23 u5_23 M23 hN
    replace h := hN
    clear hN
    refine g_ldc C 9999999 wc_59 rfl dX0_pour_85 ?_
    refine g_iload C dX0_pour_87 rfl ?_
    refine g_iload C dX0_pour_89 rfl ?_
    refine g_iadd C dX0_pour_91 ?_
    refine g_mmin C (st := []) dX0_pour_92 wc_60 wc_61 wc_62 wc_63 (by decide) (Nat.le_of_ble_eq_true rfl) ?_
    refine g_name (fun x6_95 hx6_95 => ?_)
    replace h := h x6_95 hx6_95
    refine g_istore C dX0_pour_95 (by decide) rfl ?_
    refine g_locals (lv' := [(0, .ref (ad o)), (1, iv a1), (2, iv a2), (3, iv a3), (4, iv u4_23), (5, iv u5_23), (6, iv x6_95)]) rfl ?_
    refine g_aload_n C dX0_pour_97 rfl ?_
    refine g_iload_n C dX0_pour_98 rfl ?_
    refine g_iconst C dX0_pour_99 ?_
    refine g_iload C dX0_pour_100 rfl ?_
    refine g_callVv C (nargs := 3) (o := o) (st := []) (m_X0_become h) (show isBronze o from h.1).1 (show isBronze o from h.1).2.1 rfl rfl gc_X0_53 (by decide +kernel) ⟨rfl, rfl⟩ dX0_pour_102 ⟨by decide, by decide⟩ rfl rfl (Nat.le_of_ble_eq_true rfl) ?_
    intro M102 hN
    replace h := hN
    clear hN
    refine g_iconst C dX0_pour_105 ?_
    refine g_istore C dX0_pour_106 (by decide) rfl ?_
    refine g_locals (lv' := [(0, .ref (ad o)), (1, iv a1), (2, iv a2), (3, iv a3), (4, iv u4_23), (5, iv u5_23), (6, iv x6_95), (7, iv 3)]) rfl ?_
    refine g_locals (lv' := [(0, .ref (ad o)), (1, iv a1), (2, iv a2), (3, iv a3), (6, iv x6_95), (7, iv 3)]) rfl ?_
    obtain ⟨n, h⟩ := h
    refine pL108 _ ?_ n _ _ _ h
    · intro  M108 hN
      replace h := hN
      clear hN
      refine g_aload_n C dX0_pour_155 rfl ?_
      refine g_iload_n C dX0_pour_156 rfl ?_
      refine g_iload_n C dX0_pour_157 rfl ?_
      refine g_bipush C dX0_pour_158 rfl ?_
      refine g_callVv C (nargs := 3) (o := o) (st := []) (m_X0_lose h) (show isBronze o from h.1).1 (show isBronze o from h.1).2.1 rfl rfl gc_X0_76 (by decide +kernel) ⟨rfl, rfl⟩ dX0_pour_160 ⟨by decide, by decide⟩ rfl rfl (Nat.le_of_ble_eq_true rfl) ?_
      intro M160 hN
      replace h := hN
      clear hN
      exact hR _ _ _ dX0_pour_163 h
