def w_X1_textOf (o : Nat) (a1 : Int) (M : gSt) (k : Option Nat → gSt → Prop) : Prop :=
  (isForge o) ∧ (
  (¬ wrap a1 = 0 →
    k (some (o + 15)) M) ∧
  (wrap a1 = 0 →
    k (some (o + 13)) M))
set_option maxHeartbeats 4000000 in
set_option maxRecDepth 100000 in
theorem m_X1_textOf {l : Launch} {D : va_G} {tys : List (ClassId × FieldType)} {ad : Nat → Nat} {cI cS : ClassId} {o : Nat} {a1 : Int} {M : gSt} {k : Option Nat → gSt → Prop} (h : w_X1_textOf o a1 M k) : MOr l yX1_textOf cX1_textOf 2 (.object "OldBronze$Rows") (rmR 0 0) D clC ((cI, .int) :: (cS, .object "OldBronze$Sheet") :: tys) ad (wC ad cI cS) tC zC [.ref (ad o), iv a1] M k := by
  refine mor_intro (by decide +kernel) (Nat.le_of_ble_eq_true rfl) wc_132 (Or.inl ⟨_, rfl⟩) ?_
  intro p e s m args below meth c A Q C hR
  unfold w_X1_textOf at h
  obtain ⟨h_o, h⟩ := h
  refine g_locals (lv' := [(0, .ref (ad o)), (1, iv a1)]) rfl ?_
  refine g_iload_n C dX1_textOf_0 rfl ?_
  refine g_if_ne C 11 dX1_textOf_1 (by decide) (fun hc => ?_) (fun hc => ?_)
  · replace h := h.1 hc
    refine g_aload_n C dX1_textOf_11 rfl ?_
    refine cf_X1_42 C h_o dX1_textOf_12 ?_
    exact hR _ _ (some (o + 15)) _ _ dX1_textOf_15 rfl h
  · replace h := h.2 hc
    refine g_aload_n C dX1_textOf_4 rfl ?_
    refine cf_X1_39 C h_o dX1_textOf_5 ?_
    refine g_goto C 15 dX1_textOf_8 (by decide) ?_
    exact hR _ _ (some (o + 13)) _ _ dX1_textOf_15 rfl h
def w_X4_size (o : Nat) (M : gSt) (k : Int → gSt → Prop) : Prop :=
  (isRows o) ∧ (k (M o 3) M)
set_option maxHeartbeats 4000000 in
set_option maxRecDepth 100000 in
theorem m_X4_size {l : Launch} {D : va_G} {tys : List (ClassId × FieldType)} {ad : Nat → Nat} {cI cS : ClassId} {o : Nat} {M : gSt} {k : Int → gSt → Prop} (h : w_X4_size o M k) : MOi l yX4_size cX4_size 1 .int (rmR 0 0) D clC ((cI, .int) :: (cS, .object "OldBronze$Sheet") :: tys) (wC ad cI cS) tC zC [.ref (ad o)] M k := by
  refine moi_intro (by decide +kernel) (Nat.le_of_ble_eq_true rfl) wc_133 ?_
  intro p e s m args below meth c A Q C hR
  unfold w_X4_size at h
  obtain ⟨h_o, h⟩ := h
  refine g_locals (lv' := [(0, .ref (ad o))]) rfl ?_
  refine g_aload_n C dX4_size_0 rfl ?_
  refine cf_X4_26 C h_o dX4_size_1 ?_
  exact hR _ _ _ _ dX4_size_4 rfl h
def wB_X4_at_46 (o : Nat) (a1 : Int) (a2 : Int) (k : Int → gSt → Prop)  (s0 : Int) (M : gSt) : Prop :=

  (wrap s0 < 0 →
    k 0 M) ∧
  (0 ≤ wrap s0 →

    (wrap (lenC (o + 1) : Int) ≤ wrap s0 →
      k 0 M) ∧
    (wrap s0 < wrap (lenC (o + 1) : Int) →
      ((0 : Int) ≤ s0 ∧ s0 < lenC (o + 1)) ∧ (k (M (o + 1) s0) M)))
def wB_X4_at_29 (o : Nat) (a1 : Int) (a2 : Int) (k : Int → gSt → Prop)  (s0 : Int) (M : gSt) : Prop :=

  (wrap s0 = 0 →
    wB_X4_at_46 o a1 a2 k  (-1) M) ∧
  (¬ wrap s0 = 0 →
    wB_X4_at_46 o a1 a2 k  ((a1 * (M o 0)) + a2) M)
def wB_X4_at_28 (o : Nat) (a1 : Int) (a2 : Int) (k : Int → gSt → Prop)   (M : gSt) : Prop :=
wB_X4_at_29 o a1 a2 k  0 M
def w_X4_at (o : Nat) (a1 : Int) (a2 : Int) (M : gSt) (k : Int → gSt → Prop) : Prop :=
  (isRows o) ∧ (
  (wrap a1 < 0 →
    wB_X4_at_28 o a1 a2 k   M) ∧
  (0 ≤ wrap a1 →

    (wrap (M o 3) ≤ wrap a1 →
      wB_X4_at_28 o a1 a2 k   M) ∧
    (wrap a1 < wrap (M o 3) →

      (wrap a2 < 0 →
        wB_X4_at_28 o a1 a2 k   M) ∧
      (0 ≤ wrap a2 →

        (wrap (M o 0) ≤ wrap a2 →
          wB_X4_at_28 o a1 a2 k   M) ∧
        (wrap a2 < wrap (M o 0) →
          wB_X4_at_29 o a1 a2 k  1 M)))))
set_option maxHeartbeats 4000000 in
set_option maxRecDepth 100000 in
theorem m_X4_at {l : Launch} {D : va_G} {tys : List (ClassId × FieldType)} {ad : Nat → Nat} {cI cS : ClassId} {o : Nat} {a1 : Int} {a2 : Int} {M : gSt} {k : Int → gSt → Prop} (h : w_X4_at o a1 a2 M k) : MOi l yX4_at cX4_at 5 .int (rmR 0 0) D clC ((cI, .int) :: (cS, .object "OldBronze$Sheet") :: tys) (wC ad cI cS) tC zC [.ref (ad o), iv a1, iv a2] M k := by
  refine moi_intro (by decide +kernel) (Nat.le_of_ble_eq_true rfl) wc_134 ?_
  intro p e s m args below meth c A Q C hR
  unfold w_X4_at at h
  obtain ⟨h_o, h⟩ := h
  have pB46 : ∀   (s0 : Int) (M : gSt), wB_X4_at_46 o a1 a2 k  s0 M → gG p l e (rmR 0 0) s m args below meth c Q D clC A (wC ad cI cS) 5 46 [(0, .ref (ad o))] [iv s0] M := by
    intro   s0 M h
    unfold wB_X4_at_46 at h
    refine g_istore C dX4_at_46 (by decide) rfl ?_
    refine g_locals (lv' := [(0, .ref (ad o)), (4, iv s0)]) rfl ?_
    refine g_iload C dX4_at_48 rfl ?_
    refine g_if_lt C 73 dX4_at_50 (by decide) (fun hc => ?_) (fun hc => ?_)
    · replace h := h.1 hc
      refine g_iconst C dX4_at_73 ?_
      exact hR _ _ _ _ dX4_at_74 rfl h
    · replace h := h.2 hc
      refine g_iload C dX4_at_53 rfl ?_
      refine g_aload_n C dX4_at_55 rfl ?_
      refine cf_X4_22 C h_o dX4_at_56 ?_
      refine g_alen C dX4_at_59 h_o.2.2.1 h_o.2.2.2.1 ?_
      refine g_icmp_ge C 73 dX4_at_60 (by decide) (fun hc => ?_) (fun hc => ?_)
      · replace h := h.1 hc
        refine g_iconst C dX4_at_73 ?_
        exact hR _ _ _ _ dX4_at_74 rfl h
      · replace h := h.2 hc
        refine g_aload_n C dX4_at_63 rfl ?_
        refine cf_X4_22 C h_o dX4_at_64 ?_
        refine g_iload C dX4_at_67 rfl ?_
        refine g_iald C dX4_at_69 h_o.2.2.1 h_o.2.2.2 h.1 ?_
        replace h := h.2
        refine g_goto C 74 dX4_at_70 (by decide) ?_
        exact hR _ _ _ _ dX4_at_74 rfl h
  have pB29 : ∀   (s0 : Int) (M : gSt), wB_X4_at_29 o a1 a2 k  s0 M → gG p l e (rmR 0 0) s m args below meth c Q D clC A (wC ad cI cS) 5 29 [(0, .ref (ad o)), (1, iv a1), (2, iv a2)] [iv s0] M := by
    intro   s0 M h
    unfold wB_X4_at_29 at h
    refine g_istore_n C dX4_at_29 (by decide) rfl ?_
    refine g_locals (lv' := [(0, .ref (ad o)), (1, iv a1), (2, iv a2), (3, iv s0)]) rfl ?_
    refine g_iload_n C dX4_at_30 rfl ?_
    refine g_if_eq C 45 dX4_at_31 (by decide) (fun hc => ?_) (fun hc => ?_)
    · replace h := h.1 hc
      refine g_iconst C dX4_at_45 ?_
      refine g_locals (lv' := [(0, .ref (ad o))]) rfl ?_
      exact pB46 _ _ h
    · replace h := h.2 hc
      refine g_iload_n C dX4_at_34 rfl ?_
      refine g_aload_n C dX4_at_35 rfl ?_
      refine cf_X4_19 C h_o dX4_at_36 ?_
      refine g_imul C dX4_at_39 ?_
      refine g_iload_n C dX4_at_40 rfl ?_
      refine g_iadd C dX4_at_41 ?_
      refine g_goto C 46 dX4_at_42 (by decide) ?_
      refine g_locals (lv' := [(0, .ref (ad o))]) rfl ?_
      exact pB46 _ _ h
  have pB28 : ∀    (M : gSt), wB_X4_at_28 o a1 a2 k   M → gG p l e (rmR 0 0) s m args below meth c Q D clC A (wC ad cI cS) 5 28 [(0, .ref (ad o)), (1, iv a1), (2, iv a2)] [] M := by
    intro    M h
    unfold wB_X4_at_28 at h
    refine g_iconst C dX4_at_28 ?_
    refine g_locals (lv' := [(0, .ref (ad o)), (1, iv a1), (2, iv a2)]) rfl ?_
    exact pB29 _ _ h
  refine g_locals (lv' := [(0, .ref (ad o)), (1, iv a1), (2, iv a2)]) rfl ?_
  refine g_iload_n C dX4_at_0 rfl ?_
  refine g_if_lt C 28 dX4_at_1 (by decide) (fun hc => ?_) (fun hc => ?_)
  · replace h := h.1 hc
    refine g_locals (lv' := [(0, .ref (ad o)), (1, iv a1), (2, iv a2)]) rfl ?_
    exact pB28  _ h
  · replace h := h.2 hc
    refine g_iload_n C dX4_at_4 rfl ?_
    refine g_aload_n C dX4_at_5 rfl ?_
    refine cf_X4_26 C h_o dX4_at_6 ?_
    refine g_icmp_ge C 28 dX4_at_9 (by decide) (fun hc => ?_) (fun hc => ?_)
    · replace h := h.1 hc
      refine g_locals (lv' := [(0, .ref (ad o)), (1, iv a1), (2, iv a2)]) rfl ?_
      exact pB28  _ h
    · replace h := h.2 hc
      refine g_iload_n C dX4_at_12 rfl ?_
      refine g_if_lt C 28 dX4_at_13 (by decide) (fun hc => ?_) (fun hc => ?_)
      · replace h := h.1 hc
        refine g_locals (lv' := [(0, .ref (ad o)), (1, iv a1), (2, iv a2)]) rfl ?_
        exact pB28  _ h
      · replace h := h.2 hc
        refine g_iload_n C dX4_at_16 rfl ?_
        refine g_aload_n C dX4_at_17 rfl ?_
        refine cf_X4_19 C h_o dX4_at_18 ?_
        refine g_icmp_ge C 28 dX4_at_21 (by decide) (fun hc => ?_) (fun hc => ?_)
        · replace h := h.1 hc
          refine g_locals (lv' := [(0, .ref (ad o)), (1, iv a1), (2, iv a2)]) rfl ?_
          exact pB28  _ h
        · replace h := h.2 hc
          refine g_iconst C dX4_at_24 ?_
          refine g_goto C 29 dX4_at_25 (by decide) ?_
          refine g_locals (lv' := [(0, .ref (ad o)), (1, iv a1), (2, iv a2)]) rfl ?_
          exact pB29 _ _ h
def w_X7_push (o : Nat) (a1 : Int) (M : gSt) (k : gSt → Prop) : Prop :=
  (isWorker o) ∧ (
  (wrap (M o 1) < 0 →
    k M) ∧
  (0 ≤ wrap (M o 1) →

    (wrap (lenC (o + 1) : Int) ≤ wrap (M o 1) →
      k M) ∧
    (wrap (M o 1) < wrap (lenC (o + 1) : Int) →
      ((0 : Int) ≤ M o 1 ∧ M o 1 < lenC (o + 1)) ∧ (∀ M28 : gSt, M28 = wr M (o + 1) (M o 1) a1 → (∀ M36 : gSt, M36 = wr M28 o 1 ((M28 o 1) + 1) → (k M36))))))
set_option maxHeartbeats 4000000 in
set_option maxRecDepth 100000 in
theorem m_X7_push {l : Launch} {D : va_G} {tys : List (ClassId × FieldType)} {ad : Nat → Nat} {cI cS : ClassId} {o : Nat} {a1 : Int} {M : gSt} {k : gSt → Prop} (h : w_X7_push o a1 M k) : MOv l yX7_push cX7_push 2 (rmR 0 0) D clC ((cI, .int) :: (cS, .object "OldBronze$Sheet") :: tys) (wC ad cI cS) tC zC [.ref (ad o), iv a1] M k := by
  refine mov_intro (by decide +kernel) (Nat.le_of_ble_eq_true rfl) wc_135 ?_
  intro p e s m args below meth c A Q C hR
  unfold w_X7_push at h
  obtain ⟨h_o, h⟩ := h
  refine g_locals (lv' := [(0, .ref (ad o)), (1, iv a1)]) rfl ?_
  refine g_aload_n C dX7_push_0 rfl ?_
  refine cf_X7_15 C h_o dX7_push_1 ?_
  refine g_if_lt C 39 dX7_push_4 (by decide) (fun hc => ?_) (fun hc => ?_)
  · replace h := h.1 hc
    exact hR _ _ _ dX7_push_39 h
  · replace h := h.2 hc
    refine g_aload_n C dX7_push_7 rfl ?_
    refine cf_X7_15 C h_o dX7_push_8 ?_
    refine g_aload_n C dX7_push_11 rfl ?_
    refine cf_X7_9 C h_o dX7_push_12 ?_
    refine g_alen C dX7_push_15 h_o.2.2.1 h_o.2.2.2.1 ?_
    refine g_icmp_ge C 39 dX7_push_16 (by decide) (fun hc => ?_) (fun hc => ?_)
    · replace h := h.1 hc
      exact hR _ _ _ dX7_push_39 h
    · replace h := h.2 hc
      refine g_aload_n C dX7_push_19 rfl ?_
      refine cf_X7_9 C h_o dX7_push_20 ?_
      refine g_aload_n C dX7_push_23 rfl ?_
      refine cf_X7_15 C h_o dX7_push_24 ?_
      refine g_iload_n C dX7_push_27 rfl ?_
      refine g_iast C dX7_push_28 h_o.2.2.1 h_o.2.2.2 h.1 ?_
      replace h := h.2
      refine g_memname (fun M28 hM28 => ?_)
      replace h := h M28 hM28
      refine g_aload_n C dX7_push_29 rfl ?_
      refine g_dup C dX7_push_30 rfl ?_
      refine cf_X7_15 C h_o dX7_push_31 ?_
      refine g_iconst C dX7_push_34 ?_
      refine g_iadd C dX7_push_35 ?_
      refine cp_X7_15 C h_o dX7_push_36 ?_
      refine g_memname (fun M36 hM36 => ?_)
      replace h := h M36 hM36
      exact hR _ _ _ dX7_push_39 h
def w_X7_pop (o : Nat) (M : gSt) (k : Int → gSt → Prop) : Prop :=
  (isWorker o) ∧ (
  (wrap (M o 1) < 1 →
    k 0 M) ∧
  (1 ≤ wrap (M o 1) →

    (wrap (M o 1) ≤ wrap (lenC (o + 1) : Int) →
      ∀ M29 : gSt, M29 = wr M o 1 ((M o 1) - 1) → (((0 : Int) ≤ M29 o 1 ∧ M29 o 1 < lenC (o + 1)) ∧ (k (M29 (o + 1) (M29 o 1)) M29))) ∧
    (wrap (lenC (o + 1) : Int) < wrap (M o 1) →
      k 0 M)))
set_option maxHeartbeats 4000000 in
set_option maxRecDepth 100000 in
theorem m_X7_pop {l : Launch} {D : va_G} {tys : List (ClassId × FieldType)} {ad : Nat → Nat} {cI cS : ClassId} {o : Nat} {M : gSt} {k : Int → gSt → Prop} (h : w_X7_pop o M k) : MOi l yX7_pop cX7_pop 1 .int (rmR 0 0) D clC ((cI, .int) :: (cS, .object "OldBronze$Sheet") :: tys) (wC ad cI cS) tC zC [.ref (ad o)] M k := by
  refine moi_intro (by decide +kernel) (Nat.le_of_ble_eq_true rfl) wc_137 ?_
  intro p e s m args below meth c A Q C hR
  unfold w_X7_pop at h
  obtain ⟨h_o, h⟩ := h
  refine g_locals (lv' := [(0, .ref (ad o))]) rfl ?_
  refine g_aload_n C dX7_pop_0 rfl ?_
  refine cf_X7_15 C h_o dX7_pop_1 ?_
  refine g_iconst C dX7_pop_4 ?_
  refine g_icmp_lt C 20 dX7_pop_5 (by decide) (fun hc => ?_) (fun hc => ?_)
  · replace h := h.1 hc
    refine g_iconst C dX7_pop_20 ?_
    exact hR _ _ _ _ dX7_pop_21 rfl h
  · replace h := h.2 hc
    refine g_aload_n C dX7_pop_8 rfl ?_
    refine cf_X7_15 C h_o dX7_pop_9 ?_
    refine g_aload_n C dX7_pop_12 rfl ?_
    refine cf_X7_9 C h_o dX7_pop_13 ?_
    refine g_alen C dX7_pop_16 h_o.2.2.1 h_o.2.2.2.1 ?_
    refine g_icmp_le C 22 dX7_pop_17 (by decide) (fun hc => ?_) (fun hc => ?_)
    · replace h := h.1 hc
      refine g_aload_n C dX7_pop_22 rfl ?_
      refine g_dup C dX7_pop_23 rfl ?_
      refine cf_X7_15 C h_o dX7_pop_24 ?_
      refine g_iconst C dX7_pop_27 ?_
      refine g_isub C dX7_pop_28 ?_
      refine cp_X7_15 C h_o dX7_pop_29 ?_
      refine g_memname (fun M29 hM29 => ?_)
      replace h := h M29 hM29
      refine g_aload_n C dX7_pop_32 rfl ?_
      refine cf_X7_9 C h_o dX7_pop_33 ?_
      refine g_aload_n C dX7_pop_36 rfl ?_
      refine cf_X7_15 C h_o dX7_pop_37 ?_
      refine g_iald C dX7_pop_40 h_o.2.2.1 h_o.2.2.2 h.1 ?_
      replace h := h.2
      exact hR _ _ _ _ dX7_pop_41 rfl h
    · replace h := h.2 hc
      refine g_iconst C dX7_pop_20 ?_
      exact hR _ _ _ _ dX7_pop_21 rfl h
def w_X7_joined (a1 : Int) (a2 : Int) (a3 : Int) (M : gSt) (k : Int → gSt → Prop) : Prop :=
  
  (wrap a1 = 38 →

    (wrap a2 = 0 →
      k 0 M) ∧
    (¬ wrap a2 = 0 →

      (wrap a3 = 0 →
        k 0 M) ∧
      (¬ wrap a3 = 0 →
        k 1 M))) ∧
  (wrap a1 = 42 →
    k (a2 * a3) M) ∧
  (wrap a1 = 43 →
    k (a2 + a3) M) ∧
  (wrap a1 = 45 →
    k (a2 - a3) M) ∧
  (wrap a1 = 47 →

    (¬ wrap a3 = 0 →
      (wrap a3 ≠ 0) ∧ (k (Int.tdiv (wrap a2) (wrap a3)) M)) ∧
    (wrap a3 = 0 →
      k 0 M)) ∧
  (wrap a1 = 60 →

    (wrap a3 ≤ wrap a2 →
      k 0 M) ∧
    (wrap a2 < wrap a3 →
      k 1 M)) ∧
  (wrap a1 = 61 →

    (¬ wrap a2 = wrap a3 →
      k 0 M) ∧
    (wrap a2 = wrap a3 →
      k 1 M)) ∧
  (wrap a1 = 62 →

    (wrap a2 ≤ wrap a3 →
      k 0 M) ∧
    (wrap a3 < wrap a2 →
      k 1 M)) ∧
  (wrap a1 = 124 →

    (¬ wrap a2 = 0 →
      k 1 M) ∧
    (wrap a2 = 0 →

      (wrap a3 = 0 →
        k 0 M) ∧
      (¬ wrap a3 = 0 →
        k 1 M))) ∧
  (¬ wrap a1 = 38 ∧ ¬ wrap a1 = 42 ∧ ¬ wrap a1 = 43 ∧ ¬ wrap a1 = 45 ∧ ¬ wrap a1 = 47 ∧ ¬ wrap a1 = 60 ∧ ¬ wrap a1 = 61 ∧ ¬ wrap a1 = 62 ∧ ¬ wrap a1 = 124 →

    (¬ wrap a3 = 0 →
      (wrap a3 ≠ 0) ∧ (k (Int.tmod (wrap a2) (wrap a3)) M)) ∧
    (wrap a3 = 0 →
      k 0 M))
set_option maxHeartbeats 4000000 in
set_option maxRecDepth 100000 in
theorem m_X7_joined {l : Launch} {D : va_G} {tys : List (ClassId × FieldType)} {ad : Nat → Nat} {cI cS : ClassId} {a1 : Int} {a2 : Int} {a3 : Int} {M : gSt} {k : Int → gSt → Prop} (h : w_X7_joined a1 a2 a3 M k) : MOi l yX7_joined cX7_joined 3 .int (rmR 0 0) D clC ((cI, .int) :: (cS, .object "OldBronze$Sheet") :: tys) (wC ad cI cS) tC zC [iv a1, iv a2, iv a3] M k := by
  refine moi_intro (by decide +kernel) (Nat.le_of_ble_eq_true rfl) wc_138 ?_
  intro p e s m args below meth c A Q C hR
  unfold w_X7_joined at h
  refine g_locals (lv' := [(0, iv a1), (1, iv a2), (2, iv a3)]) rfl ?_
  refine g_iload_n C dX7_joined_0 rfl ?_
  by_cases hc38 : wrap a1 = 38
  · refine g_lookup C 98 dX7_joined_1 (by decide) (by rw [hc38] <;> rfl) (by decide) ?_
    replace h := h.1 hc38
    refine g_iload_n C dX7_joined_98 rfl ?_
    refine g_if_eq C 110 dX7_joined_99 (by decide) (fun hc => ?_) (fun hc => ?_)
    · replace h := h.1 hc
      refine g_iconst C dX7_joined_110 ?_
      exact hR _ _ _ _ dX7_joined_111 rfl h
    · replace h := h.2 hc
      refine g_iload_n C dX7_joined_102 rfl ?_
      refine g_if_eq C 110 dX7_joined_103 (by decide) (fun hc => ?_) (fun hc => ?_)
      · replace h := h.1 hc
        refine g_iconst C dX7_joined_110 ?_
        exact hR _ _ _ _ dX7_joined_111 rfl h
      · replace h := h.2 hc
        refine g_iconst C dX7_joined_106 ?_
        refine g_goto C 111 dX7_joined_107 (by decide) ?_
        exact hR _ _ _ _ dX7_joined_111 rfl h
  · by_cases hc42 : wrap a1 = 42
    · refine g_lookup C 153 dX7_joined_1 (by decide) (by rw [hc42] <;> rfl) (by decide) ?_
      replace h := h.2.1 hc42
      refine g_iload_n C dX7_joined_153 rfl ?_
      refine g_iload_n C dX7_joined_154 rfl ?_
      refine g_imul C dX7_joined_155 ?_
      exact hR _ _ _ _ dX7_joined_156 rfl h
    · by_cases hc43 : wrap a1 = 43
      · refine g_lookup C 145 dX7_joined_1 (by decide) (by rw [hc43] <;> rfl) (by decide) ?_
        replace h := h.2.2.1 hc43
        refine g_iload_n C dX7_joined_145 rfl ?_
        refine g_iload_n C dX7_joined_146 rfl ?_
        refine g_iadd C dX7_joined_147 ?_
        exact hR _ _ _ _ dX7_joined_148 rfl h
      · by_cases hc45 : wrap a1 = 45
        · refine g_lookup C 149 dX7_joined_1 (by decide) (by rw [hc45] <;> rfl) (by decide) ?_
          replace h := h.2.2.2.1 hc45
          refine g_iload_n C dX7_joined_149 rfl ?_
          refine g_iload_n C dX7_joined_150 rfl ?_
          refine g_isub C dX7_joined_151 ?_
          exact hR _ _ _ _ dX7_joined_152 rfl h
        · by_cases hc47 : wrap a1 = 47
          · refine g_lookup C 157 dX7_joined_1 (by decide) (by rw [hc47] <;> rfl) (by decide) ?_
            replace h := h.2.2.2.2.1 hc47
            refine g_iload_n C dX7_joined_157 rfl ?_
            refine g_if_ne C 165 dX7_joined_158 (by decide) (fun hc => ?_) (fun hc => ?_)
            · replace h := h.1 hc
              refine g_iload_n C dX7_joined_165 rfl ?_
              refine g_iload_n C dX7_joined_166 rfl ?_
              refine g_idiv C dX7_joined_167 h.1 ?_
              replace h := h.2
              refine g_top (y := Int.tdiv (wrap a2) (wrap a3)) rfl ?_
              exact hR _ _ _ _ dX7_joined_168 rfl h
            · replace h := h.2 hc
              refine g_iconst C dX7_joined_161 ?_
              refine g_goto C 168 dX7_joined_162 (by decide) ?_
              exact hR _ _ _ _ dX7_joined_168 rfl h
          · by_cases hc60 : wrap a1 = 60
            · refine g_lookup C 112 dX7_joined_1 (by decide) (by rw [hc60] <;> rfl) (by decide) ?_
              replace h := h.2.2.2.2.2.1 hc60
              refine g_iload_n C dX7_joined_112 rfl ?_
              refine g_iload_n C dX7_joined_113 rfl ?_
              refine g_icmp_ge C 121 dX7_joined_114 (by decide) (fun hc => ?_) (fun hc => ?_)
              · replace h := h.1 hc
                refine g_iconst C dX7_joined_121 ?_
                exact hR _ _ _ _ dX7_joined_122 rfl h
              · replace h := h.2 hc
                refine g_iconst C dX7_joined_117 ?_
                refine g_goto C 122 dX7_joined_118 (by decide) ?_
                exact hR _ _ _ _ dX7_joined_122 rfl h
            · by_cases hc61 : wrap a1 = 61
              · refine g_lookup C 123 dX7_joined_1 (by decide) (by rw [hc61] <;> rfl) (by decide) ?_
                replace h := h.2.2.2.2.2.2.1 hc61
                refine g_iload_n C dX7_joined_123 rfl ?_
                refine g_iload_n C dX7_joined_124 rfl ?_
                refine g_icmp_ne C 132 dX7_joined_125 (by decide) (fun hc => ?_) (fun hc => ?_)
                · replace h := h.1 hc
                  refine g_iconst C dX7_joined_132 ?_
                  exact hR _ _ _ _ dX7_joined_133 rfl h
                · replace h := h.2 hc
                  refine g_iconst C dX7_joined_128 ?_
                  refine g_goto C 133 dX7_joined_129 (by decide) ?_
                  exact hR _ _ _ _ dX7_joined_133 rfl h
              · by_cases hc62 : wrap a1 = 62
                · refine g_lookup C 134 dX7_joined_1 (by decide) (by rw [hc62] <;> rfl) (by decide) ?_
                  replace h := h.2.2.2.2.2.2.2.1 hc62
                  refine g_iload_n C dX7_joined_134 rfl ?_
                  refine g_iload_n C dX7_joined_135 rfl ?_
                  refine g_icmp_le C 143 dX7_joined_136 (by decide) (fun hc => ?_) (fun hc => ?_)
                  · replace h := h.1 hc
                    refine g_iconst C dX7_joined_143 ?_
                    exact hR _ _ _ _ dX7_joined_144 rfl h
                  · replace h := h.2 hc
                    refine g_iconst C dX7_joined_139 ?_
                    refine g_goto C 144 dX7_joined_140 (by decide) ?_
                    exact hR _ _ _ _ dX7_joined_144 rfl h
                · by_cases hc124 : wrap a1 = 124
                  · refine g_lookup C 84 dX7_joined_1 (by decide) (by rw [hc124] <;> rfl) (by decide) ?_
                    replace h := h.2.2.2.2.2.2.2.2.1 hc124
                    refine g_iload_n C dX7_joined_84 rfl ?_
                    refine g_if_ne C 92 dX7_joined_85 (by decide) (fun hc => ?_) (fun hc => ?_)
                    · replace h := h.1 hc
                      refine g_iconst C dX7_joined_92 ?_
                      refine g_goto C 97 dX7_joined_93 (by decide) ?_
                      exact hR _ _ _ _ dX7_joined_97 rfl h
                    · replace h := h.2 hc
                      refine g_iload_n C dX7_joined_88 rfl ?_
                      refine g_if_eq C 96 dX7_joined_89 (by decide) (fun hc => ?_) (fun hc => ?_)
                      · replace h := h.1 hc
                        refine g_iconst C dX7_joined_96 ?_
                        exact hR _ _ _ _ dX7_joined_97 rfl h
                      · replace h := h.2 hc
                        refine g_iconst C dX7_joined_92 ?_
                        refine g_goto C 97 dX7_joined_93 (by decide) ?_
                        exact hR _ _ _ _ dX7_joined_97 rfl h
                  · refine g_lookup C (off := 168) 169 dX7_joined_1 (by decide) (by simp [Op.lookupswitch.offset, Ne.symm hc38, Ne.symm hc42, Ne.symm hc43, Ne.symm hc45, Ne.symm hc47, Ne.symm hc60, Ne.symm hc61, Ne.symm hc62, Ne.symm hc124]) (by decide) ?_
                    replace h := h.2.2.2.2.2.2.2.2.2 ⟨hc38, hc42, hc43, hc45, hc47, hc60, hc61, hc62, hc124⟩
                    refine g_iload_n C dX7_joined_169 rfl ?_
                    refine g_if_ne C 177 dX7_joined_170 (by decide) (fun hc => ?_) (fun hc => ?_)
                    · replace h := h.1 hc
                      refine g_iload_n C dX7_joined_177 rfl ?_
                      refine g_iload_n C dX7_joined_178 rfl ?_
                      refine g_irem C dX7_joined_179 h.1 ?_
                      replace h := h.2
                      refine g_top (y := Int.tmod (wrap a2) (wrap a3)) rfl ?_
                      exact hR _ _ _ _ dX7_joined_180 rfl h
                    · replace h := h.2 hc
                      refine g_iconst C dX7_joined_173 ?_
                      refine g_goto C 180 dX7_joined_174 (by decide) ?_
                      exact hR _ _ _ _ dX7_joined_180 rfl h
def wB_X7_value_129 (o : Nat) (a1 : Nat) (a2 : Int) (a3 : Int) (a4 : Int) (k : Int → gSt → Prop) (r8 : Int → gSt → Prop) (X8_135 : gSt → Prop) (v5 : Int) (M : gSt) : Prop :=
r8 (v5 + 1) M
def wB_X7_value_97 (o : Nat) (a1 : Nat) (a2 : Int) (a3 : Int) (a4 : Int) (k : Int → gSt → Prop) (r8 : Int → gSt → Prop) (X8_135 : gSt → Prop) (v5 : Int) (s0 : Int) (M : gSt) : Prop :=
w_X7_push o s0 M (fun M97 => wB_X7_value_129 o a1 a2 a3 a4 k r8 X8_135 v5 M97)
def wB_X7_value_71 (o : Nat) (a1 : Nat) (a2 : Int) (a3 : Int) (a4 : Int) (k : Int → gSt → Prop) (r8 : Int → gSt → Prop) (X8_135 : gSt → Prop) (v5 : Int) (s0 : Int) (M : gSt) : Prop :=
w_X7_push o s0 M (fun M71 => wB_X7_value_129 o a1 a2 a3 a4 k r8 X8_135 v5 M71)
def wC_X7_value_8 (o : Nat) (a1 : Nat) (a2 : Int) (a3 : Int) (a4 : Int) (k : Int → gSt → Prop) (r8 : Int → gSt → Prop) (X8_135 : gSt → Prop) (v5 : Int) (M : gSt) : Prop :=
w_X4_size a1 M (fun r11c M11 => 
  (wrap r11c ≤ wrap v5 →
    X8_135  M11) ∧
  (wrap v5 < wrap r11c →
    w_X4_at a1 v5 0 M11 (fun r21c M21 => 
    (wrap r21c < 0 →

      (wrap r21c < (-3) →

        (¬ wrap r21c = (-33) →
          w_X7_pop o M21 (fun r104c M104 => w_X7_pop o M104 (fun r110c M110 => w_X7_joined (-r21c) r110c r104c M110 (fun r123c M123 => w_X7_push o r123c M123 (fun M126 => wB_X7_value_129 o a1 a2 a3 a4 k r8 X8_135 v5 M126))))) ∧
        (wrap r21c = (-33) →
          w_X7_pop o M21 (fun r86c M86 => 
          (¬ wrap r86c = 0 →
            wB_X7_value_97 o a1 a2 a3 a4 k r8 X8_135 v5 0 M86) ∧
          (wrap r86c = 0 →
            wB_X7_value_97 o a1 a2 a3 a4 k r8 X8_135 v5 1 M86)))) ∧
      ((-3) ≤ wrap r21c →

        (¬ wrap r21c = (-1) →

          (¬ wrap r21c = (-2) →
            wB_X7_value_71 o a1 a2 a3 a4 k r8 X8_135 v5 a4 M21) ∧
          (wrap r21c = (-2) →
            wB_X7_value_71 o a1 a2 a3 a4 k r8 X8_135 v5 a3 M21)) ∧
        (wrap r21c = (-1) →
          wB_X7_value_71 o a1 a2 a3 a4 k r8 X8_135 v5 a2 M21))) ∧
    (0 ≤ wrap r21c →
      w_X7_push o r21c M21 (fun M34 => wB_X7_value_129 o a1 a2 a3 a4 k r8 X8_135 v5 M34)))))
def wL_X7_value_8 (o : Nat) (a1 : Nat) (a2 : Int) (a3 : Int) (a4 : Int) (k : Int → gSt → Prop)  (X8_135 : gSt → Prop) : Nat → Int → gSt → Prop
  | 0 => fun _ _ => False
  | n + 1 => fun v5 M => wC_X7_value_8 o a1 a2 a3 a4 k  (wL_X7_value_8 o a1 a2 a3 a4 k  X8_135 n) X8_135 v5 M
def w_X7_value (o : Nat) (a1 : Nat) (a2 : Int) (a3 : Int) (a4 : Int) (M : gSt) (k : Int → gSt → Prop) : Prop :=
  (isWorker o) ∧ ((isRows a1) ∧ (∀ M2 : gSt, M2 = wr M o 1 0 → (∃ n, wL_X7_value_8 o a1 a2 a3 a4 k  (fun  M8 =>
    w_X7_pop o M8 (fun r136c M136 => k r136c M136)) n 0 M2)))
set_option maxHeartbeats 4000000 in
set_option maxRecDepth 100000 in
theorem m_X7_value {l : Launch} {D : va_G} {tys : List (ClassId × FieldType)} {ad : Nat → Nat} {cI cS : ClassId} {o : Nat} {a1 : Nat} {a2 : Int} {a3 : Int} {a4 : Int} {M : gSt} {k : Int → gSt → Prop} (h : w_X7_value o a1 a2 a3 a4 M k) : MOi l yX7_value cX7_value 9 .int (rmR 1 24) D clC ((cI, .int) :: (cS, .object "OldBronze$Sheet") :: tys) (wC ad cI cS) tC zC [.ref (ad o), .ref (ad a1), iv a2, iv a3, iv a4] M k := by
  refine moi_intro (by decide +kernel) (Nat.le_of_ble_eq_true rfl) wc_153 ?_
  intro p e s m args below meth c A Q C hR
  unfold w_X7_value at h
  obtain ⟨h_o, h_a1, h⟩ := h
  have pB129 : ∀ (r8 : Int → gSt → Prop) (X8_135 : gSt → Prop) (hr8 : ∀ (v5 : Int) (M : gSt), r8 v5 M → gG p l e (rmR 1 24) s m args below meth c Q D clC A (wC ad cI cS) 9 8 [(0, .ref (ad o)), (1, .ref (ad a1)), (2, iv a2), (3, iv a3), (4, iv a4), (5, iv v5)] [] M) (hX8_135 : ∀  (M : gSt), X8_135  M → gG p l e (rmR 1 24) s m args below meth c Q D clC A (wC ad cI cS) 9 135 [(0, .ref (ad o))] [] M) (v5 : Int) (M : gSt), wB_X7_value_129 o a1 a2 a3 a4 k r8 X8_135 v5 M → gG p l e (rmR 1 24) s m args below meth c Q D clC A (wC ad cI cS) 9 129 [(0, .ref (ad o)), (1, .ref (ad a1)), (2, iv a2), (3, iv a3), (4, iv a4), (5, iv v5)] [] M := by
    intro r8 X8_135 hr8 hX8_135 v5 M h
    unfold wB_X7_value_129 at h
    refine g_iinc C dX7_value_129 rfl (by decide) rfl ?_
    refine g_locals (lv' := [(0, .ref (ad o)), (1, .ref (ad a1)), (2, iv a2), (3, iv a3), (4, iv a4), (5, iv (v5 + 1))]) rfl ?_
    refine g_goto C 8 dX7_value_132 (by decide) ?_
    refine g_locals (lv' := [(0, .ref (ad o)), (1, .ref (ad a1)), (2, iv a2), (3, iv a3), (4, iv a4), (5, iv (v5 + 1))]) rfl ?_
    exact hr8 _  _ h
  have pB97 : ∀ (r8 : Int → gSt → Prop) (X8_135 : gSt → Prop) (hr8 : ∀ (v5 : Int) (M : gSt), r8 v5 M → gG p l e (rmR 1 24) s m args below meth c Q D clC A (wC ad cI cS) 9 8 [(0, .ref (ad o)), (1, .ref (ad a1)), (2, iv a2), (3, iv a3), (4, iv a4), (5, iv v5)] [] M) (hX8_135 : ∀  (M : gSt), X8_135  M → gG p l e (rmR 1 24) s m args below meth c Q D clC A (wC ad cI cS) 9 135 [(0, .ref (ad o))] [] M) (v5 : Int) (s0 : Int) (M : gSt), wB_X7_value_97 o a1 a2 a3 a4 k r8 X8_135 v5 s0 M → gG p l e (rmR 1 24) s m args below meth c Q D clC A (wC ad cI cS) 9 97 [(0, .ref (ad o)), (1, .ref (ad a1)), (2, iv a2), (3, iv a3), (4, iv a4), (5, iv v5)] [iv s0, .ref (ad o)] M := by
    intro r8 X8_135 hr8 hX8_135 v5 s0 M h
    unfold wB_X7_value_97 at h
    refine g_callVv C (nargs := 1) (o := o) (st := []) (m_X7_push h) (show isWorker o from h.1).1 (show isWorker o from h.1).2.1 rfl rfl gc_X7_29 (by decide +kernel) ⟨rfl, rfl⟩ dX7_value_97 ⟨by decide, by decide⟩ rfl rfl (Nat.le_of_ble_eq_true rfl) ?_
    intro M97 hN
    replace h := hN
    clear hN
    refine g_goto C 129 dX7_value_100 (by decide) ?_
    refine g_locals (lv' := [(0, .ref (ad o)), (1, .ref (ad a1)), (2, iv a2), (3, iv a3), (4, iv a4), (5, iv v5)]) rfl ?_
    exact pB129 r8 X8_135 hr8 hX8_135 _ _ h
  have pB71 : ∀ (r8 : Int → gSt → Prop) (X8_135 : gSt → Prop) (hr8 : ∀ (v5 : Int) (M : gSt), r8 v5 M → gG p l e (rmR 1 24) s m args below meth c Q D clC A (wC ad cI cS) 9 8 [(0, .ref (ad o)), (1, .ref (ad a1)), (2, iv a2), (3, iv a3), (4, iv a4), (5, iv v5)] [] M) (hX8_135 : ∀  (M : gSt), X8_135  M → gG p l e (rmR 1 24) s m args below meth c Q D clC A (wC ad cI cS) 9 135 [(0, .ref (ad o))] [] M) (v5 : Int) (s0 : Int) (M : gSt), wB_X7_value_71 o a1 a2 a3 a4 k r8 X8_135 v5 s0 M → gG p l e (rmR 1 24) s m args below meth c Q D clC A (wC ad cI cS) 9 71 [(0, .ref (ad o)), (1, .ref (ad a1)), (2, iv a2), (3, iv a3), (4, iv a4), (5, iv v5)] [iv s0, .ref (ad o)] M := by
    intro r8 X8_135 hr8 hX8_135 v5 s0 M h
    unfold wB_X7_value_71 at h
    refine g_callVv C (nargs := 1) (o := o) (st := []) (m_X7_push h) (show isWorker o from h.1).1 (show isWorker o from h.1).2.1 rfl rfl gc_X7_29 (by decide +kernel) ⟨rfl, rfl⟩ dX7_value_71 ⟨by decide, by decide⟩ rfl rfl (Nat.le_of_ble_eq_true rfl) ?_
    intro M71 hN
    replace h := hN
    clear hN
    refine g_goto C 129 dX7_value_74 (by decide) ?_
    refine g_locals (lv' := [(0, .ref (ad o)), (1, .ref (ad a1)), (2, iv a2), (3, iv a3), (4, iv a4), (5, iv v5)]) rfl ?_
    exact pB129 r8 X8_135 hr8 hX8_135 _ _ h
  have pC8 : ∀ (r8 : Int → gSt → Prop) (X8_135 : gSt → Prop) (hr8 : ∀ (v5 : Int) (M : gSt), r8 v5 M → gG p l e (rmR 1 24) s m args below meth c Q D clC A (wC ad cI cS) 9 8 [(0, .ref (ad o)), (1, .ref (ad a1)), (2, iv a2), (3, iv a3), (4, iv a4), (5, iv v5)] [] M) (hX8_135 : ∀  (M : gSt), X8_135  M → gG p l e (rmR 1 24) s m args below meth c Q D clC A (wC ad cI cS) 9 135 [(0, .ref (ad o))] [] M) (v5 : Int) (M : gSt), wC_X7_value_8 o a1 a2 a3 a4 k r8 X8_135 v5 M → gG p l e (rmR 1 24) s m args below meth c Q D clC A (wC ad cI cS) 9 8 [(0, .ref (ad o)), (1, .ref (ad a1)), (2, iv a2), (3, iv a3), (4, iv a4), (5, iv v5)] [] M := by
    intro r8 X8_135 hr8 hX8_135 v5 M h
    unfold wC_X7_value_8 at h
    refine g_iload C dX7_value_8 rfl ?_
    refine g_aload_n C dX7_value_10 rfl ?_
    refine g_callVi C (nargs := 0) (o := a1) (st := [iv v5]) (m_X4_size h) (show isRows a1 from h.1).1 (show isRows a1 from h.1).2.1 rfl rfl gc_X7_19 (by decide +kernel) ⟨rfl, rfl⟩ dX7_value_11 ⟨by decide, by decide⟩ rfl rfl (Nat.le_of_ble_eq_true rfl) ?_
    intro r11c M11 hN
    replace h := hN
    clear hN
    refine g_icmp_ge C 135 dX7_value_14 (by decide) (fun hc => ?_) (fun hc => ?_)
    · replace h := h.1 hc
      refine g_locals (lv' := [(0, .ref (ad o))]) rfl ?_
      exact hX8_135  _ h
    · replace h := h.2 hc
      refine g_aload_n C dX7_value_17 rfl ?_
      refine g_iload C dX7_value_18 rfl ?_
      refine g_iconst C dX7_value_20 ?_
      refine g_callVi C (nargs := 2) (o := a1) (st := []) (m_X4_at h) (show isRows a1 from h.1).1 (show isRows a1 from h.1).2.1 rfl rfl gc_X7_25 (by decide +kernel) ⟨rfl, rfl⟩ dX7_value_21 ⟨by decide, by decide⟩ rfl rfl (Nat.le_of_ble_eq_true rfl) ?_
      intro r21c M21 hN
      replace h := hN
      clear hN
      refine g_istore C dX7_value_24 (by decide) rfl ?_
      refine g_locals (lv' := [(0, .ref (ad o)), (1, .ref (ad a1)), (2, iv a2), (3, iv a3), (4, iv a4), (5, iv v5), (6, iv r21c)]) rfl ?_
      refine g_iload C dX7_value_26 rfl ?_
      refine g_if_lt C 40 dX7_value_28 (by decide) (fun hc => ?_) (fun hc => ?_)
      · replace h := h.1 hc
        refine g_iload C dX7_value_40 rfl ?_
        refine g_bipush C dX7_value_42 rfl ?_
        refine g_icmp_lt C 77 dX7_value_44 (by decide) (fun hc => ?_) (fun hc => ?_)
        · replace h := h.1 hc
          refine g_iload C dX7_value_77 rfl ?_
          refine g_bipush C dX7_value_79 rfl ?_
          refine g_icmp_ne C 103 dX7_value_81 (by decide) (fun hc => ?_) (fun hc => ?_)
          · replace h := h.1 hc
            refine g_aload_n C dX7_value_103 rfl ?_
            refine g_callVi C (nargs := 0) (o := o) (st := []) (m_X7_pop h) (show isWorker o from h.1).1 (show isWorker o from h.1).2.1 rfl rfl gc_X7_33 (by decide +kernel) ⟨rfl, rfl⟩ dX7_value_104 ⟨by decide, by decide⟩ rfl rfl (Nat.le_of_ble_eq_true rfl) ?_
            intro r104c M104 hN
            replace h := hN
            clear hN
            refine g_istore C dX7_value_107 (by decide) rfl ?_
            refine g_locals (lv' := [(0, .ref (ad o)), (1, .ref (ad a1)), (2, iv a2), (3, iv a3), (4, iv a4), (5, iv v5), (6, iv r21c), (7, iv r104c)]) rfl ?_
            refine g_aload_n C dX7_value_109 rfl ?_
            refine g_callVi C (nargs := 0) (o := o) (st := []) (m_X7_pop h) (show isWorker o from h.1).1 (show isWorker o from h.1).2.1 rfl rfl gc_X7_33 (by decide +kernel) ⟨rfl, rfl⟩ dX7_value_110 ⟨by decide, by decide⟩ rfl rfl (Nat.le_of_ble_eq_true rfl) ?_
            intro r110c M110 hN
            replace h := hN
            clear hN
            refine g_istore C dX7_value_113 (by decide) rfl ?_
            refine g_locals (lv' := [(0, .ref (ad o)), (1, .ref (ad a1)), (2, iv a2), (3, iv a3), (4, iv a4), (5, iv v5), (6, iv r21c), (7, iv r104c), (8, iv r110c)]) rfl ?_
            refine g_aload_n C dX7_value_115 rfl ?_
            refine g_iload C dX7_value_116 rfl ?_
            refine g_ineg C dX7_value_118 ?_
            refine g_iload C dX7_value_119 rfl ?_
            refine g_iload C dX7_value_121 rfl ?_
            refine g_callSi C (nargs := 3) (st := [.ref (ad o)]) (m_X7_joined h) gc_X7_36 (by decide +kernel) ⟨rfl, rfl⟩ dX7_value_123 ⟨by decide, by decide⟩ rfl rfl (Nat.le_of_ble_eq_true rfl) ?_
            intro r123c M123 hN
            replace h := hN
            clear hN
            refine g_callVv C (nargs := 1) (o := o) (st := []) (m_X7_push h) (show isWorker o from h.1).1 (show isWorker o from h.1).2.1 rfl rfl gc_X7_29 (by decide +kernel) ⟨rfl, rfl⟩ dX7_value_126 ⟨by decide, by decide⟩ rfl rfl (Nat.le_of_ble_eq_true rfl) ?_
            intro M126 hN
            replace h := hN
            clear hN
            refine g_locals (lv' := [(0, .ref (ad o)), (1, .ref (ad a1)), (2, iv a2), (3, iv a3), (4, iv a4), (5, iv v5)]) rfl ?_
            exact pB129 r8 X8_135 hr8 hX8_135 _ _ h
          · replace h := h.2 hc
            refine g_aload_n C dX7_value_84 rfl ?_
            refine g_aload_n C dX7_value_85 rfl ?_
            refine g_callVi C (nargs := 0) (o := o) (st := [.ref (ad o)]) (m_X7_pop h) (show isWorker o from h.1).1 (show isWorker o from h.1).2.1 rfl rfl gc_X7_33 (by decide +kernel) ⟨rfl, rfl⟩ dX7_value_86 ⟨by decide, by decide⟩ rfl rfl (Nat.le_of_ble_eq_true rfl) ?_
            intro r86c M86 hN
            replace h := hN
            clear hN
            refine g_if_ne C 96 dX7_value_89 (by decide) (fun hc => ?_) (fun hc => ?_)
            · replace h := h.1 hc
              refine g_iconst C dX7_value_96 ?_
              refine g_locals (lv' := [(0, .ref (ad o)), (1, .ref (ad a1)), (2, iv a2), (3, iv a3), (4, iv a4), (5, iv v5)]) rfl ?_
              exact pB97 r8 X8_135 hr8 hX8_135 _ _ _ h
            · replace h := h.2 hc
              refine g_iconst C dX7_value_92 ?_
              refine g_goto C 97 dX7_value_93 (by decide) ?_
              refine g_locals (lv' := [(0, .ref (ad o)), (1, .ref (ad a1)), (2, iv a2), (3, iv a3), (4, iv a4), (5, iv v5)]) rfl ?_
              exact pB97 r8 X8_135 hr8 hX8_135 _ _ _ h
        · replace h := h.2 hc
          refine g_aload_n C dX7_value_47 rfl ?_
          refine g_iload C dX7_value_48 rfl ?_
          refine g_iconst C dX7_value_50 ?_
          refine g_icmp_ne C 58 dX7_value_51 (by decide) (fun hc => ?_) (fun hc => ?_)
          · replace h := h.1 hc
            refine g_iload C dX7_value_58 rfl ?_
            refine g_bipush C dX7_value_60 rfl ?_
            refine g_icmp_ne C 69 dX7_value_62 (by decide) (fun hc => ?_) (fun hc => ?_)
            · replace h := h.1 hc
              refine g_iload C dX7_value_69 rfl ?_
              refine g_locals (lv' := [(0, .ref (ad o)), (1, .ref (ad a1)), (2, iv a2), (3, iv a3), (4, iv a4), (5, iv v5)]) rfl ?_
              exact pB71 r8 X8_135 hr8 hX8_135 _ _ _ h
            · replace h := h.2 hc
              refine g_iload_n C dX7_value_65 rfl ?_
              refine g_goto C 71 dX7_value_66 (by decide) ?_
              refine g_locals (lv' := [(0, .ref (ad o)), (1, .ref (ad a1)), (2, iv a2), (3, iv a3), (4, iv a4), (5, iv v5)]) rfl ?_
              exact pB71 r8 X8_135 hr8 hX8_135 _ _ _ h
          · replace h := h.2 hc
            refine g_iload_n C dX7_value_54 rfl ?_
            refine g_goto C 71 dX7_value_55 (by decide) ?_
            refine g_locals (lv' := [(0, .ref (ad o)), (1, .ref (ad a1)), (2, iv a2), (3, iv a3), (4, iv a4), (5, iv v5)]) rfl ?_
            exact pB71 r8 X8_135 hr8 hX8_135 _ _ _ h
      · replace h := h.2 hc
        refine g_aload_n C dX7_value_31 rfl ?_
        refine g_iload C dX7_value_32 rfl ?_
        refine g_callVv C (nargs := 1) (o := o) (st := []) (m_X7_push h) (show isWorker o from h.1).1 (show isWorker o from h.1).2.1 rfl rfl gc_X7_29 (by decide +kernel) ⟨rfl, rfl⟩ dX7_value_34 ⟨by decide, by decide⟩ rfl rfl (Nat.le_of_ble_eq_true rfl) ?_
        intro M34 hN
        replace h := hN
        clear hN
        refine g_goto C 129 dX7_value_37 (by decide) ?_
        refine g_locals (lv' := [(0, .ref (ad o)), (1, .ref (ad a1)), (2, iv a2), (3, iv a3), (4, iv a4), (5, iv v5)]) rfl ?_
        exact pB129 r8 X8_135 hr8 hX8_135 _ _ h
  have pL8 : ∀  (X8_135 : gSt → Prop) (hX8_135 : ∀  (M : gSt), X8_135  M → gG p l e (rmR 1 24) s m args below meth c Q D clC A (wC ad cI cS) 9 135 [(0, .ref (ad o))] [] M) (n : Nat) (v5 : Int) (M : gSt), wL_X7_value_8 o a1 a2 a3 a4 k  X8_135 n v5 M → gG p l e (rmR 1 24) s m args below meth c Q D clC A (wC ad cI cS) 9 8 [(0, .ref (ad o)), (1, .ref (ad a1)), (2, iv a2), (3, iv a3), (4, iv a4), (5, iv v5)] [] M := by
    intro  X8_135 hX8_135 n
    induction n with
    | zero => intro v5 M h; exact h.elim
    | succ n ih =>
      intro v5 M h
      exact pC8  (wL_X7_value_8 o a1 a2 a3 a4 k  X8_135 n) X8_135 ih hX8_135 v5 M h
  refine g_locals (lv' := [(0, .ref (ad o)), (1, .ref (ad a1)), (2, iv a2), (3, iv a3), (4, iv a4)]) rfl ?_
  refine g_aload_n C dX7_value_0 rfl ?_
  refine g_iconst C dX7_value_1 ?_
  refine cp_X7_15 C h_o dX7_value_2 ?_
  refine g_memname (fun M2 hM2 => ?_)
  replace h := h M2 hM2
  refine g_iconst C dX7_value_5 ?_
  refine g_istore C dX7_value_6 (by decide) rfl ?_
  refine g_locals (lv' := [(0, .ref (ad o)), (1, .ref (ad a1)), (2, iv a2), (3, iv a3), (4, iv a4), (5, iv 0)]) rfl ?_
  refine g_locals (lv' := [(0, .ref (ad o)), (1, .ref (ad a1)), (2, iv a2), (3, iv a3), (4, iv a4), (5, iv 0)]) rfl ?_
  obtain ⟨n, h⟩ := h
  refine pL8 _ ?_ n _ _ h
  · intro  M8 hN
    replace h := hN
    clear hN
    refine g_aload_n C dX7_value_135 rfl ?_
    refine g_callVi C (nargs := 0) (o := o) (st := []) (m_X7_pop h) (show isWorker o from h.1).1 (show isWorker o from h.1).2.1 rfl rfl gc_X7_33 (by decide +kernel) ⟨rfl, rfl⟩ dX7_value_136 ⟨by decide, by decide⟩ rfl rfl (Nat.le_of_ble_eq_true rfl) ?_
    intro r136c M136 hN
    replace h := hN
    clear hN
    exact hR _ _ _ _ dX7_value_139 rfl h
def w_X1_held (a1 : Int) (a2 : Int) (M : gSt) (k : Int → gSt → Prop) : Prop :=
  k (xmax 0 (xmin a2 a1)) M
set_option maxHeartbeats 4000000 in
set_option maxRecDepth 100000 in
theorem m_X1_held {l : Launch} {D : va_G} {tys : List (ClassId × FieldType)} {ad : Nat → Nat} {cI cS : ClassId} {a1 : Int} {a2 : Int} {M : gSt} {k : Int → gSt → Prop} (h : w_X1_held a1 a2 M k) : MOi l yX1_held cX1_held 2 .int (rmR 1 40) D clC ((cI, .int) :: (cS, .object "OldBronze$Sheet") :: tys) (wC ad cI cS) tC zC [iv a1, iv a2] M k := by
  refine moi_intro (by decide +kernel) (Nat.le_of_ble_eq_true rfl) wc_154 ?_
  intro p e s m args below meth c A Q C hR
  unfold w_X1_held at h
  refine g_locals (lv' := [(0, iv a1), (1, iv a2)]) rfl ?_
  refine g_iconst C dX1_held_0 ?_
  refine g_iload_n C dX1_held_1 rfl ?_
  refine g_iload_n C dX1_held_2 rfl ?_
  refine g_mmin C (st := [iv 0]) dX1_held_3 wc_155 wc_61 wc_62 wc_63 (by decide) (Nat.le_of_ble_eq_true rfl) ?_
  refine g_mmax C (st := []) dX1_held_6 wc_156 wc_91 wc_62 wc_92 (by decide) (Nat.le_of_ble_eq_true rfl) ?_
  exact hR _ _ _ _ dX1_held_9 rfl h
def w_X1_ring (o : Nat) (a1 : Int) (a2 : Int) (a3 : Int) (M : gSt) (k : Int → gSt → Prop) : Prop :=
  (isForge o) ∧ (w_X4_size (o + 13) M (fun r4c M4 => 
  (¬ wrap r4c = 0 →
    w_X7_value (o + 17) (o + 13) a1 a2 a3 M4 (fun r29c M29 => w_X1_held r29c 9999 M29 (fun r35c M35 => k r35c M35))) ∧
  (wrap r4c = 0 →
    k ((1000 - a2) + a3) M4)))
set_option maxHeartbeats 4000000 in
set_option maxRecDepth 100000 in
theorem m_X1_ring {l : Launch} {D : va_G} {tys : List (ClassId × FieldType)} {ad : Nat → Nat} {cI cS : ClassId} {o : Nat} {a1 : Int} {a2 : Int} {a3 : Int} {M : gSt} {k : Int → gSt → Prop} (h : w_X1_ring o a1 a2 a3 M k) : MOi l yX1_ring cX1_ring 4 .int (rmR 2 61) D clC ((cI, .int) :: (cS, .object "OldBronze$Sheet") :: tys) (wC ad cI cS) tC zC [.ref (ad o), iv a1, iv a2, iv a3] M k := by
  refine moi_intro (by decide +kernel) (Nat.le_of_ble_eq_true rfl) wc_164 ?_
  intro p e s m args below meth c A Q C hR
  unfold w_X1_ring at h
  obtain ⟨h_o, h⟩ := h
  refine g_locals (lv' := [(0, .ref (ad o)), (1, iv a1), (2, iv a2), (3, iv a3)]) rfl ?_
  refine g_aload_n C dX1_ring_0 rfl ?_
  refine cf_X1_39 C h_o dX1_ring_1 ?_
  refine g_callVi C (nargs := 0) (o := (o + 13)) (st := []) (m_X4_size h) (show isRows (o + 13) from h.1).1 (show isRows (o + 13) from h.1).2.1 rfl rfl gc_X1_77 (by decide +kernel) ⟨rfl, rfl⟩ dX1_ring_4 ⟨by decide, by decide⟩ rfl rfl (Nat.le_of_ble_eq_true rfl) ?_
  intro r4c M4 hN
  replace h := hN
  clear hN
  refine g_if_ne C 18 dX1_ring_7 (by decide) (fun hc => ?_) (fun hc => ?_)
  · replace h := h.1 hc
    refine g_aload_n C dX1_ring_18 rfl ?_
    refine cf_X1_48 C h_o dX1_ring_19 ?_
    refine g_aload_n C dX1_ring_22 rfl ?_
    refine cf_X1_39 C h_o dX1_ring_23 ?_
    refine g_iload_n C dX1_ring_26 rfl ?_
    refine g_iload_n C dX1_ring_27 rfl ?_
    refine g_iload_n C dX1_ring_28 rfl ?_
    refine g_callVi C (nargs := 4) (o := (o + 17)) (st := []) (m_X7_value h) (show isWorker (o + 17) from h.1).1 (show isWorker (o + 17) from h.1).2.1 rfl rfl gc_X1_81 (by decide +kernel) ⟨rfl, rfl⟩ dX1_ring_29 ⟨by decide, by decide⟩ rfl rfl (Nat.le_of_ble_eq_true rfl) ?_
    intro r29c M29 hN
    replace h := hN
    clear hN
    refine g_sipush C dX1_ring_32 rfl ?_
    refine g_callSi C (nargs := 2) (st := []) (m_X1_held h) gc_X1_85 (by decide +kernel) ⟨rfl, rfl⟩ dX1_ring_35 ⟨by decide, by decide⟩ rfl rfl (Nat.le_of_ble_eq_true rfl) ?_
    intro r35c M35 hN
    replace h := hN
    clear hN
    exact hR _ _ _ _ dX1_ring_38 rfl h
  · replace h := h.2 hc
    refine g_sipush C dX1_ring_10 rfl ?_
    refine g_iload_n C dX1_ring_13 rfl ?_
    refine g_isub C dX1_ring_14 ?_
    refine g_iload_n C dX1_ring_15 rfl ?_
    refine g_iadd C dX1_ring_16 ?_
    exact hR _ _ _ _ dX1_ring_17 rfl h
def w_X1_tone (o : Nat) (a1 : Nat) (a2 : Int) (M : gSt) (k : Int → gSt → Prop) : Prop :=
  (isForge o) ∧ ((isBronze a1) ∧ (w_X0_number a1 a2 2 M (fun r3c M3 => w_X0_number a1 a2 1 M3 (fun r10c M10 => w_X0_number a1 a2 3 M10 (fun r21c M21 => w_X8_quotient (1000 * (wrap r21c)) (wrap r3c) M21 (fun r28c M28 => ∀ x6_39 : Int, x6_39 = 1000 - r28c → (w_X0_number a1 a2 0 M28 (fun r44c M44 => 
  (wrap r44c = 1 →
    w_X1_ring o r3c r28c r10c M44 (fun r90c M90 => k r90c M90)) ∧
  (wrap r44c = 2 →
    k ((Int.tdiv (wrap x6_39) 2) + r10c) M44) ∧
  (wrap r44c = 3 →
    k (x6_39 - (2 * r10c)) M44) ∧
  (wrap r44c = 4 →
    w_X1_ring o r3c r28c r10c M44 (fun r116c M116 => k (r116c + (2 * r10c)) M116)) ∧
  (wrap r44c = 5 →
    k (((Int.tdiv (wrap x6_39) 2) + r10c) + (Int.tdiv (wrap r3c) 1000)) M44) ∧
  (wrap r44c = 6 →
    k (0 - (x6_39 - (2 * r10c))) M44) ∧
  (¬ wrap r44c = 1 ∧ ¬ wrap r44c = 2 ∧ ¬ wrap r44c = 3 ∧ ¬ wrap r44c = 4 ∧ ¬ wrap r44c = 5 ∧ ¬ wrap r44c = 6 →
    k x6_39 M44)))))))))
set_option maxHeartbeats 4000000 in
set_option maxRecDepth 100000 in
theorem m_X1_tone {l : Launch} {D : va_G} {tys : List (ClassId × FieldType)} {ad : Nat → Nat} {cI cS : ClassId} {o : Nat} {a1 : Nat} {a2 : Int} {M : gSt} {k : Int → gSt → Prop} (h : w_X1_tone o a1 a2 M k) : MOi l yX1_tone cX1_tone 7 .int (rmR 3 84) D clC ((cI, .int) :: (cS, .object "OldBronze$Sheet") :: tys) (wC ad cI cS) tC zC [.ref (ad o), .ref (ad a1), iv a2] M k := by
  refine moi_intro (by decide +kernel) (Nat.le_of_ble_eq_true rfl) wc_170 ?_
  intro p e s m args below meth c A Q C hR
  unfold w_X1_tone at h
  obtain ⟨h_o, h_a1, h⟩ := h
  refine g_locals (lv' := [(0, .ref (ad o)), (1, .ref (ad a1)), (2, iv a2)]) rfl ?_
  refine g_aload_n C dX1_tone_0 rfl ?_
  refine g_iload_n C dX1_tone_1 rfl ?_
  refine g_iconst C dX1_tone_2 ?_
  refine g_callVi C (nargs := 2) (o := a1) (st := []) (m_X0_number h) (show isBronze a1 from h.1).1 (show isBronze a1 from h.1).2.1 rfl rfl gc_X1_63 (by decide +kernel) ⟨rfl, rfl⟩ dX1_tone_3 ⟨by decide, by decide⟩ rfl rfl (Nat.le_of_ble_eq_true rfl) ?_
  intro r3c M3 hN
  replace h := hN
  clear hN
  refine g_istore_n C dX1_tone_6 (by decide) rfl ?_
  refine g_locals (lv' := [(0, .ref (ad o)), (1, .ref (ad a1)), (2, iv a2), (3, iv r3c)]) rfl ?_
  refine g_aload_n C dX1_tone_7 rfl ?_
  refine g_iload_n C dX1_tone_8 rfl ?_
  refine g_iconst C dX1_tone_9 ?_
  refine g_callVi C (nargs := 2) (o := a1) (st := []) (m_X0_number h) (show isBronze a1 from h.1).1 (show isBronze a1 from h.1).2.1 rfl rfl gc_X1_63 (by decide +kernel) ⟨rfl, rfl⟩ dX1_tone_10 ⟨by decide, by decide⟩ rfl rfl (Nat.le_of_ble_eq_true rfl) ?_
  intro r10c M10 hN
  replace h := hN
  clear hN
  refine g_istore C dX1_tone_13 (by decide) rfl ?_
  refine g_locals (lv' := [(0, .ref (ad o)), (1, .ref (ad a1)), (2, iv a2), (3, iv r3c), (4, iv r10c)]) rfl ?_
  refine g_ldc2 C 1000 wc_165 rfl dX1_tone_15 ?_
  refine g_aload_n C dX1_tone_18 rfl ?_
  refine g_iload_n C dX1_tone_19 rfl ?_
  refine g_iconst C dX1_tone_20 ?_
  refine g_callVi C (nargs := 2) (o := a1) (st := [jv 1000]) (m_X0_number h) (show isBronze a1 from h.1).1 (show isBronze a1 from h.1).2.1 rfl rfl gc_X1_63 (by decide +kernel) ⟨rfl, rfl⟩ dX1_tone_21 ⟨by decide, by decide⟩ rfl rfl (Nat.le_of_ble_eq_true rfl) ?_
  intro r21c M21 hN
  replace h := hN
  clear hN
  refine g_i2l C dX1_tone_24 ?_
  refine g_lmul C dX1_tone_25 ?_
  refine g_iload_n C dX1_tone_26 rfl ?_
  refine g_i2l C dX1_tone_27 ?_
  refine g_callNSi C (nargs := 2) (st := []) (m_X8_quotient h) zn_4 (gc_code wc_52) wc_26 wc_54 (by decide +kernel) ⟨rfl, rfl⟩ dX1_tone_28 ⟨by decide, by decide⟩ rfl rfl (Nat.le_of_ble_eq_true rfl) ?_
  intro r28c M28 hN
  replace h := hN
  clear hN
  refine g_istore C dX1_tone_31 (by decide) rfl ?_
  refine g_locals (lv' := [(0, .ref (ad o)), (1, .ref (ad a1)), (2, iv a2), (3, iv r3c), (4, iv r10c), (5, iv r28c)]) rfl ?_
  refine g_sipush C dX1_tone_33 rfl ?_
  refine g_iload C dX1_tone_36 rfl ?_
  refine g_isub C dX1_tone_38 ?_
  refine g_name (fun x6_39 hx6_39 => ?_)
  replace h := h x6_39 hx6_39
  refine g_istore C dX1_tone_39 (by decide) rfl ?_
  refine g_locals (lv' := [(0, .ref (ad o)), (1, .ref (ad a1)), (2, iv a2), (3, iv r3c), (4, iv r10c), (5, iv r28c), (6, iv x6_39)]) rfl ?_
  refine g_aload_n C dX1_tone_41 rfl ?_
  refine g_iload_n C dX1_tone_42 rfl ?_
  refine g_iconst C dX1_tone_43 ?_
  refine g_callVi C (nargs := 2) (o := a1) (st := []) (m_X0_number h) (show isBronze a1 from h.1).1 (show isBronze a1 from h.1).2.1 rfl rfl gc_X1_63 (by decide +kernel) ⟨rfl, rfl⟩ dX1_tone_44 ⟨by decide, by decide⟩ rfl rfl (Nat.le_of_ble_eq_true rfl) ?_
  intro r44c M44 hN
  replace h := hN
  clear hN
  by_cases hc1 : wrap r44c = 1
  · refine g_tableIn C 84 dX1_tone_47 (by omega) (by omega) (by rw [hc1] <;> rfl) (by decide) ?_
    replace h := h.1 hc1
    refine g_aload_n C dX1_tone_84 rfl ?_
    refine g_iload_n C dX1_tone_85 rfl ?_
    refine g_iload C dX1_tone_86 rfl ?_
    refine g_iload C dX1_tone_88 rfl ?_
    refine g_callVi C (nargs := 3) (o := o) (st := []) (m_X1_ring h) (show isForge o from h.1).1 (show isForge o from h.1).2 rfl rfl gc_X1_73 (by decide +kernel) ⟨rfl, rfl⟩ dX1_tone_90 ⟨by decide, by decide⟩ rfl rfl (Nat.le_of_ble_eq_true rfl) ?_
    intro r90c M90 hN
    replace h := hN
    clear hN
    exact hR _ _ _ _ dX1_tone_93 rfl h
  · by_cases hc2 : wrap r44c = 2
    · refine g_tableIn C 94 dX1_tone_47 (by omega) (by omega) (by rw [hc2] <;> rfl) (by decide) ?_
      replace h := h.2.1 hc2
      refine g_iload C dX1_tone_94 rfl ?_
      refine g_iconst C dX1_tone_96 ?_
      refine g_idiv C dX1_tone_97 (by decide) ?_
      refine g_top (y := Int.tdiv (wrap x6_39) 2) rfl ?_
      refine g_iload C dX1_tone_98 rfl ?_
      refine g_iadd C dX1_tone_100 ?_
      exact hR _ _ _ _ dX1_tone_101 rfl h
    · by_cases hc3 : wrap r44c = 3
      · refine g_tableIn C 102 dX1_tone_47 (by omega) (by omega) (by rw [hc3] <;> rfl) (by decide) ?_
        replace h := h.2.2.1 hc3
        refine g_iload C dX1_tone_102 rfl ?_
        refine g_iconst C dX1_tone_104 ?_
        refine g_iload C dX1_tone_105 rfl ?_
        refine g_imul C dX1_tone_107 ?_
        refine g_isub C dX1_tone_108 ?_
        exact hR _ _ _ _ dX1_tone_109 rfl h
      · by_cases hc4 : wrap r44c = 4
        · refine g_tableIn C 110 dX1_tone_47 (by omega) (by omega) (by rw [hc4] <;> rfl) (by decide) ?_
          replace h := h.2.2.2.1 hc4
          refine g_aload_n C dX1_tone_110 rfl ?_
          refine g_iload_n C dX1_tone_111 rfl ?_
          refine g_iload C dX1_tone_112 rfl ?_
          refine g_iload C dX1_tone_114 rfl ?_
          refine g_callVi C (nargs := 3) (o := o) (st := []) (m_X1_ring h) (show isForge o from h.1).1 (show isForge o from h.1).2 rfl rfl gc_X1_73 (by decide +kernel) ⟨rfl, rfl⟩ dX1_tone_116 ⟨by decide, by decide⟩ rfl rfl (Nat.le_of_ble_eq_true rfl) ?_
          intro r116c M116 hN
          replace h := hN
          clear hN
          refine g_iconst C dX1_tone_119 ?_
          refine g_iload C dX1_tone_120 rfl ?_
          refine g_imul C dX1_tone_122 ?_
          refine g_iadd C dX1_tone_123 ?_
          exact hR _ _ _ _ dX1_tone_124 rfl h
        · by_cases hc5 : wrap r44c = 5
          · refine g_tableIn C 125 dX1_tone_47 (by omega) (by omega) (by rw [hc5] <;> rfl) (by decide) ?_
            replace h := h.2.2.2.2.1 hc5
            refine g_iload C dX1_tone_125 rfl ?_
            refine g_iconst C dX1_tone_127 ?_
            refine g_idiv C dX1_tone_128 (by decide) ?_
            refine g_top (y := Int.tdiv (wrap x6_39) 2) rfl ?_
            refine g_iload C dX1_tone_129 rfl ?_
            refine g_iadd C dX1_tone_131 ?_
            refine g_iload_n C dX1_tone_132 rfl ?_
            refine g_sipush C dX1_tone_133 rfl ?_
            refine g_idiv C dX1_tone_136 (by decide) ?_
            refine g_top (y := Int.tdiv (wrap r3c) 1000) rfl ?_
            refine g_iadd C dX1_tone_137 ?_
            exact hR _ _ _ _ dX1_tone_138 rfl h
          · by_cases hc6 : wrap r44c = 6
            · refine g_tableIn C 139 dX1_tone_47 (by omega) (by omega) (by rw [hc6] <;> rfl) (by decide) ?_
              replace h := h.2.2.2.2.2.1 hc6
              refine g_iconst C dX1_tone_139 ?_
              refine g_iload C dX1_tone_140 rfl ?_
              refine g_iconst C dX1_tone_142 ?_
              refine g_iload C dX1_tone_143 rfl ?_
              refine g_imul C dX1_tone_145 ?_
              refine g_isub C dX1_tone_146 ?_
              refine g_isub C dX1_tone_147 ?_
              exact hR _ _ _ _ dX1_tone_148 rfl h
            · refine g_tableOut C 149 dX1_tone_47 (by omega) (by decide) ?_
              replace h := h.2.2.2.2.2.2 ⟨hc1, hc2, hc3, hc4, hc5, hc6⟩
              refine g_iload C dX1_tone_149 rfl ?_
              exact hR _ _ _ _ dX1_tone_151 rfl h
def w_X1_numberOf (o : Nat) (a1 : Nat) (a2 : Int) (a3 : Int) (M : gSt) (k : Int → gSt → Prop) : Prop :=
  (isForge o) ∧ ((isBronze a1) ∧ (
  (¬ wrap a3 = 10 →
    w_X0_number a1 a2 a3 M (fun r18c M18 => k r18c M18)) ∧
  (wrap a3 = 10 →
    w_X1_tone o a1 a2 M (fun r9c M9 => k r9c M9))))
set_option maxHeartbeats 4000000 in
set_option maxRecDepth 100000 in
theorem m_X1_numberOf {l : Launch} {D : va_G} {tys : List (ClassId × FieldType)} {ad : Nat → Nat} {cI cS : ClassId} {o : Nat} {a1 : Nat} {a2 : Int} {a3 : Int} {M : gSt} {k : Int → gSt → Prop} (h : w_X1_numberOf o a1 a2 a3 M k) : MOi l yX1_numberOf cX1_numberOf 4 .int (rmR 4 110) D clC ((cI, .int) :: (cS, .object "OldBronze$Sheet") :: tys) (wC ad cI cS) tC zC [.ref (ad o), .ref (ad a1), iv a2, iv a3] M k := by
  refine moi_intro (by decide +kernel) (Nat.le_of_ble_eq_true rfl) wc_174 ?_
  intro p e s m args below meth c A Q C hR
  unfold w_X1_numberOf at h
  obtain ⟨h_o, h_a1, h⟩ := h
  refine g_locals (lv' := [(0, .ref (ad o)), (1, .ref (ad a1)), (2, iv a2), (3, iv a3)]) rfl ?_
  refine g_iload_n C dX1_numberOf_0 rfl ?_
  refine g_bipush C dX1_numberOf_1 rfl ?_
  refine g_icmp_ne C 15 dX1_numberOf_3 (by decide) (fun hc => ?_) (fun hc => ?_)
  · replace h := h.1 hc
    refine g_aload_n C dX1_numberOf_15 rfl ?_
    refine g_iload_n C dX1_numberOf_16 rfl ?_
    refine g_iload_n C dX1_numberOf_17 rfl ?_
    refine g_callVi C (nargs := 2) (o := a1) (st := []) (m_X0_number h) (show isBronze a1 from h.1).1 (show isBronze a1 from h.1).2.1 rfl rfl gc_X1_63 (by decide +kernel) ⟨rfl, rfl⟩ dX1_numberOf_18 ⟨by decide, by decide⟩ rfl rfl (Nat.le_of_ble_eq_true rfl) ?_
    intro r18c M18 hN
    replace h := hN
    clear hN
    exact hR _ _ _ _ dX1_numberOf_21 rfl h
  · replace h := h.2 hc
    refine g_aload_n C dX1_numberOf_6 rfl ?_
    refine g_aload_n C dX1_numberOf_7 rfl ?_
    refine g_iload_n C dX1_numberOf_8 rfl ?_
    refine g_callVi C (nargs := 2) (o := o) (st := []) (m_X1_tone h) (show isForge o from h.1).1 (show isForge o from h.1).2 rfl rfl gc_X1_59 (by decide +kernel) ⟨rfl, rfl⟩ dX1_numberOf_9 ⟨by decide, by decide⟩ rfl rfl (Nat.le_of_ble_eq_true rfl) ?_
    intro r9c M9 hN
    replace h := hN
    clear hN
    refine g_goto C 21 dX1_numberOf_12 (by decide) ?_
    exact hR _ _ _ _ dX1_numberOf_21 rfl h
