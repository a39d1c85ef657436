def w_X3_writeTo (o : Nat) (a1 : Nat) (M : gSt) (k : gSt → Prop) : Prop :=
  (isReader o) ∧ ((isRows a1) ∧ (w_X4_copyFrom a1 (o + 3) M (fun M5 => k M5)))
set_option maxHeartbeats 4000000 in
set_option maxRecDepth 100000 in
theorem m_X3_writeTo {l : Launch} {D : va_G} {tys : List (ClassId × FieldType)} {ad : Nat → Nat} {cI cS : ClassId} {o : Nat} {a1 : Nat} {M : gSt} {k : gSt → Prop} (h : w_X3_writeTo o a1 M k) : MOv l yX3_writeTo cX3_writeTo 2 (rmR 2 61) D clC ((cI, .int) :: (cS, .object "OldBronze$Sheet") :: tys) (wC ad cI cS) tC zC [.ref (ad o), .ref (ad a1)] M k := by
  refine mov_intro (by decide +kernel) (Nat.le_of_ble_eq_true rfl) wc_316 ?_
  intro p e s m args below meth c A Q C hR
  unfold w_X3_writeTo at h
  obtain ⟨h_o, h_a1, h⟩ := h
  refine g_locals (lv' := [(0, .ref (ad o)), (1, .ref (ad a1))]) rfl ?_
  refine g_aload_n C dX3_writeTo_0 rfl ?_
  refine g_aload_n C dX3_writeTo_1 rfl ?_
  refine cf_X3_20 C h_o dX3_writeTo_2 ?_
  refine g_callVv C (nargs := 1) (o := a1) (st := []) (m_X4_copyFrom h) (show isRows a1 from h.1).1 (show isRows a1 from h.1).2.1 rfl rfl gc_X3_23 (by decide +kernel) ⟨rfl, rfl⟩ dX3_writeTo_5 ⟨by decide, by decide⟩ rfl rfl (Nat.le_of_ble_eq_true rfl) ?_
  intro M5 hN
  replace h := hN
  clear hN
  exact hR _ _ _ dX3_writeTo_8 h
def wC_J7_fill_53178_5 (a1 : Nat) (a2 : Int) (k : gSt → Prop) (r5 : Int → Int → gSt → Prop) (X5_20 : gSt → Prop) (v2 : Int) (v3 : Int) (M : gSt) : Prop :=

  (wrap v3 ≤ wrap v2 →
    X5_20  M) ∧
  (wrap v2 < wrap v3 →
    ((0 : Int) ≤ v2 ∧ v2 < lenC a1) ∧ (∀ M13 : gSt, M13 = wr M a1 v2 a2 → (r5 (v2 + 1) v3 M13)))
def wL_J7_fill_53178_5 (a1 : Nat) (a2 : Int) (k : gSt → Prop)  (X5_20 : gSt → Prop) : Nat → Int → Int → gSt → Prop
  | 0 => fun _ _ _ => False
  | n + 1 => fun v2 v3 M => wC_J7_fill_53178_5 a1 a2 k  (wL_J7_fill_53178_5 a1 a2 k  X5_20 n) X5_20 v2 v3 M
def w_J7_fill_53178 (a1 : Nat) (a2 : Int) (M : gSt) (k : gSt → Prop) : Prop :=
  (isAr a1) ∧ (∀ x3_4 : Int, x3_4 = (lenC a1 : Int) → (∃ n, wL_J7_fill_53178_5 a1 a2 k  (fun  M5 =>
    k M5) n 0 x3_4 M))
set_option maxHeartbeats 4000000 in
set_option maxRecDepth 100000 in
theorem m_J7_fill_53178 {l : Launch} {D : va_G} {tys : List (ClassId × FieldType)} {ad : Nat → Nat} {cI cS : ClassId} {a1 : Nat} {a2 : Int} {M : gSt} {k : gSt → Prop} (h : w_J7_fill_53178 a1 a2 M k) : MOv l yJ7_fill_53178 cJ7_fill_53178 4 (rmR 0 0) D clC ((cI, .int) :: (cS, .object "OldBronze$Sheet") :: tys) (wC ad cI cS) tC zC [.ref (ad a1), iv a2] M k := by
  refine mov_intro (by decide +kernel) (Nat.le_of_ble_eq_true rfl) wc_320 ?_
  intro p e s m args below meth c A Q C hR
  unfold w_J7_fill_53178 at h
  obtain ⟨h_a1, h⟩ := h
  have pC5 : ∀ (r5 : Int → Int → gSt → Prop) (X5_20 : gSt → Prop) (hr5 : ∀ (v2 : Int) (v3 : Int) (M : gSt), r5 v2 v3 M → gG p l e (rmR 0 0) s m args below meth c Q D clC A (wC ad cI cS) 4 5 [(0, .ref (ad a1)), (1, iv a2), (2, iv v2), (3, iv v3)] [] M) (hX5_20 : ∀  (M : gSt), X5_20  M → gG p l e (rmR 0 0) s m args below meth c Q D clC A (wC ad cI cS) 4 20 [] [] M) (v2 : Int) (v3 : Int) (M : gSt), wC_J7_fill_53178_5 a1 a2 k r5 X5_20 v2 v3 M → gG p l e (rmR 0 0) s m args below meth c Q D clC A (wC ad cI cS) 4 5 [(0, .ref (ad a1)), (1, iv a2), (2, iv v2), (3, iv v3)] [] M := by
    intro r5 X5_20 hr5 hX5_20 v2 v3 M h
    unfold wC_J7_fill_53178_5 at h
    refine g_iload_n C dJ7_fill_53178_5 rfl ?_
    refine g_iload_n C dJ7_fill_53178_6 rfl ?_
    refine g_icmp_ge C 20 dJ7_fill_53178_7 (by decide) (fun hc => ?_) (fun hc => ?_)
    · replace h := h.1 hc
      refine g_locals (lv' := []) rfl ?_
      exact hX5_20  _ h
    · replace h := h.2 hc
      refine g_aload_n C dJ7_fill_53178_10 rfl ?_
      refine g_iload_n C dJ7_fill_53178_11 rfl ?_
      refine g_iload_n C dJ7_fill_53178_12 rfl ?_
      refine g_iast C dJ7_fill_53178_13 h_a1.1 h_a1.2 h.1 ?_
      replace h := h.2
      refine g_memname (fun M13 hM13 => ?_)
      replace h := h M13 hM13
      refine g_iinc C dJ7_fill_53178_14 rfl (by decide) rfl ?_
      refine g_locals (lv' := [(0, .ref (ad a1)), (1, iv a2), (2, iv (v2 + 1)), (3, iv v3)]) rfl ?_
      refine g_goto C 5 dJ7_fill_53178_17 (by decide) ?_
      refine g_locals (lv' := [(0, .ref (ad a1)), (1, iv a2), (2, iv (v2 + 1)), (3, iv v3)]) rfl ?_
      exact hr5 _ _  _ h
  have pL5 : ∀  (X5_20 : gSt → Prop) (hX5_20 : ∀  (M : gSt), X5_20  M → gG p l e (rmR 0 0) s m args below meth c Q D clC A (wC ad cI cS) 4 20 [] [] M) (n : Nat) (v2 : Int) (v3 : Int) (M : gSt), wL_J7_fill_53178_5 a1 a2 k  X5_20 n v2 v3 M → gG p l e (rmR 0 0) s m args below meth c Q D clC A (wC ad cI cS) 4 5 [(0, .ref (ad a1)), (1, iv a2), (2, iv v2), (3, iv v3)] [] M := by
    intro  X5_20 hX5_20 n
    induction n with
    | zero => intro v2 v3 M h; exact h.elim
    | succ n ih =>
      intro v2 v3 M h
      exact pC5  (wL_J7_fill_53178_5 a1 a2 k  X5_20 n) X5_20 ih hX5_20 v2 v3 M h
  refine g_locals (lv' := [(0, .ref (ad a1)), (1, iv a2)]) rfl ?_
  refine g_iconst C dJ7_fill_53178_0 ?_
  refine g_istore_n C dJ7_fill_53178_1 (by decide) rfl ?_
  refine g_locals (lv' := [(0, .ref (ad a1)), (1, iv a2), (2, iv 0)]) rfl ?_
  refine g_aload_n C dJ7_fill_53178_2 rfl ?_
  refine g_alen C dJ7_fill_53178_3 h_a1.1 h_a1.2.1 ?_
  refine g_name (fun x3_4 hx3_4 => ?_)
  replace h := h x3_4 hx3_4
  refine g_istore_n C dJ7_fill_53178_4 (by decide) rfl ?_
  refine g_locals (lv' := [(0, .ref (ad a1)), (1, iv a2), (2, iv 0), (3, iv x3_4)]) rfl ?_
  refine g_locals (lv' := [(0, .ref (ad a1)), (1, iv a2), (2, iv 0), (3, iv x3_4)]) rfl ?_
  obtain ⟨n, h⟩ := h
  refine pL5 _ ?_ n _ _ _ h
  · intro  M5 hN
    replace h := hN
    clear hN
    exact hR _ _ _ dJ7_fill_53178_20 h
def w_X5_begin (o : Nat) (a1 : Int) (a2 : Int) (M : gSt) (k : gSt → Prop) : Prop :=
  (isSheet o) ∧ (∀ M2 : gSt, M2 = wr M o 1 a1 → (∀ M16 : gSt, M16 = wr M2 o 2 (xmax 0 (xmin 24 a2)) → (w_J7_fill_53178 (o + 1) 0 M16 (fun M24 => k M24))))
set_option maxHeartbeats 4000000 in
set_option maxRecDepth 100000 in
theorem m_X5_begin {l : Launch} {D : va_G} {tys : List (ClassId × FieldType)} {ad : Nat → Nat} {cI cS : ClassId} {o : Nat} {a1 : Int} {a2 : Int} {M : gSt} {k : gSt → Prop} (h : w_X5_begin o a1 a2 M k) : MOv l yX5_begin cX5_begin 3 (rmR 1 40) D clC ((cI, .int) :: (cS, .object "OldBronze$Sheet") :: tys) (wC ad cI cS) tC zC [.ref (ad o), iv a1, iv a2] M k := by
  refine mov_intro (by decide +kernel) (Nat.le_of_ble_eq_true rfl) wc_321 ?_
  intro p e s m args below meth c A Q C hR
  unfold w_X5_begin at h
  obtain ⟨h_o, h⟩ := h
  refine g_locals (lv' := [(0, .ref (ad o)), (1, iv a1), (2, iv a2)]) rfl ?_
  refine g_aload_n C dX5_begin_0 rfl ?_
  refine g_iload_n C dX5_begin_1 rfl ?_
  refine cp_X5_15 C h_o dX5_begin_2 ?_
  refine g_memname (fun M2 hM2 => ?_)
  replace h := h M2 hM2
  refine g_aload_n C dX5_begin_5 rfl ?_
  refine g_iconst C dX5_begin_6 ?_
  refine g_bipush C dX5_begin_7 rfl ?_
  refine g_iload_n C dX5_begin_9 rfl ?_
  refine g_mmin C (st := [iv 0, .ref (ad o)]) dX5_begin_10 wc_323 wc_61 wc_62 wc_63 (by decide) (Nat.le_of_ble_eq_true rfl) ?_
  refine g_mmax C (st := [.ref (ad o)]) dX5_begin_13 wc_324 wc_91 wc_62 wc_92 (by decide) (Nat.le_of_ble_eq_true rfl) ?_
  refine cp_X5_28 C h_o dX5_begin_16 ?_
  refine g_memname (fun M16 hM16 => ?_)
  replace h := h M16 hM16
  refine g_aload_n C dX5_begin_19 rfl ?_
  refine cf_X5_9 C h_o dX5_begin_20 ?_
  refine g_iconst C dX5_begin_23 ?_
  refine g_callSv C (nargs := 2) (st := []) (m_J7_fill_53178 h) gc_X5_31 (by decide +kernel) ⟨rfl, rfl⟩ dX5_begin_24 ⟨by decide, by decide⟩ rfl rfl (Nat.le_of_ble_eq_true rfl) ?_
  intro M24 hN
  replace h := hN
  clear hN
  exact hR _ _ _ dX5_begin_27 h
def w_X5_isMissing (o : Nat) (M : gSt) (k : Int → gSt → Prop) : Prop :=
  (isSheet o) ∧ (
  (¬ wrap (M o 1) = 0 →
    k 0 M) ∧
  (wrap (M o 1) = 0 →
    k 1 M))
set_option maxHeartbeats 4000000 in
set_option maxRecDepth 100000 in
theorem m_X5_isMissing {l : Launch} {D : va_G} {tys : List (ClassId × FieldType)} {ad : Nat → Nat} {cI cS : ClassId} {o : Nat} {M : gSt} {k : Int → gSt → Prop} (h : w_X5_isMissing o M k) : MOi l yX5_isMissing cX5_isMissing 1 .boolean (rmR 0 0) D clC ((cI, .int) :: (cS, .object "OldBronze$Sheet") :: tys) (wC ad cI cS) tC zC [.ref (ad o)] M k := by
  refine moi_intro (by decide +kernel) (Nat.le_of_ble_eq_true rfl) wc_329 ?_
  intro p e s m args below meth c A Q C hR
  unfold w_X5_isMissing at h
  obtain ⟨h_o, h⟩ := h
  refine g_locals (lv' := [(0, .ref (ad o))]) rfl ?_
  refine g_aload_n C dX5_isMissing_0 rfl ?_
  refine cf_X5_15 C h_o dX5_isMissing_1 ?_
  refine g_if_ne C 11 dX5_isMissing_4 (by decide) (fun hc => ?_) (fun hc => ?_)
  · replace h := h.1 hc
    refine g_iconst C dX5_isMissing_11 ?_
    exact hR _ _ _ _ dX5_isMissing_12 rfl h
  · replace h := h.2 hc
    refine g_iconst C dX5_isMissing_7 ?_
    refine g_goto C 12 dX5_isMissing_8 (by decide) ?_
    exact hR _ _ _ _ dX5_isMissing_12 rfl h
def w_X5_isLike (o : Nat) (a1 : Nat) (M : gSt) (k : Int → gSt → Prop) : Prop :=
  (isSheet o) ∧ ((isSheet a1) ∧ (
  (¬ wrap (M o 1) = wrap (M a1 1) →
    k 0 M) ∧
  (wrap (M o 1) = wrap (M a1 1) →
    k 1 M)))
set_option maxHeartbeats 4000000 in
set_option maxRecDepth 100000 in
theorem m_X5_isLike {l : Launch} {D : va_G} {tys : List (ClassId × FieldType)} {ad : Nat → Nat} {cI cS : ClassId} {o : Nat} {a1 : Nat} {M : gSt} {k : Int → gSt → Prop} (h : w_X5_isLike o a1 M k) : MOi l yX5_isLike cX5_isLike 2 .boolean (rmR 0 0) D clC ((cI, .int) :: (cS, .object "OldBronze$Sheet") :: tys) (wC ad cI cS) tC zC [.ref (ad o), .ref (ad a1)] M k := by
  refine moi_intro (by decide +kernel) (Nat.le_of_ble_eq_true rfl) wc_330 ?_
  intro p e s m args below meth c A Q C hR
  unfold w_X5_isLike at h
  obtain ⟨h_o, h_a1, h⟩ := h
  refine g_locals (lv' := [(0, .ref (ad o)), (1, .ref (ad a1))]) rfl ?_
  refine g_aload_n C dX5_isLike_0 rfl ?_
  refine cf_X5_15 C h_o dX5_isLike_1 ?_
  refine g_aload_n C dX5_isLike_4 rfl ?_
  refine cf_X5_15 C h_a1 dX5_isLike_5 ?_
  refine g_icmp_ne C 15 dX5_isLike_8 (by decide) (fun hc => ?_) (fun hc => ?_)
  · replace h := h.1 hc
    refine g_iconst C dX5_isLike_15 ?_
    exact hR _ _ _ _ dX5_isLike_16 rfl h
  · replace h := h.2 hc
    refine g_iconst C dX5_isLike_11 ?_
    refine g_goto C 16 dX5_isLike_12 (by decide) ?_
    exact hR _ _ _ _ dX5_isLike_16 rfl h
def w_X5_size (o : Nat) (M : gSt) (k : Int → gSt → Prop) : Prop :=
  (isSheet o) ∧ (k (M o 2) M)
set_option maxHeartbeats 4000000 in
set_option maxRecDepth 100000 in
theorem m_X5_size {l : Launch} {D : va_G} {tys : List (ClassId × FieldType)} {ad : Nat → Nat} {cI cS : ClassId} {o : Nat} {M : gSt} {k : Int → gSt → Prop} (h : w_X5_size o M k) : MOi l yX5_size cX5_size 1 .int (rmR 0 0) D clC ((cI, .int) :: (cS, .object "OldBronze$Sheet") :: tys) (wC ad cI cS) tC zC [.ref (ad o)] M k := by
  refine moi_intro (by decide +kernel) (Nat.le_of_ble_eq_true rfl) wc_331 ?_
  intro p e s m args below meth c A Q C hR
  unfold w_X5_size at h
  obtain ⟨h_o, h⟩ := h
  refine g_locals (lv' := [(0, .ref (ad o))]) rfl ?_
  refine g_aload_n C dX5_size_0 rfl ?_
  refine cf_X5_28 C h_o dX5_size_1 ?_
  exact hR _ _ _ _ dX5_size_4 rfl h
def w_X5_has (o : Nat) (a1 : Int) (M : gSt) (k : Int → gSt → Prop) : Prop :=
  (isSheet o) ∧ (
  (wrap a1 < 0 →
    k 0 M) ∧
  (0 ≤ wrap a1 →

    (wrap (M o 2) ≤ wrap a1 →
      k 0 M) ∧
    (wrap a1 < wrap (M o 2) →
      k 1 M)))
set_option maxHeartbeats 4000000 in
set_option maxRecDepth 100000 in
theorem m_X5_has {l : Launch} {D : va_G} {tys : List (ClassId × FieldType)} {ad : Nat → Nat} {cI cS : ClassId} {o : Nat} {a1 : Int} {M : gSt} {k : Int → gSt → Prop} (h : w_X5_has o a1 M k) : MOi l yX5_has cX5_has 2 .boolean (rmR 0 0) D clC ((cI, .int) :: (cS, .object "OldBronze$Sheet") :: tys) (wC ad cI cS) tC zC [.ref (ad o), iv a1] M k := by
  refine moi_intro (by decide +kernel) (Nat.le_of_ble_eq_true rfl) wc_332 ?_
  intro p e s m args below meth c A Q C hR
  unfold w_X5_has at h
  obtain ⟨h_o, h⟩ := h
  refine g_locals (lv' := [(0, .ref (ad o)), (1, iv a1)]) rfl ?_
  refine g_iload_n C dX5_has_0 rfl ?_
  refine g_if_lt C 16 dX5_has_1 (by decide) (fun hc => ?_) (fun hc => ?_)
  · replace h := h.1 hc
    refine g_iconst C dX5_has_16 ?_
    exact hR _ _ _ _ dX5_has_17 rfl h
  · replace h := h.2 hc
    refine g_iload_n C dX5_has_4 rfl ?_
    refine g_aload_n C dX5_has_5 rfl ?_
    refine cf_X5_28 C h_o dX5_has_6 ?_
    refine g_icmp_ge C 16 dX5_has_9 (by decide) (fun hc => ?_) (fun hc => ?_)
    · replace h := h.1 hc
      refine g_iconst C dX5_has_16 ?_
      exact hR _ _ _ _ dX5_has_17 rfl h
    · replace h := h.2 hc
      refine g_iconst C dX5_has_12 ?_
      refine g_goto C 17 dX5_has_13 (by decide) ?_
      exact hR _ _ _ _ dX5_has_17 rfl h
def w_X5_hasRange (o : Nat) (a1 : Int) (a2 : Int) (M : gSt) (k : Int → gSt → Prop) : Prop :=
  (isSheet o) ∧ (∀ x3_12 : Int, x3_12 = xmin (M o 2) (lenC (o + 1) : Int) → (
  (wrap a1 < 0 →
    k 0 M) ∧
  (0 ≤ wrap a1 →

    (wrap a2 < 0 →
      k 0 M) ∧
    (0 ≤ wrap a2 →

      (wrap x3_12 < wrap a2 →
        k 0 M) ∧
      (wrap a2 ≤ wrap x3_12 →

        (wrap (x3_12 - a2) < wrap a1 →
          k 0 M) ∧
        (wrap a1 ≤ wrap (x3_12 - a2) →
          k 1 M))))))
set_option maxHeartbeats 4000000 in
set_option maxRecDepth 100000 in
theorem m_X5_hasRange {l : Launch} {D : va_G} {tys : List (ClassId × FieldType)} {ad : Nat → Nat} {cI cS : ClassId} {o : Nat} {a1 : Int} {a2 : Int} {M : gSt} {k : Int → gSt → Prop} (h : w_X5_hasRange o a1 a2 M k) : MOi l yX5_hasRange cX5_hasRange 4 .boolean (rmR 1 40) D clC ((cI, .int) :: (cS, .object "OldBronze$Sheet") :: tys) (wC ad cI cS) tC zC [.ref (ad o), iv a1, iv a2] M k := by
  refine moi_intro (by decide +kernel) (Nat.le_of_ble_eq_true rfl) wc_333 ?_
  intro p e s m args below meth c A Q C hR
  unfold w_X5_hasRange at h
  obtain ⟨h_o, h⟩ := h
  refine g_locals (lv' := [(0, .ref (ad o)), (1, iv a1), (2, iv a2)]) rfl ?_
  refine g_aload_n C dX5_hasRange_0 rfl ?_
  refine cf_X5_28 C h_o dX5_hasRange_1 ?_
  refine g_aload_n C dX5_hasRange_4 rfl ?_
  refine cf_X5_9 C h_o dX5_hasRange_5 ?_
  refine g_alen C dX5_hasRange_8 h_o.2.2.1 h_o.2.2.2.1 ?_
  refine g_mmin C (st := []) dX5_hasRange_9 wc_323 wc_61 wc_62 wc_63 (by decide) (Nat.le_of_ble_eq_true rfl) ?_
  refine g_name (fun x3_12 hx3_12 => ?_)
  replace h := h x3_12 hx3_12
  refine g_istore_n C dX5_hasRange_12 (by decide) rfl ?_
  refine g_locals (lv' := [(0, .ref (ad o)), (1, iv a1), (2, iv a2), (3, iv x3_12)]) rfl ?_
  refine g_iload_n C dX5_hasRange_13 rfl ?_
  refine g_if_lt C 37 dX5_hasRange_14 (by decide) (fun hc => ?_) (fun hc => ?_)
  · replace h := h.1 hc
    refine g_iconst C dX5_hasRange_37 ?_
    exact hR _ _ _ _ dX5_hasRange_38 rfl h
  · replace h := h.2 hc
    refine g_iload_n C dX5_hasRange_17 rfl ?_
    refine g_if_lt C 37 dX5_hasRange_18 (by decide) (fun hc => ?_) (fun hc => ?_)
    · replace h := h.1 hc
      refine g_iconst C dX5_hasRange_37 ?_
      exact hR _ _ _ _ dX5_hasRange_38 rfl h
    · replace h := h.2 hc
      refine g_iload_n C dX5_hasRange_21 rfl ?_
      refine g_iload_n C dX5_hasRange_22 rfl ?_
      refine g_icmp_gt C 37 dX5_hasRange_23 (by decide) (fun hc => ?_) (fun hc => ?_)
      · replace h := h.1 hc
        refine g_iconst C dX5_hasRange_37 ?_
        exact hR _ _ _ _ dX5_hasRange_38 rfl h
      · replace h := h.2 hc
        refine g_iload_n C dX5_hasRange_26 rfl ?_
        refine g_iload_n C dX5_hasRange_27 rfl ?_
        refine g_iload_n C dX5_hasRange_28 rfl ?_
        refine g_isub C dX5_hasRange_29 ?_
        refine g_icmp_gt C 37 dX5_hasRange_30 (by decide) (fun hc => ?_) (fun hc => ?_)
        · replace h := h.1 hc
          refine g_iconst C dX5_hasRange_37 ?_
          exact hR _ _ _ _ dX5_hasRange_38 rfl h
        · replace h := h.2 hc
          refine g_iconst C dX5_hasRange_33 ?_
          refine g_goto C 38 dX5_hasRange_34 (by decide) ?_
          exact hR _ _ _ _ dX5_hasRange_38 rfl h
def w_X5_at (o : Nat) (a1 : Int) (M : gSt) (k : Int → gSt → Prop) : Prop :=
  (isSheet o) ∧ (w_X5_has o a1 M (fun r2c M2 => 
  (wrap r2c = 0 →
    k 0 M2) ∧
  (¬ wrap r2c = 0 →

    (wrap (lenC (o + 1) : Int) ≤ wrap a1 →
      k 0 M2) ∧
    (wrap a1 < wrap (lenC (o + 1) : Int) →
      ((0 : Int) ≤ a1 ∧ a1 < lenC (o + 1)) ∧ (k (M2 (o + 1) a1) M2)))))
set_option maxHeartbeats 4000000 in
set_option maxRecDepth 100000 in
theorem m_X5_at {l : Launch} {D : va_G} {tys : List (ClassId × FieldType)} {ad : Nat → Nat} {cI cS : ClassId} {o : Nat} {a1 : Int} {M : gSt} {k : Int → gSt → Prop} (h : w_X5_at o a1 M k) : MOi l yX5_at cX5_at 2 .int (rmR 1 21) D clC ((cI, .int) :: (cS, .object "OldBronze$Sheet") :: tys) (wC ad cI cS) tC zC [.ref (ad o), iv a1] M k := by
  refine moi_intro (by decide +kernel) (Nat.le_of_ble_eq_true rfl) wc_334 ?_
  intro p e s m args below meth c A Q C hR
  unfold w_X5_at at h
  obtain ⟨h_o, h⟩ := h
  refine g_locals (lv' := [(0, .ref (ad o)), (1, iv a1)]) rfl ?_
  refine g_aload_n C dX5_at_0 rfl ?_
  refine g_iload_n C dX5_at_1 rfl ?_
  refine g_callVi C (nargs := 1) (o := o) (st := []) (m_X5_has h) (show isSheet o from h.1).1 (show isSheet o from h.1).2.1 rfl rfl gc_X5_37 (by decide +kernel) ⟨rfl, rfl⟩ dX5_at_2 ⟨by decide, by decide⟩ rfl rfl (Nat.le_of_ble_eq_true rfl) ?_
  intro r2c M2 hN
  replace h := hN
  clear hN
  refine g_if_eq C 26 dX5_at_5 (by decide) (fun hc => ?_) (fun hc => ?_)
  · replace h := h.1 hc
    refine g_iconst C dX5_at_26 ?_
    exact hR _ _ _ _ dX5_at_27 rfl h
  · replace h := h.2 hc
    refine g_iload_n C dX5_at_8 rfl ?_
    refine g_aload_n C dX5_at_9 rfl ?_
    refine cf_X5_9 C h_o dX5_at_10 ?_
    refine g_alen C dX5_at_13 h_o.2.2.1 h_o.2.2.2.1 ?_
    refine g_icmp_ge C 26 dX5_at_14 (by decide) (fun hc => ?_) (fun hc => ?_)
    · replace h := h.1 hc
      refine g_iconst C dX5_at_26 ?_
      exact hR _ _ _ _ dX5_at_27 rfl h
    · replace h := h.2 hc
      refine g_aload_n C dX5_at_17 rfl ?_
      refine cf_X5_9 C h_o dX5_at_18 ?_
      refine g_iload_n C dX5_at_21 rfl ?_
      refine g_iald C dX5_at_22 h_o.2.2.1 h_o.2.2.2 h.1 ?_
      replace h := h.2
      refine g_goto C 27 dX5_at_23 (by decide) ?_
      exact hR _ _ _ _ dX5_at_27 rfl h
def wB_X5_write_51 (o : Nat) (a1 : Int) (a2 : Int) (k : gSt → Prop)  (s0 : Int) (s1 : Int) (M : gSt) : Prop :=
((0 : Int) ≤ s1 ∧ s1 < lenC (o + 1)) ∧ (∀ M51 : gSt, M51 = wr M (o + 1) s1 s0 → (k M51))
def w_X5_write (o : Nat) (a1 : Int) (a2 : Int) (M : gSt) (k : gSt → Prop) : Prop :=
  (isSheet o) ∧ (w_X5_has o a1 M (fun r2c M2 => 
  (wrap r2c = 0 →
    k M2) ∧
  (¬ wrap r2c = 0 →

    (wrap (lenC (o + 1) : Int) ≤ wrap a1 →
      k M2) ∧
    (wrap a1 < wrap (lenC (o + 1) : Int) →

      (¬ wrap (M2 o 1) = 8 →

        (¬ wrap (M2 o 1) = 16 →
          wB_X5_write_51 o a1 a2 k  a2 a1 M2) ∧
        (wrap (M2 o 1) = 16 →
          wB_X5_write_51 o a1 a2 k  ((Int32.ofInt a2).toInt16.toInt32.toInt) a1 M2)) ∧
      (wrap (M2 o 1) = 8 →
        wB_X5_write_51 o a1 a2 k  ((Int32.ofInt a2).toInt8.toInt32.toInt) a1 M2)))))
set_option maxHeartbeats 4000000 in
set_option maxRecDepth 100000 in
theorem m_X5_write {l : Launch} {D : va_G} {tys : List (ClassId × FieldType)} {ad : Nat → Nat} {cI cS : ClassId} {o : Nat} {a1 : Int} {a2 : Int} {M : gSt} {k : gSt → Prop} (h : w_X5_write o a1 a2 M k) : MOv l yX5_write cX5_write 3 (rmR 1 21) D clC ((cI, .int) :: (cS, .object "OldBronze$Sheet") :: tys) (wC ad cI cS) tC zC [.ref (ad o), iv a1, iv a2] M k := by
  refine mov_intro (by decide +kernel) (Nat.le_of_ble_eq_true rfl) wc_339 ?_
  intro p e s m args below meth c A Q C hR
  unfold w_X5_write at h
  obtain ⟨h_o, h⟩ := h
  have pB51 : ∀   (s0 : Int) (s1 : Int) (M : gSt), wB_X5_write_51 o a1 a2 k  s0 s1 M → gG p l e (rmR 1 21) s m args below meth c Q D clC A (wC ad cI cS) 3 51 [] [iv s0, iv s1, .ref (ad (o + 1))] M := by
    intro   s0 s1 M h
    unfold wB_X5_write_51 at h
    refine g_iast C dX5_write_51 h_o.2.2.1 h_o.2.2.2 h.1 ?_
    replace h := h.2
    refine g_memname (fun M51 hM51 => ?_)
    replace h := h M51 hM51
    exact hR _ _ _ dX5_write_52 h
  refine g_locals (lv' := [(0, .ref (ad o)), (1, iv a1), (2, iv a2)]) rfl ?_
  refine g_aload_n C dX5_write_0 rfl ?_
  refine g_iload_n C dX5_write_1 rfl ?_
  refine g_callVi C (nargs := 1) (o := o) (st := []) (m_X5_has h) (show isSheet o from h.1).1 (show isSheet o from h.1).2.1 rfl rfl gc_X5_37 (by decide +kernel) ⟨rfl, rfl⟩ dX5_write_2 ⟨by decide, by decide⟩ rfl rfl (Nat.le_of_ble_eq_true rfl) ?_
  intro r2c M2 hN
  replace h := hN
  clear hN
  refine g_if_eq C 52 dX5_write_5 (by decide) (fun hc => ?_) (fun hc => ?_)
  · replace h := h.1 hc
    exact hR _ _ _ dX5_write_52 h
  · replace h := h.2 hc
    refine g_iload_n C dX5_write_8 rfl ?_
    refine g_aload_n C dX5_write_9 rfl ?_
    refine cf_X5_9 C h_o dX5_write_10 ?_
    refine g_alen C dX5_write_13 h_o.2.2.1 h_o.2.2.2.1 ?_
    refine g_icmp_ge C 52 dX5_write_14 (by decide) (fun hc => ?_) (fun hc => ?_)
    · replace h := h.1 hc
      exact hR _ _ _ dX5_write_52 h
    · replace h := h.2 hc
      refine g_aload_n C dX5_write_17 rfl ?_
      refine cf_X5_9 C h_o dX5_write_18 ?_
      refine g_iload_n C dX5_write_21 rfl ?_
      refine g_aload_n C dX5_write_22 rfl ?_
      refine cf_X5_15 C h_o dX5_write_23 ?_
      refine g_bipush C dX5_write_26 rfl ?_
      refine g_icmp_ne C 36 dX5_write_28 (by decide) (fun hc => ?_) (fun hc => ?_)
      · replace h := h.1 hc
        refine g_aload_n C dX5_write_36 rfl ?_
        refine cf_X5_15 C h_o dX5_write_37 ?_
        refine g_bipush C dX5_write_40 rfl ?_
        refine g_icmp_ne C 50 dX5_write_42 (by decide) (fun hc => ?_) (fun hc => ?_)
        · replace h := h.1 hc
          refine g_iload_n C dX5_write_50 rfl ?_
          refine g_locals (lv' := []) rfl ?_
          exact pB51 _ _ _ h
        · replace h := h.2 hc
          refine g_iload_n C dX5_write_45 rfl ?_
          refine g_i2s C dX5_write_46 ?_
          refine g_goto C 51 dX5_write_47 (by decide) ?_
          refine g_locals (lv' := []) rfl ?_
          exact pB51 _ _ _ h
      · replace h := h.2 hc
        refine g_iload_n C dX5_write_31 rfl ?_
        refine g_i2b C dX5_write_32 ?_
        refine g_goto C 51 dX5_write_33 (by decide) ?_
        refine g_locals (lv' := []) rfl ?_
        exact pB51 _ _ _ h
def w_X5_copyRange (o : Nat) (a1 : Int) (a2 : Nat) (a3 : Int) (a4 : Int) (M : gSt) (k : gSt → Prop) : Prop :=
  (isSheet o) ∧ ((isSheet a2) ∧ (w_X5_hasRange o a1 a4 M (fun r4c M4 => 
  (wrap r4c = 0 →
    k M4) ∧
  (¬ wrap r4c = 0 →
    w_X5_hasRange a2 a3 a4 M4 (fun r14c M14 => 
    (wrap r14c = 0 →
      k M14) ∧
    (¬ wrap r14c = 0 →
      ((0 : Int) ≤ a1 ∧ (0 : Int) ≤ a3 ∧ (0 : Int) ≤ a4 ∧ a1 + a4 ≤ lenC (o + 1) ∧ a3 + a4 ≤ lenC (a2 + 1)) ∧ (∀ M32 : gSt, M32 = cpy M14 (o + 1) a1 (a2 + 1) a3 a4 → (k M32))))))))
set_option maxHeartbeats 4000000 in
set_option maxRecDepth 100000 in
theorem m_X5_copyRange {l : Launch} {D : va_G} {tys : List (ClassId × FieldType)} {ad : Nat → Nat} {cI cS : ClassId} {o : Nat} {a1 : Int} {a2 : Nat} {a3 : Int} {a4 : Int} {M : gSt} {k : gSt → Prop} (h : w_X5_copyRange o a1 a2 a3 a4 M k) : MOv l yX5_copyRange cX5_copyRange 5 (rmR 2 63) D clC ((cI, .int) :: (cS, .object "OldBronze$Sheet") :: tys) (wC ad cI cS) tC zC [.ref (ad o), iv a1, .ref (ad a2), iv a3, iv a4] M k := by
  refine mov_intro (by decide +kernel) (Nat.le_of_ble_eq_true rfl) wc_340 ?_
  intro p e s m args below meth c A Q C hR
  unfold w_X5_copyRange at h
  obtain ⟨h_o, h_a2, h⟩ := h
  refine g_locals (lv' := [(0, .ref (ad o)), (1, iv a1), (2, .ref (ad a2)), (3, iv a3), (4, iv a4)]) rfl ?_
  refine g_aload_n C dX5_copyRange_0 rfl ?_
  refine g_iload_n C dX5_copyRange_1 rfl ?_
  refine g_iload C dX5_copyRange_2 rfl ?_
  refine g_callVi C (nargs := 2) (o := o) (st := []) (m_X5_hasRange h) (show isSheet o from h.1).1 (show isSheet o from h.1).2.1 rfl rfl gc_X5_41 (by decide +kernel) ⟨rfl, rfl⟩ dX5_copyRange_4 ⟨by decide, by decide⟩ rfl rfl (Nat.le_of_ble_eq_true rfl) ?_
  intro r4c M4 hN
  replace h := hN
  clear hN
  refine g_if_eq C 35 dX5_copyRange_7 (by decide) (fun hc => ?_) (fun hc => ?_)
  · replace h := h.1 hc
    exact hR _ _ _ dX5_copyRange_35 h
  · replace h := h.2 hc
    refine g_aload_n C dX5_copyRange_10 rfl ?_
    refine g_iload_n C dX5_copyRange_11 rfl ?_
    refine g_iload C dX5_copyRange_12 rfl ?_
    refine g_callVi C (nargs := 2) (o := a2) (st := []) (m_X5_hasRange h) (show isSheet a2 from h.1).1 (show isSheet a2 from h.1).2.1 rfl rfl gc_X5_41 (by decide +kernel) ⟨rfl, rfl⟩ dX5_copyRange_14 ⟨by decide, by decide⟩ rfl rfl (Nat.le_of_ble_eq_true rfl) ?_
    intro r14c M14 hN
    replace h := hN
    clear hN
    refine g_if_eq C 35 dX5_copyRange_17 (by decide) (fun hc => ?_) (fun hc => ?_)
    · replace h := h.1 hc
      exact hR _ _ _ dX5_copyRange_35 h
    · replace h := h.2 hc
      refine g_aload_n C dX5_copyRange_20 rfl ?_
      refine cf_X5_9 C h_o dX5_copyRange_21 ?_
      refine g_iload_n C dX5_copyRange_24 rfl ?_
      refine g_aload_n C dX5_copyRange_25 rfl ?_
      refine cf_X5_9 C h_a2 dX5_copyRange_26 ?_
      refine g_iload_n C dX5_copyRange_29 rfl ?_
      refine g_iload C dX5_copyRange_30 rfl ?_
      refine g_copy C (st := []) dX5_copyRange_32 h_o.2.2.1 h_a2.2.2.1 ⟨h_o.2.2.2.1, h_a2.2.2.2.1, h_o.2.2.2.2, h_a2.2.2.2.2⟩ h.1 wc_341 wc_33 wc_34 wc_35 (by decide) (Nat.le_of_ble_eq_true rfl) ?_
      replace h := h.2
      refine g_memname (fun M32 hM32 => ?_)
      replace h := h M32 hM32
      exact hR _ _ _ dX5_copyRange_35 h
def w_X6_begin (o : Nat) (a1 : Int) (a2 : Int) (a3 : Int) (M : gSt) (k : gSt → Prop) : Prop :=
  (isVoices o) ∧ (w_X4_clear (o + 1) M (fun M4 => ∀ M9 : gSt, M9 = wr M4 o 1 a1 → (∀ M14 : gSt, M14 = wr M9 o 2 a2 → (∀ M19 : gSt, M19 = wr M14 o 3 a3 → (∀ M24 : gSt, M24 = wr M19 o 4 0 → (k M24))))))
set_option maxHeartbeats 4000000 in
set_option maxRecDepth 100000 in
theorem m_X6_begin {l : Launch} {D : va_G} {tys : List (ClassId × FieldType)} {ad : Nat → Nat} {cI cS : ClassId} {o : Nat} {a1 : Int} {a2 : Int} {a3 : Int} {M : gSt} {k : gSt → Prop} (h : w_X6_begin o a1 a2 a3 M k) : MOv l yX6_begin cX6_begin 4 (rmR 1 20) D clC ((cI, .int) :: (cS, .object "OldBronze$Sheet") :: tys) (wC ad cI cS) tC zC [.ref (ad o), iv a1, iv a2, iv a3] M k := by
  refine mov_intro (by decide +kernel) (Nat.le_of_ble_eq_true rfl) wc_350 ?_
  intro p e s m args below meth c A Q C hR
  unfold w_X6_begin at h
  obtain ⟨h_o, h⟩ := h
  refine g_locals (lv' := [(0, .ref (ad o)), (1, iv a1), (2, iv a2), (3, iv a3)]) rfl ?_
  refine g_aload_n C dX6_begin_0 rfl ?_
  refine cf_X6_14 C h_o dX6_begin_1 ?_
  refine g_callVv C (nargs := 0) (o := (o + 1)) (st := []) (m_X4_clear h) (show isRows (o + 1) from h.1).1 (show isRows (o + 1) from h.1).2.1 rfl rfl gc_X6_20 (by decide +kernel) ⟨rfl, rfl⟩ dX6_begin_4 ⟨by decide, by decide⟩ rfl rfl (Nat.le_of_ble_eq_true rfl) ?_
  intro M4 hN
  replace h := hN
  clear hN
  refine g_aload_n C dX6_begin_7 rfl ?_
  refine g_iload_n C dX6_begin_8 rfl ?_
  refine cp_X6_23 C h_o dX6_begin_9 ?_
  refine g_memname (fun M9 hM9 => ?_)
  replace h := h M9 hM9
  refine g_aload_n C dX6_begin_12 rfl ?_
  refine g_iload_n C dX6_begin_13 rfl ?_
  refine cp_X6_27 C h_o dX6_begin_14 ?_
  refine g_memname (fun M14 hM14 => ?_)
  replace h := h M14 hM14
  refine g_aload_n C dX6_begin_17 rfl ?_
  refine g_iload_n C dX6_begin_18 rfl ?_
  refine cp_X6_30 C h_o dX6_begin_19 ?_
  refine g_memname (fun M19 hM19 => ?_)
  replace h := h M19 hM19
  refine g_aload_n C dX6_begin_22 rfl ?_
  refine g_iconst C dX6_begin_23 ?_
  refine cp_X6_33 C h_o dX6_begin_24 ⟨rfl, rfl⟩ ?_
  refine g_memname (fun M24 hM24 => ?_)
  replace h := h M24 hM24
  exact hR _ _ _ dX6_begin_27 h
def w_X6_trace (o : Nat) (M : gSt) (k : Option Nat → gSt → Prop) : Prop :=
  (isVoices o) ∧ (k (some (o + 1)) M)
set_option maxHeartbeats 4000000 in
set_option maxRecDepth 100000 in
theorem m_X6_trace {l : Launch} {D : va_G} {tys : List (ClassId × FieldType)} {ad : Nat → Nat} {cI cS : ClassId} {o : Nat} {M : gSt} {k : Option Nat → gSt → Prop} (h : w_X6_trace o M k) : MOr l yX6_trace cX6_trace 1 (.object "OldBronze$Rows") (rmR 0 0) D clC ((cI, .int) :: (cS, .object "OldBronze$Sheet") :: tys) ad (wC ad cI cS) tC zC [.ref (ad o)] M k := by
  refine mor_intro (by decide +kernel) (Nat.le_of_ble_eq_true rfl) wc_356 (Or.inl ⟨_, rfl⟩) ?_
  intro p e s m args below meth c A Q C hR
  unfold w_X6_trace at h
  obtain ⟨h_o, h⟩ := h
  refine g_locals (lv' := [(0, .ref (ad o))]) rfl ?_
  refine g_aload_n C dX6_trace_0 rfl ?_
  refine cf_X6_14 C h_o dX6_trace_1 ?_
  exact hR _ _ (some (o + 1)) _ _ dX6_trace_4 rfl h
def w_X6_isParted (o : Nat) (M : gSt) (k : Int → gSt → Prop) : Prop :=
  (isVoices o) ∧ ((M o 4 = 0 ∨ M o 4 = 1) ∧ (k (M o 4) M))
set_option maxHeartbeats 4000000 in
set_option maxRecDepth 100000 in
theorem m_X6_isParted {l : Launch} {D : va_G} {tys : List (ClassId × FieldType)} {ad : Nat → Nat} {cI cS : ClassId} {o : Nat} {M : gSt} {k : Int → gSt → Prop} (h : w_X6_isParted o M k) : MOi l yX6_isParted cX6_isParted 1 .boolean (rmR 0 0) D clC ((cI, .int) :: (cS, .object "OldBronze$Sheet") :: tys) (wC ad cI cS) tC zC [.ref (ad o)] M k := by
  refine moi_intro (by decide +kernel) (Nat.le_of_ble_eq_true rfl) wc_357 ?_
  intro p e s m args below meth c A Q C hR
  unfold w_X6_isParted at h
  obtain ⟨h_o, h⟩ := h
  refine g_locals (lv' := [(0, .ref (ad o))]) rfl ?_
  refine g_aload_n C dX6_isParted_0 rfl ?_
  refine cf_X6_33 C h_o dX6_isParted_1 ?_
  exact hR _ _ _ _ dX6_isParted_4 (zn_bool h.1).1 h.2
def w_X6_bodyOf (a1 : Int) (a2 : Int) (M : gSt) (k : Int → gSt → Prop) : Prop :=
  ∀ x2_5 : Int, x2_5 = (a1 * 4) + a2 → (
  (wrap x2_5 < 0 →
    k 0 M) ∧
  (0 ≤ wrap x2_5 →

    (28 ≤ wrap x2_5 →
      k 0 M) ∧
    (wrap x2_5 < 28 →
      (0 ≤ x2_5 ∧ x2_5 < 28) ∧ (k (tb_BODIES x2_5) M))))
set_option maxHeartbeats 4000000 in
set_option maxRecDepth 100000 in
theorem m_X6_bodyOf {l : Launch} {D : va_G} {tys : List (ClassId × FieldType)} {ad : Nat → Nat} {cI cS : ClassId} {a1 : Int} {a2 : Int} {M : gSt} {k : Int → gSt → Prop} (h : w_X6_bodyOf a1 a2 M k) : MOi l yX6_bodyOf cX6_bodyOf 3 .int (rmR 0 0) D clC ((cI, .int) :: (cS, .object "OldBronze$Sheet") :: tys) (wC ad cI cS) tC zC [iv a1, iv a2] M k := by
  refine moi_intro (by decide +kernel) (Nat.le_of_ble_eq_true rfl) wc_358 ?_
  intro p e s m args below meth c A Q C hR
  obtain ⟨⟨⟨tABOVE, hzABOVE, hTABOVE⟩, ⟨tNAMES, hzNAMES, hTNAMES⟩, ⟨tBODIES, hzBODIES, hTBODIES⟩⟩, hzn⟩ := C.2.2.2.2.2.2.2.2.1
  unfold w_X6_bodyOf at h
  refine g_locals (lv' := [(0, iv a1), (1, iv a2)]) rfl ?_
  refine g_iload_n C dX6_bodyOf_0 rfl ?_
  refine g_iconst C dX6_bodyOf_1 ?_
  refine g_imul C dX6_bodyOf_2 ?_
  refine g_iload_n C dX6_bodyOf_3 rfl ?_
  refine g_iadd C dX6_bodyOf_4 ?_
  refine g_name (fun x2_5 hx2_5 => ?_)
  replace h := h x2_5 hx2_5
  refine g_istore_n C dX6_bodyOf_5 (by decide) rfl ?_
  refine g_locals (lv' := [(0, iv a1), (1, iv a2), (2, iv x2_5)]) rfl ?_
  refine g_iload_n C dX6_bodyOf_6 rfl ?_
  refine g_if_lt C 26 dX6_bodyOf_7 (by decide) (fun hc => ?_) (fun hc => ?_)
  · replace h := h.1 hc
    refine g_iconst C dX6_bodyOf_26 ?_
    exact hR _ _ _ _ dX6_bodyOf_27 rfl h
  · replace h := h.2 hc
    refine g_iload_n C dX6_bodyOf_10 rfl ?_
    refine g_getsTN C hzBODIES (zn_15 _ _ C.2.2.2.2.2.2.2.2.1) rfl dX6_bodyOf_11 ?_
    refine g_talen C dX6_bodyOf_14 hTBODIES ?_
    refine g_top (y := 28) rfl ?_
    refine g_icmp_ge C 26 dX6_bodyOf_15 (by decide) (fun hc => ?_) (fun hc => ?_)
    · replace h := h.1 hc
      refine g_iconst C dX6_bodyOf_26 ?_
      exact hR _ _ _ _ dX6_bodyOf_27 rfl h
    · replace h := h.2 hc
      refine g_getsTN C hzBODIES (zn_15 _ _ C.2.2.2.2.2.2.2.2.1) rfl dX6_bodyOf_18 ?_
      refine g_iload_n C dX6_bodyOf_21 rfl ?_
      refine g_tald C dX6_bodyOf_22 hTBODIES (by decide) h.1 ?_
      refine g_top (y := tb_BODIES x2_5) rfl ?_
      replace h := h.2
      refine g_goto C 27 dX6_bodyOf_23 (by decide) ?_
      exact hR _ _ _ _ dX6_bodyOf_27 rfl h
def w_X8_above (a1 : Int) (M : gSt) (k : Int → gSt → Prop) : Prop :=
  
  (wrap a1 < 0 →
    k 0 M) ∧
  (0 ≤ wrap a1 →

    (7 ≤ wrap a1 →
      k 0 M) ∧
    (wrap a1 < 7 →
      (0 ≤ a1 ∧ a1 < 7) ∧ (k (tb_ABOVE a1) M)))
set_option maxHeartbeats 4000000 in
set_option maxRecDepth 100000 in
theorem m_X8_above {l : Launch} {D : va_G} {tys : List (ClassId × FieldType)} {ad : Nat → Nat} {cI cS : ClassId} {a1 : Int} {M : gSt} {k : Int → gSt → Prop} (h : w_X8_above a1 M k) : MOi l yX8_above cX8_above 1 .int (rmR 0 0) D clC ((cI, .int) :: (cS, .object "OldBronze$Sheet") :: tys) (wC ad cI cS) tC zC [iv a1] M k := by
  refine moi_intro (by decide +kernel) (Nat.le_of_ble_eq_true rfl) wc_359 ?_
  intro p e s m args below meth c A Q C hR
  obtain ⟨⟨⟨tABOVE, hzABOVE, hTABOVE⟩, ⟨tNAMES, hzNAMES, hTNAMES⟩, ⟨tBODIES, hzBODIES, hTBODIES⟩⟩, hzn⟩ := C.2.2.2.2.2.2.2.2.1
  unfold w_X8_above at h
  refine g_locals (lv' := [(0, iv a1)]) rfl ?_
  refine g_iload_n C dX8_above_0 rfl ?_
  refine g_if_lt C 20 dX8_above_1 (by decide) (fun hc => ?_) (fun hc => ?_)
  · replace h := h.1 hc
    refine g_iconst C dX8_above_20 ?_
    exact hR _ _ _ _ dX8_above_21 rfl h
  · replace h := h.2 hc
    refine g_iload_n C dX8_above_4 rfl ?_
    refine g_getsT C hzABOVE wc_360 rfl dX8_above_5 ?_
    refine g_talen C dX8_above_8 hTABOVE ?_
    refine g_top (y := 7) rfl ?_
    refine g_icmp_ge C 20 dX8_above_9 (by decide) (fun hc => ?_) (fun hc => ?_)
    · replace h := h.1 hc
      refine g_iconst C dX8_above_20 ?_
      exact hR _ _ _ _ dX8_above_21 rfl h
    · replace h := h.2 hc
      refine g_getsT C hzABOVE wc_360 rfl dX8_above_12 ?_
      refine g_iload_n C dX8_above_15 rfl ?_
      refine g_tald C dX8_above_16 hTABOVE (by decide) h.1 ?_
      refine g_top (y := tb_ABOVE a1) rfl ?_
      replace h := h.2
      refine g_goto C 21 dX8_above_17 (by decide) ?_
      exact hR _ _ _ _ dX8_above_21 rfl h
def w_X6_part (o : Nat) (a1 : Int) (M : gSt) (k : Int → gSt → Prop) : Prop :=
  (isVoices o) ∧ (∀ x2_9 : Int, x2_9 = (M o 3) - (M o 2) → (
  (¬ wrap x2_9 = 0 →
    (wrap x2_9 ≠ 0) ∧ (k (Int.tdiv (wrap a1) (wrap x2_9)) M)) ∧
  (wrap x2_9 = 0 →
    ∀ M16 : gSt, M16 = wr M o 4 1 → (k 0 M16))))
set_option maxHeartbeats 4000000 in
set_option maxRecDepth 100000 in
theorem m_X6_part {l : Launch} {D : va_G} {tys : List (ClassId × FieldType)} {ad : Nat → Nat} {cI cS : ClassId} {o : Nat} {a1 : Int} {M : gSt} {k : Int → gSt → Prop} (h : w_X6_part o a1 M k) : MOi l yX6_part cX6_part 3 .int (rmR 0 0) D clC ((cI, .int) :: (cS, .object "OldBronze$Sheet") :: tys) (wC ad cI cS) tC zC [.ref (ad o), iv a1] M k := by
  refine moi_intro (by decide +kernel) (Nat.le_of_ble_eq_true rfl) wc_361 ?_
  intro p e s m args below meth c A Q C hR
  unfold w_X6_part at h
  obtain ⟨h_o, h⟩ := h
  refine g_locals (lv' := [(0, .ref (ad o)), (1, iv a1)]) rfl ?_
  refine g_aload_n C dX6_part_0 rfl ?_
  refine cf_X6_30 C h_o dX6_part_1 ?_
  refine g_aload_n C dX6_part_4 rfl ?_
  refine cf_X6_27 C h_o dX6_part_5 ?_
  refine g_isub C dX6_part_8 ?_
  refine g_name (fun x2_9 hx2_9 => ?_)
  replace h := h x2_9 hx2_9
  refine g_istore_n C dX6_part_9 (by decide) rfl ?_
  refine g_locals (lv' := [(0, .ref (ad o)), (1, iv a1), (2, iv x2_9)]) rfl ?_
  refine g_iload_n C dX6_part_10 rfl ?_
  refine g_if_ne C 21 dX6_part_11 (by decide) (fun hc => ?_) (fun hc => ?_)
  · replace h := h.1 hc
    refine g_iload_n C dX6_part_21 rfl ?_
    refine g_iload_n C dX6_part_22 rfl ?_
    refine g_idiv C dX6_part_23 h.1 ?_
    replace h := h.2
    refine g_top (y := Int.tdiv (wrap a1) (wrap x2_9)) rfl ?_
    exact hR _ _ _ _ dX6_part_24 rfl h
  · replace h := h.2 hc
    refine g_aload_n C dX6_part_14 rfl ?_
    refine g_iconst C dX6_part_15 ?_
    refine cp_X6_33 C h_o dX6_part_16 ⟨rfl, rfl⟩ ?_
    refine g_memname (fun M16 hM16 => ?_)
    replace h := h M16 hM16
    refine g_iconst C dX6_part_19 ?_
    exact hR _ _ _ _ dX6_part_20 rfl h
def wb_X6_own (rc : Nat → List Int → gSt → (Int → gSt → Prop) → Prop) (o : Nat) (a1 : Int) (a2 : Int) (a3 : Int) (M : gSt) (k : Int → gSt → Prop) : Prop :=
  (isVoices o) ∧ (rc 1 [M o 1, a1, a2, a3] M (fun r8c M8 => k r8c M8))
set_option maxHeartbeats 4000000 in
set_option maxRecDepth 100000 in
theorem mb_X6_own {l : Launch} {D : va_G} {tys : List (ClassId × FieldType)} {ad : Nat → Nat} {cI cS : ClassId} {rc : Nat → List Int → gSt → (Int → gSt → Prop) → Prop} {o : Nat} {a1 : Int} {a2 : Int} {a3 : Int} {d : Nat} (hrc0 : ∀ {a1 a2 a3 : Int} {M : gSt} {k : Int → gSt → Prop}, rc 0 [a1, a2, a3] M k → MOi l yX6_own cX6_own 4 .int (rmR (d + 2) (d * 26 + 46)) D clC ((cI, .int) :: (cS, .object "OldBronze$Sheet") :: tys) (wC ad cI cS) tC zC [.ref (ad o), iv a1, iv a2, iv a3] M k) (hrc1 : ∀ {a1 a2 a3 a4 : Int} {M : gSt} {k : Int → gSt → Prop}, rc 1 [a1, a2, a3, a4] M k → MOi l yX6_sound cX6_sound 7 .int (rmR (d + 2) (d * 26 + 46)) D clC ((cI, .int) :: (cS, .object "OldBronze$Sheet") :: tys) (wC ad cI cS) tC zC [.ref (ad o), iv a1, iv a2, iv a3, iv a4] M k) (hrc2 : ∀ {a1 a2 a3 a4 : Int} {M : gSt} {k : Int → gSt → Prop}, rc 2 [a1, a2, a3, a4] M k → MOi l yX6_work cX6_work 5 .int (rmR (d + 2) (d * 26 + 46)) D clC ((cI, .int) :: (cS, .object "OldBronze$Sheet") :: tys) (wC ad cI cS) tC zC [.ref (ad o), iv a1, iv a2, iv a3, iv a4] M k) {M : gSt} {k : Int → gSt → Prop} (h : wb_X6_own rc o a1 a2 a3 M k) : MOi l yX6_own cX6_own 4 .int (rmR (d + 1 + 2) ((d + 1) * 26 + 46)) D clC ((cI, .int) :: (cS, .object "OldBronze$Sheet") :: tys) (wC ad cI cS) tC zC [.ref (ad o), iv a1, iv a2, iv a3] M k := by
  refine moi_intro (by decide +kernel) (Nat.le_of_ble_eq_true rfl) wc_381 ?_
  intro p e s m args below meth c A Q C hR
  unfold wb_X6_own at h
  obtain ⟨h_o, h⟩ := h
  refine g_locals (lv' := [(0, .ref (ad o)), (1, iv a1), (2, iv a2), (3, iv a3)]) rfl ?_
  refine g_aload_n C dX6_own_0 rfl ?_
  refine g_aload_n C dX6_own_1 rfl ?_
  refine cf_X6_23 C h_o dX6_own_2 ?_
  refine g_iload_n C dX6_own_5 rfl ?_
  refine g_iload_n C dX6_own_6 rfl ?_
  refine g_iload_n C dX6_own_7 rfl ?_
  refine g_callVi C (nargs := 4) (o := o) (st := []) (hrc1 h) h_o.1 h_o.2 rfl rfl gc_X6_37 (by decide +kernel) ⟨rfl, rfl⟩ dX6_own_8 ⟨by simp only [rmR]; omega, by simp only [rmR]; omega⟩ rfl rfl (Nat.le_of_ble_eq_true rfl) ?_
  intro r8c M8 hN
  replace h := hN
  clear hN
  exact hR _ _ _ _ dX6_own_11 rfl h
def wC_X6_sound_6 (rc : Nat → List Int → gSt → (Int → gSt → Prop) → Prop) (o : Nat) (a1 : Int) (a2 : Int) (a3 : Int) (a4 : Int) (k : Int → gSt → Prop) (r6 : Int → Int → gSt → Prop) (X6_35 : Int → gSt → Prop) (v5 : Int) (v6 : Int) (M : gSt) : Prop :=

  (7 ≤ wrap v6 →
    X6_35 v5 M) ∧
  (wrap v6 < 7 →
    w_X6_bodyOf v5 a2 M (fun r16c M16 => 
    (¬ wrap r16c = 0 →
      X6_35 v5 M16) ∧
    (wrap r16c = 0 →
      w_X8_above v5 M16 (fun r24c M24 => r6 r24c (v6 + 1) M24))))
def wL_X6_sound_6 (rc : Nat → List Int → gSt → (Int → gSt → Prop) → Prop) (o : Nat) (a1 : Int) (a2 : Int) (a3 : Int) (a4 : Int) (k : Int → gSt → Prop)  (X6_35 : Int → gSt → Prop) : Nat → Int → Int → gSt → Prop
  | 0 => fun _ _ _ => False
  | n + 1 => fun v5 v6 M => wC_X6_sound_6 rc o a1 a2 a3 a4 k  (wL_X6_sound_6 rc o a1 a2 a3 a4 k  X6_35 n) X6_35 v5 v6 M
def wB_X6_sound_35 (rc : Nat → List Int → gSt → (Int → gSt → Prop) → Prop) (o : Nat) (a1 : Int) (a2 : Int) (a3 : Int) (a4 : Int) (k : Int → gSt → Prop)  (v5 : Int) (M : gSt) : Prop :=
w_X6_bodyOf v5 a2 M (fun r38c M38 => w_X4_append (o + 1) r38c 0 0 M38 (fun r51c M51 => 
  (wrap a4 ≤ 40 →
    w_X8_above v5 M51 (fun r71c M71 => rc 2 [r38c, r71c, a3, a4 + 1] M71 (fun r79c M79 => k r79c M79))) ∧
  (40 < wrap a4 →
    k 0 M51)))
def wb_X6_sound (rc : Nat → List Int → gSt → (Int → gSt → Prop) → Prop) (o : Nat) (a1 : Int) (a2 : Int) (a3 : Int) (a4 : Int) (M : gSt) (k : Int → gSt → Prop) : Prop :=
  (isVoices o) ∧ (∃ n, wL_X6_sound_6 rc o a1 a2 a3 a4 k  (fun u5_6 M6 =>
    wB_X6_sound_35 rc o a1 a2 a3 a4 k  u5_6 M6) n a1 0 M)
set_option maxHeartbeats 4000000 in
set_option maxRecDepth 100000 in
theorem mb_X6_sound {l : Launch} {D : va_G} {tys : List (ClassId × FieldType)} {ad : Nat → Nat} {cI cS : ClassId} {rc : Nat → List Int → gSt → (Int → gSt → Prop) → Prop} {o : Nat} {a1 : Int} {a2 : Int} {a3 : Int} {a4 : Int} {d : Nat} (hrc0 : ∀ {a1 a2 a3 : Int} {M : gSt} {k : Int → gSt → Prop}, rc 0 [a1, a2, a3] M k → MOi l yX6_own cX6_own 4 .int (rmR (d + 2) (d * 26 + 46)) D clC ((cI, .int) :: (cS, .object "OldBronze$Sheet") :: tys) (wC ad cI cS) tC zC [.ref (ad o), iv a1, iv a2, iv a3] M k) (hrc1 : ∀ {a1 a2 a3 a4 : Int} {M : gSt} {k : Int → gSt → Prop}, rc 1 [a1, a2, a3, a4] M k → MOi l yX6_sound cX6_sound 7 .int (rmR (d + 2) (d * 26 + 46)) D clC ((cI, .int) :: (cS, .object "OldBronze$Sheet") :: tys) (wC ad cI cS) tC zC [.ref (ad o), iv a1, iv a2, iv a3, iv a4] M k) (hrc2 : ∀ {a1 a2 a3 a4 : Int} {M : gSt} {k : Int → gSt → Prop}, rc 2 [a1, a2, a3, a4] M k → MOi l yX6_work cX6_work 5 .int (rmR (d + 2) (d * 26 + 46)) D clC ((cI, .int) :: (cS, .object "OldBronze$Sheet") :: tys) (wC ad cI cS) tC zC [.ref (ad o), iv a1, iv a2, iv a3, iv a4] M k) {M : gSt} {k : Int → gSt → Prop} (h : wb_X6_sound rc o a1 a2 a3 a4 M k) : MOi l yX6_sound cX6_sound 7 .int (rmR (d + 1 + 2) ((d + 1) * 26 + 46)) D clC ((cI, .int) :: (cS, .object "OldBronze$Sheet") :: tys) (wC ad cI cS) tC zC [.ref (ad o), iv a1, iv a2, iv a3, iv a4] M k := by
  refine moi_intro (by decide +kernel) (Nat.le_of_ble_eq_true rfl) wc_366 ?_
  intro p e s m args below meth c A Q C hR
  unfold wb_X6_sound at h
  obtain ⟨h_o, h⟩ := h
  have pC6 : ∀ (r6 : Int → Int → gSt → Prop) (X6_35 : Int → gSt → Prop) (hr6 : ∀ (v5 : Int) (v6 : Int) (M : gSt), r6 v5 v6 M → gG p l e (rmR (d + 1 + 2) ((d + 1) * 26 + 46)) s m args below meth c Q D clC A (wC ad cI cS) 7 6 [(0, .ref (ad o)), (2, iv a2), (3, iv a3), (4, iv a4), (5, iv v5), (6, iv v6)] [] M) (hX6_35 : ∀ (v5 : Int) (M : gSt), X6_35 v5 M → gG p l e (rmR (d + 1 + 2) ((d + 1) * 26 + 46)) s m args below meth c Q D clC A (wC ad cI cS) 7 35 [(0, .ref (ad o)), (2, iv a2), (3, iv a3), (4, iv a4), (5, iv v5)] [] M) (v5 : Int) (v6 : Int) (M : gSt), wC_X6_sound_6 rc o a1 a2 a3 a4 k r6 X6_35 v5 v6 M → gG p l e (rmR (d + 1 + 2) ((d + 1) * 26 + 46)) s m args below meth c Q D clC A (wC ad cI cS) 7 6 [(0, .ref (ad o)), (2, iv a2), (3, iv a3), (4, iv a4), (5, iv v5), (6, iv v6)] [] M := by
    intro r6 X6_35 hr6 hX6_35 v5 v6 M h
    unfold wC_X6_sound_6 at h
    refine g_iload C dX6_sound_6 rfl ?_
    refine g_bipush C dX6_sound_8 rfl ?_
    refine g_icmp_ge C 35 dX6_sound_10 (by decide) (fun hc => ?_) (fun hc => ?_)
    · replace h := h.1 hc
      refine g_locals (lv' := [(0, .ref (ad o)), (2, iv a2), (3, iv a3), (4, iv a4), (5, iv v5)]) rfl ?_
      exact hX6_35 _  _ h
    · replace h := h.2 hc
      refine g_iload C dX6_sound_13 rfl ?_
      refine g_iload_n C dX6_sound_15 rfl ?_
      refine g_callSi C (nargs := 2) (st := []) (m_X6_bodyOf h) gc_X6_41 (by decide +kernel) ⟨rfl, rfl⟩ dX6_sound_16 ⟨by simp only [rmR]; omega, by simp only [rmR]; omega⟩ rfl rfl (Nat.le_of_ble_eq_true rfl) ?_
      intro r16c M16 hN
      replace h := hN
      clear hN
      refine g_if_ne C 35 dX6_sound_19 (by decide) (fun hc => ?_) (fun hc => ?_)
      · replace h := h.1 hc
        refine g_locals (lv' := [(0, .ref (ad o)), (2, iv a2), (3, iv a3), (4, iv a4), (5, iv v5)]) rfl ?_
        exact hX6_35 _  _ h
      · replace h := h.2 hc
        refine g_iload C dX6_sound_22 rfl ?_
        refine g_callNSi C (nargs := 1) (st := []) (m_X8_above h) zn_6 (gc_code wc_359) wc_26 wc_369 (by decide +kernel) ⟨rfl, rfl⟩ dX6_sound_24 ⟨by simp only [rmR]; omega, by simp only [rmR]; omega⟩ rfl rfl (Nat.le_of_ble_eq_true rfl) ?_
        intro r24c M24 hN
        replace h := hN
        clear hN
        refine g_istore C dX6_sound_27 (by decide) rfl ?_
        refine g_locals (lv' := [(0, .ref (ad o)), (2, iv a2), (3, iv a3), (4, iv a4), (5, iv r24c), (6, iv v6)]) rfl ?_
        refine g_iinc C dX6_sound_29 rfl (by decide) rfl ?_
        refine g_locals (lv' := [(0, .ref (ad o)), (2, iv a2), (3, iv a3), (4, iv a4), (5, iv r24c), (6, iv (v6 + 1))]) rfl ?_
        refine g_goto C 6 dX6_sound_32 (by decide) ?_
        refine g_locals (lv' := [(0, .ref (ad o)), (2, iv a2), (3, iv a3), (4, iv a4), (5, iv r24c), (6, iv (v6 + 1))]) rfl ?_
        exact hr6 _ _  _ h
  have pL6 : ∀  (X6_35 : Int → gSt → Prop) (hX6_35 : ∀ (v5 : Int) (M : gSt), X6_35 v5 M → gG p l e (rmR (d + 1 + 2) ((d + 1) * 26 + 46)) s m args below meth c Q D clC A (wC ad cI cS) 7 35 [(0, .ref (ad o)), (2, iv a2), (3, iv a3), (4, iv a4), (5, iv v5)] [] M) (n : Nat) (v5 : Int) (v6 : Int) (M : gSt), wL_X6_sound_6 rc o a1 a2 a3 a4 k  X6_35 n v5 v6 M → gG p l e (rmR (d + 1 + 2) ((d + 1) * 26 + 46)) s m args below meth c Q D clC A (wC ad cI cS) 7 6 [(0, .ref (ad o)), (2, iv a2), (3, iv a3), (4, iv a4), (5, iv v5), (6, iv v6)] [] M := by
    intro  X6_35 hX6_35 n
    induction n with
    | zero => intro v5 v6 M h; exact h.elim
    | succ n ih =>
      intro v5 v6 M h
      exact pC6  (wL_X6_sound_6 rc o a1 a2 a3 a4 k  X6_35 n) X6_35 ih hX6_35 v5 v6 M h
  have pB35 : ∀   (v5 : Int) (M : gSt), wB_X6_sound_35 rc o a1 a2 a3 a4 k  v5 M → gG p l e (rmR (d + 1 + 2) ((d + 1) * 26 + 46)) s m args below meth c Q D clC A (wC ad cI cS) 7 35 [(0, .ref (ad o)), (2, iv a2), (3, iv a3), (4, iv a4), (5, iv v5)] [] M := by
    intro   v5 M h
    unfold wB_X6_sound_35 at h
    refine g_iload C dX6_sound_35 rfl ?_
    refine g_iload_n C dX6_sound_37 rfl ?_
    refine g_callSi C (nargs := 2) (st := []) (m_X6_bodyOf h) gc_X6_41 (by decide +kernel) ⟨rfl, rfl⟩ dX6_sound_38 ⟨by simp only [rmR]; omega, by simp only [rmR]; omega⟩ rfl rfl (Nat.le_of_ble_eq_true rfl) ?_
    intro r38c M38 hN
    replace h := hN
    clear hN
    refine g_istore C dX6_sound_41 (by decide) rfl ?_
    refine g_locals (lv' := [(0, .ref (ad o)), (2, iv a2), (3, iv a3), (4, iv a4), (5, iv v5), (6, iv r38c)]) rfl ?_
    refine g_aload_n C dX6_sound_43 rfl ?_
    refine cf_X6_14 C h_o dX6_sound_44 ?_
    refine g_iload C dX6_sound_47 rfl ?_
    refine g_iconst C dX6_sound_49 ?_
    refine g_iconst C dX6_sound_50 ?_
    refine g_callVi C (nargs := 3) (o := (o + 1)) (st := []) (m_X4_append h) (show isRows (o + 1) from h.1).1 (show isRows (o + 1) from h.1).2.1 rfl rfl gc_X6_49 (by decide +kernel) ⟨rfl, rfl⟩ dX6_sound_51 ⟨by simp only [rmR]; omega, by simp only [rmR]; omega⟩ rfl rfl (Nat.le_of_ble_eq_true rfl) ?_
    intro r51c M51 hN
    replace h := hN
    clear hN
    refine g_pop C dX6_sound_54 rfl ?_
    refine g_iload C dX6_sound_55 rfl ?_
    refine g_bipush C dX6_sound_57 rfl ?_
    refine g_icmp_le C 66 dX6_sound_59 (by decide) (fun hc => ?_) (fun hc => ?_)
    · replace h := h.1 hc
      refine g_aload_n C dX6_sound_66 rfl ?_
      refine g_iload C dX6_sound_67 rfl ?_
      refine g_iload C dX6_sound_69 rfl ?_
      refine g_callNSi C (nargs := 1) (st := [iv r38c, .ref (ad o)]) (m_X8_above h) zn_6 (gc_code wc_359) wc_26 wc_369 (by decide +kernel) ⟨rfl, rfl⟩ dX6_sound_71 ⟨by simp only [rmR]; omega, by simp only [rmR]; omega⟩ rfl rfl (Nat.le_of_ble_eq_true rfl) ?_
      intro r71c M71 hN
      replace h := hN
      clear hN
      refine g_iload_n C dX6_sound_74 rfl ?_
      refine g_iload C dX6_sound_75 rfl ?_
      refine g_iconst C dX6_sound_77 ?_
      refine g_iadd C dX6_sound_78 ?_
      refine g_callVi C (nargs := 4) (o := o) (st := []) (hrc2 h) h_o.1 h_o.2 rfl rfl gc_X6_53 (by decide +kernel) ⟨rfl, rfl⟩ dX6_sound_79 ⟨by simp only [rmR]; omega, by simp only [rmR]; omega⟩ rfl rfl (Nat.le_of_ble_eq_true rfl) ?_
      intro r79c M79 hN
      replace h := hN
      clear hN
      exact hR _ _ _ _ dX6_sound_82 rfl h
    · replace h := h.2 hc
      refine g_iconst C dX6_sound_62 ?_
      refine g_goto C 82 dX6_sound_63 (by decide) ?_
      exact hR _ _ _ _ dX6_sound_82 rfl h
  refine g_locals (lv' := [(0, .ref (ad o)), (1, iv a1), (2, iv a2), (3, iv a3), (4, iv a4)]) rfl ?_
  refine g_iload_n C dX6_sound_0 rfl ?_
  refine g_istore C dX6_sound_1 (by decide) rfl ?_
  refine g_locals (lv' := [(0, .ref (ad o)), (1, iv a1), (2, iv a2), (3, iv a3), (4, iv a4), (5, iv a1)]) rfl ?_
  refine g_iconst C dX6_sound_3 ?_
  refine g_istore C dX6_sound_4 (by decide) rfl ?_
  refine g_locals (lv' := [(0, .ref (ad o)), (1, iv a1), (2, iv a2), (3, iv a3), (4, iv a4), (5, iv a1), (6, iv 0)]) rfl ?_
  refine g_locals (lv' := [(0, .ref (ad o)), (2, iv a2), (3, iv a3), (4, iv a4), (5, iv a1), (6, iv 0)]) rfl ?_
  obtain ⟨n, h⟩ := h
  refine pL6 _ ?_ n _ _ _ h
  · intro u5_6 M6 hN
    replace h := hN
    clear hN
    refine g_locals (lv' := [(0, .ref (ad o)), (2, iv a2), (3, iv a3), (4, iv a4), (5, iv u5_6)]) rfl ?_
    exact pB35 _ _ h
def wb_X6_work (rc : Nat → List Int → gSt → (Int → gSt → Prop) → Prop) (o : Nat) (a1 : Int) (a2 : Int) (a3 : Int) (a4 : Int) (M : gSt) (k : Int → gSt → Prop) : Prop :=
  (isVoices o) ∧ (
  (wrap a1 = 10 →
    k (a3 + (M o 2)) M) ∧
  (wrap a1 = 11 →
    rc 0 [0, a3, a4] M (fun r128c M128 => k (r128c * 2) M128)) ∧
  (wrap a1 = 12 →
    rc 0 [1, a3, a4] M (fun r139c M139 => k (r139c - (M139 o 3)) M139)) ∧
  (wrap a1 = 13 →
    w_X6_part o a3 M (fun r150c M150 => k r150c M150)) ∧
  (wrap a1 = 20 →
    rc 1 [a2, 0, a3, a4] M (fun r160c M160 => k (r160c - 4) M160)) ∧
  (wrap a1 = 21 →
    rc 1 [a2, 3, a3, a4] M (fun r172c M172 => rc 0 [1, 1, a4] M172 (fun r180c M180 => k (r172c + r180c) M180))) ∧
  (wrap a1 = 30 →
    rc 1 [a2, 1, a3, a4] M (fun r192c M192 => k (0 - r192c) M192)) ∧
  (wrap a1 = 40 →
    rc 1 [a2, 2, Int.tdiv (wrap a3) 2, a4] M (fun r205c M205 => k r205c M205)) ∧
  (wrap a1 = 50 →
    rc 1 [a2, 0, a3, a4] M (fun r215c M215 => k (r215c * 3) M215)) ∧
  (wrap a1 = 51 →
    rc 1 [a2, 2, a3, a4] M (fun r227c M227 => k (xxor r227c (M227 o 2)) M227)) ∧
  (wrap a1 = 60 →
    rc 1 [a2, 1, a3 + 1, a4] M (fun r244c M244 => k r244c M244)) ∧
  (wrap a1 = 70 →
    k 6 M) ∧
  (wrap a1 = 71 →
    rc 1 [a2, 1, a3, a4] M (fun r257c M257 => k (r257c + (M257 o 3)) M257)) ∧
  (¬ wrap a1 = 10 ∧ ¬ wrap a1 = 11 ∧ ¬ wrap a1 = 12 ∧ ¬ wrap a1 = 13 ∧ ¬ wrap a1 = 20 ∧ ¬ wrap a1 = 21 ∧ ¬ wrap a1 = 30 ∧ ¬ wrap a1 = 40 ∧ ¬ wrap a1 = 50 ∧ ¬ wrap a1 = 51 ∧ ¬ wrap a1 = 60 ∧ ¬ wrap a1 = 70 ∧ ¬ wrap a1 = 71 →
    k 0 M))
set_option maxHeartbeats 4000000 in
set_option maxRecDepth 100000 in
theorem mb_X6_work {l : Launch} {D : va_G} {tys : List (ClassId × FieldType)} {ad : Nat → Nat} {cI cS : ClassId} {rc : Nat → List Int → gSt → (Int → gSt → Prop) → Prop} {o : Nat} {a1 : Int} {a2 : Int} {a3 : Int} {a4 : Int} {d : Nat} (hrc0 : ∀ {a1 a2 a3 : Int} {M : gSt} {k : Int → gSt → Prop}, rc 0 [a1, a2, a3] M k → MOi l yX6_own cX6_own 4 .int (rmR (d + 2) (d * 26 + 46)) D clC ((cI, .int) :: (cS, .object "OldBronze$Sheet") :: tys) (wC ad cI cS) tC zC [.ref (ad o), iv a1, iv a2, iv a3] M k) (hrc1 : ∀ {a1 a2 a3 a4 : Int} {M : gSt} {k : Int → gSt → Prop}, rc 1 [a1, a2, a3, a4] M k → MOi l yX6_sound cX6_sound 7 .int (rmR (d + 2) (d * 26 + 46)) D clC ((cI, .int) :: (cS, .object "OldBronze$Sheet") :: tys) (wC ad cI cS) tC zC [.ref (ad o), iv a1, iv a2, iv a3, iv a4] M k) (hrc2 : ∀ {a1 a2 a3 a4 : Int} {M : gSt} {k : Int → gSt → Prop}, rc 2 [a1, a2, a3, a4] M k → MOi l yX6_work cX6_work 5 .int (rmR (d + 2) (d * 26 + 46)) D clC ((cI, .int) :: (cS, .object "OldBronze$Sheet") :: tys) (wC ad cI cS) tC zC [.ref (ad o), iv a1, iv a2, iv a3, iv a4] M k) {M : gSt} {k : Int → gSt → Prop} (h : wb_X6_work rc o a1 a2 a3 a4 M k) : MOi l yX6_work cX6_work 5 .int (rmR (d + 1 + 2) ((d + 1) * 26 + 46)) D clC ((cI, .int) :: (cS, .object "OldBronze$Sheet") :: tys) (wC ad cI cS) tC zC [.ref (ad o), iv a1, iv a2, iv a3, iv a4] M k := by
  refine moi_intro (by decide +kernel) (Nat.le_of_ble_eq_true rfl) wc_374 ?_
  intro p e s m args below meth c A Q C hR
  unfold wb_X6_work at h
  obtain ⟨h_o, h⟩ := h
  refine g_locals (lv' := [(0, .ref (ad o)), (1, iv a1), (2, iv a2), (3, iv a3), (4, iv a4)]) rfl ?_
  refine g_iload_n C dX6_work_0 rfl ?_
  by_cases hc10 : wrap a1 = 10
  · refine g_lookup C 116 dX6_work_1 (by decide) (by rw [hc10] <;> rfl) (by decide) ?_
    replace h := h.1 hc10
    refine g_iload_n C dX6_work_116 rfl ?_
    refine g_aload_n C dX6_work_117 rfl ?_
    refine cf_X6_27 C h_o dX6_work_118 ?_
    refine g_iadd C dX6_work_121 ?_
    exact hR _ _ _ _ dX6_work_122 rfl h
  · by_cases hc11 : wrap a1 = 11
    · refine g_lookup C 123 dX6_work_1 (by decide) (by rw [hc11] <;> rfl) (by decide) ?_
      replace h := h.2.1 hc11
      refine g_aload_n C dX6_work_123 rfl ?_
      refine g_iconst C dX6_work_124 ?_
      refine g_iload_n C dX6_work_125 rfl ?_
      refine g_iload C dX6_work_126 rfl ?_
      refine g_callVi C (nargs := 3) (o := o) (st := []) (hrc0 h) h_o.1 h_o.2 rfl rfl gc_X6_60 (by decide +kernel) ⟨rfl, rfl⟩ dX6_work_128 ⟨by simp only [rmR]; omega, by simp only [rmR]; omega⟩ rfl rfl (Nat.le_of_ble_eq_true rfl) ?_
      intro r128c M128 hN
      replace h := hN
      clear hN
      refine g_iconst C dX6_work_131 ?_
      refine g_imul C dX6_work_132 ?_
      exact hR _ _ _ _ dX6_work_133 rfl h
    · by_cases hc12 : wrap a1 = 12
      · refine g_lookup C 134 dX6_work_1 (by decide) (by rw [hc12] <;> rfl) (by decide) ?_
        replace h := h.2.2.1 hc12
        refine g_aload_n C dX6_work_134 rfl ?_
        refine g_iconst C dX6_work_135 ?_
        refine g_iload_n C dX6_work_136 rfl ?_
        refine g_iload C dX6_work_137 rfl ?_
        refine g_callVi C (nargs := 3) (o := o) (st := []) (hrc0 h) h_o.1 h_o.2 rfl rfl gc_X6_60 (by decide +kernel) ⟨rfl, rfl⟩ dX6_work_139 ⟨by simp only [rmR]; omega, by simp only [rmR]; omega⟩ rfl rfl (Nat.le_of_ble_eq_true rfl) ?_
        intro r139c M139 hN
        replace h := hN
        clear hN
        refine g_aload_n C dX6_work_142 rfl ?_
        refine cf_X6_30 C h_o dX6_work_143 ?_
        refine g_isub C dX6_work_146 ?_
        exact hR _ _ _ _ dX6_work_147 rfl h
      · by_cases hc13 : wrap a1 = 13
        · refine g_lookup C 148 dX6_work_1 (by decide) (by rw [hc13] <;> rfl) (by decide) ?_
          replace h := h.2.2.2.1 hc13
          refine g_aload_n C dX6_work_148 rfl ?_
          refine g_iload_n C dX6_work_149 rfl ?_
          refine g_callVi C (nargs := 1) (o := o) (st := []) (m_X6_part h) (show isVoices o from h.1).1 (show isVoices o from h.1).2 rfl rfl gc_X6_63 (by decide +kernel) ⟨rfl, rfl⟩ dX6_work_150 ⟨by simp only [rmR]; omega, by simp only [rmR]; omega⟩ rfl rfl (Nat.le_of_ble_eq_true rfl) ?_
          intro r150c M150 hN
          replace h := hN
          clear hN
          exact hR _ _ _ _ dX6_work_153 rfl h
        · by_cases hc20 : wrap a1 = 20
          · refine g_lookup C 154 dX6_work_1 (by decide) (by rw [hc20] <;> rfl) (by decide) ?_
            replace h := h.2.2.2.2.1 hc20
            refine g_aload_n C dX6_work_154 rfl ?_
            refine g_iload_n C dX6_work_155 rfl ?_
            refine g_iconst C dX6_work_156 ?_
            refine g_iload_n C dX6_work_157 rfl ?_
            refine g_iload C dX6_work_158 rfl ?_
            refine g_callVi C (nargs := 4) (o := o) (st := []) (hrc1 h) h_o.1 h_o.2 rfl rfl gc_X6_37 (by decide +kernel) ⟨rfl, rfl⟩ dX6_work_160 ⟨by simp only [rmR]; omega, by simp only [rmR]; omega⟩ rfl rfl (Nat.le_of_ble_eq_true rfl) ?_
            intro r160c M160 hN
            replace h := hN
            clear hN
            refine g_iconst C dX6_work_163 ?_
            refine g_isub C dX6_work_164 ?_
            exact hR _ _ _ _ dX6_work_165 rfl h
          · by_cases hc21 : wrap a1 = 21
            · refine g_lookup C 166 dX6_work_1 (by decide) (by rw [hc21] <;> rfl) (by decide) ?_
              replace h := h.2.2.2.2.2.1 hc21
              refine g_aload_n C dX6_work_166 rfl ?_
              refine g_iload_n C dX6_work_167 rfl ?_
              refine g_iconst C dX6_work_168 ?_
              refine g_iload_n C dX6_work_169 rfl ?_
              refine g_iload C dX6_work_170 rfl ?_
              refine g_callVi C (nargs := 4) (o := o) (st := []) (hrc1 h) h_o.1 h_o.2 rfl rfl gc_X6_37 (by decide +kernel) ⟨rfl, rfl⟩ dX6_work_172 ⟨by simp only [rmR]; omega, by simp only [rmR]; omega⟩ rfl rfl (Nat.le_of_ble_eq_true rfl) ?_
              intro r172c M172 hN
              replace h := hN
              clear hN
              refine g_aload_n C dX6_work_175 rfl ?_
              refine g_iconst C dX6_work_176 ?_
              refine g_iconst C dX6_work_177 ?_
              refine g_iload C dX6_work_178 rfl ?_
              refine g_callVi C (nargs := 3) (o := o) (st := [iv r172c]) (hrc0 h) h_o.1 h_o.2 rfl rfl gc_X6_60 (by decide +kernel) ⟨rfl, rfl⟩ dX6_work_180 ⟨by simp only [rmR]; omega, by simp only [rmR]; omega⟩ rfl rfl (Nat.le_of_ble_eq_true rfl) ?_
              intro r180c M180 hN
              replace h := hN
              clear hN
              refine g_iadd C dX6_work_183 ?_
              exact hR _ _ _ _ dX6_work_184 rfl h
            · by_cases hc30 : wrap a1 = 30
              · refine g_lookup C 185 dX6_work_1 (by decide) (by rw [hc30] <;> rfl) (by decide) ?_
                replace h := h.2.2.2.2.2.2.1 hc30
                refine g_iconst C dX6_work_185 ?_
                refine g_aload_n C dX6_work_186 rfl ?_
                refine g_iload_n C dX6_work_187 rfl ?_
                refine g_iconst C dX6_work_188 ?_
                refine g_iload_n C dX6_work_189 rfl ?_
                refine g_iload C dX6_work_190 rfl ?_
                refine g_callVi C (nargs := 4) (o := o) (st := [iv 0]) (hrc1 h) h_o.1 h_o.2 rfl rfl gc_X6_37 (by decide +kernel) ⟨rfl, rfl⟩ dX6_work_192 ⟨by simp only [rmR]; omega, by simp only [rmR]; omega⟩ rfl rfl (Nat.le_of_ble_eq_true rfl) ?_
                intro r192c M192 hN
                replace h := hN
                clear hN
                refine g_isub C dX6_work_195 ?_
                exact hR _ _ _ _ dX6_work_196 rfl h
              · by_cases hc40 : wrap a1 = 40
                · refine g_lookup C 197 dX6_work_1 (by decide) (by rw [hc40] <;> rfl) (by decide) ?_
                  replace h := h.2.2.2.2.2.2.2.1 hc40
                  refine g_aload_n C dX6_work_197 rfl ?_
                  refine g_iload_n C dX6_work_198 rfl ?_
                  refine g_iconst C dX6_work_199 ?_
                  refine g_iload_n C dX6_work_200 rfl ?_
                  refine g_iconst C dX6_work_201 ?_
                  refine g_idiv C dX6_work_202 (by decide) ?_
                  refine g_top (y := Int.tdiv (wrap a3) 2) rfl ?_
                  refine g_iload C dX6_work_203 rfl ?_
                  refine g_callVi C (nargs := 4) (o := o) (st := []) (hrc1 h) h_o.1 h_o.2 rfl rfl gc_X6_37 (by decide +kernel) ⟨rfl, rfl⟩ dX6_work_205 ⟨by simp only [rmR]; omega, by simp only [rmR]; omega⟩ rfl rfl (Nat.le_of_ble_eq_true rfl) ?_
                  intro r205c M205 hN
                  replace h := hN
                  clear hN
                  exact hR _ _ _ _ dX6_work_208 rfl h
                · by_cases hc50 : wrap a1 = 50
                  · refine g_lookup C 209 dX6_work_1 (by decide) (by rw [hc50] <;> rfl) (by decide) ?_
                    replace h := h.2.2.2.2.2.2.2.2.1 hc50
                    refine g_aload_n C dX6_work_209 rfl ?_
                    refine g_iload_n C dX6_work_210 rfl ?_
                    refine g_iconst C dX6_work_211 ?_
                    refine g_iload_n C dX6_work_212 rfl ?_
                    refine g_iload C dX6_work_213 rfl ?_
                    refine g_callVi C (nargs := 4) (o := o) (st := []) (hrc1 h) h_o.1 h_o.2 rfl rfl gc_X6_37 (by decide +kernel) ⟨rfl, rfl⟩ dX6_work_215 ⟨by simp only [rmR]; omega, by simp only [rmR]; omega⟩ rfl rfl (Nat.le_of_ble_eq_true rfl) ?_
                    intro r215c M215 hN
                    replace h := hN
                    clear hN
                    refine g_iconst C dX6_work_218 ?_
                    refine g_imul C dX6_work_219 ?_
                    exact hR _ _ _ _ dX6_work_220 rfl h
                  · by_cases hc51 : wrap a1 = 51
                    · refine g_lookup C 221 dX6_work_1 (by decide) (by rw [hc51] <;> rfl) (by decide) ?_
                      replace h := h.2.2.2.2.2.2.2.2.2.1 hc51
                      refine g_aload_n C dX6_work_221 rfl ?_
                      refine g_iload_n C dX6_work_222 rfl ?_
                      refine g_iconst C dX6_work_223 ?_
                      refine g_iload_n C dX6_work_224 rfl ?_
                      refine g_iload C dX6_work_225 rfl ?_
                      refine g_callVi C (nargs := 4) (o := o) (st := []) (hrc1 h) h_o.1 h_o.2 rfl rfl gc_X6_37 (by decide +kernel) ⟨rfl, rfl⟩ dX6_work_227 ⟨by simp only [rmR]; omega, by simp only [rmR]; omega⟩ rfl rfl (Nat.le_of_ble_eq_true rfl) ?_
                      intro r227c M227 hN
                      replace h := hN
                      clear hN
                      refine g_aload_n C dX6_work_230 rfl ?_
                      refine cf_X6_27 C h_o dX6_work_231 ?_
                      refine g_ixor C dX6_work_234 ?_
                      exact hR _ _ _ _ dX6_work_235 rfl h
                    · by_cases hc60 : wrap a1 = 60
                      · refine g_lookup C 236 dX6_work_1 (by decide) (by rw [hc60] <;> rfl) (by decide) ?_
                        replace h := h.2.2.2.2.2.2.2.2.2.2.1 hc60
                        refine g_aload_n C dX6_work_236 rfl ?_
                        refine g_iload_n C dX6_work_237 rfl ?_
                        refine g_iconst C dX6_work_238 ?_
                        refine g_iload_n C dX6_work_239 rfl ?_
                        refine g_iconst C dX6_work_240 ?_
                        refine g_iadd C dX6_work_241 ?_
                        refine g_iload C dX6_work_242 rfl ?_
                        refine g_callVi C (nargs := 4) (o := o) (st := []) (hrc1 h) h_o.1 h_o.2 rfl rfl gc_X6_37 (by decide +kernel) ⟨rfl, rfl⟩ dX6_work_244 ⟨by simp only [rmR]; omega, by simp only [rmR]; omega⟩ rfl rfl (Nat.le_of_ble_eq_true rfl) ?_
                        intro r244c M244 hN
                        replace h := hN
                        clear hN
                        exact hR _ _ _ _ dX6_work_247 rfl h
                      · by_cases hc70 : wrap a1 = 70
                        · refine g_lookup C 248 dX6_work_1 (by decide) (by rw [hc70] <;> rfl) (by decide) ?_
                          replace h := h.2.2.2.2.2.2.2.2.2.2.2.1 hc70
                          refine g_bipush C dX6_work_248 rfl ?_
                          exact hR _ _ _ _ dX6_work_250 rfl h
                        · by_cases hc71 : wrap a1 = 71
                          · refine g_lookup C 251 dX6_work_1 (by decide) (by rw [hc71] <;> rfl) (by decide) ?_
                            replace h := h.2.2.2.2.2.2.2.2.2.2.2.2.1 hc71
                            refine g_aload_n C dX6_work_251 rfl ?_
                            refine g_iload_n C dX6_work_252 rfl ?_
                            refine g_iconst C dX6_work_253 ?_
                            refine g_iload_n C dX6_work_254 rfl ?_
                            refine g_iload C dX6_work_255 rfl ?_
                            refine g_callVi C (nargs := 4) (o := o) (st := []) (hrc1 h) h_o.1 h_o.2 rfl rfl gc_X6_37 (by decide +kernel) ⟨rfl, rfl⟩ dX6_work_257 ⟨by simp only [rmR]; omega, by simp only [rmR]; omega⟩ rfl rfl (Nat.le_of_ble_eq_true rfl) ?_
                            intro r257c M257 hN
                            replace h := hN
                            clear hN
                            refine g_aload_n C dX6_work_260 rfl ?_
                            refine cf_X6_30 C h_o dX6_work_261 ?_
                            refine g_iadd C dX6_work_264 ?_
                            exact hR _ _ _ _ dX6_work_265 rfl h
                          · refine g_lookup C (off := 265) 266 dX6_work_1 (by decide) (by simp [Op.lookupswitch.offset, Ne.symm hc10, Ne.symm hc11, Ne.symm hc12, Ne.symm hc13, Ne.symm hc20, Ne.symm hc21, Ne.symm hc30, Ne.symm hc40, Ne.symm hc50, Ne.symm hc51, Ne.symm hc60, Ne.symm hc70, Ne.symm hc71]) (by decide) ?_
                            replace h := h.2.2.2.2.2.2.2.2.2.2.2.2.2 ⟨hc10, hc11, hc12, hc13, hc20, hc21, hc30, hc40, hc50, hc51, hc60, hc70, hc71⟩
                            refine g_iconst C dX6_work_266 ?_
                            exact hR _ _ _ _ dX6_work_267 rfl h
def wg_X6_own (o : Nat) : Nat → Nat → List Int → gSt → (Int → gSt → Prop) → Prop
  | 0 => fun _ _ _ _ => False
  | d + 1 => fun i xs M k => match i, xs with
    | 0, [a1, a2, a3] => wb_X6_own (wg_X6_own o d) o a1 a2 a3 M k
    | 1, [a1, a2, a3, a4] => wb_X6_sound (wg_X6_own o d) o a1 a2 a3 a4 M k
    | 2, [a1, a2, a3, a4] => wb_X6_work (wg_X6_own o d) o a1 a2 a3 a4 M k
    | _, _ => False
theorem mg_X6_own {l : Launch} {D : va_G} {tys : List (ClassId × FieldType)} {ad : Nat → Nat} {cI cS : ClassId} {o : Nat} (d : Nat) : (∀ {a1 a2 a3 : Int} {M : gSt} {k : Int → gSt → Prop}, wg_X6_own o d 0 [a1, a2, a3] M k → MOi l yX6_own cX6_own 4 .int (rmR (d + 2) (d * 26 + 46)) D clC ((cI, .int) :: (cS, .object "OldBronze$Sheet") :: tys) (wC ad cI cS) tC zC [.ref (ad o), iv a1, iv a2, iv a3] M k) ∧ (∀ {a1 a2 a3 a4 : Int} {M : gSt} {k : Int → gSt → Prop}, wg_X6_own o d 1 [a1, a2, a3, a4] M k → MOi l yX6_sound cX6_sound 7 .int (rmR (d + 2) (d * 26 + 46)) D clC ((cI, .int) :: (cS, .object "OldBronze$Sheet") :: tys) (wC ad cI cS) tC zC [.ref (ad o), iv a1, iv a2, iv a3, iv a4] M k) ∧ (∀ {a1 a2 a3 a4 : Int} {M : gSt} {k : Int → gSt → Prop}, wg_X6_own o d 2 [a1, a2, a3, a4] M k → MOi l yX6_work cX6_work 5 .int (rmR (d + 2) (d * 26 + 46)) D clC ((cI, .int) :: (cS, .object "OldBronze$Sheet") :: tys) (wC ad cI cS) tC zC [.ref (ad o), iv a1, iv a2, iv a3, iv a4] M k) := by
  induction d with
  | zero => exact ⟨fun h => False.elim h, fun h => False.elim h, fun h => False.elim h⟩
  | succ d ih =>
    obtain ⟨h0, h1, h2⟩ := ih
    exact ⟨fun h => mb_X6_own (rc := wg_X6_own o d) h0 h1 h2 h, fun h => mb_X6_sound (rc := wg_X6_own o d) h0 h1 h2 h, fun h => mb_X6_work (rc := wg_X6_own o d) h0 h1 h2 h⟩
def w_X6_own (o : Nat) (a1 a2 a3 : Int) (M : gSt) (k : Int → gSt → Prop) : Prop := isVoices o ∧ wg_X6_own o 60 0 [a1, a2, a3] M k
theorem m_X6_own {l : Launch} {D : va_G} {tys : List (ClassId × FieldType)} {ad : Nat → Nat} {cI cS : ClassId} {o : Nat} {a1 a2 a3 : Int} {M : gSt} {k : Int → gSt → Prop} (h : w_X6_own o a1 a2 a3 M k) : MOi l yX6_own cX6_own 4 .int (rmR 62 1606) D clC ((cI, .int) :: (cS, .object "OldBronze$Sheet") :: tys) (wC ad cI cS) tC zC [.ref (ad o), iv a1, iv a2, iv a3] M k := (mg_X6_own 60).1 h.2
def w_X6_sound (o : Nat) (a1 a2 a3 a4 : Int) (M : gSt) (k : Int → gSt → Prop) : Prop := isVoices o ∧ wg_X6_own o 60 1 [a1, a2, a3, a4] M k
theorem m_X6_sound {l : Launch} {D : va_G} {tys : List (ClassId × FieldType)} {ad : Nat → Nat} {cI cS : ClassId} {o : Nat} {a1 a2 a3 a4 : Int} {M : gSt} {k : Int → gSt → Prop} (h : w_X6_sound o a1 a2 a3 a4 M k) : MOi l yX6_sound cX6_sound 7 .int (rmR 62 1606) D clC ((cI, .int) :: (cS, .object "OldBronze$Sheet") :: tys) (wC ad cI cS) tC zC [.ref (ad o), iv a1, iv a2, iv a3, iv a4] M k := (mg_X6_own 60).2.1 h.2
def w_X6_work (o : Nat) (a1 a2 a3 a4 : Int) (M : gSt) (k : Int → gSt → Prop) : Prop := isVoices o ∧ wg_X6_own o 60 2 [a1, a2, a3, a4] M k
theorem m_X6_work {l : Launch} {D : va_G} {tys : List (ClassId × FieldType)} {ad : Nat → Nat} {cI cS : ClassId} {o : Nat} {a1 a2 a3 a4 : Int} {M : gSt} {k : Int → gSt → Prop} (h : w_X6_work o a1 a2 a3 a4 M k) : MOi l yX6_work cX6_work 5 .int (rmR 62 1606) D clC ((cI, .int) :: (cS, .object "OldBronze$Sheet") :: tys) (wC ad cI cS) tC zC [.ref (ad o), iv a1, iv a2, iv a3, iv a4] M k := (mg_X6_own 60).2.2 h.2
