section
def w_X3_writeTo (o : Nat) (a1 : Nat) (M : gSt) (k : gSt → Prop) : Prop :=
  (isReader o) ∧ ((isRows a1) ∧ (w_X4_copyFrom a1 (o + 3) M (fun M5 => k M5)))
set_option maxHeartbeats 4000000 in
set_option maxRecDepth 100000 in
theorem m_X3_writeTo {l : Launch} {D : va_G} {tys : List (ClassId × FieldType)} {ad : Nat → Nat} {cI cS : ClassId} {o : Nat} {a1 : Nat} {M : gSt} {k : gSt → Prop} (h : w_X3_writeTo o a1 M k) : MOv l yX3_writeTo cX3_writeTo 2 (rmR 2 61) D clC ((cI, .int) :: (cS, .object "OldBronze$Sheet") :: tys) (wC ad cI cS) tC zC [.ref (ad o), .ref (ad a1)] M k := by
  refine mov_intro (by decide +kernel) (Nat.le_of_ble_eq_true rfl) wc_316 ?_
  intro p e s m args below meth c A Q C hR
  unfold w_X3_writeTo at h
  obtain ⟨h_o, h_a1, h⟩ := h
  refine g_locals (lv' := [(0, .ref (ad o)), (1, .ref (ad a1))]) rfl ?_
  refine g_aload_n C dX3_writeTo_0 rfl ?_
  refine g_aload_n C dX3_writeTo_1 rfl ?_
  refine cf_X3_20 C h_o dX3_writeTo_2 ?_
  refine g_callVv C (nargs := 1) (o := a1) (st := []) (m_X4_copyFrom h) (show isRows a1 from h.1).1 (show isRows a1 from h.1).2.1 rfl rfl gc_X3_23 (by decide +kernel) ⟨rfl, rfl⟩ dX3_writeTo_5 ⟨by decide, by decide⟩ rfl rfl (Nat.le_of_ble_eq_true rfl) ?_
  intro M5 hN
  replace h := hN
  clear hN
  exact hR _ _ _ dX3_writeTo_8 h
def wC_J7_fill_53178_5 (a1 : Nat) (a2 : Int) (k : gSt → Prop) (r5 : Int → Int → gSt → Prop) (X5_20 : gSt → Prop) (v2 : Int) (v3 : Int) (M : gSt) : Prop :=

  (wrap v3 ≤ wrap v2 →
    X5_20  M) ∧
  (wrap v2 < wrap v3 →
    ((0 : Int) ≤ v2 ∧ v2 < lenC a1) ∧ (∀ M13 : gSt, M13 = wr M a1 v2 a2 → (r5 (v2 + 1) v3 M13)))
def wL_J7_fill_53178_5 (a1 : Nat) (a2 : Int) (k : gSt → Prop)  (X5_20 : gSt → Prop) : Nat → Int → Int → gSt → Prop
  | 0 => fun _ _ _ => False
  | n + 1 => fun v2 v3 M => wC_J7_fill_53178_5 a1 a2 k  (wL_J7_fill_53178_5 a1 a2 k  X5_20 n) X5_20 v2 v3 M
def w_J7_fill_53178 (a1 : Nat) (a2 : Int) (M : gSt) (k : gSt → Prop) : Prop :=
  (isAr a1) ∧ (∀ x3_4 : Int, x3_4 = (lenC a1 : Int) → (∃ n, wL_J7_fill_53178_5 a1 a2 k  (fun  M5 =>
    k M5) n 0 x3_4 M))
set_option maxHeartbeats 4000000 in
set_option maxRecDepth 100000 in
theorem m_J7_fill_53178 {l : Launch} {D : va_G} {tys : List (ClassId × FieldType)} {ad : Nat → Nat} {cI cS : ClassId} {a1 : Nat} {a2 : Int} {M : gSt} {k : gSt → Prop} (h : w_J7_fill_53178 a1 a2 M k) : MOv l yJ7_fill_53178 cJ7_fill_53178 4 (rmR 0 0) D clC ((cI, .int) :: (cS, .object "OldBronze$Sheet") :: tys) (wC ad cI cS) tC zC [.ref (ad a1), iv a2] M k := by
  refine mov_intro (by decide +kernel) (Nat.le_of_ble_eq_true rfl) wc_320 ?_
  intro p e s m args below meth c A Q C hR
  unfold w_J7_fill_53178 at h
  obtain ⟨h_a1, h⟩ := h
  have pC5 : ∀ (r5 : Int → Int → gSt → Prop) (X5_20 : gSt → Prop) (hr5 : ∀ (v2 : Int) (v3 : Int) (M : gSt), r5 v2 v3 M → gG p l e (rmR 0 0) s m args below meth c Q D clC A (wC ad cI cS) 4 5 [(0, .ref (ad a1)), (1, iv a2), (2, iv v2), (3, iv v3)] [] M) (hX5_20 : ∀  (M : gSt), X5_20  M → gG p l e (rmR 0 0) s m args below meth c Q D clC A (wC ad cI cS) 4 20 [] [] M) (v2 : Int) (v3 : Int) (M : gSt), wC_J7_fill_53178_5 a1 a2 k r5 X5_20 v2 v3 M → gG p l e (rmR 0 0) s m args below meth c Q D clC A (wC ad cI cS) 4 5 [(0, .ref (ad a1)), (1, iv a2), (2, iv v2), (3, iv v3)] [] M := by
    intro r5 X5_20 hr5 hX5_20 v2 v3 M h
    unfold wC_J7_fill_53178_5 at h
    refine g_iload_n C dJ7_fill_53178_5 rfl ?_
    refine g_iload_n C dJ7_fill_53178_6 rfl ?_
    refine g_icmp_ge C 20 dJ7_fill_53178_7 (by decide) (fun hc => ?_) (fun hc => ?_)
    · replace h := h.1 hc
      refine g_locals (lv' := []) rfl ?_
      exact hX5_20  _ h
    · replace h := h.2 hc
      refine g_aload_n C dJ7_fill_53178_10 rfl ?_
      refine g_iload_n C dJ7_fill_53178_11 rfl ?_
      refine g_iload_n C dJ7_fill_53178_12 rfl ?_
      refine g_iast C dJ7_fill_53178_13 h_a1.1 h_a1.2 h.1 ?_
      replace h := h.2
      refine g_memname (fun M13 hM13 => ?_)
      replace h := h M13 hM13
      refine g_iinc C dJ7_fill_53178_14 rfl (by decide) rfl ?_
      refine g_locals (lv' := [(0, .ref (ad a1)), (1, iv a2), (2, iv (v2 + 1)), (3, iv v3)]) rfl ?_
      refine g_goto C 5 dJ7_fill_53178_17 (by decide) ?_
      refine g_locals (lv' := [(0, .ref (ad a1)), (1, iv a2), (2, iv (v2 + 1)), (3, iv v3)]) rfl ?_
      exact hr5 _ _  _ h
  have pL5 : ∀  (X5_20 : gSt → Prop) (hX5_20 : ∀  (M : gSt), X5_20  M → gG p l e (rmR 0 0) s m args below meth c Q D clC A (wC ad cI cS) 4 20 [] [] M) (n : Nat) (v2 : Int) (v3 : Int) (M : gSt), wL_J7_fill_53178_5 a1 a2 k  X5_20 n v2 v3 M → gG p l e (rmR 0 0) s m args below meth c Q D clC A (wC ad cI cS) 4 5 [(0, .ref (ad a1)), (1, iv a2), (2, iv v2), (3, iv v3)] [] M := by
    intro  X5_20 hX5_20 n
    induction n with
    | zero => intro v2 v3 M h; exact h.elim
    | succ n ih =>
      intro v2 v3 M h
      exact pC5  (wL_J7_fill_53178_5 a1 a2 k  X5_20 n) X5_20 ih hX5_20 v2 v3 M h
  refine g_locals (lv' := [(0, .ref (ad a1)), (1, iv a2)]) rfl ?_
  refine g_iconst C dJ7_fill_53178_0 ?_
  refine g_istore_n C dJ7_fill_53178_1 (by decide) rfl ?_
  refine g_locals (lv' := [(0, .ref (ad a1)), (1, iv a2), (2, iv 0)]) rfl ?_
  refine g_aload_n C dJ7_fill_53178_2 rfl ?_
  refine g_alen C dJ7_fill_53178_3 h_a1.1 h_a1.2.1 ?_
  refine g_name (fun x3_4 hx3_4 => ?_)
  replace h := h x3_4 hx3_4
  refine g_istore_n C dJ7_fill_53178_4 (by decide) rfl ?_
  refine g_locals (lv' := [(0, .ref (ad a1)), (1, iv a2), (2, iv 0), (3, iv x3_4)]) rfl ?_
  refine g_locals (lv' := [(0, .ref (ad a1)), (1, iv a2), (2, iv 0), (3, iv x3_4)]) rfl ?_
  obtain ⟨n, h⟩ := h
  refine pL5 _ ?_ n _ _ _ h
  · intro  M5 hN
    replace h := hN
    clear hN
    exact hR _ _ _ dJ7_fill_53178_20 h
def w_X5_begin (o : Nat) (a1 : Int) (a2 : Int) (M : gSt) (k : gSt → Prop) : Prop :=
  (isSheet o) ∧ (∀ M2 : gSt, M2 = wr M o 1 a1 → (∀ M16 : gSt, M16 = wr M2 o 2 (xmax 0 (xmin 24 a2)) → (w_J7_fill_53178 (o + 1) 0 M16 (fun M24 => k M24))))
set_option maxHeartbeats 4000000 in
set_option maxRecDepth 100000 in
theorem m_X5_begin {l : Launch} {D : va_G} {tys : List (ClassId × FieldType)} {ad : Nat → Nat} {cI cS : ClassId} {o : Nat} {a1 : Int} {a2 : Int} {M : gSt} {k : gSt → Prop} (h : w_X5_begin o a1 a2 M k) : MOv l yX5_begin cX5_begin 3 (rmR 1 40) D clC ((cI, .int) :: (cS, .object "OldBronze$Sheet") :: tys) (wC ad cI cS) tC zC [.ref (ad o), iv a1, iv a2] M k := by
  refine mov_intro (by decide +kernel) (Nat.le_of_ble_eq_true rfl) wc_321 ?_
  intro p e s m args below meth c A Q C hR
  unfold w_X5_begin at h
  obtain ⟨h_o, h⟩ := h
  refine g_locals (lv' := [(0, .ref (ad o)), (1, iv a1), (2, iv a2)]) rfl ?_
  refine g_aload_n C dX5_begin_0 rfl ?_
  refine g_iload_n C dX5_begin_1 rfl ?_
  refine cp_X5_15 C h_o dX5_begin_2 ?_
  refine g_memname (fun M2 hM2 => ?_)
  replace h := h M2 hM2
  refine g_aload_n C dX5_begin_5 rfl ?_
  refine g_iconst C dX5_begin_6 ?_
  refine g_bipush C dX5_begin_7 rfl ?_
  refine g_iload_n C dX5_begin_9 rfl ?_
  refine g_mmin C (st := [iv 0, .ref (ad o)]) dX5_begin_10 wc_323 wc_61 wc_62 wc_63 (by decide) (Nat.le_of_ble_eq_true rfl) ?_
  refine g_mmax C (st := [.ref (ad o)]) dX5_begin_13 wc_324 wc_91 wc_62 wc_92 (by decide) (Nat.le_of_ble_eq_true rfl) ?_
  refine cp_X5_28 C h_o dX5_begin_16 ?_
  refine g_memname (fun M16 hM16 => ?_)
  replace h := h M16 hM16
  refine g_aload_n C dX5_begin_19 rfl ?_
  refine cf_X5_9 C h_o dX5_begin_20 ?_
  refine g_iconst C dX5_begin_23 ?_
  refine g_callSv C (nargs := 2) (st := []) (m_J7_fill_53178 h) gc_X5_31 (by decide +kernel) ⟨rfl, rfl⟩ dX5_begin_24 ⟨by decide, by decide⟩ rfl rfl (Nat.le_of_ble_eq_true rfl) ?_
  intro M24 hN
  replace h := hN
  clear hN
  exact hR _ _ _ dX5_begin_27 h
def w_X5_isMissing (o : Nat) (M : gSt) (k : Int → gSt → Prop) : Prop :=
  (isSheet o) ∧ (
  (¬ wrap (M o 1) = 0 →
    k 0 M) ∧
  (wrap (M o 1) = 0 →
    k 1 M))
set_option maxHeartbeats 4000000 in
set_option maxRecDepth 100000 in
theorem m_X5_isMissing {l : Launch} {D : va_G} {tys : List (ClassId × FieldType)} {ad : Nat → Nat} {cI cS : ClassId} {o : Nat} {M : gSt} {k : Int → gSt → Prop} (h : w_X5_isMissing o M k) : MOi l yX5_isMissing cX5_isMissing 1 .boolean (rmR 0 0) D clC ((cI, .int) :: (cS, .object "OldBronze$Sheet") :: tys) (wC ad cI cS) tC zC [.ref (ad o)] M k := by
  refine moi_intro (by decide +kernel) (Nat.le_of_ble_eq_true rfl) wc_329 ?_
  intro p e s m args below meth c A Q C hR
  unfold w_X5_isMissing at h
  obtain ⟨h_o, h⟩ := h
  refine g_locals (lv' := [(0, .ref (ad o))]) rfl ?_
  refine g_aload_n C dX5_isMissing_0 rfl ?_
  refine cf_X5_15 C h_o dX5_isMissing_1 ?_
  refine g_if_ne C 11 dX5_isMissing_4 (by decide) (fun hc => ?_) (fun hc => ?_)
  · replace h := h.1 hc
    refine g_iconst C dX5_isMissing_11 ?_
    exact hR _ _ _ _ dX5_isMissing_12 rfl h
  · replace h := h.2 hc
    refine g_iconst C dX5_isMissing_7 ?_
    refine g_goto C 12 dX5_isMissing_8 (by decide) ?_
    exact hR _ _ _ _ dX5_isMissing_12 rfl h
def w_X5_isLike (o : Nat) (a1 : Nat) (M : gSt) (k : Int → gSt → Prop) : Prop :=
  (isSheet o) ∧ ((isSheet a1) ∧ (
  (¬ wrap (M o 1) = wrap (M a1 1) →
    k 0 M) ∧
  (wrap (M o 1) = wrap (M a1 1) →
    k 1 M)))
set_option maxHeartbeats 4000000 in
set_option maxRecDepth 100000 in
theorem m_X5_isLike {l : Launch} {D : va_G} {tys : List (ClassId × FieldType)} {ad : Nat → Nat} {cI cS : ClassId} {o : Nat} {a1 : Nat} {M : gSt} {k : Int → gSt → Prop} (h : w_X5_isLike o a1 M k) : MOi l yX5_isLike cX5_isLike 2 .boolean (rmR 0 0) D clC ((cI, .int) :: (cS, .object "OldBronze$Sheet") :: tys) (wC ad cI cS) tC zC [.ref (ad o), .ref (ad a1)] M k := by
  refine moi_intro (by decide +kernel) (Nat.le_of_ble_eq_true rfl) wc_330 ?_
  intro p e s m args below meth c A Q C hR
  unfold w_X5_isLike at h
  obtain ⟨h_o, h_a1, h⟩ := h
  refine g_locals (lv' := [(0, .ref (ad o)), (1, .ref (ad a1))]) rfl ?_
  refine g_aload_n C dX5_isLike_0 rfl ?_
  refine cf_X5_15 C h_o dX5_isLike_1 ?_
  refine g_aload_n C dX5_isLike_4 rfl ?_
  refine cf_X5_15 C h_a1 dX5_isLike_5 ?_
  refine g_icmp_ne C 15 dX5_isLike_8 (by decide) (fun hc => ?_) (fun hc => ?_)
  · replace h := h.1 hc
    refine g_iconst C dX5_isLike_15 ?_
    exact hR _ _ _ _ dX5_isLike_16 rfl h
  · replace h := h.2 hc
    refine g_iconst C dX5_isLike_11 ?_
    refine g_goto C 16 dX5_isLike_12 (by decide) ?_
    exact hR _ _ _ _ dX5_isLike_16 rfl h
def w_X5_size (o : Nat) (M : gSt) (k : Int → gSt → Prop) : Prop :=
  (isSheet o) ∧ (k (M o 2) M)
set_option maxHeartbeats 4000000 in
set_option maxRecDepth 100000 in
theorem m_X5_size {l : Launch} {D : va_G} {tys : List (ClassId × FieldType)} {ad : Nat → Nat} {cI cS : ClassId} {o : Nat} {M : gSt} {k : Int → gSt → Prop} (h : w_X5_size o M k) : MOi l yX5_size cX5_size 1 .int (rmR 0 0) D clC ((cI, .int) :: (cS, .object "OldBronze$Sheet") :: tys) (wC ad cI cS) tC zC [.ref (ad o)] M k := by
  refine moi_intro (by decide +kernel) (Nat.le_of_ble_eq_true rfl) wc_331 ?_
  intro p e s m args below meth c A Q C hR
  unfold w_X5_size at h
  obtain ⟨h_o, h⟩ := h
  refine g_locals (lv' := [(0, .ref (ad o))]) rfl ?_
  refine g_aload_n C dX5_size_0 rfl ?_
  refine cf_X5_28 C h_o dX5_size_1 ?_
  exact hR _ _ _ _ dX5_size_4 rfl h
def w_X5_has (o : Nat) (a1 : Int) (M : gSt) (k : Int → gSt → Prop) : Prop :=
  (isSheet o) ∧ (
  (wrap a1 < 0 →
    k 0 M) ∧
  (0 ≤ wrap a1 →

    (wrap (M o 2) ≤ wrap a1 →
      k 0 M) ∧
    (wrap a1 < wrap (M o 2) →
      k 1 M)))
set_option maxHeartbeats 4000000 in
set_option maxRecDepth 100000 in
theorem m_X5_has {l : Launch} {D : va_G} {tys : List (ClassId × FieldType)} {ad : Nat → Nat} {cI cS : ClassId} {o : Nat} {a1 : Int} {M : gSt} {k : Int → gSt → Prop} (h : w_X5_has o a1 M k) : MOi l yX5_has cX5_has 2 .boolean (rmR 0 0) D clC ((cI, .int) :: (cS, .object "OldBronze$Sheet") :: tys) (wC ad cI cS) tC zC [.ref (ad o), iv a1] M k := by
  refine moi_intro (by decide +kernel) (Nat.le_of_ble_eq_true rfl) wc_332 ?_
  intro p e s m args below meth c A Q C hR
  unfold w_X5_has at h
  obtain ⟨h_o, h⟩ := h
  refine g_locals (lv' := [(0, .ref (ad o)), (1, iv a1)]) rfl ?_
  refine g_iload_n C dX5_has_0 rfl ?_
  refine g_if_lt C 16 dX5_has_1 (by decide) (fun hc => ?_) (fun hc => ?_)
  · replace h := h.1 hc
    refine g_iconst C dX5_has_16 ?_
    exact hR _ _ _ _ dX5_has_17 rfl h
  · replace h := h.2 hc
    refine g_iload_n C dX5_has_4 rfl ?_
    refine g_aload_n C dX5_has_5 rfl ?_
    refine cf_X5_28 C h_o dX5_has_6 ?_
    refine g_icmp_ge C 16 dX5_has_9 (by decide) (fun hc => ?_) (fun hc => ?_)
    · replace h := h.1 hc
      refine g_iconst C dX5_has_16 ?_
      exact hR _ _ _ _ dX5_has_17 rfl h
    · replace h := h.2 hc
      refine g_iconst C dX5_has_12 ?_
      refine g_goto C 17 dX5_has_13 (by decide) ?_
      exact hR _ _ _ _ dX5_has_17 rfl h
def w_X5_hasRange (o : Nat) (a1 : Int) (a2 : Int) (M : gSt) (k : Int → gSt → Prop) : Prop :=
  (isSheet o) ∧ (∀ x3_12 : Int, x3_12 = xmin (M o 2) (lenC (o + 1) : Int) → (
  (wrap a1 < 0 →
    k 0 M) ∧
  (0 ≤ wrap a1 →

    (wrap a2 < 0 →
      k 0 M) ∧
    (0 ≤ wrap a2 →

      (wrap x3_12 < wrap a2 →
        k 0 M) ∧
      (wrap a2 ≤ wrap x3_12 →

        (wrap (x3_12 - a2) < wrap a1 →
          k 0 M) ∧
        (wrap a1 ≤ wrap (x3_12 - a2) →
          k 1 M))))))
set_option maxHeartbeats 4000000 in
set_option maxRecDepth 100000 in
theorem m_X5_hasRange {l : Launch} {D : va_G} {tys : List (ClassId × FieldType)} {ad : Nat → Nat} {cI cS : ClassId} {o : Nat} {a1 : Int} {a2 : Int} {M : gSt} {k : Int → gSt → Prop} (h : w_X5_hasRange o a1 a2 M k) : MOi l yX5_hasRange cX5_hasRange 4 .boolean (rmR 1 40) D clC ((cI, .int) :: (cS, .object "OldBronze$Sheet") :: tys) (wC ad cI cS) tC zC [.ref (ad o), iv a1, iv a2] M k := by
  refine moi_intro (by decide +kernel) (Nat.le_of_ble_eq_true rfl) wc_333 ?_
  intro p e s m args below meth c A Q C hR
  unfold w_X5_hasRange at h
  obtain ⟨h_o, h⟩ := h
  refine g_locals (lv' := [(0, .ref (ad o)), (1, iv a1), (2, iv a2)]) rfl ?_
  refine g_aload_n C dX5_hasRange_0 rfl ?_
  refine cf_X5_28 C h_o dX5_hasRange_1 ?_
  refine g_aload_n C dX5_hasRange_4 rfl ?_
  refine cf_X5_9 C h_o dX5_hasRange_5 ?_
  refine g_alen C dX5_hasRange_8 h_o.2.2.1 h_o.2.2.2.1 ?_
  refine g_mmin C (st := []) dX5_hasRange_9 wc_323 wc_61 wc_62 wc_63 (by decide) (Nat.le_of_ble_eq_true rfl) ?_
  refine g_name (fun x3_12 hx3_12 => ?_)
  replace h := h x3_12 hx3_12
  refine g_istore_n C dX5_hasRange_12 (by decide) rfl ?_
  refine g_locals (lv' := [(0, .ref (ad o)), (1, iv a1), (2, iv a2), (3, iv x3_12)]) rfl ?_
  refine g_iload_n C dX5_hasRange_13 rfl ?_
  refine g_if_lt C 37 dX5_hasRange_14 (by decide) (fun hc => ?_) (fun hc => ?_)
  · replace h := h.1 hc
    refine g_iconst C dX5_hasRange_37 ?_
    exact hR _ _ _ _ dX5_hasRange_38 rfl h
  · replace h := h.2 hc
    refine g_iload_n C dX5_hasRange_17 rfl ?_
    refine g_if_lt C 37 dX5_hasRange_18 (by decide) (fun hc => ?_) (fun hc => ?_)
    · replace h := h.1 hc
      refine g_iconst C dX5_hasRange_37 ?_
      exact hR _ _ _ _ dX5_hasRange_38 rfl h
    · replace h := h.2 hc
      refine g_iload_n C dX5_hasRange_21 rfl ?_
      refine g_iload_n C dX5_hasRange_22 rfl ?_
      refine g_icmp_gt C 37 dX5_hasRange_23 (by decide) (fun hc => ?_) (fun hc => ?_)
      · replace h := h.1 hc
        refine g_iconst C dX5_hasRange_37 ?_
        exact hR _ _ _ _ dX5_hasRange_38 rfl h
      · replace h := h.2 hc
        refine g_iload_n C dX5_hasRange_26 rfl ?_
        refine g_iload_n C dX5_hasRange_27 rfl ?_
        refine g_iload_n C dX5_hasRange_28 rfl ?_
        refine g_isub C dX5_hasRange_29 ?_
        refine g_icmp_gt C 37 dX5_hasRange_30 (by decide) (fun hc => ?_) (fun hc => ?_)
        · replace h := h.1 hc
          refine g_iconst C dX5_hasRange_37 ?_
          exact hR _ _ _ _ dX5_hasRange_38 rfl h
        · replace h := h.2 hc
          refine g_iconst C dX5_hasRange_33 ?_
          refine g_goto C 38 dX5_hasRange_34 (by decide) ?_
          exact hR _ _ _ _ dX5_hasRange_38 rfl h
def w_X5_at (o : Nat) (a1 : Int) (M : gSt) (k : Int → gSt → Prop) : Prop :=
  (isSheet o) ∧ (w_X5_has o a1 M (fun r2c M2 => 
  (wrap r2c = 0 →
    k 0 M2) ∧
  (¬ wrap r2c = 0 →

    (wrap (lenC (o + 1) : Int) ≤ wrap a1 →
      k 0 M2) ∧
    (wrap a1 < wrap (lenC (o + 1) : Int) →
      ((0 : Int) ≤ a1 ∧ a1 < lenC (o + 1)) ∧ (k (M2 (o + 1) a1) M2)))))
set_option maxHeartbeats 4000000 in
set_option maxRecDepth 100000 in
theorem m_X5_at {l : Launch} {D : va_G} {tys : List (ClassId × FieldType)} {ad : Nat → Nat} {cI cS : ClassId} {o : Nat} {a1 : Int} {M : gSt} {k : Int → gSt → Prop} (h : w_X5_at o a1 M k) : MOi l yX5_at cX5_at 2 .int (rmR 1 21) D clC ((cI, .int) :: (cS, .object "OldBronze$Sheet") :: tys) (wC ad cI cS) tC zC [.ref (ad o), iv a1] M k := by
  refine moi_intro (by decide +kernel) (Nat.le_of_ble_eq_true rfl) wc_334 ?_
  intro p e s m args below meth c A Q C hR
  unfold w_X5_at at h
  obtain ⟨h_o, h⟩ := h
  refine g_locals (lv' := [(0, .ref (ad o)), (1, iv a1)]) rfl ?_
  refine g_aload_n C dX5_at_0 rfl ?_
  refine g_iload_n C dX5_at_1 rfl ?_
  refine g_callVi C (nargs := 1) (o := o) (st := []) (m_X5_has h) (show isSheet o from h.1).1 (show isSheet o from h.1).2.1 rfl rfl gc_X5_37 (by decide +kernel) ⟨rfl, rfl⟩ dX5_at_2 ⟨by decide, by decide⟩ rfl rfl (Nat.le_of_ble_eq_true rfl) ?_
  intro r2c M2 hN
  replace h := hN
  clear hN
  refine g_if_eq C 26 dX5_at_5 (by decide) (fun hc => ?_) (fun hc => ?_)
  · replace h := h.1 hc
    refine g_iconst C dX5_at_26 ?_
    exact hR _ _ _ _ dX5_at_27 rfl h
  · replace h := h.2 hc
    refine g_iload_n C dX5_at_8 rfl ?_
    refine g_aload_n C dX5_at_9 rfl ?_
    refine cf_X5_9 C h_o dX5_at_10 ?_
    refine g_alen C dX5_at_13 h_o.2.2.1 h_o.2.2.2.1 ?_
    refine g_icmp_ge C 26 dX5_at_14 (by decide) (fun hc => ?_) (fun hc => ?_)
    · replace h := h.1 hc
      refine g_iconst C dX5_at_26 ?_
      exact hR _ _ _ _ dX5_at_27 rfl h
    · replace h := h.2 hc
      refine g_aload_n C dX5_at_17 rfl ?_
      refine cf_X5_9 C h_o dX5_at_18 ?_
      refine g_iload_n C dX5_at_21 rfl ?_
      refine g_iald C dX5_at_22 h_o.2.2.1 h_o.2.2.2 h.1 ?_
      replace h := h.2
      refine g_goto C 27 dX5_at_23 (by decide) ?_
      exact hR _ _ _ _ dX5_at_27 rfl h
def wB_X5_write_51 (o : Nat) (a1 : Int) (a2 : Int) (k : gSt → Prop)  (s0 : Int) (s1 : Int) (M : gSt) : Prop :=
((0 : Int) ≤ s1 ∧ s1 < lenC (o + 1)) ∧ (∀ M51 : gSt, M51 = wr M (o + 1) s1 s0 → (k M51))
def w_X5_write (o : Nat) (a1 : Int) (a2 : Int) (M : gSt) (k : gSt → Prop) : Prop :=
  (isSheet o) ∧ (w_X5_has o a1 M (fun r2c M2 => 
  (wrap r2c = 0 →
    k M2) ∧
  (¬ wrap r2c = 0 →

    (wrap (lenC (o + 1) : Int) ≤ wrap a1 →
      k M2) ∧
    (wrap a1 < wrap (lenC (o + 1) : Int) →

      (¬ wrap (M2 o 1) = 8 →

        (¬ wrap (M2 o 1) = 16 →
          wB_X5_write_51 o a1 a2 k  a2 a1 M2) ∧
        (wrap (M2 o 1) = 16 →
          wB_X5_write_51 o a1 a2 k  ((Int32.ofInt a2).toInt16.toInt32.toInt) a1 M2)) ∧
      (wrap (M2 o 1) = 8 →
        wB_X5_write_51 o a1 a2 k  ((Int32.ofInt a2).toInt8.toInt32.toInt) a1 M2)))))
set_option maxHeartbeats 4000000 in
set_option maxRecDepth 100000 in
theorem m_X5_write {l : Launch} {D : va_G} {tys : List (ClassId × FieldType)} {ad : Nat → Nat} {cI cS : ClassId} {o : Nat} {a1 : Int} {a2 : Int} {M : gSt} {k : gSt → Prop} (h : w_X5_write o a1 a2 M k) : MOv l yX5_write cX5_write 3 (rmR 1 21) D clC ((cI, .int) :: (cS, .object "OldBronze$Sheet") :: tys) (wC ad cI cS) tC zC [.ref (ad o), iv a1, iv a2] M k := by
  refine mov_intro (by decide +kernel) (Nat.le_of_ble_eq_true rfl) wc_339 ?_
  intro p e s m args below meth c A Q C hR
  unfold w_X5_write at h
  obtain ⟨h_o, h⟩ := h
  have pB51 : ∀   (s0 : Int) (s1 : Int) (M : gSt), wB_X5_write_51 o a1 a2 k  s0 s1 M → gG p l e (rmR 1 21) s m args below meth c Q D clC A (wC ad cI cS) 3 51 [] [iv s0, iv s1, .ref (ad (o + 1))] M := by
    intro   s0 s1 M h
    unfold wB_X5_write_51 at h
    refine g_iast C dX5_write_51 h_o.2.2.1 h_o.2.2.2 h.1 ?_
    replace h := h.2
    refine g_memname (fun M51 hM51 => ?_)
    replace h := h M51 hM51
    exact hR _ _ _ dX5_write_52 h
  refine g_locals (lv' := [(0, .ref (ad o)), (1, iv a1), (2, iv a2)]) rfl ?_
  refine g_aload_n C dX5_write_0 rfl ?_
  refine g_iload_n C dX5_write_1 rfl ?_
  refine g_callVi C (nargs := 1) (o := o) (st := []) (m_X5_has h) (show isSheet o from h.1).1 (show isSheet o from h.1).2.1 rfl rfl gc_X5_37 (by decide +kernel) ⟨rfl, rfl⟩ dX5_write_2 ⟨by decide, by decide⟩ rfl rfl (Nat.le_of_ble_eq_true rfl) ?_
  intro r2c M2 hN
  replace h := hN
  clear hN
  refine g_if_eq C 52 dX5_write_5 (by decide) (fun hc => ?_) (fun hc => ?_)
  · replace h := h.1 hc
    exact hR _ _ _ dX5_write_52 h
  · replace h := h.2 hc
    refine g_iload_n C dX5_write_8 rfl ?_
    refine g_aload_n C dX5_write_9 rfl ?_
    refine cf_X5_9 C h_o dX5_write_10 ?_
    refine g_alen C dX5_write_13 h_o.2.2.1 h_o.2.2.2.1 ?_
    refine g_icmp_ge C 52 dX5_write_14 (by decide) (fun hc => ?_) (fun hc => ?_)
    · replace h := h.1 hc
      exact hR _ _ _ dX5_write_52 h
    · replace h := h.2 hc
      refine g_aload_n C dX5_write_17 rfl ?_
      refine cf_X5_9 C h_o dX5_write_18 ?_
      refine g_iload_n C dX5_write_21 rfl ?_
      refine g_aload_n C dX5_write_22 rfl ?_
      refine cf_X5_15 C h_o dX5_write_23 ?_
      refine g_bipush C dX5_write_26 rfl ?_
      refine g_icmp_ne C 36 dX5_write_28 (by decide) (fun hc => ?_) (fun hc => ?_)
      · replace h := h.1 hc
        refine g_aload_n C dX5_write_36 rfl ?_
        refine cf_X5_15 C h_o dX5_write_37 ?_
        refine g_bipush C dX5_write_40 rfl ?_
        refine g_icmp_ne C 50 dX5_write_42 (by decide) (fun hc => ?_) (fun hc => ?_)
        · replace h := h.1 hc
          refine g_iload_n C dX5_write_50 rfl ?_
          refine g_locals (lv' := []) rfl ?_
          exact pB51 _ _ _ h
        · replace h := h.2 hc
          refine g_iload_n C dX5_write_45 rfl ?_
          refine g_i2s C dX5_write_46 ?_
          refine g_goto C 51 dX5_write_47 (by decide) ?_
          refine g_locals (lv' := []) rfl ?_
          exact pB51 _ _ _ h
      · replace h := h.2 hc
        refine g_iload_n C dX5_write_31 rfl ?_
        refine g_i2b C dX5_write_32 ?_
        refine g_goto C 51 dX5_write_33 (by decide) ?_
        refine g_locals (lv' := []) rfl ?_
        exact pB51 _ _ _ h
def w_X5_copyRange (o : Nat) (a1 : Int) (a2 : Nat) (a3 : Int) (a4 : Int) (M : gSt) (k : gSt → Prop) : Prop :=
  (isSheet o) ∧ ((isSheet a2) ∧ (w_X5_hasRange o a1 a4 M (fun r4c M4 => 
  (wrap r4c = 0 →
    k M4) ∧
  (¬ wrap r4c = 0 →
    w_X5_hasRange a2 a3 a4 M4 (fun r14c M14 => 
    (wrap r14c = 0 →
      k M14) ∧
    (¬ wrap r14c = 0 →
      ((0 : Int) ≤ a1 ∧ (0 : Int) ≤ a3 ∧ (0 : Int) ≤ a4 ∧ a1 + a4 ≤ lenC (o + 1) ∧ a3 + a4 ≤ lenC (a2 + 1)) ∧ (∀ M32 : gSt, M32 = cpy M14 (o + 1) a1 (a2 + 1) a3 a4 → (k M32))))))))
set_option maxHeartbeats 4000000 in
set_option maxRecDepth 100000 in
theorem m_X5_copyRange {l : Launch} {D : va_G} {tys : List (ClassId × FieldType)} {ad : Nat → Nat} {cI cS : ClassId} {o : Nat} {a1 : Int} {a2 : Nat} {a3 : Int} {a4 : Int} {M : gSt} {k : gSt → Prop} (h : w_X5_copyRange o a1 a2 a3 a4 M k) : MOv l yX5_copyRange cX5_copyRange 5 (rmR 2 63) D clC ((cI, .int) :: (cS, .object "OldBronze$Sheet") :: tys) (wC ad cI cS) tC zC [.ref (ad o), iv a1, .ref (ad a2), iv a3, iv a4] M k := by
  refine mov_intro (by decide +kernel) (Nat.le_of_ble_eq_true rfl) wc_340 ?_
  intro p e s m args below meth c A Q C hR
  unfold w_X5_copyRange at h
  obtain ⟨h_o, h_a2, h⟩ := h
  refine g_locals (lv' := [(0, .ref (ad o)), (1, iv a1), (2, .ref (ad a2)), (3, iv a3), (4, iv a4)]) rfl ?_
  refine g_aload_n C dX5_copyRange_0 rfl ?_
  refine g_iload_n C dX5_copyRange_1 rfl ?_
  refine g_iload C dX5_copyRange_2 rfl ?_
  refine g_callVi C (nargs := 2) (o := o) (st := []) (m_X5_hasRange h) (show isSheet o from h.1).1 (show isSheet o from h.1).2.1 rfl rfl gc_X5_41 (by decide +kernel) ⟨rfl, rfl⟩ dX5_copyRange_4 ⟨by decide, by decide⟩ rfl rfl (Nat.le_of_ble_eq_true rfl) ?_
  intro r4c M4 hN
  replace h := hN
  clear hN
  refine g_if_eq C 35 dX5_copyRange_7 (by decide) (fun hc => ?_) (fun hc => ?_)
  · replace h := h.1 hc
    exact hR _ _ _ dX5_copyRange_35 h
  · replace h := h.2 hc
    refine g_aload_n C dX5_copyRange_10 rfl ?_
    refine g_iload_n C dX5_copyRange_11 rfl ?_
    refine g_iload C dX5_copyRange_12 rfl ?_
    refine g_callVi C (nargs := 2) (o := a2) (st := []) (m_X5_hasRange h) (show isSheet a2 from h.1).1 (show isSheet a2 from h.1).2.1 rfl rfl gc_X5_41 (by decide +kernel) ⟨rfl, rfl⟩ dX5_copyRange_14 ⟨by decide, by decide⟩ rfl rfl (Nat.le_of_ble_eq_true rfl) ?_
    intro r14c M14 hN
    replace h := hN
    clear hN
    refine g_if_eq C 35 dX5_copyRange_17 (by decide) (fun hc => ?_) (fun hc => ?_)
    · replace h := h.1 hc
      exact hR _ _ _ dX5_copyRange_35 h
    · replace h := h.2 hc
      refine g_aload_n C dX5_copyRange_20 rfl ?_
      refine cf_X5_9 C h_o dX5_copyRange_21 ?_
      refine g_iload_n C dX5_copyRange_24 rfl ?_
      refine g_aload_n C dX5_copyRange_25 rfl ?_
      refine cf_X5_9 C h_a2 dX5_copyRange_26 ?_
      refine g_iload_n C dX5_copyRange_29 rfl ?_
      refine g_iload C dX5_copyRange_30 rfl ?_
      refine g_copy C (st := []) dX5_copyRange_32 h_o.2.2.1 h_a2.2.2.1 ⟨h_o.2.2.2.1, h_a2.2.2.2.1, h_o.2.2.2.2, h_a2.2.2.2.2⟩ h.1 wc_341 wc_33 wc_34 wc_35 (by decide) (Nat.le_of_ble_eq_true rfl) ?_
      replace h := h.2
      refine g_memname (fun M32 hM32 => ?_)
      replace h := h M32 hM32
      exact hR _ _ _ dX5_copyRange_35 h
def w_X6_begin (o : Nat) (a1 : Int) (a2 : Int) (a3 : Int) (M : gSt) (k : gSt → Prop) : Prop :=
  (isVoices o) ∧ (w_X4_clear (o + 1) M (fun M4 => ∀ M9 : gSt, M9 = wr M4 o 1 a1 → (∀ M14 : gSt, M14 = wr M9 o 2 a2 → (∀ M19 : gSt, M19 = wr M14 o 3 a3 → (∀ M24 : gSt, M24 = wr M19 o 4 0 → (k M24))))))
set_option maxHeartbeats 4000000 in
set_option maxRecDepth 100000 in
theorem m_X6_begin {l : Launch} {D : va_G} {tys : List (ClassId × FieldType)} {ad : Nat → Nat} {cI cS : ClassId} {o : Nat} {a1 : Int} {a2 : Int} {a3 : Int} {M : gSt} {k : gSt → Prop} (h : w_X6_begin o a1 a2 a3 M k) : MOv l yX6_begin cX6_begin 4 (rmR 1 20) D clC ((cI, .int) :: (cS, .object "OldBronze$Sheet") :: tys) (wC ad cI cS) tC zC [.ref (ad o), iv a1, iv a2, iv a3] M k := by
  refine mov_intro (by decide +kernel) (Nat.le_of_ble_eq_true rfl) wc_350 ?_
  intro p e s m args below meth c A Q C hR
  unfold w_X6_begin at h
  obtain ⟨h_o, h⟩ := h
  refine g_locals (lv' := [(0, .ref (ad o)), (1, iv a1), (2, iv a2), (3, iv a3)]) rfl ?_
  refine g_aload_n C dX6_begin_0 rfl ?_
  refine cf_X6_14 C h_o dX6_begin_1 ?_
  refine g_callVv C (nargs := 0) (o := (o + 1)) (st := []) (m_X4_clear h) (show isRows (o + 1) from h.1).1 (show isRows (o + 1) from h.1).2.1 rfl rfl gc_X6_20 (by decide +kernel) ⟨rfl, rfl⟩ dX6_begin_4 ⟨by decide, by decide⟩ rfl rfl (Nat.le_of_ble_eq_true rfl) ?_
  intro M4 hN
  replace h := hN
  clear hN
  refine g_aload_n C dX6_begin_7 rfl ?_
  refine g_iload_n C dX6_begin_8 rfl ?_
  refine cp_X6_23 C h_o dX6_begin_9 ?_
  refine g_memname (fun M9 hM9 => ?_)
  replace h := h M9 hM9
  refine g_aload_n C dX6_begin_12 rfl ?_
  refine g_iload_n C dX6_begin_13 rfl ?_
  refine cp_X6_27 C h_o dX6_begin_14 ?_
  refine g_memname (fun M14 hM14 => ?_)
  replace h := h M14 hM14
  refine g_aload_n C dX6_begin_17 rfl ?_
  refine g_iload_n C dX6_begin_18 rfl ?_
  refine cp_X6_30 C h_o dX6_begin_19 ?_
  refine g_memname (fun M19 hM19 => ?_)
  replace h := h M19 hM19
  refine g_aload_n C dX6_begin_22 rfl ?_
  refine g_iconst C dX6_begin_23 ?_
  refine cp_X6_33 C h_o dX6_begin_24 ⟨rfl, rfl⟩ ?_
  refine g_memname (fun M24 hM24 => ?_)
  replace h := h M24 hM24
  exact hR _ _ _ dX6_begin_27 h
def w_X6_trace (o : Nat) (M : gSt) (k : Option Nat → gSt → Prop) : Prop :=
  (isVoices o) ∧ (k (some (o + 1)) M)
set_option maxHeartbeats 4000000 in
set_option maxRecDepth 100000 in
theorem m_X6_trace {l : Launch} {D : va_G} {tys : List (ClassId × FieldType)} {ad : Nat → Nat} {cI cS : ClassId} {o : Nat} {M : gSt} {k : Option Nat → gSt → Prop} (h : w_X6_trace o M k) : MOr l yX6_trace cX6_trace 1 (.object "OldBronze$Rows") (rmR 0 0) D clC ((cI, .int) :: (cS, .object "OldBronze$Sheet") :: tys) ad (wC ad cI cS) tC zC [.ref (ad o)] M k := by
  refine mor_intro (by decide +kernel) (Nat.le_of_ble_eq_true rfl) wc_356 (Or.inl ⟨_, rfl⟩) ?_
  intro p e s m args below meth c A Q C hR
  unfold w_X6_trace at h
  obtain ⟨h_o, h⟩ := h
  refine g_locals (lv' := [(0, .ref (ad o))]) rfl ?_
  refine g_aload_n C dX6_trace_0 rfl ?_
  refine cf_X6_14 C h_o dX6_trace_1 ?_
  exact hR _ _ (some (o + 1)) _ _ dX6_trace_4 rfl h
def w_X6_isParted (o : Nat) (M : gSt) (k : Int → gSt → Prop) : Prop :=
  (isVoices o) ∧ ((M o 4 = 0 ∨ M o 4 = 1) ∧ (k (M o 4) M))
set_option maxHeartbeats 4000000 in
set_option maxRecDepth 100000 in
theorem m_X6_isParted {l : Launch} {D : va_G} {tys : List (ClassId × FieldType)} {ad : Nat → Nat} {cI cS : ClassId} {o : Nat} {M : gSt} {k : Int → gSt → Prop} (h : w_X6_isParted o M k) : MOi l yX6_isParted cX6_isParted 1 .boolean (rmR 0 0) D clC ((cI, .int) :: (cS, .object "OldBronze$Sheet") :: tys) (wC ad cI cS) tC zC [.ref (ad o)] M k := by
  refine moi_intro (by decide +kernel) (Nat.le_of_ble_eq_true rfl) wc_357 ?_
  intro p e s m args below meth c A Q C hR
  unfold w_X6_isParted at h
  obtain ⟨h_o, h⟩ := h
  refine g_locals (lv' := [(0, .ref (ad o))]) rfl ?_
  refine g_aload_n C dX6_isParted_0 rfl ?_
  refine cf_X6_33 C h_o dX6_isParted_1 ?_
  exact hR _ _ _ _ dX6_isParted_4 (zn_bool h.1).1 h.2
def w_X6_bodyOf (a1 : Int) (a2 : Int) (M : gSt) (k : Int → gSt → Prop) : Prop :=
  ∀ x2_5 : Int, x2_5 = (a1 * 4) + a2 → (
  (wrap x2_5 < 0 →
    k 0 M) ∧
  (0 ≤ wrap x2_5 →

    (28 ≤ wrap x2_5 →
      k 0 M) ∧
    (wrap x2_5 < 28 →
      (0 ≤ x2_5 ∧ x2_5 < 28) ∧ (k (tb_BODIES x2_5) M))))
set_option maxHeartbeats 4000000 in
set_option maxRecDepth 100000 in
theorem m_X6_bodyOf {l : Launch} {D : va_G} {tys : List (ClassId × FieldType)} {ad : Nat → Nat} {cI cS : ClassId} {a1 : Int} {a2 : Int} {M : gSt} {k : Int → gSt → Prop} (h : w_X6_bodyOf a1 a2 M k) : MOi l yX6_bodyOf cX6_bodyOf 3 .int (rmR 0 0) D clC ((cI, .int) :: (cS, .object "OldBronze$Sheet") :: tys) (wC ad cI cS) tC zC [iv a1, iv a2] M k := by
  refine moi_intro (by decide +kernel) (Nat.le_of_ble_eq_true rfl) wc_358 ?_
  intro p e s m args below meth c A Q C hR
  obtain ⟨⟨⟨tABOVE, hzABOVE, hTABOVE⟩, ⟨tNAMES, hzNAMES, hTNAMES⟩, ⟨tBODIES, hzBODIES, hTBODIES⟩⟩, hzn⟩ := C.2.2.2.2.2.2.2.2.1
  unfold w_X6_bodyOf at h
  refine g_locals (lv' := [(0, iv a1), (1, iv a2)]) rfl ?_
  refine g_iload_n C dX6_bodyOf_0 rfl ?_
  refine g_iconst C dX6_bodyOf_1 ?_
  refine g_imul C dX6_bodyOf_2 ?_
  refine g_iload_n C dX6_bodyOf_3 rfl ?_
  refine g_iadd C dX6_bodyOf_4 ?_
  refine g_name (fun x2_5 hx2_5 => ?_)
  replace h := h x2_5 hx2_5
  refine g_istore_n C dX6_bodyOf_5 (by decide) rfl ?_
  refine g_locals (lv' := [(0, iv a1), (1, iv a2), (2, iv x2_5)]) rfl ?_
  refine g_iload_n C dX6_bodyOf_6 rfl ?_
  refine g_if_lt C 26 dX6_bodyOf_7 (by decide) (fun hc => ?_) (fun hc => ?_)
  · replace h := h.1 hc
    refine g_iconst C dX6_bodyOf_26 ?_
    exact hR _ _ _ _ dX6_bodyOf_27 rfl h
  · replace h := h.2 hc
    refine g_iload_n C dX6_bodyOf_10 rfl ?_
    refine g_getsTN C hzBODIES (zn_15 _ _ C.2.2.2.2.2.2.2.2.1) rfl dX6_bodyOf_11 ?_
    refine g_talen C dX6_bodyOf_14 hTBODIES ?_
    refine g_top (y := 28) rfl ?_
    refine g_icmp_ge C 26 dX6_bodyOf_15 (by decide) (fun hc => ?_) (fun hc => ?_)
    · replace h := h.1 hc
      refine g_iconst C dX6_bodyOf_26 ?_
      exact hR _ _ _ _ dX6_bodyOf_27 rfl h
    · replace h := h.2 hc
      refine g_getsTN C hzBODIES (zn_15 _ _ C.2.2.2.2.2.2.2.2.1) rfl dX6_bodyOf_18 ?_
      refine g_iload_n C dX6_bodyOf_21 rfl ?_
      refine g_tald C dX6_bodyOf_22 hTBODIES (by decide) h.1 ?_
      refine g_top (y := tb_BODIES x2_5) rfl ?_
      replace h := h.2
      refine g_goto C 27 dX6_bodyOf_23 (by decide) ?_
      exact hR _ _ _ _ dX6_bodyOf_27 rfl h
def w_X8_above (a1 : Int) (M : gSt) (k : Int → gSt → Prop) : Prop :=
  
  (wrap a1 < 0 →
    k 0 M) ∧
  (0 ≤ wrap a1 →

    (7 ≤ wrap a1 →
      k 0 M) ∧
    (wrap a1 < 7 →
      (0 ≤ a1 ∧ a1 < 7) ∧ (k (tb_ABOVE a1) M)))
set_option maxHeartbeats 4000000 in
set_option maxRecDepth 100000 in
theorem m_X8_above {l : Launch} {D : va_G} {tys : List (ClassId × FieldType)} {ad : Nat → Nat} {cI cS : ClassId} {a1 : Int} {M : gSt} {k : Int → gSt → Prop} (h : w_X8_above a1 M k) : MOi l yX8_above cX8_above 1 .int (rmR 0 0) D clC ((cI, .int) :: (cS, .object "OldBronze$Sheet") :: tys) (wC ad cI cS) tC zC [iv a1] M k := by
  refine moi_intro (by decide +kernel) (Nat.le_of_ble_eq_true rfl) wc_359 ?_
  intro p e s m args below meth c A Q C hR
  obtain ⟨⟨⟨tABOVE, hzABOVE, hTABOVE⟩, ⟨tNAMES, hzNAMES, hTNAMES⟩, ⟨tBODIES, hzBODIES, hTBODIES⟩⟩, hzn⟩ := C.2.2.2.2.2.2.2.2.1
  unfold w_X8_above at h
  refine g_locals (lv' := [(0, iv a1)]) rfl ?_
  refine g_iload_n C dX8_above_0 rfl ?_
  refine g_if_lt C 20 dX8_above_1 (by decide) (fun hc => ?_) (fun hc => ?_)
  · replace h := h.1 hc
    refine g_iconst C dX8_above_20 ?_
    exact hR _ _ _ _ dX8_above_21 rfl h
  · replace h := h.2 hc
    refine g_iload_n C dX8_above_4 rfl ?_
    refine g_getsT C hzABOVE wc_360 rfl dX8_above_5 ?_
    refine g_talen C dX8_above_8 hTABOVE ?_
    refine g_top (y := 7) rfl ?_
    refine g_icmp_ge C 20 dX8_above_9 (by decide) (fun hc => ?_) (fun hc => ?_)
    · replace h := h.1 hc
      refine g_iconst C dX8_above_20 ?_
      exact hR _ _ _ _ dX8_above_21 rfl h
    · replace h := h.2 hc
      refine g_getsT C hzABOVE wc_360 rfl dX8_above_12 ?_
      refine g_iload_n C dX8_above_15 rfl ?_
      refine g_tald C dX8_above_16 hTABOVE (by decide) h.1 ?_
      refine g_top (y := tb_ABOVE a1) rfl ?_
      replace h := h.2
      refine g_goto C 21 dX8_above_17 (by decide) ?_
      exact hR _ _ _ _ dX8_above_21 rfl h
def w_X6_part (o : Nat) (a1 : Int) (M : gSt) (k : Int → gSt → Prop) : Prop :=
  (isVoices o) ∧ (∀ x2_9 : Int, x2_9 = (M o 3) - (M o 2) → (
  (¬ wrap x2_9 = 0 →
    (wrap x2_9 ≠ 0) ∧ (k (Int.tdiv (wrap a1) (wrap x2_9)) M)) ∧
  (wrap x2_9 = 0 →
    ∀ M16 : gSt, M16 = wr M o 4 1 → (k 0 M16))))
set_option maxHeartbeats 4000000 in
set_option maxRecDepth 100000 in
theorem m_X6_part {l : Launch} {D : va_G} {tys : List (ClassId × FieldType)} {ad : Nat → Nat} {cI cS : ClassId} {o : Nat} {a1 : Int} {M : gSt} {k : Int → gSt → Prop} (h : w_X6_part o a1 M k) : MOi l yX6_part cX6_part 3 .int (rmR 0 0) D clC ((cI, .int) :: (cS, .object "OldBronze$Sheet") :: tys) (wC ad cI cS) tC zC [.ref (ad o), iv a1] M k := by
  refine moi_intro (by decide +kernel) (Nat.le_of_ble_eq_true rfl) wc_361 ?_
  intro p e s m args below meth c A Q C hR
  unfold w_X6_part at h
  obtain ⟨h_o, h⟩ := h
  refine g_locals (lv' := [(0, .ref (ad o)), (1, iv a1)]) rfl ?_
  refine g_aload_n C dX6_part_0 rfl ?_
  refine cf_X6_30 C h_o dX6_part_1 ?_
  refine g_aload_n C dX6_part_4 rfl ?_
  refine cf_X6_27 C h_o dX6_part_5 ?_
  refine g_isub C dX6_part_8 ?_
  refine g_name (fun x2_9 hx2_9 => ?_)
  replace h := h x2_9 hx2_9
  refine g_istore_n C dX6_part_9 (by decide) rfl ?_
  refine g_locals (lv' := [(0, .ref (ad o)), (1, iv a1), (2, iv x2_9)]) rfl ?_
  refine g_iload_n C dX6_part_10 rfl ?_
  refine g_if_ne C 21 dX6_part_11 (by decide) (fun hc => ?_) (fun hc => ?_)
  · replace h := h.1 hc
    refine g_iload_n C dX6_part_21 rfl ?_
    refine g_iload_n C dX6_part_22 rfl ?_
    refine g_idiv C dX6_part_23 h.1 ?_
    replace h := h.2
    refine g_top (y := Int.tdiv (wrap a1) (wrap x2_9)) rfl ?_
    exact hR _ _ _ _ dX6_part_24 rfl h
  · replace h := h.2 hc
    refine g_aload_n C dX6_part_14 rfl ?_
    refine g_iconst C dX6_part_15 ?_
    refine cp_X6_33 C h_o dX6_part_16 ⟨rfl, rfl⟩ ?_
    refine g_memname (fun M16 hM16 => ?_)
    replace h := h M16 hM16
    refine g_iconst C dX6_part_19 ?_
    exact hR _ _ _ _ dX6_part_20 rfl h
def wb_X6_own (rc : Nat → List Int → gSt → (Int → gSt → Prop) → Prop) (o : Nat) (a1 : Int) (a2 : Int) (a3 : Int) (M : gSt) (k : Int → gSt → Prop) : Prop :=
  (isVoices o) ∧ (rc 1 [M o 1, a1, a2, a3] M (fun r8c M8 => k r8c M8))
set_option maxHeartbeats 4000000 in
set_option maxRecDepth 100000 in
theorem mb_X6_own {l : Launch} {D : va_G} {tys : List (ClassId × FieldType)} {ad : Nat → Nat} {cI cS : ClassId} {rc : Nat → List Int → gSt → (Int → gSt → Prop) → Prop} {o : Nat} {a1 : Int} {a2 : Int} {a3 : Int} {d : Nat} (hrc0 : ∀ {a1 a2 a3 : Int} {M : gSt} {k : Int → gSt → Prop}, rc 0 [a1, a2, a3] M k → MOi l yX6_own cX6_own 4 .int (rmR (d + 2) (d * 26 + 46)) D clC ((cI, .int) :: (cS, .object "OldBronze$Sheet") :: tys) (wC ad cI cS) tC zC [.ref (ad o), iv a1, iv a2, iv a3] M k) (hrc1 : ∀ {a1 a2 a3 a4 : Int} {M : gSt} {k : Int → gSt → Prop}, rc 1 [a1, a2, a3, a4] M k → MOi l yX6_sound cX6_sound 7 .int (rmR (d + 2) (d * 26 + 46)) D clC ((cI, .int) :: (cS, .object "OldBronze$Sheet") :: tys) (wC ad cI cS) tC zC [.ref (ad o), iv a1, iv a2, iv a3, iv a4] M k) (hrc2 : ∀ {a1 a2 a3 a4 : Int} {M : gSt} {k : Int → gSt → Prop}, rc 2 [a1, a2, a3, a4] M k → MOi l yX6_work cX6_work 5 .int (rmR (d + 2) (d * 26 + 46)) D clC ((cI, .int) :: (cS, .object "OldBronze$Sheet") :: tys) (wC ad cI cS) tC zC [.ref (ad o), iv a1, iv a2, iv a3, iv a4] M k) {M : gSt} {k : Int → gSt → Prop} (h : wb_X6_own rc o a1 a2 a3 M k) : MOi l yX6_own cX6_own 4 .int (rmR (d + 1 + 2) ((d + 1) * 26 + 46)) D clC ((cI, .int) :: (cS, .object "OldBronze$Sheet") :: tys) (wC ad cI cS) tC zC [.ref (ad o), iv a1, iv a2, iv a3] M k := by
  refine moi_intro (by decide +kernel) (Nat.le_of_ble_eq_true rfl) wc_381 ?_
  intro p e s m args below meth c A Q C hR
  unfold wb_X6_own at h
  obtain ⟨h_o, h⟩ := h
  refine g_locals (lv' := [(0, .ref (ad o)), (1, iv a1), (2, iv a2), (3, iv a3)]) rfl ?_
  refine g_aload_n C dX6_own_0 rfl ?_
  refine g_aload_n C dX6_own_1 rfl ?_
  refine cf_X6_23 C h_o dX6_own_2 ?_
  refine g_iload_n C dX6_own_5 rfl ?_
  refine g_iload_n C dX6_own_6 rfl ?_
  refine g_iload_n C dX6_own_7 rfl ?_
  refine g_callVi C (nargs := 4) (o := o) (st := []) (hrc1 h) h_o.1 h_o.2 rfl rfl gc_X6_37 (by decide +kernel) ⟨rfl, rfl⟩ dX6_own_8 ⟨by simp only [rmR]; omega, by simp only [rmR]; omega⟩ rfl rfl (Nat.le_of_ble_eq_true rfl) ?_
  intro r8c M8 hN
  replace h := hN
  clear hN
  exact hR _ _ _ _ dX6_own_11 rfl h
def wC_X6_sound_6 (rc : Nat → List Int → gSt → (Int → gSt → Prop) → Prop) (o : Nat) (a1 : Int) (a2 : Int) (a3 : Int) (a4 : Int) (k : Int → gSt → Prop) (r6 : Int → Int → gSt → Prop) (X6_35 : Int → gSt → Prop) (v5 : Int) (v6 : Int) (M : gSt) : Prop :=

  (7 ≤ wrap v6 →
    X6_35 v5 M) ∧
  (wrap v6 < 7 →
    w_X6_bodyOf v5 a2 M (fun r16c M16 => 
    (¬ wrap r16c = 0 →
      X6_35 v5 M16) ∧
    (wrap r16c = 0 →
      w_X8_above v5 M16 (fun r24c M24 => r6 r24c (v6 + 1) M24))))
def wL_X6_sound_6 (rc : Nat → List Int → gSt → (Int → gSt → Prop) → Prop) (o : Nat) (a1 : Int) (a2 : Int) (a3 : Int) (a4 : Int) (k : Int → gSt → Prop)  (X6_35 : Int → gSt → Prop) : Nat → Int → Int → gSt → Prop
  | 0 => fun _ _ _ => False
  | n + 1 => fun v5 v6 M => wC_X6_sound_6 rc o a1 a2 a3 a4 k  (wL_X6_sound_6 rc o a1 a2 a3 a4 k  X6_35 n) X6_35 v5 v6 M
def wB_X6_sound_35 (rc : Nat → List Int → gSt → (Int → gSt → Prop) → Prop) (o : Nat) (a1 : Int) (a2 : Int) (a3 : Int) (a4 : Int) (k : Int → gSt → Prop)  (v5 : Int) (M : gSt) : Prop :=
w_X6_bodyOf v5 a2 M (fun r38c M38 => w_X4_append (o + 1) r38c 0 0 M38 (fun r51c M51 => 
  (wrap a4 ≤ 40 →
    w_X8_above v5 M51 (fun r71c M71 => rc 2 [r38c, r71c, a3, a4 + 1] M71 (fun r79c M79 => k r79c M79))) ∧
  (40 < wrap a4 →
    k 0 M51)))
def wb_X6_sound (rc : Nat → List Int → gSt → (Int → gSt → Prop) → Prop) (o : Nat) (a1 : Int) (a2 : Int) (a3 : Int) (a4 : Int) (M : gSt) (k : Int → gSt → Prop) : Prop :=
  (isVoices o) ∧ (∃ n, wL_X6_sound_6 rc o a1 a2 a3 a4 k  (fun u5_6 M6 =>
    wB_X6_sound_35 rc o a1 a2 a3 a4 k  u5_6 M6) n a1 0 M)
set_option maxHeartbeats 4000000 in
set_option maxRecDepth 100000 in
theorem mb_X6_sound {l : Launch} {D : va_G} {tys : List (ClassId × FieldType)} {ad : Nat → Nat} {cI cS : ClassId} {rc : Nat → List Int → gSt → (Int → gSt → Prop) → Prop} {o : Nat} {a1 : Int} {a2 : Int} {a3 : Int} {a4 : Int} {d : Nat} (hrc0 : ∀ {a1 a2 a3 : Int} {M : gSt} {k : Int → gSt → Prop}, rc 0 [a1, a2, a3] M k → MOi l yX6_own cX6_own 4 .int (rmR (d + 2) (d * 26 + 46)) D clC ((cI, .int) :: (cS, .object "OldBronze$Sheet") :: tys) (wC ad cI cS) tC zC [.ref (ad o), iv a1, iv a2, iv a3] M k) (hrc1 : ∀ {a1 a2 a3 a4 : Int} {M : gSt} {k : Int → gSt → Prop}, rc 1 [a1, a2, a3, a4] M k → MOi l yX6_sound cX6_sound 7 .int (rmR (d + 2) (d * 26 + 46)) D clC ((cI, .int) :: (cS, .object "OldBronze$Sheet") :: tys) (wC ad cI cS) tC zC [.ref (ad o), iv a1, iv a2, iv a3, iv a4] M k) (hrc2 : ∀ {a1 a2 a3 a4 : Int} {M : gSt} {k : Int → gSt → Prop}, rc 2 [a1, a2, a3, a4] M k → MOi l yX6_work cX6_work 5 .int (rmR (d + 2) (d * 26 + 46)) D clC ((cI, .int) :: (cS, .object "OldBronze$Sheet") :: tys) (wC ad cI cS) tC zC [.ref (ad o), iv a1, iv a2, iv a3, iv a4] M k) {M : gSt} {k : Int → gSt → Prop} (h : wb_X6_sound rc o a1 a2 a3 a4 M k) : MOi l yX6_sound cX6_sound 7 .int (rmR (d + 1 + 2) ((d + 1) * 26 + 46)) D clC ((cI, .int) :: (cS, .object "OldBronze$Sheet") :: tys) (wC ad cI cS) tC zC [.ref (ad o), iv a1, iv a2, iv a3, iv a4] M k := by
  refine moi_intro (by decide +kernel) (Nat.le_of_ble_eq_true rfl) wc_366 ?_
  intro p e s m args below meth c A Q C hR
  unfold wb_X6_sound at h
  obtain ⟨h_o, h⟩ := h
  have pC6 : ∀ (r6 : Int → Int → gSt → Prop) (X6_35 : Int → gSt → Prop) (hr6 : ∀ (v5 : Int) (v6 : Int) (M : gSt), r6 v5 v6 M → gG p l e (rmR (d + 1 + 2) ((d + 1) * 26 + 46)) s m args below meth c Q D clC A (wC ad cI cS) 7 6 [(0, .ref (ad o)), (2, iv a2), (3, iv a3), (4, iv a4), (5, iv v5), (6, iv v6)] [] M) (hX6_35 : ∀ (v5 : Int) (M : gSt), X6_35 v5 M → gG p l e (rmR (d + 1 + 2) ((d + 1) * 26 + 46)) s m args below meth c Q D clC A (wC ad cI cS) 7 35 [(0, .ref (ad o)), (2, iv a2), (3, iv a3), (4, iv a4), (5, iv v5)] [] M) (v5 : Int) (v6 : Int) (M : gSt), wC_X6_sound_6 rc o a1 a2 a3 a4 k r6 X6_35 v5 v6 M → gG p l e (rmR (d + 1 + 2) ((d + 1) * 26 + 46)) s m args below meth c Q D clC A (wC ad cI cS) 7 6 [(0, .ref (ad o)), (2, iv a2), (3, iv a3), (4, iv a4), (5, iv v5), (6, iv v6)] [] M := by
    intro r6 X6_35 hr6 hX6_35 v5 v6 M h
    unfold wC_X6_sound_6 at h
    refine g_iload C dX6_sound_6 rfl ?_
    refine g_bipush C dX6_sound_8 rfl ?_
    refine g_icmp_ge C 35 dX6_sound_10 (by decide) (fun hc => ?_) (fun hc => ?_)
    · replace h := h.1 hc
      refine g_locals (lv' := [(0, .ref (ad o)), (2, iv a2), (3, iv a3), (4, iv a4), (5, iv v5)]) rfl ?_
      exact hX6_35 _  _ h
    · replace h := h.2 hc
      refine g_iload C dX6_sound_13 rfl ?_
      refine g_iload_n C dX6_sound_15 rfl ?_
      refine g_callSi C (nargs := 2) (st := []) (m_X6_bodyOf h) gc_X6_41 (by decide +kernel) ⟨rfl, rfl⟩ dX6_sound_16 ⟨by simp only [rmR]; omega, by simp only [rmR]; omega⟩ rfl rfl (Nat.le_of_ble_eq_true rfl) ?_
      intro r16c M16 hN
      replace h := hN
      clear hN
      refine g_if_ne C 35 dX6_sound_19 (by decide) (fun hc => ?_) (fun hc => ?_)
      · replace h := h.1 hc
        refine g_locals (lv' := [(0, .ref (ad o)), (2, iv a2), (3, iv a3), (4, iv a4), (5, iv v5)]) rfl ?_
        exact hX6_35 _  _ h
      · replace h := h.2 hc
        refine g_iload C dX6_sound_22 rfl ?_
        refine g_callNSi C (nargs := 1) (st := []) (m_X8_above h) zn_6 (gc_code wc_359) wc_26 wc_369 (by decide +kernel) ⟨rfl, rfl⟩ dX6_sound_24 ⟨by simp only [rmR]; omega, by simp only [rmR]; omega⟩ rfl rfl (Nat.le_of_ble_eq_true rfl) ?_
        intro r24c M24 hN
        replace h := hN
        clear hN
        refine g_istore C dX6_sound_27 (by decide) rfl ?_
        refine g_locals (lv' := [(0, .ref (ad o)), (2, iv a2), (3, iv a3), (4, iv a4), (5, iv r24c), (6, iv v6)]) rfl ?_
        refine g_iinc C dX6_sound_29 rfl (by decide) rfl ?_
        refine g_locals (lv' := [(0, .ref (ad o)), (2, iv a2), (3, iv a3), (4, iv a4), (5, iv r24c), (6, iv (v6 + 1))]) rfl ?_
        refine g_goto C 6 dX6_sound_32 (by decide) ?_
        refine g_locals (lv' := [(0, .ref (ad o)), (2, iv a2), (3, iv a3), (4, iv a4), (5, iv r24c), (6, iv (v6 + 1))]) rfl ?_
        exact hr6 _ _  _ h
  have pL6 : ∀  (X6_35 : Int → gSt → Prop) (hX6_35 : ∀ (v5 : Int) (M : gSt), X6_35 v5 M → gG p l e (rmR (d + 1 + 2) ((d + 1) * 26 + 46)) s m args below meth c Q D clC A (wC ad cI cS) 7 35 [(0, .ref (ad o)), (2, iv a2), (3, iv a3), (4, iv a4), (5, iv v5)] [] M) (n : Nat) (v5 : Int) (v6 : Int) (M : gSt), wL_X6_sound_6 rc o a1 a2 a3 a4 k  X6_35 n v5 v6 M → gG p l e (rmR (d + 1 + 2) ((d + 1) * 26 + 46)) s m args below meth c Q D clC A (wC ad cI cS) 7 6 [(0, .ref (ad o)), (2, iv a2), (3, iv a3), (4, iv a4), (5, iv v5), (6, iv v6)] [] M := by
    intro  X6_35 hX6_35 n
    induction n with
    | zero => intro v5 v6 M h; exact h.elim
    | succ n ih =>
      intro v5 v6 M h
      exact pC6  (wL_X6_sound_6 rc o a1 a2 a3 a4 k  X6_35 n) X6_35 ih hX6_35 v5 v6 M h
  have pB35 : ∀   (v5 : Int) (M : gSt), wB_X6_sound_35 rc o a1 a2 a3 a4 k  v5 M → gG p l e (rmR (d + 1 + 2) ((d + 1) * 26 + 46)) s m args below meth c Q D clC A (wC ad cI cS) 7 35 [(0, .ref (ad o)), (2, iv a2), (3, iv a3), (4, iv a4), (5, iv v5)] [] M := by
    intro   v5 M h
    unfold wB_X6_sound_35 at h
    refine g_iload C dX6_sound_35 rfl ?_
    refine g_iload_n C dX6_sound_37 rfl ?_
    refine g_callSi C (nargs := 2) (st := []) (m_X6_bodyOf h) gc_X6_41 (by decide +kernel) ⟨rfl, rfl⟩ dX6_sound_38 ⟨by simp only [rmR]; omega, by simp only [rmR]; omega⟩ rfl rfl (Nat.le_of_ble_eq_true rfl) ?_
    intro r38c M38 hN
    replace h := hN
    clear hN
    refine g_istore C dX6_sound_41 (by decide) rfl ?_
    refine g_locals (lv' := [(0, .ref (ad o)), (2, iv a2), (3, iv a3), (4, iv a4), (5, iv v5), (6, iv r38c)]) rfl ?_
    refine g_aload_n C dX6_sound_43 rfl ?_
    refine cf_X6_14 C h_o dX6_sound_44 ?_
    refine g_iload C dX6_sound_47 rfl ?_
    refine g_iconst C dX6_sound_49 ?_
    refine g_iconst C dX6_sound_50 ?_
    refine g_callVi C (nargs := 3) (o := (o + 1)) (st := []) (m_X4_append h) (show isRows (o + 1) from h.1).1 (show isRows (o + 1) from h.1).2.1 rfl rfl gc_X6_49 (by decide +kernel) ⟨rfl, rfl⟩ dX6_sound_51 ⟨by simp only [rmR]; omega, by simp only [rmR]; omega⟩ rfl rfl (Nat.le_of_ble_eq_true rfl) ?_
    intro r51c M51 hN
    replace h := hN
    clear hN
    refine g_pop C dX6_sound_54 rfl ?_
    refine g_iload C dX6_sound_55 rfl ?_
    refine g_bipush C dX6_sound_57 rfl ?_
    refine g_icmp_le C 66 dX6_sound_59 (by decide) (fun hc => ?_) (fun hc => ?_)
    · replace h := h.1 hc
      refine g_aload_n C dX6_sound_66 rfl ?_
      refine g_iload C dX6_sound_67 rfl ?_
      refine g_iload C dX6_sound_69 rfl ?_
      refine g_callNSi C (nargs := 1) (st := [iv r38c, .ref (ad o)]) (m_X8_above h) zn_6 (gc_code wc_359) wc_26 wc_369 (by decide +kernel) ⟨rfl, rfl⟩ dX6_sound_71 ⟨by simp only [rmR]; omega, by simp only [rmR]; omega⟩ rfl rfl (Nat.le_of_ble_eq_true rfl) ?_
      intro r71c M71 hN
      replace h := hN
      clear hN
      refine g_iload_n C dX6_sound_74 rfl ?_
      refine g_iload C dX6_sound_75 rfl ?_
      refine g_iconst C dX6_sound_77 ?_
      refine g_iadd C dX6_sound_78 ?_
      refine g_callVi C (nargs := 4) (o := o) (st := []) (hrc2 h) h_o.1 h_o.2 rfl rfl gc_X6_53 (by decide +kernel) ⟨rfl, rfl⟩ dX6_sound_79 ⟨by simp only [rmR]; omega, by simp only [rmR]; omega⟩ rfl rfl (Nat.le_of_ble_eq_true rfl) ?_
      intro r79c M79 hN
      replace h := hN
      clear hN
      exact hR _ _ _ _ dX6_sound_82 rfl h
    · replace h := h.2 hc
      refine g_iconst C dX6_sound_62 ?_
      refine g_goto C 82 dX6_sound_63 (by decide) ?_
      exact hR _ _ _ _ dX6_sound_82 rfl h
  refine g_locals (lv' := [(0, .ref (ad o)), (1, iv a1), (2, iv a2), (3, iv a3), (4, iv a4)]) rfl ?_
  refine g_iload_n C dX6_sound_0 rfl ?_
  refine g_istore C dX6_sound_1 (by decide) rfl ?_
  refine g_locals (lv' := [(0, .ref (ad o)), (1, iv a1), (2, iv a2), (3, iv a3), (4, iv a4), (5, iv a1)]) rfl ?_
  refine g_iconst C dX6_sound_3 ?_
  refine g_istore C dX6_sound_4 (by decide) rfl ?_
  refine g_locals (lv' := [(0, .ref (ad o)), (1, iv a1), (2, iv a2), (3, iv a3), (4, iv a4), (5, iv a1), (6, iv 0)]) rfl ?_
  refine g_locals (lv' := [(0, .ref (ad o)), (2, iv a2), (3, iv a3), (4, iv a4), (5, iv a1), (6, iv 0)]) rfl ?_
  obtain ⟨n, h⟩ := h
  refine pL6 _ ?_ n _ _ _ h
  · intro u5_6 M6 hN
    replace h := hN
    clear hN
    refine g_locals (lv' := [(0, .ref (ad o)), (2, iv a2), (3, iv a3), (4, iv a4), (5, iv u5_6)]) rfl ?_
    exact pB35 _ _ h
def wb_X6_work (rc : Nat → List Int → gSt → (Int → gSt → Prop) → Prop) (o : Nat) (a1 : Int) (a2 : Int) (a3 : Int) (a4 : Int) (M : gSt) (k : Int → gSt → Prop) : Prop :=
  (isVoices o) ∧ (
  (wrap a1 = 10 →
    k (a3 + (M o 2)) M) ∧
  (wrap a1 = 11 →
    rc 0 [0, a3, a4] M (fun r128c M128 => k (r128c * 2) M128)) ∧
  (wrap a1 = 12 →
    rc 0 [1, a3, a4] M (fun r139c M139 => k (r139c - (M139 o 3)) M139)) ∧
  (wrap a1 = 13 →
    w_X6_part o a3 M (fun r150c M150 => k r150c M150)) ∧
  (wrap a1 = 20 →
    rc 1 [a2, 0, a3, a4] M (fun r160c M160 => k (r160c - 4) M160)) ∧
  (wrap a1 = 21 →
    rc 1 [a2, 3, a3, a4] M (fun r172c M172 => rc 0 [1, 1, a4] M172 (fun r180c M180 => k (r172c + r180c) M180))) ∧
  (wrap a1 = 30 →
    rc 1 [a2, 1, a3, a4] M (fun r192c M192 => k (0 - r192c) M192)) ∧
  (wrap a1 = 40 →
    rc 1 [a2, 2, Int.tdiv (wrap a3) 2, a4] M (fun r205c M205 => k r205c M205)) ∧
  (wrap a1 = 50 →
    rc 1 [a2, 0, a3, a4] M (fun r215c M215 => k (r215c * 3) M215)) ∧
  (wrap a1 = 51 →
    rc 1 [a2, 2, a3, a4] M (fun r227c M227 => k (xxor r227c (M227 o 2)) M227)) ∧
  (wrap a1 = 60 →
    rc 1 [a2, 1, a3 + 1, a4] M (fun r244c M244 => k r244c M244)) ∧
  (wrap a1 = 70 →
    k 6 M) ∧
  (wrap a1 = 71 →
    rc 1 [a2, 1, a3, a4] M (fun r257c M257 => k (r257c + (M257 o 3)) M257)) ∧
  (¬ wrap a1 = 10 ∧ ¬ wrap a1 = 11 ∧ ¬ wrap a1 = 12 ∧ ¬ wrap a1 = 13 ∧ ¬ wrap a1 = 20 ∧ ¬ wrap a1 = 21 ∧ ¬ wrap a1 = 30 ∧ ¬ wrap a1 = 40 ∧ ¬ wrap a1 = 50 ∧ ¬ wrap a1 = 51 ∧ ¬ wrap a1 = 60 ∧ ¬ wrap a1 = 70 ∧ ¬ wrap a1 = 71 →
    k 0 M))
set_option maxHeartbeats 4000000 in
set_option maxRecDepth 100000 in
theorem mb_X6_work {l : Launch} {D : va_G} {tys : List (ClassId × FieldType)} {ad : Nat → Nat} {cI cS : ClassId} {rc : Nat → List Int → gSt → (Int → gSt → Prop) → Prop} {o : Nat} {a1 : Int} {a2 : Int} {a3 : Int} {a4 : Int} {d : Nat} (hrc0 : ∀ {a1 a2 a3 : Int} {M : gSt} {k : Int → gSt → Prop}, rc 0 [a1, a2, a3] M k → MOi l yX6_own cX6_own 4 .int (rmR (d + 2) (d * 26 + 46)) D clC ((cI, .int) :: (cS, .object "OldBronze$Sheet") :: tys) (wC ad cI cS) tC zC [.ref (ad o), iv a1, iv a2, iv a3] M k) (hrc1 : ∀ {a1 a2 a3 a4 : Int} {M : gSt} {k : Int → gSt → Prop}, rc 1 [a1, a2, a3, a4] M k → MOi l yX6_sound cX6_sound 7 .int (rmR (d + 2) (d * 26 + 46)) D clC ((cI, .int) :: (cS, .object "OldBronze$Sheet") :: tys) (wC ad cI cS) tC zC [.ref (ad o), iv a1, iv a2, iv a3, iv a4] M k) (hrc2 : ∀ {a1 a2 a3 a4 : Int} {M : gSt} {k : Int → gSt → Prop}, rc 2 [a1, a2, a3, a4] M k → MOi l yX6_work cX6_work 5 .int (rmR (d + 2) (d * 26 + 46)) D clC ((cI, .int) :: (cS, .object "OldBronze$Sheet") :: tys) (wC ad cI cS) tC zC [.ref (ad o), iv a1, iv a2, iv a3, iv a4] M k) {M : gSt} {k : Int → gSt → Prop} (h : wb_X6_work rc o a1 a2 a3 a4 M k) : MOi l yX6_work cX6_work 5 .int (rmR (d + 1 + 2) ((d + 1) * 26 + 46)) D clC ((cI, .int) :: (cS, .object "OldBronze$Sheet") :: tys) (wC ad cI cS) tC zC [.ref (ad o), iv a1, iv a2, iv a3, iv a4] M k := by
  refine moi_intro (by decide +kernel) (Nat.le_of_ble_eq_true rfl) wc_374 ?_
  intro p e s m args below meth c A Q C hR
  unfold wb_X6_work at h
  obtain ⟨h_o, h⟩ := h
  refine g_locals (lv' := [(0, .ref (ad o)), (1, iv a1), (2, iv a2), (3, iv a3), (4, iv a4)]) rfl ?_
  refine g_iload_n C dX6_work_0 rfl ?_
  by_cases hc10 : wrap a1 = 10
  · refine g_lookup C 116 dX6_work_1 (by decide) (by rw [hc10] <;> rfl) (by decide) ?_
    replace h := h.1 hc10
    refine g_iload_n C dX6_work_116 rfl ?_
    refine g_aload_n C dX6_work_117 rfl ?_
    refine cf_X6_27 C h_o dX6_work_118 ?_
    refine g_iadd C dX6_work_121 ?_
    exact hR _ _ _ _ dX6_work_122 rfl h
  · by_cases hc11 : wrap a1 = 11
    · refine g_lookup C 123 dX6_work_1 (by decide) (by rw [hc11] <;> rfl) (by decide) ?_
      replace h := h.2.1 hc11
      refine g_aload_n C dX6_work_123 rfl ?_
      refine g_iconst C dX6_work_124 ?_
      refine g_iload_n C dX6_work_125 rfl ?_
      refine g_iload C dX6_work_126 rfl ?_
      refine g_callVi C (nargs := 3) (o := o) (st := []) (hrc0 h) h_o.1 h_o.2 rfl rfl gc_X6_60 (by decide +kernel) ⟨rfl, rfl⟩ dX6_work_128 ⟨by simp only [rmR]; omega, by simp only [rmR]; omega⟩ rfl rfl (Nat.le_of_ble_eq_true rfl) ?_
      intro r128c M128 hN
      replace h := hN
      clear hN
      refine g_iconst C dX6_work_131 ?_
      refine g_imul C dX6_work_132 ?_
      exact hR _ _ _ _ dX6_work_133 rfl h
    · by_cases hc12 : wrap a1 = 12
      · refine g_lookup C 134 dX6_work_1 (by decide) (by rw [hc12] <;> rfl) (by decide) ?_
        replace h := h.2.2.1 hc12
        refine g_aload_n C dX6_work_134 rfl ?_
        refine g_iconst C dX6_work_135 ?_
        refine g_iload_n C dX6_work_136 rfl ?_
        refine g_iload C dX6_work_137 rfl ?_
        refine g_callVi C (nargs := 3) (o := o) (st := []) (hrc0 h) h_o.1 h_o.2 rfl rfl gc_X6_60 (by decide +kernel) ⟨rfl, rfl⟩ dX6_work_139 ⟨by simp only [rmR]; omega, by simp only [rmR]; omega⟩ rfl rfl (Nat.le_of_ble_eq_true rfl) ?_
        intro r139c M139 hN
        replace h := hN
        clear hN
        refine g_aload_n C dX6_work_142 rfl ?_
        refine cf_X6_30 C h_o dX6_work_143 ?_
        refine g_isub C dX6_work_146 ?_
        exact hR _ _ _ _ dX6_work_147 rfl h
      · by_cases hc13 : wrap a1 = 13
        · refine g_lookup C 148 dX6_work_1 (by decide) (by rw [hc13] <;> rfl) (by decide) ?_
          replace h := h.2.2.2.1 hc13
          refine g_aload_n C dX6_work_148 rfl ?_
          refine g_iload_n C dX6_work_149 rfl ?_
          refine g_callVi C (nargs := 1) (o := o) (st := []) (m_X6_part h) (show isVoices o from h.1).1 (show isVoices o from h.1).2 rfl rfl gc_X6_63 (by decide +kernel) ⟨rfl, rfl⟩ dX6_work_150 ⟨by simp only [rmR]; omega, by simp only [rmR]; omega⟩ rfl rfl (Nat.le_of_ble_eq_true rfl) ?_
          intro r150c M150 hN
          replace h := hN
          clear hN
          exact hR _ _ _ _ dX6_work_153 rfl h
        · by_cases hc20 : wrap a1 = 20
          · refine g_lookup C 154 dX6_work_1 (by decide) (by rw [hc20] <;> rfl) (by decide) ?_
            replace h := h.2.2.2.2.1 hc20
            refine g_aload_n C dX6_work_154 rfl ?_
            refine g_iload_n C dX6_work_155 rfl ?_
            refine g_iconst C dX6_work_156 ?_
            refine g_iload_n C dX6_work_157 rfl ?_
            refine g_iload C dX6_work_158 rfl ?_
            refine g_callVi C (nargs := 4) (o := o) (st := []) (hrc1 h) h_o.1 h_o.2 rfl rfl gc_X6_37 (by decide +kernel) ⟨rfl, rfl⟩ dX6_work_160 ⟨by simp only [rmR]; omega, by simp only [rmR]; omega⟩ rfl rfl (Nat.le_of_ble_eq_true rfl) ?_
            intro r160c M160 hN
            replace h := hN
            clear hN
            refine g_iconst C dX6_work_163 ?_
            refine g_isub C dX6_work_164 ?_
            exact hR _ _ _ _ dX6_work_165 rfl h
          · by_cases hc21 : wrap a1 = 21
            · refine g_lookup C 166 dX6_work_1 (by decide) (by rw [hc21] <;> rfl) (by decide) ?_
              replace h := h.2.2.2.2.2.1 hc21
              refine g_aload_n C dX6_work_166 rfl ?_
              refine g_iload_n C dX6_work_167 rfl ?_
              refine g_iconst C dX6_work_168 ?_
              refine g_iload_n C dX6_work_169 rfl ?_
              refine g_iload C dX6_work_170 rfl ?_
              refine g_callVi C (nargs := 4) (o := o) (st := []) (hrc1 h) h_o.1 h_o.2 rfl rfl gc_X6_37 (by decide +kernel) ⟨rfl, rfl⟩ dX6_work_172 ⟨by simp only [rmR]; omega, by simp only [rmR]; omega⟩ rfl rfl (Nat.le_of_ble_eq_true rfl) ?_
              intro r172c M172 hN
              replace h := hN
              clear hN
              refine g_aload_n C dX6_work_175 rfl ?_
              refine g_iconst C dX6_work_176 ?_
              refine g_iconst C dX6_work_177 ?_
              refine g_iload C dX6_work_178 rfl ?_
              refine g_callVi C (nargs := 3) (o := o) (st := [iv r172c]) (hrc0 h) h_o.1 h_o.2 rfl rfl gc_X6_60 (by decide +kernel) ⟨rfl, rfl⟩ dX6_work_180 ⟨by simp only [rmR]; omega, by simp only [rmR]; omega⟩ rfl rfl (Nat.le_of_ble_eq_true rfl) ?_
              intro r180c M180 hN
              replace h := hN
              clear hN
              refine g_iadd C dX6_work_183 ?_
              exact hR _ _ _ _ dX6_work_184 rfl h
            · by_cases hc30 : wrap a1 = 30
              · refine g_lookup C 185 dX6_work_1 (by decide) (by rw [hc30] <;> rfl) (by decide) ?_
                replace h := h.2.2.2.2.2.2.1 hc30
                refine g_iconst C dX6_work_185 ?_
                refine g_aload_n C dX6_work_186 rfl ?_
                refine g_iload_n C dX6_work_187 rfl ?_
                refine g_iconst C dX6_work_188 ?_
                refine g_iload_n C dX6_work_189 rfl ?_
                refine g_iload C dX6_work_190 rfl ?_
                refine g_callVi C (nargs := 4) (o := o) (st := [iv 0]) (hrc1 h) h_o.1 h_o.2 rfl rfl gc_X6_37 (by decide +kernel) ⟨rfl, rfl⟩ dX6_work_192 ⟨by simp only [rmR]; omega, by simp only [rmR]; omega⟩ rfl rfl (Nat.le_of_ble_eq_true rfl) ?_
                intro r192c M192 hN
                replace h := hN
                clear hN
                refine g_isub C dX6_work_195 ?_
                exact hR _ _ _ _ dX6_work_196 rfl h
              · by_cases hc40 : wrap a1 = 40
                · refine g_lookup C 197 dX6_work_1 (by decide) (by rw [hc40] <;> rfl) (by decide) ?_
                  replace h := h.2.2.2.2.2.2.2.1 hc40
                  refine g_aload_n C dX6_work_197 rfl ?_
                  refine g_iload_n C dX6_work_198 rfl ?_
                  refine g_iconst C dX6_work_199 ?_
                  refine g_iload_n C dX6_work_200 rfl ?_
                  refine g_iconst C dX6_work_201 ?_
                  refine g_idiv C dX6_work_202 (by decide) ?_
                  refine g_top (y := Int.tdiv (wrap a3) 2) rfl ?_
                  refine g_iload C dX6_work_203 rfl ?_
                  refine g_callVi C (nargs := 4) (o := o) (st := []) (hrc1 h) h_o.1 h_o.2 rfl rfl gc_X6_37 (by decide +kernel) ⟨rfl, rfl⟩ dX6_work_205 ⟨by simp only [rmR]; omega, by simp only [rmR]; omega⟩ rfl rfl (Nat.le_of_ble_eq_true rfl) ?_
                  intro r205c M205 hN
                  replace h := hN
                  clear hN
                  exact hR _ _ _ _ dX6_work_208 rfl h
                · by_cases hc50 : wrap a1 = 50
                  · refine g_lookup C 209 dX6_work_1 (by decide) (by rw [hc50] <;> rfl) (by decide) ?_
                    replace h := h.2.2.2.2.2.2.2.2.1 hc50
                    refine g_aload_n C dX6_work_209 rfl ?_
                    refine g_iload_n C dX6_work_210 rfl ?_
                    refine g_iconst C dX6_work_211 ?_
                    refine g_iload_n C dX6_work_212 rfl ?_
                    refine g_iload C dX6_work_213 rfl ?_
                    refine g_callVi C (nargs := 4) (o := o) (st := []) (hrc1 h) h_o.1 h_o.2 rfl rfl gc_X6_37 (by decide +kernel) ⟨rfl, rfl⟩ dX6_work_215 ⟨by simp only [rmR]; omega, by simp only [rmR]; omega⟩ rfl rfl (Nat.le_of_ble_eq_true rfl) ?_
                    intro r215c M215 hN
                    replace h := hN
                    clear hN
                    refine g_iconst C dX6_work_218 ?_
                    refine g_imul C dX6_work_219 ?_
                    exact hR _ _ _ _ dX6_work_220 rfl h
                  · by_cases hc51 : wrap a1 = 51
                    · refine g_lookup C 221 dX6_work_1 (by decide) (by rw [hc51] <;> rfl) (by decide) ?_
                      replace h := h.2.2.2.2.2.2.2.2.2.1 hc51
                      refine g_aload_n C dX6_work_221 rfl ?_
                      refine g_iload_n C dX6_work_222 rfl ?_
                      refine g_iconst C dX6_work_223 ?_
                      refine g_iload_n C dX6_work_224 rfl ?_
                      refine g_iload C dX6_work_225 rfl ?_
                      refine g_callVi C (nargs := 4) (o := o) (st := []) (hrc1 h) h_o.1 h_o.2 rfl rfl gc_X6_37 (by decide +kernel) ⟨rfl, rfl⟩ dX6_work_227 ⟨by simp only [rmR]; omega, by simp only [rmR]; omega⟩ rfl rfl (Nat.le_of_ble_eq_true rfl) ?_
                      intro r227c M227 hN
                      replace h := hN
                      clear hN
                      refine g_aload_n C dX6_work_230 rfl ?_
                      refine cf_X6_27 C h_o dX6_work_231 ?_
                      refine g_ixor C dX6_work_234 ?_
                      exact hR _ _ _ _ dX6_work_235 rfl h
                    · by_cases hc60 : wrap a1 = 60
                      · refine g_lookup C 236 dX6_work_1 (by decide) (by rw [hc60] <;> rfl) (by decide) ?_
                        replace h := h.2.2.2.2.2.2.2.2.2.2.1 hc60
                        refine g_aload_n C dX6_work_236 rfl ?_
                        refine g_iload_n C dX6_work_237 rfl ?_
                        refine g_iconst C dX6_work_238 ?_
                        refine g_iload_n C dX6_work_239 rfl ?_
                        refine g_iconst C dX6_work_240 ?_
                        refine g_iadd C dX6_work_241 ?_
                        refine g_iload C dX6_work_242 rfl ?_
                        refine g_callVi C (nargs := 4) (o := o) (st := []) (hrc1 h) h_o.1 h_o.2 rfl rfl gc_X6_37 (by decide +kernel) ⟨rfl, rfl⟩ dX6_work_244 ⟨by simp only [rmR]; omega, by simp only [rmR]; omega⟩ rfl rfl (Nat.le_of_ble_eq_true rfl) ?_
                        intro r244c M244 hN
                        replace h := hN
                        clear hN
                        exact hR _ _ _ _ dX6_work_247 rfl h
                      · by_cases hc70 : wrap a1 = 70
                        · refine g_lookup C 248 dX6_work_1 (by decide) (by rw [hc70] <;> rfl) (by decide) ?_
                          replace h := h.2.2.2.2.2.2.2.2.2.2.2.1 hc70
                          refine g_bipush C dX6_work_248 rfl ?_
                          exact hR _ _ _ _ dX6_work_250 rfl h
                        · by_cases hc71 : wrap a1 = 71
                          · refine g_lookup C 251 dX6_work_1 (by decide) (by rw [hc71] <;> rfl) (by decide) ?_
                            replace h := h.2.2.2.2.2.2.2.2.2.2.2.2.1 hc71
                            refine g_aload_n C dX6_work_251 rfl ?_
                            refine g_iload_n C dX6_work_252 rfl ?_
                            refine g_iconst C dX6_work_253 ?_
                            refine g_iload_n C dX6_work_254 rfl ?_
                            refine g_iload C dX6_work_255 rfl ?_
                            refine g_callVi C (nargs := 4) (o := o) (st := []) (hrc1 h) h_o.1 h_o.2 rfl rfl gc_X6_37 (by decide +kernel) ⟨rfl, rfl⟩ dX6_work_257 ⟨by simp only [rmR]; omega, by simp only [rmR]; omega⟩ rfl rfl (Nat.le_of_ble_eq_true rfl) ?_
                            intro r257c M257 hN
                            replace h := hN
                            clear hN
                            refine g_aload_n C dX6_work_260 rfl ?_
                            refine cf_X6_30 C h_o dX6_work_261 ?_
                            refine g_iadd C dX6_work_264 ?_
                            exact hR _ _ _ _ dX6_work_265 rfl h
                          · refine g_lookup C (off := 265) 266 dX6_work_1 (by decide) (by simp [Op.lookupswitch.offset, Ne.symm hc10, Ne.symm hc11, Ne.symm hc12, Ne.symm hc13, Ne.symm hc20, Ne.symm hc21, Ne.symm hc30, Ne.symm hc40, Ne.symm hc50, Ne.symm hc51, Ne.symm hc60, Ne.symm hc70, Ne.symm hc71]) (by decide) ?_
                            replace h := h.2.2.2.2.2.2.2.2.2.2.2.2.2 ⟨hc10, hc11, hc12, hc13, hc20, hc21, hc30, hc40, hc50, hc51, hc60, hc70, hc71⟩
                            refine g_iconst C dX6_work_266 ?_
                            exact hR _ _ _ _ dX6_work_267 rfl h
def wg_X6_own (o : Nat) : Nat → Nat → List Int → gSt → (Int → gSt → Prop) → Prop
  | 0 => fun _ _ _ _ => False
  | d + 1 => fun i xs M k => match i, xs with
    | 0, [a1, a2, a3] => wb_X6_own (wg_X6_own o d) o a1 a2 a3 M k
    | 1, [a1, a2, a3, a4] => wb_X6_sound (wg_X6_own o d) o a1 a2 a3 a4 M k
    | 2, [a1, a2, a3, a4] => wb_X6_work (wg_X6_own o d) o a1 a2 a3 a4 M k
    | _, _ => False
theorem mg_X6_own {l : Launch} {D : va_G} {tys : List (ClassId × FieldType)} {ad : Nat → Nat} {cI cS : ClassId} {o : Nat} (d : Nat) : (∀ {a1 a2 a3 : Int} {M : gSt} {k : Int → gSt → Prop}, wg_X6_own o d 0 [a1, a2, a3] M k → MOi l yX6_own cX6_own 4 .int (rmR (d + 2) (d * 26 + 46)) D clC ((cI, .int) :: (cS, .object "OldBronze$Sheet") :: tys) (wC ad cI cS) tC zC [.ref (ad o), iv a1, iv a2, iv a3] M k) ∧ (∀ {a1 a2 a3 a4 : Int} {M : gSt} {k : Int → gSt → Prop}, wg_X6_own o d 1 [a1, a2, a3, a4] M k → MOi l yX6_sound cX6_sound 7 .int (rmR (d + 2) (d * 26 + 46)) D clC ((cI, .int) :: (cS, .object "OldBronze$Sheet") :: tys) (wC ad cI cS) tC zC [.ref (ad o), iv a1, iv a2, iv a3, iv a4] M k) ∧ (∀ {a1 a2 a3 a4 : Int} {M : gSt} {k : Int → gSt → Prop}, wg_X6_own o d 2 [a1, a2, a3, a4] M k → MOi l yX6_work cX6_work 5 .int (rmR (d + 2) (d * 26 + 46)) D clC ((cI, .int) :: (cS, .object "OldBronze$Sheet") :: tys) (wC ad cI cS) tC zC [.ref (ad o), iv a1, iv a2, iv a3, iv a4] M k) := by
  induction d with
  | zero => exact ⟨fun h => False.elim h, fun h => False.elim h, fun h => False.elim h⟩
  | succ d ih =>
    obtain ⟨h0, h1, h2⟩ := ih
    exact ⟨fun h => mb_X6_own (rc := wg_X6_own o d) h0 h1 h2 h, fun h => mb_X6_sound (rc := wg_X6_own o d) h0 h1 h2 h, fun h => mb_X6_work (rc := wg_X6_own o d) h0 h1 h2 h⟩
def w_X6_own (o : Nat) (a1 a2 a3 : Int) (M : gSt) (k : Int → gSt → Prop) : Prop := isVoices o ∧ wg_X6_own o 60 0 [a1, a2, a3] M k
theorem m_X6_own {l : Launch} {D : va_G} {tys : List (ClassId × FieldType)} {ad : Nat → Nat} {cI cS : ClassId} {o : Nat} {a1 a2 a3 : Int} {M : gSt} {k : Int → gSt → Prop} (h : w_X6_own o a1 a2 a3 M k) : MOi l yX6_own cX6_own 4 .int (rmR 62 1606) D clC ((cI, .int) :: (cS, .object "OldBronze$Sheet") :: tys) (wC ad cI cS) tC zC [.ref (ad o), iv a1, iv a2, iv a3] M k := (mg_X6_own 60).1 h.2
def w_X6_sound (o : Nat) (a1 a2 a3 a4 : Int) (M : gSt) (k : Int → gSt → Prop) : Prop := isVoices o ∧ wg_X6_own o 60 1 [a1, a2, a3, a4] M k
theorem m_X6_sound {l : Launch} {D : va_G} {tys : List (ClassId × FieldType)} {ad : Nat → Nat} {cI cS : ClassId} {o : Nat} {a1 a2 a3 a4 : Int} {M : gSt} {k : Int → gSt → Prop} (h : w_X6_sound o a1 a2 a3 a4 M k) : MOi l yX6_sound cX6_sound 7 .int (rmR 62 1606) D clC ((cI, .int) :: (cS, .object "OldBronze$Sheet") :: tys) (wC ad cI cS) tC zC [.ref (ad o), iv a1, iv a2, iv a3, iv a4] M k := (mg_X6_own 60).2.1 h.2
def w_X6_work (o : Nat) (a1 a2 a3 a4 : Int) (M : gSt) (k : Int → gSt → Prop) : Prop := isVoices o ∧ wg_X6_own o 60 2 [a1, a2, a3, a4] M k
theorem m_X6_work {l : Launch} {D : va_G} {tys : List (ClassId × FieldType)} {ad : Nat → Nat} {cI cS : ClassId} {o : Nat} {a1 a2 a3 a4 : Int} {M : gSt} {k : Int → gSt → Prop} (h : w_X6_work o a1 a2 a3 a4 M k) : MOi l yX6_work cX6_work 5 .int (rmR 62 1606) D clC ((cI, .int) :: (cS, .object "OldBronze$Sheet") :: tys) (wC ad cI cS) tC zC [.ref (ad o), iv a1, iv a2, iv a3, iv a4] M k := (mg_X6_own 60).2.2 h.2
end
section
def w_X8_isKindAndM (a1 : Int) (M : gSt) (k : Int → gSt → Prop) : Prop :=
  w_X8_within a1 0 699 M (fun r5c M5 => (r5c = 0 ∨ r5c = 1) ∧ (k r5c M5))
set_option maxHeartbeats 4000000 in
set_option maxRecDepth 100000 in
theorem m_X8_isKindAndM {l : Launch} {D : va_G} {tys : List (ClassId × FieldType)} {ad : Nat → Nat} {cI cS : ClassId} {a1 : Int} {M : gSt} {k : Int → gSt → Prop} (h : w_X8_isKindAndM a1 M k) : MOi l yX8_isKindAndM cX8_isKindAndM 1 .boolean (rmR 1 22) D clC ((cI, .int) :: (cS, .object "OldBronze$Sheet") :: tys) (wC ad cI cS) tC zC [iv a1] M k := by
  refine moi_intro (by decide +kernel) (Nat.le_of_ble_eq_true rfl) wc_408 ?_
  intro p e s m args below meth c A Q C hR
  unfold w_X8_isKindAndM at h
  refine g_locals (lv' := [(0, iv a1)]) rfl ?_
  refine g_iload_n C dX8_isKindAndM_0 rfl ?_
  refine g_iconst C dX8_isKindAndM_1 ?_
  refine g_sipush C dX8_isKindAndM_2 rfl ?_
  refine g_callSi C (nargs := 3) (st := []) (m_X8_within h) gc_X8_63 (by decide +kernel) ⟨rfl, rfl⟩ dX8_isKindAndM_5 ⟨by decide, by decide⟩ rfl rfl (Nat.le_of_ble_eq_true rfl) ?_
  intro r5c M5 hN
  replace h := hN
  clear hN
  exact hR _ _ _ _ dX8_isKindAndM_8 (zn_bool h.1).1 h.2
def w_X8_refuse (a1 : Int) (M : gSt) (k : Int → gSt → Prop) : Prop :=
  
  (wrap a1 < 0 →
    k ((-1000000000) - a1) M) ∧
  (0 ≤ wrap a1 →

    (7 ≤ wrap a1 →
      k ((-1000000000) - a1) M) ∧
    (wrap a1 < 7 →
      ((0 : Int) ≤ a1 ∧ a1 < 7) ∧ (((0 : Int) ≤ a1 ∧ a1 < 7) ∧ (∀ M22 : gSt, M22 = wr M 64 a1 ((M 64 a1) + 1) → (k ((-1000000000) - a1) M22)))))
set_option maxHeartbeats 4000000 in
set_option maxRecDepth 100000 in
theorem m_X8_refuse {l : Launch} {D : va_G} {tys : List (ClassId × FieldType)} {ad : Nat → Nat} {cI cS : ClassId} {a1 : Int} {M : gSt} {k : Int → gSt → Prop} (h : w_X8_refuse a1 M k) : MOi l yX8_refuse cX8_refuse 2 .int (rmR 0 0) D clC ((cI, .int) :: (cS, .object "OldBronze$Sheet") :: tys) (wC ad cI cS) tC zC [.ref (ad 0), iv a1] M k := by
  refine moi_intro (by decide +kernel) (Nat.le_of_ble_eq_true rfl) wc_410 ?_
  intro p e s m args below meth c A Q C hR
  unfold w_X8_refuse at h
  refine g_locals (lv' := [(0, .ref (ad 0)), (1, iv a1)]) rfl ?_
  refine g_iload_n C dX8_refuse_0 rfl ?_
  refine g_if_lt C 23 dX8_refuse_1 (by decide) (fun hc => ?_) (fun hc => ?_)
  · replace h := h.1 hc
    refine g_ldcw C (-1000000000) wc_411 rfl dX8_refuse_23 ?_
    refine g_iload_n C dX8_refuse_26 rfl ?_
    refine g_isub C dX8_refuse_27 ?_
    exact hR _ _ _ _ dX8_refuse_28 rfl h
  · replace h := h.2 hc
    refine g_iload_n C dX8_refuse_4 rfl ?_
    refine g_aload_n C dX8_refuse_5 rfl ?_
    refine cf_X8_53 C pl_0 dX8_refuse_6 ?_
    refine g_alen C (n := 7) dX8_refuse_9 pl_64.1 pl_64.2.1 ?_
    refine g_top (y := 7) rfl ?_
    refine g_icmp_ge C 23 dX8_refuse_10 (by decide) (fun hc => ?_) (fun hc => ?_)
    · replace h := h.1 hc
      refine g_ldcw C (-1000000000) wc_411 rfl dX8_refuse_23 ?_
      refine g_iload_n C dX8_refuse_26 rfl ?_
      refine g_isub C dX8_refuse_27 ?_
      exact hR _ _ _ _ dX8_refuse_28 rfl h
    · replace h := h.2 hc
      refine g_aload_n C dX8_refuse_13 rfl ?_
      refine cf_X8_53 C pl_0 dX8_refuse_14 ?_
      refine g_iload_n C dX8_refuse_17 rfl ?_
      refine g_dup2 C dX8_refuse_18 rfl rfl ?_
      refine g_iald C (n := 7) dX8_refuse_19 pl_64.1 pl_64.2 h.1 ?_
      replace h := h.2
      refine g_iconst C dX8_refuse_20 ?_
      refine g_iadd C dX8_refuse_21 ?_
      refine g_iast C (n := 7) dX8_refuse_22 pl_64.1 pl_64.2 h.1 ?_
      replace h := h.2
      refine g_memname (fun M22 hM22 => ?_)
      replace h := h M22 hM22
      refine g_ldcw C (-1000000000) wc_411 rfl dX8_refuse_23 ?_
      refine g_iload_n C dX8_refuse_26 rfl ?_
      refine g_isub C dX8_refuse_27 ?_
      exact hR _ _ _ _ dX8_refuse_28 rfl h
def wB_X8_thing_17 (a1 : Int) (a2 : Int) (k : Int → gSt → Prop)   (M : gSt) : Prop :=
w_X8_refuse 1 M (fun r19c M19 => k r19c M19)
def w_X8_thing (a1 : Int) (a2 : Int) (M : gSt) (k : Int → gSt → Prop) : Prop :=
  w_X8_isKindAndM a1 M (fun r1c M1 => 
  (wrap r1c = 0 →
    wB_X8_thing_17 a1 a2 k   M1) ∧
  (¬ wrap r1c = 0 →
    w_X8_within a2 0 9999999 M1 (fun r11c M11 => 
    (¬ wrap r11c = 0 →
      w_X0_room 2 M11 (fun r30c M30 => 
      (1 ≤ wrap r30c →
        w_X0_addFirst 2 a1 a2 M30 (fun r52c M52 => k r52c M52)) ∧
      (wrap r30c < 1 →
        w_X8_refuse 4 M30 (fun r39c M39 => k r39c M39)))) ∧
    (wrap r11c = 0 →
      wB_X8_thing_17 a1 a2 k   M11))))
set_option maxHeartbeats 4000000 in
set_option maxRecDepth 100000 in
theorem m_X8_thing {l : Launch} {D : va_G} {tys : List (ClassId × FieldType)} {ad : Nat → Nat} {cI cS : ClassId} {a1 : Int} {a2 : Int} {M : gSt} {k : Int → gSt → Prop} (h : w_X8_thing a1 a2 M k) : MOi l yX8_thing cX8_thing 3 .int (rmR 5 114) D clC ((cI, .int) :: (cS, .object "OldBronze$Sheet") :: tys) (wC ad cI cS) tC zC [.ref (ad 0), iv a1, iv a2] M k := by
  refine moi_intro (by decide +kernel) (Nat.le_of_ble_eq_true rfl) wc_423 ?_
  intro p e s m args below meth c A Q C hR
  unfold w_X8_thing at h
  have pB17 : ∀    (M : gSt), wB_X8_thing_17 a1 a2 k   M → gG p l e (rmR 5 114) s m args below meth c Q D clC A (wC ad cI cS) 3 17 [(0, .ref (ad 0))] [] M := by
    intro    M h
    unfold wB_X8_thing_17 at h
    refine g_aload_n C dX8_thing_17 rfl ?_
    refine g_iconst C dX8_thing_18 ?_
    refine g_callVi C (nargs := 1) (o := 0) (st := []) (m_X8_refuse h) pl_0.1 pl_0.2.1 rfl rfl gc_X8_67 (by decide +kernel) ⟨rfl, rfl⟩ dX8_thing_19 ⟨by decide, by decide⟩ rfl rfl (Nat.le_of_ble_eq_true rfl) ?_
    intro r19c M19 hN
    replace h := hN
    clear hN
    exact hR _ _ _ _ dX8_thing_22 rfl h
  refine g_locals (lv' := [(0, .ref (ad 0)), (1, iv a1), (2, iv a2)]) rfl ?_
  refine g_iload_n C dX8_thing_0 rfl ?_
  refine g_callSi C (nargs := 1) (st := []) (m_X8_isKindAndM h) gc_X8_58 (by decide +kernel) ⟨rfl, rfl⟩ dX8_thing_1 ⟨by decide, by decide⟩ rfl rfl (Nat.le_of_ble_eq_true rfl) ?_
  intro r1c M1 hN
  replace h := hN
  clear hN
  refine g_if_eq C 17 dX8_thing_4 (by decide) (fun hc => ?_) (fun hc => ?_)
  · replace h := h.1 hc
    refine g_locals (lv' := [(0, .ref (ad 0))]) rfl ?_
    exact pB17  _ h
  · replace h := h.2 hc
    refine g_iload_n C dX8_thing_7 rfl ?_
    refine g_iconst C dX8_thing_8 ?_
    refine g_ldc C 9999999 wc_412 rfl dX8_thing_9 ?_
    refine g_callSi C (nargs := 3) (st := []) (m_X8_within h) gc_X8_63 (by decide +kernel) ⟨rfl, rfl⟩ dX8_thing_11 ⟨by decide, by decide⟩ rfl rfl (Nat.le_of_ble_eq_true rfl) ?_
    intro r11c M11 hN
    replace h := hN
    clear hN
    refine g_if_ne C 23 dX8_thing_14 (by decide) (fun hc => ?_) (fun hc => ?_)
    · replace h := h.1 hc
      refine g_aload_n C dX8_thing_23 rfl ?_
      refine cf_X8_12 C pl_0 dX8_thing_24 ?_
      refine cf_X8_71 C pl_1 dX8_thing_27 ?_
      refine g_callVi C (nargs := 0) (o := 2) (st := []) (m_X0_room h) pl_2.1 pl_2.2.1 rfl rfl gc_X8_74 (by decide +kernel) ⟨rfl, rfl⟩ dX8_thing_30 ⟨by decide, by decide⟩ rfl rfl (Nat.le_of_ble_eq_true rfl) ?_
      intro r30c M30 hN
      replace h := hN
      clear hN
      refine g_iconst C dX8_thing_33 ?_
      refine g_icmp_ge C 43 dX8_thing_34 (by decide) (fun hc => ?_) (fun hc => ?_)
      · replace h := h.1 hc
        refine g_aload_n C dX8_thing_43 rfl ?_
        refine cf_X8_12 C pl_0 dX8_thing_44 ?_
        refine cf_X8_71 C pl_1 dX8_thing_47 ?_
        refine g_iload_n C dX8_thing_50 rfl ?_
        refine g_iload_n C dX8_thing_51 rfl ?_
        refine g_callVi C (nargs := 2) (o := 2) (st := []) (m_X0_addFirst h) pl_2.1 pl_2.2.1 rfl rfl gc_X8_78 (by decide +kernel) ⟨rfl, rfl⟩ dX8_thing_52 ⟨by decide, by decide⟩ rfl rfl (Nat.le_of_ble_eq_true rfl) ?_
        intro r52c M52 hN
        replace h := hN
        clear hN
        exact hR _ _ _ _ dX8_thing_55 rfl h
      · replace h := h.2 hc
        refine g_aload_n C dX8_thing_37 rfl ?_
        refine g_iconst C dX8_thing_38 ?_
        refine g_callVi C (nargs := 1) (o := 0) (st := []) (m_X8_refuse h) pl_0.1 pl_0.2.1 rfl rfl gc_X8_67 (by decide +kernel) ⟨rfl, rfl⟩ dX8_thing_39 ⟨by decide, by decide⟩ rfl rfl (Nat.le_of_ble_eq_true rfl) ?_
        intro r39c M39 hN
        replace h := hN
        clear hN
        exact hR _ _ _ _ dX8_thing_42 rfl h
    · replace h := h.2 hc
      refine g_locals (lv' := [(0, .ref (ad 0))]) rfl ?_
      exact pB17  _ h
def wB_X8_thingIs_24 (a1 : Int) (a2 : Int) (k : Int → gSt → Prop)   (M : gSt) : Prop :=
w_X8_refuse 1 M (fun r26c M26 => k r26c M26)
def w_X8_thingIs (a1 : Int) (a2 : Int) (M : gSt) (k : Int → gSt → Prop) : Prop :=
  w_X0_has 2 a1 M (fun r8c M8 => 
  (wrap r8c = 0 →
    wB_X8_thingIs_24 a1 a2 k   M8) ∧
  (¬ wrap r8c = 0 →
    w_X8_within a2 0 10 M8 (fun r18c M18 => 
    (¬ wrap r18c = 0 →
      w_X1_numberOf 1 2 a1 a2 M18 (fun r43c M43 => k r43c M43)) ∧
    (wrap r18c = 0 →
      wB_X8_thingIs_24 a1 a2 k   M18))))
set_option maxHeartbeats 4000000 in
set_option maxRecDepth 100000 in
theorem m_X8_thingIs {l : Launch} {D : va_G} {tys : List (ClassId × FieldType)} {ad : Nat → Nat} {cI cS : ClassId} {a1 : Int} {a2 : Int} {M : gSt} {k : Int → gSt → Prop} (h : w_X8_thingIs a1 a2 M k) : MOi l yX8_thingIs cX8_thingIs 3 .int (rmR 5 133) D clC ((cI, .int) :: (cS, .object "OldBronze$Sheet") :: tys) (wC ad cI cS) tC zC [.ref (ad 0), iv a1, iv a2] M k := by
  refine moi_intro (by decide +kernel) (Nat.le_of_ble_eq_true rfl) wc_430 ?_
  intro p e s m args below meth c A Q C hR
  unfold w_X8_thingIs at h
  have pB24 : ∀    (M : gSt), wB_X8_thingIs_24 a1 a2 k   M → gG p l e (rmR 5 133) s m args below meth c Q D clC A (wC ad cI cS) 3 24 [(0, .ref (ad 0))] [] M := by
    intro    M h
    unfold wB_X8_thingIs_24 at h
    refine g_aload_n C dX8_thingIs_24 rfl ?_
    refine g_iconst C dX8_thingIs_25 ?_
    refine g_callVi C (nargs := 1) (o := 0) (st := []) (m_X8_refuse h) pl_0.1 pl_0.2.1 rfl rfl gc_X8_67 (by decide +kernel) ⟨rfl, rfl⟩ dX8_thingIs_26 ⟨by decide, by decide⟩ rfl rfl (Nat.le_of_ble_eq_true rfl) ?_
    intro r26c M26 hN
    replace h := hN
    clear hN
    exact hR _ _ _ _ dX8_thingIs_29 rfl h
  refine g_locals (lv' := [(0, .ref (ad 0)), (1, iv a1), (2, iv a2)]) rfl ?_
  refine g_aload_n C dX8_thingIs_0 rfl ?_
  refine cf_X8_12 C pl_0 dX8_thingIs_1 ?_
  refine cf_X8_71 C pl_1 dX8_thingIs_4 ?_
  refine g_iload_n C dX8_thingIs_7 rfl ?_
  refine g_callVi C (nargs := 1) (o := 2) (st := []) (m_X0_has h) pl_2.1 pl_2.2.1 rfl rfl gc_X8_82 (by decide +kernel) ⟨rfl, rfl⟩ dX8_thingIs_8 ⟨by decide, by decide⟩ rfl rfl (Nat.le_of_ble_eq_true rfl) ?_
  intro r8c M8 hN
  replace h := hN
  clear hN
  refine g_if_eq C 24 dX8_thingIs_11 (by decide) (fun hc => ?_) (fun hc => ?_)
  · replace h := h.1 hc
    refine g_locals (lv' := [(0, .ref (ad 0))]) rfl ?_
    exact pB24  _ h
  · replace h := h.2 hc
    refine g_iload_n C dX8_thingIs_14 rfl ?_
    refine g_iconst C dX8_thingIs_15 ?_
    refine g_bipush C dX8_thingIs_16 rfl ?_
    refine g_callSi C (nargs := 3) (st := []) (m_X8_within h) gc_X8_63 (by decide +kernel) ⟨rfl, rfl⟩ dX8_thingIs_18 ⟨by decide, by decide⟩ rfl rfl (Nat.le_of_ble_eq_true rfl) ?_
    intro r18c M18 hN
    replace h := hN
    clear hN
    refine g_if_ne C 30 dX8_thingIs_21 (by decide) (fun hc => ?_) (fun hc => ?_)
    · replace h := h.1 hc
      refine g_aload_n C dX8_thingIs_30 rfl ?_
      refine cf_X8_12 C pl_0 dX8_thingIs_31 ?_
      refine g_aload_n C dX8_thingIs_34 rfl ?_
      refine cf_X8_12 C pl_0 dX8_thingIs_35 ?_
      refine cf_X8_71 C pl_1 dX8_thingIs_38 ?_
      refine g_iload_n C dX8_thingIs_41 rfl ?_
      refine g_iload_n C dX8_thingIs_42 rfl ?_
      refine g_callVi C (nargs := 3) (o := 1) (st := []) (m_X1_numberOf h) pl_1.1 pl_1.2 rfl rfl gc_X8_85 (by decide +kernel) ⟨rfl, rfl⟩ dX8_thingIs_43 ⟨by decide, by decide⟩ rfl rfl (Nat.le_of_ble_eq_true rfl) ?_
      intro r43c M43 hN
      replace h := hN
      clear hN
      exact hR _ _ _ _ dX8_thingIs_46 rfl h
    · replace h := h.2 hc
      refine g_locals (lv' := [(0, .ref (ad 0))]) rfl ?_
      exact pB24  _ h
def wC_X8_isUnder_4 (a1 : Int) (a2 : Int) (k : Int → gSt → Prop) (r4 : Int → Int → gSt → Prop) (X4_30 : Int → gSt → Prop) (v2 : Int) (v3 : Int) (M : gSt) : Prop :=

  (7 ≤ wrap v3 →
    X4_30 v2 M) ∧
  (wrap v3 < 7 →

    (wrap v2 = wrap a2 →
      X4_30 v2 M) ∧
    (¬ wrap v2 = wrap a2 →

      (wrap v2 = 0 →
        X4_30 v2 M) ∧
      (¬ wrap v2 = 0 →
        w_X8_above v2 M (fun r20c M20 => r4 r20c (v3 + 1) M20))))
def wL_X8_isUnder_4 (a1 : Int) (a2 : Int) (k : Int → gSt → Prop)  (X4_30 : Int → gSt → Prop) : Nat → Int → Int → gSt → Prop
  | 0 => fun _ _ _ => False
  | n + 1 => fun v2 v3 M => wC_X8_isUnder_4 a1 a2 k  (wL_X8_isUnder_4 a1 a2 k  X4_30 n) X4_30 v2 v3 M
def wB_X8_isUnder_30 (a1 : Int) (a2 : Int) (k : Int → gSt → Prop)  (v2 : Int) (M : gSt) : Prop :=

  (¬ wrap v2 = wrap a2 →
    k 0 M) ∧
  (wrap v2 = wrap a2 →
    k 1 M)
def w_X8_isUnder (a1 : Int) (a2 : Int) (M : gSt) (k : Int → gSt → Prop) : Prop :=
  ∃ n, wL_X8_isUnder_4 a1 a2 k  (fun u2_4 M4 =>
    wB_X8_isUnder_30 a1 a2 k  u2_4 M4) n a1 0 M
set_option maxHeartbeats 4000000 in
set_option maxRecDepth 100000 in
theorem m_X8_isUnder {l : Launch} {D : va_G} {tys : List (ClassId × FieldType)} {ad : Nat → Nat} {cI cS : ClassId} {a1 : Int} {a2 : Int} {M : gSt} {k : Int → gSt → Prop} (h : w_X8_isUnder a1 a2 M k) : MOi l yX8_isUnder cX8_isUnder 4 .boolean (rmR 1 20) D clC ((cI, .int) :: (cS, .object "OldBronze$Sheet") :: tys) (wC ad cI cS) tC zC [iv a1, iv a2] M k := by
  refine moi_intro (by decide +kernel) (Nat.le_of_ble_eq_true rfl) wc_431 ?_
  intro p e s m args below meth c A Q C hR
  unfold w_X8_isUnder at h
  have pC4 : ∀ (r4 : Int → Int → gSt → Prop) (X4_30 : Int → gSt → Prop) (hr4 : ∀ (v2 : Int) (v3 : Int) (M : gSt), r4 v2 v3 M → gG p l e (rmR 1 20) s m args below meth c Q D clC A (wC ad cI cS) 4 4 [(1, iv a2), (2, iv v2), (3, iv v3)] [] M) (hX4_30 : ∀ (v2 : Int) (M : gSt), X4_30 v2 M → gG p l e (rmR 1 20) s m args below meth c Q D clC A (wC ad cI cS) 4 30 [(1, iv a2), (2, iv v2)] [] M) (v2 : Int) (v3 : Int) (M : gSt), wC_X8_isUnder_4 a1 a2 k r4 X4_30 v2 v3 M → gG p l e (rmR 1 20) s m args below meth c Q D clC A (wC ad cI cS) 4 4 [(1, iv a2), (2, iv v2), (3, iv v3)] [] M := by
    intro r4 X4_30 hr4 hX4_30 v2 v3 M h
    unfold wC_X8_isUnder_4 at h
    refine g_iload_n C dX8_isUnder_4 rfl ?_
    refine g_bipush C dX8_isUnder_5 rfl ?_
    refine g_icmp_ge C 30 dX8_isUnder_7 (by decide) (fun hc => ?_) (fun hc => ?_)
    · replace h := h.1 hc
      refine g_locals (lv' := [(1, iv a2), (2, iv v2)]) rfl ?_
      exact hX4_30 _  _ h
    · replace h := h.2 hc
      refine g_iload_n C dX8_isUnder_10 rfl ?_
      refine g_iload_n C dX8_isUnder_11 rfl ?_
      refine g_icmp_eq C 30 dX8_isUnder_12 (by decide) (fun hc => ?_) (fun hc => ?_)
      · replace h := h.1 hc
        refine g_locals (lv' := [(1, iv a2), (2, iv v2)]) rfl ?_
        exact hX4_30 _  _ h
      · replace h := h.2 hc
        refine g_iload_n C dX8_isUnder_15 rfl ?_
        refine g_if_eq C 30 dX8_isUnder_16 (by decide) (fun hc => ?_) (fun hc => ?_)
        · replace h := h.1 hc
          refine g_locals (lv' := [(1, iv a2), (2, iv v2)]) rfl ?_
          exact hX4_30 _  _ h
        · replace h := h.2 hc
          refine g_iload_n C dX8_isUnder_19 rfl ?_
          refine g_callSi C (nargs := 1) (st := []) (m_X8_above h) gc_X8_298 (by decide +kernel) ⟨rfl, rfl⟩ dX8_isUnder_20 ⟨by decide, by decide⟩ rfl rfl (Nat.le_of_ble_eq_true rfl) ?_
          intro r20c M20 hN
          replace h := hN
          clear hN
          refine g_istore_n C dX8_isUnder_23 (by decide) rfl ?_
          refine g_locals (lv' := [(1, iv a2), (2, iv r20c), (3, iv v3)]) rfl ?_
          refine g_iinc C dX8_isUnder_24 rfl (by decide) rfl ?_
          refine g_locals (lv' := [(1, iv a2), (2, iv r20c), (3, iv (v3 + 1))]) rfl ?_
          refine g_goto C 4 dX8_isUnder_27 (by decide) ?_
          refine g_locals (lv' := [(1, iv a2), (2, iv r20c), (3, iv (v3 + 1))]) rfl ?_
          exact hr4 _ _  _ h
  have pL4 : ∀  (X4_30 : Int → gSt → Prop) (hX4_30 : ∀ (v2 : Int) (M : gSt), X4_30 v2 M → gG p l e (rmR 1 20) s m args below meth c Q D clC A (wC ad cI cS) 4 30 [(1, iv a2), (2, iv v2)] [] M) (n : Nat) (v2 : Int) (v3 : Int) (M : gSt), wL_X8_isUnder_4 a1 a2 k  X4_30 n v2 v3 M → gG p l e (rmR 1 20) s m args below meth c Q D clC A (wC ad cI cS) 4 4 [(1, iv a2), (2, iv v2), (3, iv v3)] [] M := by
    intro  X4_30 hX4_30 n
    induction n with
    | zero => intro v2 v3 M h; exact h.elim
    | succ n ih =>
      intro v2 v3 M h
      exact pC4  (wL_X8_isUnder_4 a1 a2 k  X4_30 n) X4_30 ih hX4_30 v2 v3 M h
  have pB30 : ∀   (v2 : Int) (M : gSt), wB_X8_isUnder_30 a1 a2 k  v2 M → gG p l e (rmR 1 20) s m args below meth c Q D clC A (wC ad cI cS) 4 30 [(1, iv a2), (2, iv v2)] [] M := by
    intro   v2 M h
    unfold wB_X8_isUnder_30 at h
    refine g_iload_n C dX8_isUnder_30 rfl ?_
    refine g_iload_n C dX8_isUnder_31 rfl ?_
    refine g_icmp_ne C 39 dX8_isUnder_32 (by decide) (fun hc => ?_) (fun hc => ?_)
    · replace h := h.1 hc
      refine g_iconst C dX8_isUnder_39 ?_
      exact hR _ _ _ _ dX8_isUnder_40 rfl h
    · replace h := h.2 hc
      refine g_iconst C dX8_isUnder_35 ?_
      refine g_goto C 40 dX8_isUnder_36 (by decide) ?_
      exact hR _ _ _ _ dX8_isUnder_40 rfl h
  refine g_locals (lv' := [(0, iv a1), (1, iv a2)]) rfl ?_
  refine g_iload_n C dX8_isUnder_0 rfl ?_
  refine g_istore_n C dX8_isUnder_1 (by decide) rfl ?_
  refine g_locals (lv' := [(0, iv a1), (1, iv a2), (2, iv a1)]) rfl ?_
  refine g_iconst C dX8_isUnder_2 ?_
  refine g_istore_n C dX8_isUnder_3 (by decide) rfl ?_
  refine g_locals (lv' := [(0, iv a1), (1, iv a2), (2, iv a1), (3, iv 0)]) rfl ?_
  refine g_locals (lv' := [(1, iv a2), (2, iv a1), (3, iv 0)]) rfl ?_
  obtain ⟨n, h⟩ := h
  refine pL4 _ ?_ n _ _ _ h
  · intro u2_4 M4 hN
    replace h := hN
    clear hN
    refine g_locals (lv' := [(1, iv a2), (2, iv u2_4)]) rfl ?_
    exact pB30 _ _ h
def wB_X8_as_24 (a1 : Int) (a2 : Int) (k : Int → gSt → Prop)   (M : gSt) : Prop :=
w_X8_refuse 1 M (fun r26c M26 => k r26c M26)
def w_X8_as (a1 : Int) (a2 : Int) (M : gSt) (k : Int → gSt → Prop) : Prop :=
  w_X0_has 2 a1 M (fun r8c M8 => 
  (wrap r8c = 0 →
    wB_X8_as_24 a1 a2 k   M8) ∧
  (¬ wrap r8c = 0 →
    w_X8_within a2 0 6 M8 (fun r18c M18 => 
    (¬ wrap r18c = 0 →
      w_X0_number 2 a1 0 M18 (fun r39c M39 => w_X8_isUnder r39c a2 M39 (fun r43c M43 => 
      (¬ wrap r43c = 0 →
        w_X0_number 2 a1 2 M43 (fun r64c M64 => k r64c M64)) ∧
      (wrap r43c = 0 →
        w_X8_refuse 5 M43 (fun r51c M51 => k r51c M51))))) ∧
    (wrap r18c = 0 →
      wB_X8_as_24 a1 a2 k   M18))))
set_option maxHeartbeats 4000000 in
set_option maxRecDepth 100000 in
theorem m_X8_as {l : Launch} {D : va_G} {tys : List (ClassId × FieldType)} {ad : Nat → Nat} {cI cS : ClassId} {a1 : Int} {a2 : Int} {M : gSt} {k : Int → gSt → Prop} (h : w_X8_as a1 a2 M k) : MOi l yX8_as cX8_as 3 .int (rmR 2 45) D clC ((cI, .int) :: (cS, .object "OldBronze$Sheet") :: tys) (wC ad cI cS) tC zC [.ref (ad 0), iv a1, iv a2] M k := by
  refine moi_intro (by decide +kernel) (Nat.le_of_ble_eq_true rfl) wc_436 ?_
  intro p e s m args below meth c A Q C hR
  unfold w_X8_as at h
  have pB24 : ∀    (M : gSt), wB_X8_as_24 a1 a2 k   M → gG p l e (rmR 2 45) s m args below meth c Q D clC A (wC ad cI cS) 3 24 [(0, .ref (ad 0))] [] M := by
    intro    M h
    unfold wB_X8_as_24 at h
    refine g_aload_n C dX8_as_24 rfl ?_
    refine g_iconst C dX8_as_25 ?_
    refine g_callVi C (nargs := 1) (o := 0) (st := []) (m_X8_refuse h) pl_0.1 pl_0.2.1 rfl rfl gc_X8_67 (by decide +kernel) ⟨rfl, rfl⟩ dX8_as_26 ⟨by decide, by decide⟩ rfl rfl (Nat.le_of_ble_eq_true rfl) ?_
    intro r26c M26 hN
    replace h := hN
    clear hN
    exact hR _ _ _ _ dX8_as_29 rfl h
  refine g_locals (lv' := [(0, .ref (ad 0)), (1, iv a1), (2, iv a2)]) rfl ?_
  refine g_aload_n C dX8_as_0 rfl ?_
  refine cf_X8_12 C pl_0 dX8_as_1 ?_
  refine cf_X8_71 C pl_1 dX8_as_4 ?_
  refine g_iload_n C dX8_as_7 rfl ?_
  refine g_callVi C (nargs := 1) (o := 2) (st := []) (m_X0_has h) pl_2.1 pl_2.2.1 rfl rfl gc_X8_82 (by decide +kernel) ⟨rfl, rfl⟩ dX8_as_8 ⟨by decide, by decide⟩ rfl rfl (Nat.le_of_ble_eq_true rfl) ?_
  intro r8c M8 hN
  replace h := hN
  clear hN
  refine g_if_eq C 24 dX8_as_11 (by decide) (fun hc => ?_) (fun hc => ?_)
  · replace h := h.1 hc
    refine g_locals (lv' := [(0, .ref (ad 0))]) rfl ?_
    exact pB24  _ h
  · replace h := h.2 hc
    refine g_iload_n C dX8_as_14 rfl ?_
    refine g_iconst C dX8_as_15 ?_
    refine g_bipush C dX8_as_16 rfl ?_
    refine g_callSi C (nargs := 3) (st := []) (m_X8_within h) gc_X8_63 (by decide +kernel) ⟨rfl, rfl⟩ dX8_as_18 ⟨by decide, by decide⟩ rfl rfl (Nat.le_of_ble_eq_true rfl) ?_
    intro r18c M18 hN
    replace h := hN
    clear hN
    refine g_if_ne C 30 dX8_as_21 (by decide) (fun hc => ?_) (fun hc => ?_)
    · replace h := h.1 hc
      refine g_aload_n C dX8_as_30 rfl ?_
      refine cf_X8_12 C pl_0 dX8_as_31 ?_
      refine cf_X8_71 C pl_1 dX8_as_34 ?_
      refine g_iload_n C dX8_as_37 rfl ?_
      refine g_iconst C dX8_as_38 ?_
      refine g_callVi C (nargs := 2) (o := 2) (st := []) (m_X0_number h) pl_2.1 pl_2.2.1 rfl rfl gc_X8_89 (by decide +kernel) ⟨rfl, rfl⟩ dX8_as_39 ⟨by decide, by decide⟩ rfl rfl (Nat.le_of_ble_eq_true rfl) ?_
      intro r39c M39 hN
      replace h := hN
      clear hN
      refine g_iload_n C dX8_as_42 rfl ?_
      refine g_callSi C (nargs := 2) (st := []) (m_X8_isUnder h) gc_X8_92 (by decide +kernel) ⟨rfl, rfl⟩ dX8_as_43 ⟨by decide, by decide⟩ rfl rfl (Nat.le_of_ble_eq_true rfl) ?_
      intro r43c M43 hN
      replace h := hN
      clear hN
      refine g_if_ne C 55 dX8_as_46 (by decide) (fun hc => ?_) (fun hc => ?_)
      · replace h := h.1 hc
        refine g_aload_n C dX8_as_55 rfl ?_
        refine cf_X8_12 C pl_0 dX8_as_56 ?_
        refine cf_X8_71 C pl_1 dX8_as_59 ?_
        refine g_iload_n C dX8_as_62 rfl ?_
        refine g_iconst C dX8_as_63 ?_
        refine g_callVi C (nargs := 2) (o := 2) (st := []) (m_X0_number h) pl_2.1 pl_2.2.1 rfl rfl gc_X8_89 (by decide +kernel) ⟨rfl, rfl⟩ dX8_as_64 ⟨by decide, by decide⟩ rfl rfl (Nat.le_of_ble_eq_true rfl) ?_
        intro r64c M64 hN
        replace h := hN
        clear hN
        exact hR _ _ _ _ dX8_as_67 rfl h
      · replace h := h.2 hc
        refine g_aload_n C dX8_as_49 rfl ?_
        refine g_iconst C dX8_as_50 ?_
        refine g_callVi C (nargs := 1) (o := 0) (st := []) (m_X8_refuse h) pl_0.1 pl_0.2.1 rfl rfl gc_X8_67 (by decide +kernel) ⟨rfl, rfl⟩ dX8_as_51 ⟨by decide, by decide⟩ rfl rfl (Nat.le_of_ble_eq_true rfl) ?_
        intro r51c M51 hN
        replace h := hN
        clear hN
        exact hR _ _ _ _ dX8_as_54 rfl h
    · replace h := h.2 hc
      refine g_locals (lv' := [(0, .ref (ad 0))]) rfl ?_
      exact pB24  _ h
def wB_X8_set_34 (a1 : Int) (a2 : Int) (a3 : Int) (k : Int → gSt → Prop)   (M : gSt) : Prop :=
w_X8_refuse 1 M (fun r36c M36 => k r36c M36)
def w_X8_set (a1 : Int) (a2 : Int) (a3 : Int) (M : gSt) (k : Int → gSt → Prop) : Prop :=
  w_X0_has 2 a1 M (fun r8c M8 => 
  (wrap r8c = 0 →
    wB_X8_set_34 a1 a2 a3 k   M8) ∧
  (¬ wrap r8c = 0 →
    w_X0_mostSettable 2 a1 a2 M8 (fun r25c M25 => w_X8_within a3 0 r25c M25 (fun r28c M28 => 
    (¬ wrap r28c = 0 →
      w_X0_number 2 a1 a2 M28 (fun r49c M49 => w_X0_become 2 a1 a2 a3 M49 (fun M64 => k r49c M64))) ∧
    (wrap r28c = 0 →
      wB_X8_set_34 a1 a2 a3 k   M28)))))
set_option maxHeartbeats 4000000 in
set_option maxRecDepth 100000 in
theorem m_X8_set {l : Launch} {D : va_G} {tys : List (ClassId × FieldType)} {ad : Nat → Nat} {cI cS : ClassId} {a1 : Int} {a2 : Int} {a3 : Int} {M : gSt} {k : Int → gSt → Prop} (h : w_X8_set a1 a2 a3 M k) : MOi l yX8_set cX8_set 5 .int (rmR 3 67) D clC ((cI, .int) :: (cS, .object "OldBronze$Sheet") :: tys) (wC ad cI cS) tC zC [.ref (ad 0), iv a1, iv a2, iv a3] M k := by
  refine moi_intro (by decide +kernel) (Nat.le_of_ble_eq_true rfl) wc_441 ?_
  intro p e s m args below meth c A Q C hR
  unfold w_X8_set at h
  have pB34 : ∀    (M : gSt), wB_X8_set_34 a1 a2 a3 k   M → gG p l e (rmR 3 67) s m args below meth c Q D clC A (wC ad cI cS) 5 34 [(0, .ref (ad 0))] [] M := by
    intro    M h
    unfold wB_X8_set_34 at h
    refine g_aload_n C dX8_set_34 rfl ?_
    refine g_iconst C dX8_set_35 ?_
    refine g_callVi C (nargs := 1) (o := 0) (st := []) (m_X8_refuse h) pl_0.1 pl_0.2.1 rfl rfl gc_X8_67 (by decide +kernel) ⟨rfl, rfl⟩ dX8_set_36 ⟨by decide, by decide⟩ rfl rfl (Nat.le_of_ble_eq_true rfl) ?_
    intro r36c M36 hN
    replace h := hN
    clear hN
    exact hR _ _ _ _ dX8_set_39 rfl h
  refine g_locals (lv' := [(0, .ref (ad 0)), (1, iv a1), (2, iv a2), (3, iv a3)]) rfl ?_
  refine g_aload_n C dX8_set_0 rfl ?_
  refine cf_X8_12 C pl_0 dX8_set_1 ?_
  refine cf_X8_71 C pl_1 dX8_set_4 ?_
  refine g_iload_n C dX8_set_7 rfl ?_
  refine g_callVi C (nargs := 1) (o := 2) (st := []) (m_X0_has h) pl_2.1 pl_2.2.1 rfl rfl gc_X8_82 (by decide +kernel) ⟨rfl, rfl⟩ dX8_set_8 ⟨by decide, by decide⟩ rfl rfl (Nat.le_of_ble_eq_true rfl) ?_
  intro r8c M8 hN
  replace h := hN
  clear hN
  refine g_if_eq C 34 dX8_set_11 (by decide) (fun hc => ?_) (fun hc => ?_)
  · replace h := h.1 hc
    refine g_locals (lv' := [(0, .ref (ad 0))]) rfl ?_
    exact pB34  _ h
  · replace h := h.2 hc
    refine g_iload_n C dX8_set_14 rfl ?_
    refine g_iconst C dX8_set_15 ?_
    refine g_aload_n C dX8_set_16 rfl ?_
    refine cf_X8_12 C pl_0 dX8_set_17 ?_
    refine cf_X8_71 C pl_1 dX8_set_20 ?_
    refine g_iload_n C dX8_set_23 rfl ?_
    refine g_iload_n C dX8_set_24 rfl ?_
    refine g_callVi C (nargs := 2) (o := 2) (st := [iv 0, iv a3]) (m_X0_mostSettable h) pl_2.1 pl_2.2.1 rfl rfl gc_X8_96 (by decide +kernel) ⟨rfl, rfl⟩ dX8_set_25 ⟨by decide, by decide⟩ rfl rfl (Nat.le_of_ble_eq_true rfl) ?_
    intro r25c M25 hN
    replace h := hN
    clear hN
    refine g_callSi C (nargs := 3) (st := []) (m_X8_within h) gc_X8_63 (by decide +kernel) ⟨rfl, rfl⟩ dX8_set_28 ⟨by decide, by decide⟩ rfl rfl (Nat.le_of_ble_eq_true rfl) ?_
    intro r28c M28 hN
    replace h := hN
    clear hN
    refine g_if_ne C 40 dX8_set_31 (by decide) (fun hc => ?_) (fun hc => ?_)
    · replace h := h.1 hc
      refine g_aload_n C dX8_set_40 rfl ?_
      refine cf_X8_12 C pl_0 dX8_set_41 ?_
      refine cf_X8_71 C pl_1 dX8_set_44 ?_
      refine g_iload_n C dX8_set_47 rfl ?_
      refine g_iload_n C dX8_set_48 rfl ?_
      refine g_callVi C (nargs := 2) (o := 2) (st := []) (m_X0_number h) pl_2.1 pl_2.2.1 rfl rfl gc_X8_89 (by decide +kernel) ⟨rfl, rfl⟩ dX8_set_49 ⟨by decide, by decide⟩ rfl rfl (Nat.le_of_ble_eq_true rfl) ?_
      intro r49c M49 hN
      replace h := hN
      clear hN
      refine g_istore C dX8_set_52 (by decide) rfl ?_
      refine g_locals (lv' := [(0, .ref (ad 0)), (1, iv a1), (2, iv a2), (3, iv a3), (4, iv r49c)]) rfl ?_
      refine g_aload_n C dX8_set_54 rfl ?_
      refine cf_X8_12 C pl_0 dX8_set_55 ?_
      refine cf_X8_71 C pl_1 dX8_set_58 ?_
      refine g_iload_n C dX8_set_61 rfl ?_
      refine g_iload_n C dX8_set_62 rfl ?_
      refine g_iload_n C dX8_set_63 rfl ?_
      refine g_callVv C (nargs := 3) (o := 2) (st := []) (m_X0_become h) pl_2.1 pl_2.2.1 rfl rfl gc_X8_99 (by decide +kernel) ⟨rfl, rfl⟩ dX8_set_64 ⟨by decide, by decide⟩ rfl rfl (Nat.le_of_ble_eq_true rfl) ?_
      intro M64 hN
      replace h := hN
      clear hN
      refine g_iload C dX8_set_67 rfl ?_
      exact hR _ _ _ _ dX8_set_69 rfl h
    · replace h := h.2 hc
      refine g_locals (lv' := [(0, .ref (ad 0))]) rfl ?_
      exact pB34  _ h
def wB_X8_melt_24 (a1 : Int) (a2 : Int) (k : Int → gSt → Prop)   (M : gSt) : Prop :=
w_X8_refuse 1 M (fun r26c M26 => k r26c M26)
def w_X8_melt (a1 : Int) (a2 : Int) (M : gSt) (k : Int → gSt → Prop) : Prop :=
  w_X0_has 2 a1 M (fun r8c M8 => 
  (wrap r8c = 0 →
    wB_X8_melt_24 a1 a2 k   M8) ∧
  (¬ wrap r8c = 0 →
    w_X8_within a2 1 8 M8 (fun r18c M18 => 
    (¬ wrap r18c = 0 →
      w_X0_number 2 a1 2 M18 (fun r39c M39 => 
      (¬ wrap r39c = 0 →
        w_X0_pour 2 a1 12 a2 M39 (fun M62 => w_X0_number 2 12 2 M62 (fun r75c M75 => k r75c M75))) ∧
      (wrap r39c = 0 →
        w_X8_refuse 3 M39 (fun r47c M47 => k r47c M47)))) ∧
    (wrap r18c = 0 →
      wB_X8_melt_24 a1 a2 k   M18))))
set_option maxHeartbeats 4000000 in
set_option maxRecDepth 100000 in
theorem m_X8_melt {l : Launch} {D : va_G} {tys : List (ClassId × FieldType)} {ad : Nat → Nat} {cI cS : ClassId} {a1 : Int} {a2 : Int} {M : gSt} {k : Int → gSt → Prop} (h : w_X8_melt a1 a2 M k) : MOi l yX8_melt cX8_melt 3 .int (rmR 5 123) D clC ((cI, .int) :: (cS, .object "OldBronze$Sheet") :: tys) (wC ad cI cS) tC zC [.ref (ad 0), iv a1, iv a2] M k := by
  refine moi_intro (by decide +kernel) (Nat.le_of_ble_eq_true rfl) wc_443 ?_
  intro p e s m args below meth c A Q C hR
  unfold w_X8_melt at h
  have pB24 : ∀    (M : gSt), wB_X8_melt_24 a1 a2 k   M → gG p l e (rmR 5 123) s m args below meth c Q D clC A (wC ad cI cS) 3 24 [(0, .ref (ad 0))] [] M := by
    intro    M h
    unfold wB_X8_melt_24 at h
    refine g_aload_n C dX8_melt_24 rfl ?_
    refine g_iconst C dX8_melt_25 ?_
    refine g_callVi C (nargs := 1) (o := 0) (st := []) (m_X8_refuse h) pl_0.1 pl_0.2.1 rfl rfl gc_X8_67 (by decide +kernel) ⟨rfl, rfl⟩ dX8_melt_26 ⟨by decide, by decide⟩ rfl rfl (Nat.le_of_ble_eq_true rfl) ?_
    intro r26c M26 hN
    replace h := hN
    clear hN
    exact hR _ _ _ _ dX8_melt_29 rfl h
  refine g_locals (lv' := [(0, .ref (ad 0)), (1, iv a1), (2, iv a2)]) rfl ?_
  refine g_aload_n C dX8_melt_0 rfl ?_
  refine cf_X8_12 C pl_0 dX8_melt_1 ?_
  refine cf_X8_71 C pl_1 dX8_melt_4 ?_
  refine g_iload_n C dX8_melt_7 rfl ?_
  refine g_callVi C (nargs := 1) (o := 2) (st := []) (m_X0_has h) pl_2.1 pl_2.2.1 rfl rfl gc_X8_82 (by decide +kernel) ⟨rfl, rfl⟩ dX8_melt_8 ⟨by decide, by decide⟩ rfl rfl (Nat.le_of_ble_eq_true rfl) ?_
  intro r8c M8 hN
  replace h := hN
  clear hN
  refine g_if_eq C 24 dX8_melt_11 (by decide) (fun hc => ?_) (fun hc => ?_)
  · replace h := h.1 hc
    refine g_locals (lv' := [(0, .ref (ad 0))]) rfl ?_
    exact pB24  _ h
  · replace h := h.2 hc
    refine g_iload_n C dX8_melt_14 rfl ?_
    refine g_iconst C dX8_melt_15 ?_
    refine g_bipush C dX8_melt_16 rfl ?_
    refine g_callSi C (nargs := 3) (st := []) (m_X8_within h) gc_X8_63 (by decide +kernel) ⟨rfl, rfl⟩ dX8_melt_18 ⟨by decide, by decide⟩ rfl rfl (Nat.le_of_ble_eq_true rfl) ?_
    intro r18c M18 hN
    replace h := hN
    clear hN
    refine g_if_ne C 30 dX8_melt_21 (by decide) (fun hc => ?_) (fun hc => ?_)
    · replace h := h.1 hc
      refine g_aload_n C dX8_melt_30 rfl ?_
      refine cf_X8_12 C pl_0 dX8_melt_31 ?_
      refine cf_X8_71 C pl_1 dX8_melt_34 ?_
      refine g_iload_n C dX8_melt_37 rfl ?_
      refine g_iconst C dX8_melt_38 ?_
      refine g_callVi C (nargs := 2) (o := 2) (st := []) (m_X0_number h) pl_2.1 pl_2.2.1 rfl rfl gc_X8_89 (by decide +kernel) ⟨rfl, rfl⟩ dX8_melt_39 ⟨by decide, by decide⟩ rfl rfl (Nat.le_of_ble_eq_true rfl) ?_
      intro r39c M39 hN
      replace h := hN
      clear hN
      refine g_if_ne C 51 dX8_melt_42 (by decide) (fun hc => ?_) (fun hc => ?_)
      · replace h := h.1 hc
        refine g_aload_n C dX8_melt_51 rfl ?_
        refine cf_X8_12 C pl_0 dX8_melt_52 ?_
        refine cf_X8_71 C pl_1 dX8_melt_55 ?_
        refine g_iload_n C dX8_melt_58 rfl ?_
        refine g_bipush C dX8_melt_59 rfl ?_
        refine g_iload_n C dX8_melt_61 rfl ?_
        refine g_callVv C (nargs := 3) (o := 2) (st := []) (m_X0_pour h) pl_2.1 pl_2.2.1 rfl rfl gc_X8_103 (by decide +kernel) ⟨rfl, rfl⟩ dX8_melt_62 ⟨by decide, by decide⟩ rfl rfl (Nat.le_of_ble_eq_true rfl) ?_
        intro M62 hN
        replace h := hN
        clear hN
        refine g_aload_n C dX8_melt_65 rfl ?_
        refine cf_X8_12 C pl_0 dX8_melt_66 ?_
        refine cf_X8_71 C pl_1 dX8_melt_69 ?_
        refine g_bipush C dX8_melt_72 rfl ?_
        refine g_iconst C dX8_melt_74 ?_
        refine g_callVi C (nargs := 2) (o := 2) (st := []) (m_X0_number h) pl_2.1 pl_2.2.1 rfl rfl gc_X8_89 (by decide +kernel) ⟨rfl, rfl⟩ dX8_melt_75 ⟨by decide, by decide⟩ rfl rfl (Nat.le_of_ble_eq_true rfl) ?_
        intro r75c M75 hN
        replace h := hN
        clear hN
        exact hR _ _ _ _ dX8_melt_78 rfl h
      · replace h := h.2 hc
        refine g_aload_n C dX8_melt_45 rfl ?_
        refine g_iconst C dX8_melt_46 ?_
        refine g_callVi C (nargs := 1) (o := 0) (st := []) (m_X8_refuse h) pl_0.1 pl_0.2.1 rfl rfl gc_X8_67 (by decide +kernel) ⟨rfl, rfl⟩ dX8_melt_47 ⟨by decide, by decide⟩ rfl rfl (Nat.le_of_ble_eq_true rfl) ?_
        intro r47c M47 hN
        replace h := hN
        clear hN
        exact hR _ _ _ _ dX8_melt_50 rfl h
    · replace h := h.2 hc
      refine g_locals (lv' := [(0, .ref (ad 0))]) rfl ?_
      exact pB24  _ h
def w_X8_crucible (a1 : Int) (M : gSt) (k : Int → gSt → Prop) : Prop :=
  w_X8_within a1 2 9 M (fun r4c M4 => 
  (¬ wrap r4c = 0 →
    w_X0_number 2 12 a1 M4 (fun r26c M26 => k r26c M26)) ∧
  (wrap r4c = 0 →
    w_X8_refuse 1 M4 (fun r12c M12 => k r12c M12)))
set_option maxHeartbeats 4000000 in
set_option maxRecDepth 100000 in
theorem m_X8_crucible {l : Launch} {D : va_G} {tys : List (ClassId × FieldType)} {ad : Nat → Nat} {cI cS : ClassId} {a1 : Int} {M : gSt} {k : Int → gSt → Prop} (h : w_X8_crucible a1 M k) : MOi l yX8_crucible cX8_crucible 2 .int (rmR 2 45) D clC ((cI, .int) :: (cS, .object "OldBronze$Sheet") :: tys) (wC ad cI cS) tC zC [.ref (ad 0), iv a1] M k := by
  refine moi_intro (by decide +kernel) (Nat.le_of_ble_eq_true rfl) wc_444 ?_
  intro p e s m args below meth c A Q C hR
  unfold w_X8_crucible at h
  refine g_locals (lv' := [(0, .ref (ad 0)), (1, iv a1)]) rfl ?_
  refine g_iload_n C dX8_crucible_0 rfl ?_
  refine g_iconst C dX8_crucible_1 ?_
  refine g_bipush C dX8_crucible_2 rfl ?_
  refine g_callSi C (nargs := 3) (st := []) (m_X8_within h) gc_X8_63 (by decide +kernel) ⟨rfl, rfl⟩ dX8_crucible_4 ⟨by decide, by decide⟩ rfl rfl (Nat.le_of_ble_eq_true rfl) ?_
  intro r4c M4 hN
  replace h := hN
  clear hN
  refine g_if_ne C 16 dX8_crucible_7 (by decide) (fun hc => ?_) (fun hc => ?_)
  · replace h := h.1 hc
    refine g_aload_n C dX8_crucible_16 rfl ?_
    refine cf_X8_12 C pl_0 dX8_crucible_17 ?_
    refine cf_X8_71 C pl_1 dX8_crucible_20 ?_
    refine g_bipush C dX8_crucible_23 rfl ?_
    refine g_iload_n C dX8_crucible_25 rfl ?_
    refine g_callVi C (nargs := 2) (o := 2) (st := []) (m_X0_number h) pl_2.1 pl_2.2.1 rfl rfl gc_X8_89 (by decide +kernel) ⟨rfl, rfl⟩ dX8_crucible_26 ⟨by decide, by decide⟩ rfl rfl (Nat.le_of_ble_eq_true rfl) ?_
    intro r26c M26 hN
    replace h := hN
    clear hN
    exact hR _ _ _ _ dX8_crucible_29 rfl h
  · replace h := h.2 hc
    refine g_aload_n C dX8_crucible_10 rfl ?_
    refine g_iconst C dX8_crucible_11 ?_
    refine g_callVi C (nargs := 1) (o := 0) (st := []) (m_X8_refuse h) pl_0.1 pl_0.2.1 rfl rfl gc_X8_67 (by decide +kernel) ⟨rfl, rfl⟩ dX8_crucible_12 ⟨by decide, by decide⟩ rfl rfl (Nat.le_of_ble_eq_true rfl) ?_
    intro r12c M12 hN
    replace h := hN
    clear hN
    exact hR _ _ _ _ dX8_crucible_15 rfl h
def wB_X8_cast_36 (a1 : Int) (a2 : Int) (a3 : Int) (k : Int → gSt → Prop)   (M : gSt) : Prop :=
w_X8_refuse 1 M (fun r38c M38 => k r38c M38)
def wB_X8_cast_99 (a1 : Int) (a2 : Int) (a3 : Int) (k : Int → gSt → Prop)  (v4 : Int) (v5 : Int) (s0 : Int) (s1 : Int) (M : gSt) : Prop :=

  (wrap s0 ≤ wrap s1 →
    w_X0_addTin 2 a2 M (fun M116 => w_X0_lose 2 12 v4 100 M116 (fun M132 => w_X0_addCast 2 a1 v5 M132 (fun r145c M145 => k r145c M145)))) ∧
  (wrap s1 < wrap s0 →
    w_X8_refuse 4 M (fun r104c M104 => k r104c M104))
def w_X8_cast (a1 : Int) (a2 : Int) (a3 : Int) (M : gSt) (k : Int → gSt → Prop) : Prop :=
  w_X8_isKindAndM a1 M (fun r1c M1 => 
  (wrap r1c = 0 →
    wB_X8_cast_36 a1 a2 a3 k   M1) ∧
  (¬ wrap r1c = 0 →
    w_X8_within a2 0 9999 M1 (fun r12c M12 => 
    (wrap r12c = 0 →
      wB_X8_cast_36 a1 a2 a3 k   M12) ∧
    (¬ wrap r12c = 0 →
      w_X8_within a3 0 990 M12 (fun r23c M23 => 
      (wrap r23c = 0 →
        wB_X8_cast_36 a1 a2 a3 k   M23) ∧
      (¬ wrap r23c = 0 →

        (wrap (Int.tmod (wrap a3) 10) = 0 →
          w_X0_number 2 12 2 M23 (fun r52c M52 => 
          (¬ wrap r52c = 0 →
            ∀ x4_68 : Int, x4_68 = Int.tdiv (wrap a3) 100 → (∀ x5_77 : Int, x5_77 = Int.tmod (wrap (Int.tdiv (wrap a3) 10)) 10 → (w_X0_room 2 M52 (fun r86c M86 => 
            (wrap x5_77 ≤ 0 →
              wB_X8_cast_99 a1 a2 a3 k  x4_68 x5_77 1 r86c M86) ∧
            (0 < wrap x5_77 →
              wB_X8_cast_99 a1 a2 a3 k  x4_68 x5_77 2 r86c M86))))) ∧
          (wrap r52c = 0 →
            w_X8_refuse 3 M52 (fun r60c M60 => k r60c M60)))) ∧
        (¬ wrap (Int.tmod (wrap a3) 10) = 0 →
          wB_X8_cast_36 a1 a2 a3 k   M23)))))))
set_option maxHeartbeats 4000000 in
set_option maxRecDepth 100000 in
theorem m_X8_cast {l : Launch} {D : va_G} {tys : List (ClassId × FieldType)} {ad : Nat → Nat} {cI cS : ClassId} {a1 : Int} {a2 : Int} {a3 : Int} {M : gSt} {k : Int → gSt → Prop} (h : w_X8_cast a1 a2 a3 M k) : MOi l yX8_cast cX8_cast 6 .int (rmR 5 119) D clC ((cI, .int) :: (cS, .object "OldBronze$Sheet") :: tys) (wC ad cI cS) tC zC [.ref (ad 0), iv a1, iv a2, iv a3] M k := by
  refine moi_intro (by decide +kernel) (Nat.le_of_ble_eq_true rfl) wc_452 ?_
  intro p e s m args below meth c A Q C hR
  unfold w_X8_cast at h
  have pB36 : ∀    (M : gSt), wB_X8_cast_36 a1 a2 a3 k   M → gG p l e (rmR 5 119) s m args below meth c Q D clC A (wC ad cI cS) 6 36 [(0, .ref (ad 0))] [] M := by
    intro    M h
    unfold wB_X8_cast_36 at h
    refine g_aload_n C dX8_cast_36 rfl ?_
    refine g_iconst C dX8_cast_37 ?_
    refine g_callVi C (nargs := 1) (o := 0) (st := []) (m_X8_refuse h) pl_0.1 pl_0.2.1 rfl rfl gc_X8_67 (by decide +kernel) ⟨rfl, rfl⟩ dX8_cast_38 ⟨by decide, by decide⟩ rfl rfl (Nat.le_of_ble_eq_true rfl) ?_
    intro r38c M38 hN
    replace h := hN
    clear hN
    exact hR _ _ _ _ dX8_cast_41 rfl h
  have pB99 : ∀   (v4 : Int) (v5 : Int) (s0 : Int) (s1 : Int) (M : gSt), wB_X8_cast_99 a1 a2 a3 k  v4 v5 s0 s1 M → gG p l e (rmR 5 119) s m args below meth c Q D clC A (wC ad cI cS) 6 99 [(0, .ref (ad 0)), (1, iv a1), (2, iv a2), (4, iv v4), (5, iv v5)] [iv s0, iv s1] M := by
    intro   v4 v5 s0 s1 M h
    unfold wB_X8_cast_99 at h
    refine g_icmp_ge C 108 dX8_cast_99 (by decide) (fun hc => ?_) (fun hc => ?_)
    · replace h := h.1 hc
      refine g_aload_n C dX8_cast_108 rfl ?_
      refine cf_X8_12 C pl_0 dX8_cast_109 ?_
      refine cf_X8_71 C pl_1 dX8_cast_112 ?_
      refine g_iload_n C dX8_cast_115 rfl ?_
      refine g_callVv C (nargs := 1) (o := 2) (st := []) (m_X0_addTin h) pl_2.1 pl_2.2.1 rfl rfl gc_X8_106 (by decide +kernel) ⟨rfl, rfl⟩ dX8_cast_116 ⟨by decide, by decide⟩ rfl rfl (Nat.le_of_ble_eq_true rfl) ?_
      intro M116 hN
      replace h := hN
      clear hN
      refine g_aload_n C dX8_cast_119 rfl ?_
      refine cf_X8_12 C pl_0 dX8_cast_120 ?_
      refine cf_X8_71 C pl_1 dX8_cast_123 ?_
      refine g_bipush C dX8_cast_126 rfl ?_
      refine g_iload C dX8_cast_128 rfl ?_
      refine g_bipush C dX8_cast_130 rfl ?_
      refine g_callVv C (nargs := 3) (o := 2) (st := []) (m_X0_lose h) pl_2.1 pl_2.2.1 rfl rfl gc_X8_110 (by decide +kernel) ⟨rfl, rfl⟩ dX8_cast_132 ⟨by decide, by decide⟩ rfl rfl (Nat.le_of_ble_eq_true rfl) ?_
      intro M132 hN
      replace h := hN
      clear hN
      refine g_aload_n C dX8_cast_135 rfl ?_
      refine cf_X8_12 C pl_0 dX8_cast_136 ?_
      refine cf_X8_71 C pl_1 dX8_cast_139 ?_
      refine g_iload_n C dX8_cast_142 rfl ?_
      refine g_iload C dX8_cast_143 rfl ?_
      refine g_callVi C (nargs := 2) (o := 2) (st := []) (m_X0_addCast h) pl_2.1 pl_2.2.1 rfl rfl gc_X8_113 (by decide +kernel) ⟨rfl, rfl⟩ dX8_cast_145 ⟨by decide, by decide⟩ rfl rfl (Nat.le_of_ble_eq_true rfl) ?_
      intro r145c M145 hN
      replace h := hN
      clear hN
      exact hR _ _ _ _ dX8_cast_148 rfl h
    · replace h := h.2 hc
      refine g_aload_n C dX8_cast_102 rfl ?_
      refine g_iconst C dX8_cast_103 ?_
      refine g_callVi C (nargs := 1) (o := 0) (st := []) (m_X8_refuse h) pl_0.1 pl_0.2.1 rfl rfl gc_X8_67 (by decide +kernel) ⟨rfl, rfl⟩ dX8_cast_104 ⟨by decide, by decide⟩ rfl rfl (Nat.le_of_ble_eq_true rfl) ?_
      intro r104c M104 hN
      replace h := hN
      clear hN
      exact hR _ _ _ _ dX8_cast_107 rfl h
  refine g_locals (lv' := [(0, .ref (ad 0)), (1, iv a1), (2, iv a2), (3, iv a3)]) rfl ?_
  refine g_iload_n C dX8_cast_0 rfl ?_
  refine g_callSi C (nargs := 1) (st := []) (m_X8_isKindAndM h) gc_X8_58 (by decide +kernel) ⟨rfl, rfl⟩ dX8_cast_1 ⟨by decide, by decide⟩ rfl rfl (Nat.le_of_ble_eq_true rfl) ?_
  intro r1c M1 hN
  replace h := hN
  clear hN
  refine g_if_eq C 36 dX8_cast_4 (by decide) (fun hc => ?_) (fun hc => ?_)
  · replace h := h.1 hc
    refine g_locals (lv' := [(0, .ref (ad 0))]) rfl ?_
    exact pB36  _ h
  · replace h := h.2 hc
    refine g_iload_n C dX8_cast_7 rfl ?_
    refine g_iconst C dX8_cast_8 ?_
    refine g_sipush C dX8_cast_9 rfl ?_
    refine g_callSi C (nargs := 3) (st := []) (m_X8_within h) gc_X8_63 (by decide +kernel) ⟨rfl, rfl⟩ dX8_cast_12 ⟨by decide, by decide⟩ rfl rfl (Nat.le_of_ble_eq_true rfl) ?_
    intro r12c M12 hN
    replace h := hN
    clear hN
    refine g_if_eq C 36 dX8_cast_15 (by decide) (fun hc => ?_) (fun hc => ?_)
    · replace h := h.1 hc
      refine g_locals (lv' := [(0, .ref (ad 0))]) rfl ?_
      exact pB36  _ h
    · replace h := h.2 hc
      refine g_iload_n C dX8_cast_18 rfl ?_
      refine g_iconst C dX8_cast_19 ?_
      refine g_sipush C dX8_cast_20 rfl ?_
      refine g_callSi C (nargs := 3) (st := []) (m_X8_within h) gc_X8_63 (by decide +kernel) ⟨rfl, rfl⟩ dX8_cast_23 ⟨by decide, by decide⟩ rfl rfl (Nat.le_of_ble_eq_true rfl) ?_
      intro r23c M23 hN
      replace h := hN
      clear hN
      refine g_if_eq C 36 dX8_cast_26 (by decide) (fun hc => ?_) (fun hc => ?_)
      · replace h := h.1 hc
        refine g_locals (lv' := [(0, .ref (ad 0))]) rfl ?_
        exact pB36  _ h
      · replace h := h.2 hc
        refine g_iload_n C dX8_cast_29 rfl ?_
        refine g_bipush C dX8_cast_30 rfl ?_
        refine g_irem C dX8_cast_32 (by decide) ?_
        refine g_top (y := Int.tmod (wrap a3) 10) rfl ?_
        refine g_if_eq C 42 dX8_cast_33 (by decide) (fun hc => ?_) (fun hc => ?_)
        · replace h := h.1 hc
          refine g_aload_n C dX8_cast_42 rfl ?_
          refine cf_X8_12 C pl_0 dX8_cast_43 ?_
          refine cf_X8_71 C pl_1 dX8_cast_46 ?_
          refine g_bipush C dX8_cast_49 rfl ?_
          refine g_iconst C dX8_cast_51 ?_
          refine g_callVi C (nargs := 2) (o := 2) (st := []) (m_X0_number h) pl_2.1 pl_2.2.1 rfl rfl gc_X8_89 (by decide +kernel) ⟨rfl, rfl⟩ dX8_cast_52 ⟨by decide, by decide⟩ rfl rfl (Nat.le_of_ble_eq_true rfl) ?_
          intro r52c M52 hN
          replace h := hN
          clear hN
          refine g_if_ne C 64 dX8_cast_55 (by decide) (fun hc => ?_) (fun hc => ?_)
          · replace h := h.1 hc
            refine g_iload_n C dX8_cast_64 rfl ?_
            refine g_bipush C dX8_cast_65 rfl ?_
            refine g_idiv C dX8_cast_67 (by decide) ?_
            refine g_top (y := Int.tdiv (wrap a3) 100) rfl ?_
            refine g_name (fun x4_68 hx4_68 => ?_)
            replace h := h x4_68 hx4_68
            refine g_istore C dX8_cast_68 (by decide) rfl ?_
            refine g_locals (lv' := [(0, .ref (ad 0)), (1, iv a1), (2, iv a2), (3, iv a3), (4, iv x4_68)]) rfl ?_
            refine g_iload_n C dX8_cast_70 rfl ?_
            refine g_bipush C dX8_cast_71 rfl ?_
            refine g_idiv C dX8_cast_73 (by decide) ?_
            refine g_top (y := Int.tdiv (wrap a3) 10) rfl ?_
            refine g_bipush C dX8_cast_74 rfl ?_
            refine g_irem C dX8_cast_76 (by decide) ?_
            refine g_top (y := Int.tmod (wrap (Int.tdiv (wrap a3) 10)) 10) rfl ?_
            refine g_name (fun x5_77 hx5_77 => ?_)
            replace h := h x5_77 hx5_77
            refine g_istore C dX8_cast_77 (by decide) rfl ?_
            refine g_locals (lv' := [(0, .ref (ad 0)), (1, iv a1), (2, iv a2), (3, iv a3), (4, iv x4_68), (5, iv x5_77)]) rfl ?_
            refine g_aload_n C dX8_cast_79 rfl ?_
            refine cf_X8_12 C pl_0 dX8_cast_80 ?_
            refine cf_X8_71 C pl_1 dX8_cast_83 ?_
            refine g_callVi C (nargs := 0) (o := 2) (st := []) (m_X0_room h) pl_2.1 pl_2.2.1 rfl rfl gc_X8_74 (by decide +kernel) ⟨rfl, rfl⟩ dX8_cast_86 ⟨by decide, by decide⟩ rfl rfl (Nat.le_of_ble_eq_true rfl) ?_
            intro r86c M86 hN
            replace h := hN
            clear hN
            refine g_iload C dX8_cast_89 rfl ?_
            refine g_if_le C 98 dX8_cast_91 (by decide) (fun hc => ?_) (fun hc => ?_)
            · replace h := h.1 hc
              refine g_iconst C dX8_cast_98 ?_
              refine g_locals (lv' := [(0, .ref (ad 0)), (1, iv a1), (2, iv a2), (4, iv x4_68), (5, iv x5_77)]) rfl ?_
              exact pB99 _ _ _ _ _ h
            · replace h := h.2 hc
              refine g_iconst C dX8_cast_94 ?_
              refine g_goto C 99 dX8_cast_95 (by decide) ?_
              refine g_locals (lv' := [(0, .ref (ad 0)), (1, iv a1), (2, iv a2), (4, iv x4_68), (5, iv x5_77)]) rfl ?_
              exact pB99 _ _ _ _ _ h
          · replace h := h.2 hc
            refine g_aload_n C dX8_cast_58 rfl ?_
            refine g_iconst C dX8_cast_59 ?_
            refine g_callVi C (nargs := 1) (o := 0) (st := []) (m_X8_refuse h) pl_0.1 pl_0.2.1 rfl rfl gc_X8_67 (by decide +kernel) ⟨rfl, rfl⟩ dX8_cast_60 ⟨by decide, by decide⟩ rfl rfl (Nat.le_of_ble_eq_true rfl) ?_
            intro r60c M60 hN
            replace h := hN
            clear hN
            exact hR _ _ _ _ dX8_cast_63 rfl h
        · replace h := h.2 hc
          refine g_locals (lv' := [(0, .ref (ad 0))]) rfl ?_
          exact pB36  _ h
def w_X8_years (a1 : Int) (M : gSt) (k : Int → gSt → Prop) : Prop :=
  w_X8_within a1 1 60 M (fun r4c M4 => 
  (¬ wrap r4c = 0 →
    w_X0_yearsSoFar 2 M4 (fun r23c M23 => 
    (wrap (r23c + a1) ≤ 9999 →
      w_X0_passYears 2 a1 M23 (fun M48 => w_X0_allGrams 2 M48 (fun r58c M58 => k r58c M58))) ∧
    (9999 < wrap (r23c + a1) →
      w_X8_refuse 3 M23 (fun r36c M36 => k r36c M36)))) ∧
  (wrap r4c = 0 →
    w_X8_refuse 1 M4 (fun r12c M12 => k r12c M12)))
set_option maxHeartbeats 4000000 in
set_option maxRecDepth 100000 in
theorem m_X8_years {l : Launch} {D : va_G} {tys : List (ClassId × FieldType)} {ad : Nat → Nat} {cI cS : ClassId} {a1 : Int} {M : gSt} {k : Int → gSt → Prop} (h : w_X8_years a1 M k) : MOi l yX8_years cX8_years 2 .int (rmR 6 136) D clC ((cI, .int) :: (cS, .object "OldBronze$Sheet") :: tys) (wC ad cI cS) tC zC [.ref (ad 0), iv a1] M k := by
  refine moi_intro (by decide +kernel) (Nat.le_of_ble_eq_true rfl) wc_462 ?_
  intro p e s m args below meth c A Q C hR
  unfold w_X8_years at h
  refine g_locals (lv' := [(0, .ref (ad 0)), (1, iv a1)]) rfl ?_
  refine g_iload_n C dX8_years_0 rfl ?_
  refine g_iconst C dX8_years_1 ?_
  refine g_bipush C dX8_years_2 rfl ?_
  refine g_callSi C (nargs := 3) (st := []) (m_X8_within h) gc_X8_63 (by decide +kernel) ⟨rfl, rfl⟩ dX8_years_4 ⟨by decide, by decide⟩ rfl rfl (Nat.le_of_ble_eq_true rfl) ?_
  intro r4c M4 hN
  replace h := hN
  clear hN
  refine g_if_ne C 16 dX8_years_7 (by decide) (fun hc => ?_) (fun hc => ?_)
  · replace h := h.1 hc
    refine g_aload_n C dX8_years_16 rfl ?_
    refine cf_X8_12 C pl_0 dX8_years_17 ?_
    refine cf_X8_71 C pl_1 dX8_years_20 ?_
    refine g_callVi C (nargs := 0) (o := 2) (st := []) (m_X0_yearsSoFar h) pl_2.1 pl_2.2.1 rfl rfl gc_X8_116 (by decide +kernel) ⟨rfl, rfl⟩ dX8_years_23 ⟨by decide, by decide⟩ rfl rfl (Nat.le_of_ble_eq_true rfl) ?_
    intro r23c M23 hN
    replace h := hN
    clear hN
    refine g_iload_n C dX8_years_26 rfl ?_
    refine g_iadd C dX8_years_27 ?_
    refine g_sipush C dX8_years_28 rfl ?_
    refine g_icmp_le C 40 dX8_years_31 (by decide) (fun hc => ?_) (fun hc => ?_)
    · replace h := h.1 hc
      refine g_aload_n C dX8_years_40 rfl ?_
      refine cf_X8_12 C pl_0 dX8_years_41 ?_
      refine cf_X8_71 C pl_1 dX8_years_44 ?_
      refine g_iload_n C dX8_years_47 rfl ?_
      refine g_callVv C (nargs := 1) (o := 2) (st := []) (m_X0_passYears h) pl_2.1 pl_2.2.1 rfl rfl gc_X8_119 (by decide +kernel) ⟨rfl, rfl⟩ dX8_years_48 ⟨by decide, by decide⟩ rfl rfl (Nat.le_of_ble_eq_true rfl) ?_
      intro M48 hN
      replace h := hN
      clear hN
      refine g_aload_n C dX8_years_51 rfl ?_
      refine cf_X8_12 C pl_0 dX8_years_52 ?_
      refine cf_X8_71 C pl_1 dX8_years_55 ?_
      refine g_callVi C (nargs := 0) (o := 2) (st := []) (m_X0_allGrams h) pl_2.1 pl_2.2.1 rfl rfl gc_X8_122 (by decide +kernel) ⟨rfl, rfl⟩ dX8_years_58 ⟨by decide, by decide⟩ rfl rfl (Nat.le_of_ble_eq_true rfl) ?_
      intro r58c M58 hN
      replace h := hN
      clear hN
      exact hR _ _ _ _ dX8_years_61 rfl h
    · replace h := h.2 hc
      refine g_aload_n C dX8_years_34 rfl ?_
      refine g_iconst C dX8_years_35 ?_
      refine g_callVi C (nargs := 1) (o := 0) (st := []) (m_X8_refuse h) pl_0.1 pl_0.2.1 rfl rfl gc_X8_67 (by decide +kernel) ⟨rfl, rfl⟩ dX8_years_36 ⟨by decide, by decide⟩ rfl rfl (Nat.le_of_ble_eq_true rfl) ?_
      intro r36c M36 hN
      replace h := hN
      clear hN
      exact hR _ _ _ _ dX8_years_39 rfl h
  · replace h := h.2 hc
    refine g_aload_n C dX8_years_10 rfl ?_
    refine g_iconst C dX8_years_11 ?_
    refine g_callVi C (nargs := 1) (o := 0) (st := []) (m_X8_refuse h) pl_0.1 pl_0.2.1 rfl rfl gc_X8_67 (by decide +kernel) ⟨rfl, rfl⟩ dX8_years_12 ⟨by decide, by decide⟩ rfl rfl (Nat.le_of_ble_eq_true rfl) ?_
    intro r12c M12 hN
    replace h := hN
    clear hN
    exact hR _ _ _ _ dX8_years_15 rfl h
def wB_X8_then_34 (a1 : Int) (a2 : Int) (a3 : Int) (k : Int → gSt → Prop)   (M : gSt) : Prop :=
w_X8_refuse 1 M (fun r36c M36 => k r36c M36)
def w_X8_then (a1 : Int) (a2 : Int) (a3 : Int) (M : gSt) (k : Int → gSt → Prop) : Prop :=
  w_X8_within a1 0 60 M (fun r4c M4 => 
  (wrap r4c = 0 →
    wB_X8_then_34 a1 a2 a3 k   M4) ∧
  (¬ wrap r4c = 0 →
    w_X0_has 2 a2 M4 (fun r18c M18 => 
    (wrap r18c = 0 →
      wB_X8_then_34 a1 a2 a3 k   M18) ∧
    (¬ wrap r18c = 0 →
      w_X8_within a3 0 10 M18 (fun r28c M28 => 
      (¬ wrap r28c = 0 →
        w_X0_copyFrom 39 2 M28 (fun M51 => w_X0_passYears 39 a1 M51 (fun M59 => w_X1_numberOf 1 39 a2 a3 M59 (fun r72c M72 => k r72c M72)))) ∧
      (wrap r28c = 0 →
        wB_X8_then_34 a1 a2 a3 k   M28))))))
set_option maxHeartbeats 4000000 in
set_option maxRecDepth 100000 in
theorem m_X8_then {l : Launch} {D : va_G} {tys : List (ClassId × FieldType)} {ad : Nat → Nat} {cI cS : ClassId} {a1 : Int} {a2 : Int} {a3 : Int} {M : gSt} {k : Int → gSt → Prop} (h : w_X8_then a1 a2 a3 M k) : MOi l yX8_then cX8_then 4 .int (rmR 6 136) D clC ((cI, .int) :: (cS, .object "OldBronze$Sheet") :: tys) (wC ad cI cS) tC zC [.ref (ad 0), iv a1, iv a2, iv a3] M k := by
  refine moi_intro (by decide +kernel) (Nat.le_of_ble_eq_true rfl) wc_464 ?_
  intro p e s m args below meth c A Q C hR
  unfold w_X8_then at h
  have pB34 : ∀    (M : gSt), wB_X8_then_34 a1 a2 a3 k   M → gG p l e (rmR 6 136) s m args below meth c Q D clC A (wC ad cI cS) 4 34 [(0, .ref (ad 0))] [] M := by
    intro    M h
    unfold wB_X8_then_34 at h
    refine g_aload_n C dX8_then_34 rfl ?_
    refine g_iconst C dX8_then_35 ?_
    refine g_callVi C (nargs := 1) (o := 0) (st := []) (m_X8_refuse h) pl_0.1 pl_0.2.1 rfl rfl gc_X8_67 (by decide +kernel) ⟨rfl, rfl⟩ dX8_then_36 ⟨by decide, by decide⟩ rfl rfl (Nat.le_of_ble_eq_true rfl) ?_
    intro r36c M36 hN
    replace h := hN
    clear hN
    exact hR _ _ _ _ dX8_then_39 rfl h
  refine g_locals (lv' := [(0, .ref (ad 0)), (1, iv a1), (2, iv a2), (3, iv a3)]) rfl ?_
  refine g_iload_n C dX8_then_0 rfl ?_
  refine g_iconst C dX8_then_1 ?_
  refine g_bipush C dX8_then_2 rfl ?_
  refine g_callSi C (nargs := 3) (st := []) (m_X8_within h) gc_X8_63 (by decide +kernel) ⟨rfl, rfl⟩ dX8_then_4 ⟨by decide, by decide⟩ rfl rfl (Nat.le_of_ble_eq_true rfl) ?_
  intro r4c M4 hN
  replace h := hN
  clear hN
  refine g_if_eq C 34 dX8_then_7 (by decide) (fun hc => ?_) (fun hc => ?_)
  · replace h := h.1 hc
    refine g_locals (lv' := [(0, .ref (ad 0))]) rfl ?_
    exact pB34  _ h
  · replace h := h.2 hc
    refine g_aload_n C dX8_then_10 rfl ?_
    refine cf_X8_12 C pl_0 dX8_then_11 ?_
    refine cf_X8_71 C pl_1 dX8_then_14 ?_
    refine g_iload_n C dX8_then_17 rfl ?_
    refine g_callVi C (nargs := 1) (o := 2) (st := []) (m_X0_has h) pl_2.1 pl_2.2.1 rfl rfl gc_X8_82 (by decide +kernel) ⟨rfl, rfl⟩ dX8_then_18 ⟨by decide, by decide⟩ rfl rfl (Nat.le_of_ble_eq_true rfl) ?_
    intro r18c M18 hN
    replace h := hN
    clear hN
    refine g_if_eq C 34 dX8_then_21 (by decide) (fun hc => ?_) (fun hc => ?_)
    · replace h := h.1 hc
      refine g_locals (lv' := [(0, .ref (ad 0))]) rfl ?_
      exact pB34  _ h
    · replace h := h.2 hc
      refine g_iload_n C dX8_then_24 rfl ?_
      refine g_iconst C dX8_then_25 ?_
      refine g_bipush C dX8_then_26 rfl ?_
      refine g_callSi C (nargs := 3) (st := []) (m_X8_within h) gc_X8_63 (by decide +kernel) ⟨rfl, rfl⟩ dX8_then_28 ⟨by decide, by decide⟩ rfl rfl (Nat.le_of_ble_eq_true rfl) ?_
      intro r28c M28 hN
      replace h := hN
      clear hN
      refine g_if_ne C 40 dX8_then_31 (by decide) (fun hc => ?_) (fun hc => ?_)
      · replace h := h.1 hc
        refine g_aload_n C dX8_then_40 rfl ?_
        refine cf_X8_22 C pl_0 dX8_then_41 ?_
        refine g_aload_n C dX8_then_44 rfl ?_
        refine cf_X8_12 C pl_0 dX8_then_45 ?_
        refine cf_X8_71 C pl_1 dX8_then_48 ?_
        refine g_callVv C (nargs := 1) (o := 39) (st := []) (m_X0_copyFrom h) pl_39.1 pl_39.2.1 rfl rfl gc_X8_125 (by decide +kernel) ⟨rfl, rfl⟩ dX8_then_51 ⟨by decide, by decide⟩ rfl rfl (Nat.le_of_ble_eq_true rfl) ?_
        intro M51 hN
        replace h := hN
        clear hN
        refine g_aload_n C dX8_then_54 rfl ?_
        refine cf_X8_22 C pl_0 dX8_then_55 ?_
        refine g_iload_n C dX8_then_58 rfl ?_
        refine g_callVv C (nargs := 1) (o := 39) (st := []) (m_X0_passYears h) pl_39.1 pl_39.2.1 rfl rfl gc_X8_119 (by decide +kernel) ⟨rfl, rfl⟩ dX8_then_59 ⟨by decide, by decide⟩ rfl rfl (Nat.le_of_ble_eq_true rfl) ?_
        intro M59 hN
        replace h := hN
        clear hN
        refine g_aload_n C dX8_then_62 rfl ?_
        refine cf_X8_12 C pl_0 dX8_then_63 ?_
        refine g_aload_n C dX8_then_66 rfl ?_
        refine cf_X8_22 C pl_0 dX8_then_67 ?_
        refine g_iload_n C dX8_then_70 rfl ?_
        refine g_iload_n C dX8_then_71 rfl ?_
        refine g_callVi C (nargs := 3) (o := 1) (st := []) (m_X1_numberOf h) pl_1.1 pl_1.2 rfl rfl gc_X8_85 (by decide +kernel) ⟨rfl, rfl⟩ dX8_then_72 ⟨by decide, by decide⟩ rfl rfl (Nat.le_of_ble_eq_true rfl) ?_
        intro r72c M72 hN
        replace h := hN
        clear hN
        exact hR _ _ _ _ dX8_then_75 rfl h
      · replace h := h.2 hc
        refine g_locals (lv' := [(0, .ref (ad 0))]) rfl ?_
        exact pB34  _ h
end
section
def w_X8_seed (a1 : Int) (M : gSt) (k : Int → gSt → Prop) : Prop :=
  w_X0_reseed 2 a1 M (fun r8c M8 => k r8c M8)
set_option maxHeartbeats 4000000 in
set_option maxRecDepth 100000 in
theorem m_X8_seed {l : Launch} {D : va_G} {tys : List (ClassId × FieldType)} {ad : Nat → Nat} {cI cS : ClassId} {a1 : Int} {M : gSt} {k : Int → gSt → Prop} (h : w_X8_seed a1 M k) : MOi l yX8_seed cX8_seed 2 .int (rmR 1 22) D clC ((cI, .int) :: (cS, .object "OldBronze$Sheet") :: tys) (wC ad cI cS) tC zC [.ref (ad 0), iv a1] M k := by
  refine moi_intro (by decide +kernel) (Nat.le_of_ble_eq_true rfl) wc_465 ?_
  intro p e s m args below meth c A Q C hR
  unfold w_X8_seed at h
  refine g_locals (lv' := [(0, .ref (ad 0)), (1, iv a1)]) rfl ?_
  refine g_aload_n C dX8_seed_0 rfl ?_
  refine cf_X8_12 C pl_0 dX8_seed_1 ?_
  refine cf_X8_71 C pl_1 dX8_seed_4 ?_
  refine g_iload_n C dX8_seed_7 rfl ?_
  refine g_callVi C (nargs := 1) (o := 2) (st := []) (m_X0_reseed h) pl_2.1 pl_2.2.1 rfl rfl gc_X8_129 (by decide +kernel) ⟨rfl, rfl⟩ dX8_seed_8 ⟨by decide, by decide⟩ rfl rfl (Nat.le_of_ble_eq_true rfl) ?_
  intro r8c M8 hN
  replace h := hN
  clear hN
  exact hR _ _ _ _ dX8_seed_11 rfl h
def wC_X8_feed_39 (a1 : Int) (a2 : Int) (k : Int → gSt → Prop) (r39 : Int → gSt → Prop) (X39_76 : gSt → Prop) (v4 : Int) (M : gSt) : Prop :=

  (wrap a2 ≤ wrap v4 →
    X39_76  M) ∧
  (wrap v4 < wrap a2 →
    w_X4_append 4 (xand (yshr a1 (8 * v4)) 255) 0 0 M (fun r66c M66 => r39 (v4 + 1) M66))
def wL_X8_feed_39 (a1 : Int) (a2 : Int) (k : Int → gSt → Prop)  (X39_76 : gSt → Prop) : Nat → Int → gSt → Prop
  | 0 => fun _ _ => False
  | n + 1 => fun v4 M => wC_X8_feed_39 a1 a2 k  (wL_X8_feed_39 a1 a2 k  X39_76 n) X39_76 v4 M
def w_X8_feed (a1 : Int) (a2 : Int) (M : gSt) (k : Int → gSt → Prop) : Prop :=
  w_X8_within a2 1 8 M (fun r4c M4 => 
  (¬ wrap r4c = 0 →
    w_X4_room 4 M4 (fun r23c M23 => 
    (wrap a2 ≤ wrap r23c →
      ∃ n, wL_X8_feed_39 a1 a2 k  (fun  M39 =>
        w_X4_size 4 M39 (fun r83c M83 => k r83c M83)) n 0 M23) ∧
    (wrap r23c < wrap a2 →
      w_X8_refuse 4 M23 (fun r32c M32 => k r32c M32)))) ∧
  (wrap r4c = 0 →
    w_X8_refuse 1 M4 (fun r12c M12 => k r12c M12)))
set_option maxHeartbeats 4000000 in
set_option maxRecDepth 100000 in
theorem m_X8_feed {l : Launch} {D : va_G} {tys : List (ClassId × FieldType)} {ad : Nat → Nat} {cI cS : ClassId} {a1 : Int} {a2 : Int} {M : gSt} {k : Int → gSt → Prop} (h : w_X8_feed a1 a2 M k) : MOi l yX8_feed cX8_feed 5 .int (rmR 2 46) D clC ((cI, .int) :: (cS, .object "OldBronze$Sheet") :: tys) (wC ad cI cS) tC zC [.ref (ad 0), jv a1, iv a2] M k := by
  refine moi_intro (by decide +kernel) (Nat.le_of_ble_eq_true rfl) wc_473 ?_
  intro p e s m args below meth c A Q C hR
  unfold w_X8_feed at h
  have pC39 : ∀ (r39 : Int → gSt → Prop) (X39_76 : gSt → Prop) (hr39 : ∀ (v4 : Int) (M : gSt), r39 v4 M → gG p l e (rmR 2 46) s m args below meth c Q D clC A (wC ad cI cS) 5 39 [(0, .ref (ad 0)), (1, jv a1), (3, iv a2), (4, iv v4)] [] M) (hX39_76 : ∀  (M : gSt), X39_76  M → gG p l e (rmR 2 46) s m args below meth c Q D clC A (wC ad cI cS) 5 76 [(0, .ref (ad 0))] [] M) (v4 : Int) (M : gSt), wC_X8_feed_39 a1 a2 k r39 X39_76 v4 M → gG p l e (rmR 2 46) s m args below meth c Q D clC A (wC ad cI cS) 5 39 [(0, .ref (ad 0)), (1, jv a1), (3, iv a2), (4, iv v4)] [] M := by
    intro r39 X39_76 hr39 hX39_76 v4 M h
    unfold wC_X8_feed_39 at h
    refine g_iload C dX8_feed_39 rfl ?_
    refine g_iload_n C dX8_feed_41 rfl ?_
    refine g_icmp_ge C 76 dX8_feed_42 (by decide) (fun hc => ?_) (fun hc => ?_)
    · replace h := h.1 hc
      refine g_locals (lv' := [(0, .ref (ad 0))]) rfl ?_
      exact hX39_76  _ h
    · replace h := h.2 hc
      refine g_aload_n C dX8_feed_45 rfl ?_
      refine cf_X8_12 C pl_0 dX8_feed_46 ?_
      refine cf_X8_132 C pl_1 dX8_feed_49 ?_
      refine g_lload_n C dX8_feed_52 rfl ?_
      refine g_bipush C dX8_feed_53 rfl ?_
      refine g_iload C dX8_feed_55 rfl ?_
      refine g_imul C dX8_feed_57 ?_
      refine g_lshr C dX8_feed_58 ?_
      refine g_l2i C dX8_feed_59 ?_
      refine g_sipush C dX8_feed_60 rfl ?_
      refine g_iand C dX8_feed_63 ?_
      refine g_iconst C dX8_feed_64 ?_
      refine g_iconst C dX8_feed_65 ?_
      refine g_callVi C (nargs := 3) (o := 4) (st := []) (m_X4_append h) pl_4.1 pl_4.2.1 rfl rfl gc_X8_139 (by decide +kernel) ⟨rfl, rfl⟩ dX8_feed_66 ⟨by decide, by decide⟩ rfl rfl (Nat.le_of_ble_eq_true rfl) ?_
      intro r66c M66 hN
      replace h := hN
      clear hN
      refine g_pop C dX8_feed_69 rfl ?_
      refine g_iinc C dX8_feed_70 rfl (by decide) rfl ?_
      refine g_locals (lv' := [(0, .ref (ad 0)), (1, jv a1), (3, iv a2), (4, iv (v4 + 1))]) rfl ?_
      refine g_goto C 39 dX8_feed_73 (by decide) ?_
      refine g_locals (lv' := [(0, .ref (ad 0)), (1, jv a1), (3, iv a2), (4, iv (v4 + 1))]) rfl ?_
      exact hr39 _  _ h
  have pL39 : ∀  (X39_76 : gSt → Prop) (hX39_76 : ∀  (M : gSt), X39_76  M → gG p l e (rmR 2 46) s m args below meth c Q D clC A (wC ad cI cS) 5 76 [(0, .ref (ad 0))] [] M) (n : Nat) (v4 : Int) (M : gSt), wL_X8_feed_39 a1 a2 k  X39_76 n v4 M → gG p l e (rmR 2 46) s m args below meth c Q D clC A (wC ad cI cS) 5 39 [(0, .ref (ad 0)), (1, jv a1), (3, iv a2), (4, iv v4)] [] M := by
    intro  X39_76 hX39_76 n
    induction n with
    | zero => intro v4 M h; exact h.elim
    | succ n ih =>
      intro v4 M h
      exact pC39  (wL_X8_feed_39 a1 a2 k  X39_76 n) X39_76 ih hX39_76 v4 M h
  refine g_locals (lv' := [(0, .ref (ad 0)), (1, jv a1), (3, iv a2)]) rfl ?_
  refine g_iload_n C dX8_feed_0 rfl ?_
  refine g_iconst C dX8_feed_1 ?_
  refine g_bipush C dX8_feed_2 rfl ?_
  refine g_callSi C (nargs := 3) (st := []) (m_X8_within h) gc_X8_63 (by decide +kernel) ⟨rfl, rfl⟩ dX8_feed_4 ⟨by decide, by decide⟩ rfl rfl (Nat.le_of_ble_eq_true rfl) ?_
  intro r4c M4 hN
  replace h := hN
  clear hN
  refine g_if_ne C 16 dX8_feed_7 (by decide) (fun hc => ?_) (fun hc => ?_)
  · replace h := h.1 hc
    refine g_aload_n C dX8_feed_16 rfl ?_
    refine cf_X8_12 C pl_0 dX8_feed_17 ?_
    refine cf_X8_132 C pl_1 dX8_feed_20 ?_
    refine g_callVi C (nargs := 0) (o := 4) (st := []) (m_X4_room h) pl_4.1 pl_4.2.1 rfl rfl gc_X8_136 (by decide +kernel) ⟨rfl, rfl⟩ dX8_feed_23 ⟨by decide, by decide⟩ rfl rfl (Nat.le_of_ble_eq_true rfl) ?_
    intro r23c M23 hN
    replace h := hN
    clear hN
    refine g_iload_n C dX8_feed_26 rfl ?_
    refine g_icmp_ge C 36 dX8_feed_27 (by decide) (fun hc => ?_) (fun hc => ?_)
    · replace h := h.1 hc
      refine g_iconst C dX8_feed_36 ?_
      refine g_istore C dX8_feed_37 (by decide) rfl ?_
      refine g_locals (lv' := [(0, .ref (ad 0)), (1, jv a1), (3, iv a2), (4, iv 0)]) rfl ?_
      refine g_locals (lv' := [(0, .ref (ad 0)), (1, jv a1), (3, iv a2), (4, iv 0)]) rfl ?_
      obtain ⟨n, h⟩ := h
      refine pL39 _ ?_ n _ _ h
      · intro  M39 hN
        replace h := hN
        clear hN
        refine g_aload_n C dX8_feed_76 rfl ?_
        refine cf_X8_12 C pl_0 dX8_feed_77 ?_
        refine cf_X8_132 C pl_1 dX8_feed_80 ?_
        refine g_callVi C (nargs := 0) (o := 4) (st := []) (m_X4_size h) pl_4.1 pl_4.2.1 rfl rfl gc_X8_143 (by decide +kernel) ⟨rfl, rfl⟩ dX8_feed_83 ⟨by decide, by decide⟩ rfl rfl (Nat.le_of_ble_eq_true rfl) ?_
        intro r83c M83 hN
        replace h := hN
        clear hN
        exact hR _ _ _ _ dX8_feed_86 rfl h
    · replace h := h.2 hc
      refine g_aload_n C dX8_feed_30 rfl ?_
      refine g_iconst C dX8_feed_31 ?_
      refine g_callVi C (nargs := 1) (o := 0) (st := []) (m_X8_refuse h) pl_0.1 pl_0.2.1 rfl rfl gc_X8_67 (by decide +kernel) ⟨rfl, rfl⟩ dX8_feed_32 ⟨by decide, by decide⟩ rfl rfl (Nat.le_of_ble_eq_true rfl) ?_
      intro r32c M32 hN
      replace h := hN
      clear hN
      exact hR _ _ _ _ dX8_feed_35 rfl h
  · replace h := h.2 hc
    refine g_aload_n C dX8_feed_10 rfl ?_
    refine g_iconst C dX8_feed_11 ?_
    refine g_callVi C (nargs := 1) (o := 0) (st := []) (m_X8_refuse h) pl_0.1 pl_0.2.1 rfl rfl gc_X8_67 (by decide +kernel) ⟨rfl, rfl⟩ dX8_feed_12 ⟨by decide, by decide⟩ rfl rfl (Nat.le_of_ble_eq_true rfl) ?_
    intro r12c M12 hN
    replace h := hN
    clear hN
    exact hR _ _ _ _ dX8_feed_15 rfl h
def w_X8_text (a1 : Int) (M : gSt) (k : Int → gSt → Prop) : Prop :=
  w_X8_within a1 0 1 M (fun r3c M3 => 
  (¬ wrap r3c = 0 →
    w_X3_read 47 4 a1 M3 (fun r27c M27 => w_X4_clear 4 M27 (fun M38 => 
    (wrap r27c < 0 →
      w_X1_textOf 1 a1 M38 (fun r59c M59 => ∃ q59 : Nat, r59c = some q59 ∧ (w_X3_writeTo 47 q59 M59 (fun M62 => k 1 M62)))) ∧
    (0 ≤ wrap r27c →
      k ((-10) - r27c) M38)))) ∧
  (wrap r3c = 0 →
    w_X8_refuse 1 M3 (fun r11c M11 => k r11c M11)))
set_option maxHeartbeats 4000000 in
set_option maxRecDepth 100000 in
theorem m_X8_text {l : Launch} {D : va_G} {tys : List (ClassId × FieldType)} {ad : Nat → Nat} {cI cS : ClassId} {a1 : Int} {M : gSt} {k : Int → gSt → Prop} (h : w_X8_text a1 M k) : MOi l yX8_text cX8_text 3 .int (rmR 65 1616) D clC ((cI, .int) :: (cS, .object "OldBronze$Sheet") :: tys) (wC ad cI cS) tC zC [.ref (ad 0), iv a1] M k := by
  refine moi_intro (by decide +kernel) (Nat.le_of_ble_eq_true rfl) wc_484 ?_
  intro p e s m args below meth c A Q C hR
  unfold w_X8_text at h
  refine g_locals (lv' := [(0, .ref (ad 0)), (1, iv a1)]) rfl ?_
  refine g_iload_n C dX8_text_0 rfl ?_
  refine g_iconst C dX8_text_1 ?_
  refine g_iconst C dX8_text_2 ?_
  refine g_callSi C (nargs := 3) (st := []) (m_X8_within h) gc_X8_63 (by decide +kernel) ⟨rfl, rfl⟩ dX8_text_3 ⟨by decide, by decide⟩ rfl rfl (Nat.le_of_ble_eq_true rfl) ?_
  intro r3c M3 hN
  replace h := hN
  clear hN
  refine g_if_ne C 15 dX8_text_6 (by decide) (fun hc => ?_) (fun hc => ?_)
  · replace h := h.1 hc
    refine g_aload_n C dX8_text_15 rfl ?_
    refine cf_X8_36 C pl_0 dX8_text_16 ?_
    refine g_aload_n C dX8_text_19 rfl ?_
    refine cf_X8_12 C pl_0 dX8_text_20 ?_
    refine cf_X8_132 C pl_1 dX8_text_23 ?_
    refine g_iload_n C dX8_text_26 rfl ?_
    refine g_callVi C (nargs := 2) (o := 47) (st := []) (m_X3_read h) pl_47.1 pl_47.2 rfl rfl gc_X8_146 (by decide +kernel) ⟨rfl, rfl⟩ dX8_text_27 ⟨by decide, by decide⟩ rfl rfl (Nat.le_of_ble_eq_true rfl) ?_
    intro r27c M27 hN
    replace h := hN
    clear hN
    refine g_istore_n C dX8_text_30 (by decide) rfl ?_
    refine g_locals (lv' := [(0, .ref (ad 0)), (1, iv a1), (2, iv r27c)]) rfl ?_
    refine g_aload_n C dX8_text_31 rfl ?_
    refine cf_X8_12 C pl_0 dX8_text_32 ?_
    refine cf_X8_132 C pl_1 dX8_text_35 ?_
    refine g_callVv C (nargs := 0) (o := 4) (st := []) (m_X4_clear h) pl_4.1 pl_4.2.1 rfl rfl gc_X8_150 (by decide +kernel) ⟨rfl, rfl⟩ dX8_text_38 ⟨by decide, by decide⟩ rfl rfl (Nat.le_of_ble_eq_true rfl) ?_
    intro M38 hN
    replace h := hN
    clear hN
    refine g_iload_n C dX8_text_41 rfl ?_
    refine g_if_lt C 50 dX8_text_42 (by decide) (fun hc => ?_) (fun hc => ?_)
    · replace h := h.1 hc
      refine g_aload_n C dX8_text_50 rfl ?_
      refine cf_X8_36 C pl_0 dX8_text_51 ?_
      refine g_aload_n C dX8_text_54 rfl ?_
      refine cf_X8_12 C pl_0 dX8_text_55 ?_
      refine g_iload_n C dX8_text_58 rfl ?_
      refine g_callVr C (nargs := 1) (o := 1) (st := [.ref (ad 47)]) (m_X1_textOf h) pl_1.1 pl_1.2 rfl rfl gc_X8_153 (by decide +kernel) ⟨rfl, rfl⟩ dX8_text_59 ⟨by decide, by decide⟩ rfl rfl (Nat.le_of_ble_eq_true rfl) ?_
      intro r59c M59 hN
      replace h := hN
      clear hN
      obtain ⟨q59, hq59, h⟩ := h
      subst hq59
      refine g_callVv C (nargs := 1) (o := 47) (st := []) (m_X3_writeTo h) pl_47.1 pl_47.2 rfl rfl gc_X8_157 (by decide +kernel) ⟨rfl, rfl⟩ dX8_text_62 ⟨by decide, by decide⟩ rfl rfl (Nat.le_of_ble_eq_true rfl) ?_
      intro M62 hN
      replace h := hN
      clear hN
      refine g_iconst C dX8_text_65 ?_
      exact hR _ _ _ _ dX8_text_66 rfl h
    · replace h := h.2 hc
      refine g_bipush C dX8_text_45 rfl ?_
      refine g_iload_n C dX8_text_47 rfl ?_
      refine g_isub C dX8_text_48 ?_
      exact hR _ _ _ _ dX8_text_49 rfl h
  · replace h := h.2 hc
    refine g_aload_n C dX8_text_9 rfl ?_
    refine g_iconst C dX8_text_10 ?_
    refine g_callVi C (nargs := 1) (o := 0) (st := []) (m_X8_refuse h) pl_0.1 pl_0.2.1 rfl rfl gc_X8_67 (by decide +kernel) ⟨rfl, rfl⟩ dX8_text_11 ⟨by decide, by decide⟩ rfl rfl (Nat.le_of_ble_eq_true rfl) ?_
    intro r11c M11 hN
    replace h := hN
    clear hN
    exact hR _ _ _ _ dX8_text_14 rfl h
def wB_X8_untell_34 (a1 : Int) (k : Int → gSt → Prop)  (s0 : Int) (M : gSt) : Prop :=
w_X1_textOf 1 a1 M (fun r40c M40 => ∃ q40 : Nat, r40c = some q40 ∧ (w_X4_clear q40 M40 (fun M43 => k s0 M43)))
def w_X8_untell (a1 : Int) (M : gSt) (k : Int → gSt → Prop) : Prop :=
  w_X8_within a1 0 1 M (fun r3c M3 => 
  (¬ wrap r3c = 0 →
    w_X1_textOf 1 a1 M3 (fun r20c M20 => ∃ q20 : Nat, r20c = some q20 ∧ (w_X4_size q20 M20 (fun r23c M23 => 
    (wrap r23c ≤ 0 →
      wB_X8_untell_34 a1 k  0 M23) ∧
    (0 < wrap r23c →
      wB_X8_untell_34 a1 k  1 M23))))) ∧
  (wrap r3c = 0 →
    w_X8_refuse 1 M3 (fun r11c M11 => k r11c M11)))
set_option maxHeartbeats 4000000 in
set_option maxRecDepth 100000 in
theorem m_X8_untell {l : Launch} {D : va_G} {tys : List (ClassId × FieldType)} {ad : Nat → Nat} {cI cS : ClassId} {a1 : Int} {M : gSt} {k : Int → gSt → Prop} (h : w_X8_untell a1 M k) : MOi l yX8_untell cX8_untell 3 .int (rmR 1 22) D clC ((cI, .int) :: (cS, .object "OldBronze$Sheet") :: tys) (wC ad cI cS) tC zC [.ref (ad 0), iv a1] M k := by
  refine moi_intro (by decide +kernel) (Nat.le_of_ble_eq_true rfl) wc_485 ?_
  intro p e s m args below meth c A Q C hR
  unfold w_X8_untell at h
  have pB34 : ∀   (s0 : Int) (M : gSt), wB_X8_untell_34 a1 k  s0 M → gG p l e (rmR 1 22) s m args below meth c Q D clC A (wC ad cI cS) 3 34 [(0, .ref (ad 0)), (1, iv a1)] [iv s0] M := by
    intro   s0 M h
    unfold wB_X8_untell_34 at h
    refine g_istore_n C dX8_untell_34 (by decide) rfl ?_
    refine g_locals (lv' := [(0, .ref (ad 0)), (1, iv a1), (2, iv s0)]) rfl ?_
    refine g_aload_n C dX8_untell_35 rfl ?_
    refine cf_X8_12 C pl_0 dX8_untell_36 ?_
    refine g_iload_n C dX8_untell_39 rfl ?_
    refine g_callVr C (nargs := 1) (o := 1) (st := []) (m_X1_textOf h) pl_1.1 pl_1.2 rfl rfl gc_X8_153 (by decide +kernel) ⟨rfl, rfl⟩ dX8_untell_40 ⟨by decide, by decide⟩ rfl rfl (Nat.le_of_ble_eq_true rfl) ?_
    intro r40c M40 hN
    replace h := hN
    clear hN
    obtain ⟨q40, hq40, h⟩ := h
    subst hq40
    refine g_callVv C (nargs := 0) (o := q40) (st := []) (m_X4_clear h) (show isRows q40 from h.1).1 (show isRows q40 from h.1).2.1 rfl rfl gc_X8_150 (by decide +kernel) ⟨rfl, rfl⟩ dX8_untell_43 ⟨by decide, by decide⟩ rfl rfl (Nat.le_of_ble_eq_true rfl) ?_
    intro M43 hN
    replace h := hN
    clear hN
    refine g_iload_n C dX8_untell_46 rfl ?_
    exact hR _ _ _ _ dX8_untell_47 rfl h
  refine g_locals (lv' := [(0, .ref (ad 0)), (1, iv a1)]) rfl ?_
  refine g_iload_n C dX8_untell_0 rfl ?_
  refine g_iconst C dX8_untell_1 ?_
  refine g_iconst C dX8_untell_2 ?_
  refine g_callSi C (nargs := 3) (st := []) (m_X8_within h) gc_X8_63 (by decide +kernel) ⟨rfl, rfl⟩ dX8_untell_3 ⟨by decide, by decide⟩ rfl rfl (Nat.le_of_ble_eq_true rfl) ?_
  intro r3c M3 hN
  replace h := hN
  clear hN
  refine g_if_ne C 15 dX8_untell_6 (by decide) (fun hc => ?_) (fun hc => ?_)
  · replace h := h.1 hc
    refine g_aload_n C dX8_untell_15 rfl ?_
    refine cf_X8_12 C pl_0 dX8_untell_16 ?_
    refine g_iload_n C dX8_untell_19 rfl ?_
    refine g_callVr C (nargs := 1) (o := 1) (st := []) (m_X1_textOf h) pl_1.1 pl_1.2 rfl rfl gc_X8_153 (by decide +kernel) ⟨rfl, rfl⟩ dX8_untell_20 ⟨by decide, by decide⟩ rfl rfl (Nat.le_of_ble_eq_true rfl) ?_
    intro r20c M20 hN
    replace h := hN
    clear hN
    obtain ⟨q20, hq20, h⟩ := h
    subst hq20
    refine g_callVi C (nargs := 0) (o := q20) (st := []) (m_X4_size h) (show isRows q20 from h.1).1 (show isRows q20 from h.1).2.1 rfl rfl gc_X8_143 (by decide +kernel) ⟨rfl, rfl⟩ dX8_untell_23 ⟨by decide, by decide⟩ rfl rfl (Nat.le_of_ble_eq_true rfl) ?_
    intro r23c M23 hN
    replace h := hN
    clear hN
    refine g_if_le C 33 dX8_untell_26 (by decide) (fun hc => ?_) (fun hc => ?_)
    · replace h := h.1 hc
      refine g_iconst C dX8_untell_33 ?_
      refine g_locals (lv' := [(0, .ref (ad 0)), (1, iv a1)]) rfl ?_
      exact pB34 _ _ h
    · replace h := h.2 hc
      refine g_iconst C dX8_untell_29 ?_
      refine g_goto C 34 dX8_untell_30 (by decide) ?_
      refine g_locals (lv' := [(0, .ref (ad 0)), (1, iv a1)]) rfl ?_
      exact pB34 _ _ h
  · replace h := h.2 hc
    refine g_aload_n C dX8_untell_9 rfl ?_
    refine g_iconst C dX8_untell_10 ?_
    refine g_callVi C (nargs := 1) (o := 0) (st := []) (m_X8_refuse h) pl_0.1 pl_0.2.1 rfl rfl gc_X8_67 (by decide +kernel) ⟨rfl, rfl⟩ dX8_untell_11 ⟨by decide, by decide⟩ rfl rfl (Nat.le_of_ble_eq_true rfl) ?_
    intro r11c M11 hN
    replace h := hN
    clear hN
    exact hR _ _ _ _ dX8_untell_14 rfl h
def wB_X8_claim_24 (a1 : Int) (a2 : Int) (k : Int → gSt → Prop)   (M : gSt) : Prop :=
w_X8_refuse 1 M (fun r26c M26 => k r26c M26)
def w_X8_claim (a1 : Int) (a2 : Int) (M : gSt) (k : Int → gSt → Prop) : Prop :=
  w_X0_has 2 a1 M (fun r8c M8 => 
  (wrap r8c = 0 →
    wB_X8_claim_24 a1 a2 k   M8) ∧
  (¬ wrap r8c = 0 →
    w_X8_within a2 1 99999 M8 (fun r18c M18 => 
    (¬ wrap r18c = 0 →
      w_X4_room 6 M18 (fun r37c M37 => 
      (1 ≤ wrap r37c →
        w_X4_append 6 a1 a2 0 M37 (fun r60c M60 => k r60c M60)) ∧
      (wrap r37c < 1 →
        w_X8_refuse 4 M37 (fun r46c M46 => k r46c M46)))) ∧
    (wrap r18c = 0 →
      wB_X8_claim_24 a1 a2 k   M18))))
set_option maxHeartbeats 4000000 in
set_option maxRecDepth 100000 in
theorem m_X8_claim {l : Launch} {D : va_G} {tys : List (ClassId × FieldType)} {ad : Nat → Nat} {cI cS : ClassId} {a1 : Int} {a2 : Int} {M : gSt} {k : Int → gSt → Prop} (h : w_X8_claim a1 a2 M k) : MOi l yX8_claim cX8_claim 3 .int (rmR 2 46) D clC ((cI, .int) :: (cS, .object "OldBronze$Sheet") :: tys) (wC ad cI cS) tC zC [.ref (ad 0), iv a1, iv a2] M k := by
  refine moi_intro (by decide +kernel) (Nat.le_of_ble_eq_true rfl) wc_488 ?_
  intro p e s m args below meth c A Q C hR
  unfold w_X8_claim at h
  have pB24 : ∀    (M : gSt), wB_X8_claim_24 a1 a2 k   M → gG p l e (rmR 2 46) s m args below meth c Q D clC A (wC ad cI cS) 3 24 [(0, .ref (ad 0))] [] M := by
    intro    M h
    unfold wB_X8_claim_24 at h
    refine g_aload_n C dX8_claim_24 rfl ?_
    refine g_iconst C dX8_claim_25 ?_
    refine g_callVi C (nargs := 1) (o := 0) (st := []) (m_X8_refuse h) pl_0.1 pl_0.2.1 rfl rfl gc_X8_67 (by decide +kernel) ⟨rfl, rfl⟩ dX8_claim_26 ⟨by decide, by decide⟩ rfl rfl (Nat.le_of_ble_eq_true rfl) ?_
    intro r26c M26 hN
    replace h := hN
    clear hN
    exact hR _ _ _ _ dX8_claim_29 rfl h
  refine g_locals (lv' := [(0, .ref (ad 0)), (1, iv a1), (2, iv a2)]) rfl ?_
  refine g_aload_n C dX8_claim_0 rfl ?_
  refine cf_X8_12 C pl_0 dX8_claim_1 ?_
  refine cf_X8_71 C pl_1 dX8_claim_4 ?_
  refine g_iload_n C dX8_claim_7 rfl ?_
  refine g_callVi C (nargs := 1) (o := 2) (st := []) (m_X0_has h) pl_2.1 pl_2.2.1 rfl rfl gc_X8_82 (by decide +kernel) ⟨rfl, rfl⟩ dX8_claim_8 ⟨by decide, by decide⟩ rfl rfl (Nat.le_of_ble_eq_true rfl) ?_
  intro r8c M8 hN
  replace h := hN
  clear hN
  refine g_if_eq C 24 dX8_claim_11 (by decide) (fun hc => ?_) (fun hc => ?_)
  · replace h := h.1 hc
    refine g_locals (lv' := [(0, .ref (ad 0))]) rfl ?_
    exact pB24  _ h
  · replace h := h.2 hc
    refine g_iload_n C dX8_claim_14 rfl ?_
    refine g_iconst C dX8_claim_15 ?_
    refine g_ldc C 99999 wc_486 rfl dX8_claim_16 ?_
    refine g_callSi C (nargs := 3) (st := []) (m_X8_within h) gc_X8_63 (by decide +kernel) ⟨rfl, rfl⟩ dX8_claim_18 ⟨by decide, by decide⟩ rfl rfl (Nat.le_of_ble_eq_true rfl) ?_
    intro r18c M18 hN
    replace h := hN
    clear hN
    refine g_if_ne C 30 dX8_claim_21 (by decide) (fun hc => ?_) (fun hc => ?_)
    · replace h := h.1 hc
      refine g_aload_n C dX8_claim_30 rfl ?_
      refine cf_X8_12 C pl_0 dX8_claim_31 ?_
      refine cf_X8_162 C pl_1 dX8_claim_34 ?_
      refine g_callVi C (nargs := 0) (o := 6) (st := []) (m_X4_room h) pl_6.1 pl_6.2.1 rfl rfl gc_X8_136 (by decide +kernel) ⟨rfl, rfl⟩ dX8_claim_37 ⟨by decide, by decide⟩ rfl rfl (Nat.le_of_ble_eq_true rfl) ?_
      intro r37c M37 hN
      replace h := hN
      clear hN
      refine g_iconst C dX8_claim_40 ?_
      refine g_icmp_ge C 50 dX8_claim_41 (by decide) (fun hc => ?_) (fun hc => ?_)
      · replace h := h.1 hc
        refine g_aload_n C dX8_claim_50 rfl ?_
        refine cf_X8_12 C pl_0 dX8_claim_51 ?_
        refine cf_X8_162 C pl_1 dX8_claim_54 ?_
        refine g_iload_n C dX8_claim_57 rfl ?_
        refine g_iload_n C dX8_claim_58 rfl ?_
        refine g_iconst C dX8_claim_59 ?_
        refine g_callVi C (nargs := 3) (o := 6) (st := []) (m_X4_append h) pl_6.1 pl_6.2.1 rfl rfl gc_X8_139 (by decide +kernel) ⟨rfl, rfl⟩ dX8_claim_60 ⟨by decide, by decide⟩ rfl rfl (Nat.le_of_ble_eq_true rfl) ?_
        intro r60c M60 hN
        replace h := hN
        clear hN
        exact hR _ _ _ _ dX8_claim_63 rfl h
      · replace h := h.2 hc
        refine g_aload_n C dX8_claim_44 rfl ?_
        refine g_iconst C dX8_claim_45 ?_
        refine g_callVi C (nargs := 1) (o := 0) (st := []) (m_X8_refuse h) pl_0.1 pl_0.2.1 rfl rfl gc_X8_67 (by decide +kernel) ⟨rfl, rfl⟩ dX8_claim_46 ⟨by decide, by decide⟩ rfl rfl (Nat.le_of_ble_eq_true rfl) ?_
        intro r46c M46 hN
        replace h := hN
        clear hN
        exact hR _ _ _ _ dX8_claim_49 rfl h
    · replace h := h.2 hc
      refine g_locals (lv' := [(0, .ref (ad 0))]) rfl ?_
      exact pB24  _ h
def wB_X8_claimIs_23 (a1 : Int) (a2 : Int) (k : Int → gSt → Prop)   (M : gSt) : Prop :=
w_X8_refuse 1 M (fun r25c M25 => k r25c M25)
def w_X8_claimIs (a1 : Int) (a2 : Int) (M : gSt) (k : Int → gSt → Prop) : Prop :=
  w_X4_has 6 a1 M (fun r8c M8 => 
  (wrap r8c = 0 →
    wB_X8_claimIs_23 a1 a2 k   M8) ∧
  (¬ wrap r8c = 0 →
    w_X8_within a2 0 2 M8 (fun r17c M17 => 
    (¬ wrap r17c = 0 →

      (¬ wrap a2 = 2 →
        w_X4_at 6 a1 a2 M17 (fun r54c M54 => k r54c M54)) ∧
      (wrap a2 = 2 →
        w_X1_counted 1 a1 M17 (fun r39c M39 => k r39c M39))) ∧
    (wrap r17c = 0 →
      wB_X8_claimIs_23 a1 a2 k   M17))))
set_option maxHeartbeats 4000000 in
set_option maxRecDepth 100000 in
theorem m_X8_claimIs {l : Launch} {D : va_G} {tys : List (ClassId × FieldType)} {ad : Nat → Nat} {cI cS : ClassId} {a1 : Int} {a2 : Int} {M : gSt} {k : Int → gSt → Prop} (h : w_X8_claimIs a1 a2 M k) : MOi l yX8_claimIs cX8_claimIs 3 .int (rmR 3 85) D clC ((cI, .int) :: (cS, .object "OldBronze$Sheet") :: tys) (wC ad cI cS) tC zC [.ref (ad 0), iv a1, iv a2] M k := by
  refine moi_intro (by decide +kernel) (Nat.le_of_ble_eq_true rfl) wc_492 ?_
  intro p e s m args below meth c A Q C hR
  unfold w_X8_claimIs at h
  have pB23 : ∀    (M : gSt), wB_X8_claimIs_23 a1 a2 k   M → gG p l e (rmR 3 85) s m args below meth c Q D clC A (wC ad cI cS) 3 23 [(0, .ref (ad 0))] [] M := by
    intro    M h
    unfold wB_X8_claimIs_23 at h
    refine g_aload_n C dX8_claimIs_23 rfl ?_
    refine g_iconst C dX8_claimIs_24 ?_
    refine g_callVi C (nargs := 1) (o := 0) (st := []) (m_X8_refuse h) pl_0.1 pl_0.2.1 rfl rfl gc_X8_67 (by decide +kernel) ⟨rfl, rfl⟩ dX8_claimIs_25 ⟨by decide, by decide⟩ rfl rfl (Nat.le_of_ble_eq_true rfl) ?_
    intro r25c M25 hN
    replace h := hN
    clear hN
    exact hR _ _ _ _ dX8_claimIs_28 rfl h
  refine g_locals (lv' := [(0, .ref (ad 0)), (1, iv a1), (2, iv a2)]) rfl ?_
  refine g_aload_n C dX8_claimIs_0 rfl ?_
  refine cf_X8_12 C pl_0 dX8_claimIs_1 ?_
  refine cf_X8_162 C pl_1 dX8_claimIs_4 ?_
  refine g_iload_n C dX8_claimIs_7 rfl ?_
  refine g_callVi C (nargs := 1) (o := 6) (st := []) (m_X4_has h) pl_6.1 pl_6.2.1 rfl rfl gc_X8_165 (by decide +kernel) ⟨rfl, rfl⟩ dX8_claimIs_8 ⟨by decide, by decide⟩ rfl rfl (Nat.le_of_ble_eq_true rfl) ?_
  intro r8c M8 hN
  replace h := hN
  clear hN
  refine g_if_eq C 23 dX8_claimIs_11 (by decide) (fun hc => ?_) (fun hc => ?_)
  · replace h := h.1 hc
    refine g_locals (lv' := [(0, .ref (ad 0))]) rfl ?_
    exact pB23  _ h
  · replace h := h.2 hc
    refine g_iload_n C dX8_claimIs_14 rfl ?_
    refine g_iconst C dX8_claimIs_15 ?_
    refine g_iconst C dX8_claimIs_16 ?_
    refine g_callSi C (nargs := 3) (st := []) (m_X8_within h) gc_X8_63 (by decide +kernel) ⟨rfl, rfl⟩ dX8_claimIs_17 ⟨by decide, by decide⟩ rfl rfl (Nat.le_of_ble_eq_true rfl) ?_
    intro r17c M17 hN
    replace h := hN
    clear hN
    refine g_if_ne C 29 dX8_claimIs_20 (by decide) (fun hc => ?_) (fun hc => ?_)
    · replace h := h.1 hc
      refine g_iload_n C dX8_claimIs_29 rfl ?_
      refine g_iconst C dX8_claimIs_30 ?_
      refine g_icmp_ne C 45 dX8_claimIs_31 (by decide) (fun hc => ?_) (fun hc => ?_)
      · replace h := h.1 hc
        refine g_aload_n C dX8_claimIs_45 rfl ?_
        refine cf_X8_12 C pl_0 dX8_claimIs_46 ?_
        refine cf_X8_162 C pl_1 dX8_claimIs_49 ?_
        refine g_iload_n C dX8_claimIs_52 rfl ?_
        refine g_iload_n C dX8_claimIs_53 rfl ?_
        refine g_callVi C (nargs := 2) (o := 6) (st := []) (m_X4_at h) pl_6.1 pl_6.2.1 rfl rfl gc_X8_169 (by decide +kernel) ⟨rfl, rfl⟩ dX8_claimIs_54 ⟨by decide, by decide⟩ rfl rfl (Nat.le_of_ble_eq_true rfl) ?_
        intro r54c M54 hN
        replace h := hN
        clear hN
        exact hR _ _ _ _ dX8_claimIs_57 rfl h
      · replace h := h.2 hc
        refine g_aload_n C dX8_claimIs_34 rfl ?_
        refine cf_X8_12 C pl_0 dX8_claimIs_35 ?_
        refine g_iload_n C dX8_claimIs_38 rfl ?_
        refine g_callVi C (nargs := 1) (o := 1) (st := []) (m_X1_counted h) pl_1.1 pl_1.2 rfl rfl gc_X8_166 (by decide +kernel) ⟨rfl, rfl⟩ dX8_claimIs_39 ⟨by decide, by decide⟩ rfl rfl (Nat.le_of_ble_eq_true rfl) ?_
        intro r39c M39 hN
        replace h := hN
        clear hN
        refine g_goto C 57 dX8_claimIs_42 (by decide) ?_
        exact hR _ _ _ _ dX8_claimIs_57 rfl h
    · replace h := h.2 hc
      refine g_locals (lv' := [(0, .ref (ad 0))]) rfl ?_
      exact pB23  _ h
def wB_X8_share_23 (a1 : Int) (a2 : Int) (k : Int → gSt → Prop)   (M : gSt) : Prop :=
w_X8_refuse 1 M (fun r25c M25 => k r25c M25)
def w_X8_share (a1 : Int) (a2 : Int) (M : gSt) (k : Int → gSt → Prop) : Prop :=
  w_X4_has 6 a1 M (fun r8c M8 => 
  (wrap r8c = 0 →
    wB_X8_share_23 a1 a2 k   M8) ∧
  (¬ wrap r8c = 0 →
    w_X8_within a2 0 2 M8 (fun r17c M17 => 
    (¬ wrap r17c = 0 →
      w_X1_shareOf 1 a1 a2 M17 (fun r35c M35 => k r35c M35)) ∧
    (wrap r17c = 0 →
      wB_X8_share_23 a1 a2 k   M17))))
set_option maxHeartbeats 4000000 in
set_option maxRecDepth 100000 in
theorem m_X8_share {l : Launch} {D : va_G} {tys : List (ClassId × FieldType)} {ad : Nat → Nat} {cI cS : ClassId} {a1 : Int} {a2 : Int} {M : gSt} {k : Int → gSt → Prop} (h : w_X8_share a1 a2 M k) : MOi l yX8_share cX8_share 3 .int (rmR 5 135) D clC ((cI, .int) :: (cS, .object "OldBronze$Sheet") :: tys) (wC ad cI cS) tC zC [.ref (ad 0), iv a1, iv a2] M k := by
  refine moi_intro (by decide +kernel) (Nat.le_of_ble_eq_true rfl) wc_494 ?_
  intro p e s m args below meth c A Q C hR
  unfold w_X8_share at h
  have pB23 : ∀    (M : gSt), wB_X8_share_23 a1 a2 k   M → gG p l e (rmR 5 135) s m args below meth c Q D clC A (wC ad cI cS) 3 23 [(0, .ref (ad 0))] [] M := by
    intro    M h
    unfold wB_X8_share_23 at h
    refine g_aload_n C dX8_share_23 rfl ?_
    refine g_iconst C dX8_share_24 ?_
    refine g_callVi C (nargs := 1) (o := 0) (st := []) (m_X8_refuse h) pl_0.1 pl_0.2.1 rfl rfl gc_X8_67 (by decide +kernel) ⟨rfl, rfl⟩ dX8_share_25 ⟨by decide, by decide⟩ rfl rfl (Nat.le_of_ble_eq_true rfl) ?_
    intro r25c M25 hN
    replace h := hN
    clear hN
    exact hR _ _ _ _ dX8_share_28 rfl h
  refine g_locals (lv' := [(0, .ref (ad 0)), (1, iv a1), (2, iv a2)]) rfl ?_
  refine g_aload_n C dX8_share_0 rfl ?_
  refine cf_X8_12 C pl_0 dX8_share_1 ?_
  refine cf_X8_162 C pl_1 dX8_share_4 ?_
  refine g_iload_n C dX8_share_7 rfl ?_
  refine g_callVi C (nargs := 1) (o := 6) (st := []) (m_X4_has h) pl_6.1 pl_6.2.1 rfl rfl gc_X8_165 (by decide +kernel) ⟨rfl, rfl⟩ dX8_share_8 ⟨by decide, by decide⟩ rfl rfl (Nat.le_of_ble_eq_true rfl) ?_
  intro r8c M8 hN
  replace h := hN
  clear hN
  refine g_if_eq C 23 dX8_share_11 (by decide) (fun hc => ?_) (fun hc => ?_)
  · replace h := h.1 hc
    refine g_locals (lv' := [(0, .ref (ad 0))]) rfl ?_
    exact pB23  _ h
  · replace h := h.2 hc
    refine g_iload_n C dX8_share_14 rfl ?_
    refine g_iconst C dX8_share_15 ?_
    refine g_iconst C dX8_share_16 ?_
    refine g_callSi C (nargs := 3) (st := []) (m_X8_within h) gc_X8_63 (by decide +kernel) ⟨rfl, rfl⟩ dX8_share_17 ⟨by decide, by decide⟩ rfl rfl (Nat.le_of_ble_eq_true rfl) ?_
    intro r17c M17 hN
    replace h := hN
    clear hN
    refine g_if_ne C 29 dX8_share_20 (by decide) (fun hc => ?_) (fun hc => ?_)
    · replace h := h.1 hc
      refine g_aload_n C dX8_share_29 rfl ?_
      refine cf_X8_12 C pl_0 dX8_share_30 ?_
      refine g_iload_n C dX8_share_33 rfl ?_
      refine g_iload_n C dX8_share_34 rfl ?_
      refine g_callVi C (nargs := 2) (o := 1) (st := []) (m_X1_shareOf h) pl_1.1 pl_1.2 rfl rfl gc_X8_172 (by decide +kernel) ⟨rfl, rfl⟩ dX8_share_35 ⟨by decide, by decide⟩ rfl rfl (Nat.le_of_ble_eq_true rfl) ?_
      intro r35c M35 hN
      replace h := hN
      clear hN
      exact hR _ _ _ _ dX8_share_38 rfl h
    · replace h := h.2 hc
      refine g_locals (lv' := [(0, .ref (ad 0))]) rfl ?_
      exact pB23  _ h
def wB_X8_left_23 (a1 : Int) (a2 : Int) (k : Int → gSt → Prop)   (M : gSt) : Prop :=
w_X8_refuse 1 M (fun r25c M25 => k r25c M25)
def w_X8_left (a1 : Int) (a2 : Int) (M : gSt) (k : Int → gSt → Prop) : Prop :=
  w_X0_has 2 a1 M (fun r8c M8 => 
  (wrap r8c = 0 →
    wB_X8_left_23 a1 a2 k   M8) ∧
  (¬ wrap r8c = 0 →
    w_X8_within a2 0 2 M8 (fun r17c M17 => 
    (¬ wrap r17c = 0 →
      w_X1_leftOf 1 a1 a2 M17 (fun r35c M35 => k r35c M35)) ∧
    (wrap r17c = 0 →
      wB_X8_left_23 a1 a2 k   M17))))
set_option maxHeartbeats 4000000 in
set_option maxRecDepth 100000 in
theorem m_X8_left {l : Launch} {D : va_G} {tys : List (ClassId × FieldType)} {ad : Nat → Nat} {cI cS : ClassId} {a1 : Int} {a2 : Int} {M : gSt} {k : Int → gSt → Prop} (h : w_X8_left a1 a2 M k) : MOi l yX8_left cX8_left 3 .int (rmR 6 159) D clC ((cI, .int) :: (cS, .object "OldBronze$Sheet") :: tys) (wC ad cI cS) tC zC [.ref (ad 0), iv a1, iv a2] M k := by
  refine moi_intro (by decide +kernel) (Nat.le_of_ble_eq_true rfl) wc_498 ?_
  intro p e s m args below meth c A Q C hR
  unfold w_X8_left at h
  have pB23 : ∀    (M : gSt), wB_X8_left_23 a1 a2 k   M → gG p l e (rmR 6 159) s m args below meth c Q D clC A (wC ad cI cS) 3 23 [(0, .ref (ad 0))] [] M := by
    intro    M h
    unfold wB_X8_left_23 at h
    refine g_aload_n C dX8_left_23 rfl ?_
    refine g_iconst C dX8_left_24 ?_
    refine g_callVi C (nargs := 1) (o := 0) (st := []) (m_X8_refuse h) pl_0.1 pl_0.2.1 rfl rfl gc_X8_67 (by decide +kernel) ⟨rfl, rfl⟩ dX8_left_25 ⟨by decide, by decide⟩ rfl rfl (Nat.le_of_ble_eq_true rfl) ?_
    intro r25c M25 hN
    replace h := hN
    clear hN
    exact hR _ _ _ _ dX8_left_28 rfl h
  refine g_locals (lv' := [(0, .ref (ad 0)), (1, iv a1), (2, iv a2)]) rfl ?_
  refine g_aload_n C dX8_left_0 rfl ?_
  refine cf_X8_12 C pl_0 dX8_left_1 ?_
  refine cf_X8_71 C pl_1 dX8_left_4 ?_
  refine g_iload_n C dX8_left_7 rfl ?_
  refine g_callVi C (nargs := 1) (o := 2) (st := []) (m_X0_has h) pl_2.1 pl_2.2.1 rfl rfl gc_X8_82 (by decide +kernel) ⟨rfl, rfl⟩ dX8_left_8 ⟨by decide, by decide⟩ rfl rfl (Nat.le_of_ble_eq_true rfl) ?_
  intro r8c M8 hN
  replace h := hN
  clear hN
  refine g_if_eq C 23 dX8_left_11 (by decide) (fun hc => ?_) (fun hc => ?_)
  · replace h := h.1 hc
    refine g_locals (lv' := [(0, .ref (ad 0))]) rfl ?_
    exact pB23  _ h
  · replace h := h.2 hc
    refine g_iload_n C dX8_left_14 rfl ?_
    refine g_iconst C dX8_left_15 ?_
    refine g_iconst C dX8_left_16 ?_
    refine g_callSi C (nargs := 3) (st := []) (m_X8_within h) gc_X8_63 (by decide +kernel) ⟨rfl, rfl⟩ dX8_left_17 ⟨by decide, by decide⟩ rfl rfl (Nat.le_of_ble_eq_true rfl) ?_
    intro r17c M17 hN
    replace h := hN
    clear hN
    refine g_if_ne C 29 dX8_left_20 (by decide) (fun hc => ?_) (fun hc => ?_)
    · replace h := h.1 hc
      refine g_aload_n C dX8_left_29 rfl ?_
      refine cf_X8_12 C pl_0 dX8_left_30 ?_
      refine g_iload_n C dX8_left_33 rfl ?_
      refine g_iload_n C dX8_left_34 rfl ?_
      refine g_callVi C (nargs := 2) (o := 1) (st := []) (m_X1_leftOf h) pl_1.1 pl_1.2 rfl rfl gc_X8_175 (by decide +kernel) ⟨rfl, rfl⟩ dX8_left_35 ⟨by decide, by decide⟩ rfl rfl (Nat.le_of_ble_eq_true rfl) ?_
      intro r35c M35 hN
      replace h := hN
      clear hN
      exact hR _ _ _ _ dX8_left_38 rfl h
    · replace h := h.2 hc
      refine g_locals (lv' := [(0, .ref (ad 0))]) rfl ?_
      exact pB23  _ h
def w_X8_isPaper (a1 : Int) (a2 : Int) (a3 : Int) (M : gSt) (k : Int → gSt → Prop) : Prop :=
  w_X0_has 2 a1 M (fun r8c M8 => 
  (wrap r8c = 0 →
    k 0 M8) ∧
  (¬ wrap r8c = 0 →
    w_X0_has 2 a2 M8 (fun r22c M22 => 
    (wrap r22c = 0 →
      k 0 M22) ∧
    (¬ wrap r22c = 0 →

      (wrap a1 = wrap a2 →
        k 0 M22) ∧
      (¬ wrap a1 = wrap a2 →
        w_X8_within a3 1 8 M22 (fun r37c M37 => 
        (wrap r37c = 0 →
          k 0 M37) ∧
        (¬ wrap r37c = 0 →
          k 1 M37)))))))
set_option maxHeartbeats 4000000 in
set_option maxRecDepth 100000 in
theorem m_X8_isPaper {l : Launch} {D : va_G} {tys : List (ClassId × FieldType)} {ad : Nat → Nat} {cI cS : ClassId} {a1 : Int} {a2 : Int} {a3 : Int} {M : gSt} {k : Int → gSt → Prop} (h : w_X8_isPaper a1 a2 a3 M k) : MOi l yX8_isPaper cX8_isPaper 4 .boolean (rmR 1 22) D clC ((cI, .int) :: (cS, .object "OldBronze$Sheet") :: tys) (wC ad cI cS) tC zC [.ref (ad 0), iv a1, iv a2, iv a3] M k := by
  refine moi_intro (by decide +kernel) (Nat.le_of_ble_eq_true rfl) wc_499 ?_
  intro p e s m args below meth c A Q C hR
  unfold w_X8_isPaper at h
  refine g_locals (lv' := [(0, .ref (ad 0)), (1, iv a1), (2, iv a2), (3, iv a3)]) rfl ?_
  refine g_aload_n C dX8_isPaper_0 rfl ?_
  refine cf_X8_12 C pl_0 dX8_isPaper_1 ?_
  refine cf_X8_71 C pl_1 dX8_isPaper_4 ?_
  refine g_iload_n C dX8_isPaper_7 rfl ?_
  refine g_callVi C (nargs := 1) (o := 2) (st := []) (m_X0_has h) pl_2.1 pl_2.2.1 rfl rfl gc_X8_82 (by decide +kernel) ⟨rfl, rfl⟩ dX8_isPaper_8 ⟨by decide, by decide⟩ rfl rfl (Nat.le_of_ble_eq_true rfl) ?_
  intro r8c M8 hN
  replace h := hN
  clear hN
  refine g_if_eq C 47 dX8_isPaper_11 (by decide) (fun hc => ?_) (fun hc => ?_)
  · replace h := h.1 hc
    refine g_iconst C dX8_isPaper_47 ?_
    exact hR _ _ _ _ dX8_isPaper_48 rfl h
  · replace h := h.2 hc
    refine g_aload_n C dX8_isPaper_14 rfl ?_
    refine cf_X8_12 C pl_0 dX8_isPaper_15 ?_
    refine cf_X8_71 C pl_1 dX8_isPaper_18 ?_
    refine g_iload_n C dX8_isPaper_21 rfl ?_
    refine g_callVi C (nargs := 1) (o := 2) (st := []) (m_X0_has h) pl_2.1 pl_2.2.1 rfl rfl gc_X8_82 (by decide +kernel) ⟨rfl, rfl⟩ dX8_isPaper_22 ⟨by decide, by decide⟩ rfl rfl (Nat.le_of_ble_eq_true rfl) ?_
    intro r22c M22 hN
    replace h := hN
    clear hN
    refine g_if_eq C 47 dX8_isPaper_25 (by decide) (fun hc => ?_) (fun hc => ?_)
    · replace h := h.1 hc
      refine g_iconst C dX8_isPaper_47 ?_
      exact hR _ _ _ _ dX8_isPaper_48 rfl h
    · replace h := h.2 hc
      refine g_iload_n C dX8_isPaper_28 rfl ?_
      refine g_iload_n C dX8_isPaper_29 rfl ?_
      refine g_icmp_eq C 47 dX8_isPaper_30 (by decide) (fun hc => ?_) (fun hc => ?_)
      · replace h := h.1 hc
        refine g_iconst C dX8_isPaper_47 ?_
        exact hR _ _ _ _ dX8_isPaper_48 rfl h
      · replace h := h.2 hc
        refine g_iload_n C dX8_isPaper_33 rfl ?_
        refine g_iconst C dX8_isPaper_34 ?_
        refine g_bipush C dX8_isPaper_35 rfl ?_
        refine g_callSi C (nargs := 3) (st := []) (m_X8_within h) gc_X8_63 (by decide +kernel) ⟨rfl, rfl⟩ dX8_isPaper_37 ⟨by decide, by decide⟩ rfl rfl (Nat.le_of_ble_eq_true rfl) ?_
        intro r37c M37 hN
        replace h := hN
        clear hN
        refine g_if_eq C 47 dX8_isPaper_40 (by decide) (fun hc => ?_) (fun hc => ?_)
        · replace h := h.1 hc
          refine g_iconst C dX8_isPaper_47 ?_
          exact hR _ _ _ _ dX8_isPaper_48 rfl h
        · replace h := h.2 hc
          refine g_iconst C dX8_isPaper_43 ?_
          refine g_goto C 48 dX8_isPaper_44 (by decide) ?_
          exact hR _ _ _ _ dX8_isPaper_48 rfl h
def w_X8_paper (a1 : Int) (a2 : Int) (a3 : Int) (M : gSt) (k : Int → gSt → Prop) : Prop :=
  w_X8_isPaper a1 a2 a3 M (fun r4c M4 => 
  (¬ wrap r4c = 0 →
    w_X4_room 8 M4 (fun r23c M23 => 
    (1 ≤ wrap r23c →
      w_X4_append 8 a1 a2 a3 M23 (fun r46c M46 => k r46c M46)) ∧
    (wrap r23c < 1 →
      w_X8_refuse 4 M23 (fun r32c M32 => k r32c M32)))) ∧
  (wrap r4c = 0 →
    w_X8_refuse 1 M4 (fun r12c M12 => k r12c M12)))
set_option maxHeartbeats 4000000 in
set_option maxRecDepth 100000 in
theorem m_X8_paper {l : Launch} {D : va_G} {tys : List (ClassId × FieldType)} {ad : Nat → Nat} {cI cS : ClassId} {a1 : Int} {a2 : Int} {a3 : Int} {M : gSt} {k : Int → gSt → Prop} (h : w_X8_paper a1 a2 a3 M k) : MOi l yX8_paper cX8_paper 4 .int (rmR 2 46) D clC ((cI, .int) :: (cS, .object "OldBronze$Sheet") :: tys) (wC ad cI cS) tC zC [.ref (ad 0), iv a1, iv a2, iv a3] M k := by
  refine moi_intro (by decide +kernel) (Nat.le_of_ble_eq_true rfl) wc_504 ?_
  intro p e s m args below meth c A Q C hR
  unfold w_X8_paper at h
  refine g_locals (lv' := [(0, .ref (ad 0)), (1, iv a1), (2, iv a2), (3, iv a3)]) rfl ?_
  refine g_aload_n C dX8_paper_0 rfl ?_
  refine g_iload_n C dX8_paper_1 rfl ?_
  refine g_iload_n C dX8_paper_2 rfl ?_
  refine g_iload_n C dX8_paper_3 rfl ?_
  refine g_callVi C (nargs := 3) (o := 0) (st := []) (m_X8_isPaper h) pl_0.1 pl_0.2.1 rfl rfl gc_X8_178 (by decide +kernel) ⟨rfl, rfl⟩ dX8_paper_4 ⟨by decide, by decide⟩ rfl rfl (Nat.le_of_ble_eq_true rfl) ?_
  intro r4c M4 hN
  replace h := hN
  clear hN
  refine g_if_ne C 16 dX8_paper_7 (by decide) (fun hc => ?_) (fun hc => ?_)
  · replace h := h.1 hc
    refine g_aload_n C dX8_paper_16 rfl ?_
    refine cf_X8_12 C pl_0 dX8_paper_17 ?_
    refine cf_X8_181 C pl_1 dX8_paper_20 ?_
    refine g_callVi C (nargs := 0) (o := 8) (st := []) (m_X4_room h) pl_8.1 pl_8.2.1 rfl rfl gc_X8_136 (by decide +kernel) ⟨rfl, rfl⟩ dX8_paper_23 ⟨by decide, by decide⟩ rfl rfl (Nat.le_of_ble_eq_true rfl) ?_
    intro r23c M23 hN
    replace h := hN
    clear hN
    refine g_iconst C dX8_paper_26 ?_
    refine g_icmp_ge C 36 dX8_paper_27 (by decide) (fun hc => ?_) (fun hc => ?_)
    · replace h := h.1 hc
      refine g_aload_n C dX8_paper_36 rfl ?_
      refine cf_X8_12 C pl_0 dX8_paper_37 ?_
      refine cf_X8_181 C pl_1 dX8_paper_40 ?_
      refine g_iload_n C dX8_paper_43 rfl ?_
      refine g_iload_n C dX8_paper_44 rfl ?_
      refine g_iload_n C dX8_paper_45 rfl ?_
      refine g_callVi C (nargs := 3) (o := 8) (st := []) (m_X4_append h) pl_8.1 pl_8.2.1 rfl rfl gc_X8_139 (by decide +kernel) ⟨rfl, rfl⟩ dX8_paper_46 ⟨by decide, by decide⟩ rfl rfl (Nat.le_of_ble_eq_true rfl) ?_
      intro r46c M46 hN
      replace h := hN
      clear hN
      exact hR _ _ _ _ dX8_paper_49 rfl h
    · replace h := h.2 hc
      refine g_aload_n C dX8_paper_30 rfl ?_
      refine g_iconst C dX8_paper_31 ?_
      refine g_callVi C (nargs := 1) (o := 0) (st := []) (m_X8_refuse h) pl_0.1 pl_0.2.1 rfl rfl gc_X8_67 (by decide +kernel) ⟨rfl, rfl⟩ dX8_paper_32 ⟨by decide, by decide⟩ rfl rfl (Nat.le_of_ble_eq_true rfl) ?_
      intro r32c M32 hN
      replace h := hN
      clear hN
      exact hR _ _ _ _ dX8_paper_35 rfl h
  · replace h := h.2 hc
    refine g_aload_n C dX8_paper_10 rfl ?_
    refine g_iconst C dX8_paper_11 ?_
    refine g_callVi C (nargs := 1) (o := 0) (st := []) (m_X8_refuse h) pl_0.1 pl_0.2.1 rfl rfl gc_X8_67 (by decide +kernel) ⟨rfl, rfl⟩ dX8_paper_12 ⟨by decide, by decide⟩ rfl rfl (Nat.le_of_ble_eq_true rfl) ?_
    intro r12c M12 hN
    replace h := hN
    clear hN
    exact hR _ _ _ _ dX8_paper_15 rfl h
def wB_X8_weigh_34 (a1 : Int) (a2 : Int) (a3 : Int) (k : Int → gSt → Prop)   (M : gSt) : Prop :=
w_X8_refuse 1 M (fun r36c M36 => k r36c M36)
def w_X8_weigh (a1 : Int) (a2 : Int) (a3 : Int) (M : gSt) (k : Int → gSt → Prop) : Prop :=
  w_X0_has 2 a1 M (fun r8c M8 => 
  (wrap r8c = 0 →
    wB_X8_weigh_34 a1 a2 a3 k   M8) ∧
  (¬ wrap r8c = 0 →
    w_X8_within a2 0 9999999 M8 (fun r18c M18 => 
    (wrap r18c = 0 →
      wB_X8_weigh_34 a1 a2 a3 k   M18) ∧
    (¬ wrap r18c = 0 →
      w_X8_within a3 0 99 M18 (fun r28c M28 => 
      (¬ wrap r28c = 0 →
        w_X4_room 10 M28 (fun r47c M47 => 
        (1 ≤ wrap r47c →
          w_X4_append 10 a1 a2 a3 M47 (fun r70c M70 => k r70c M70)) ∧
        (wrap r47c < 1 →
          w_X8_refuse 4 M47 (fun r56c M56 => k r56c M56)))) ∧
      (wrap r28c = 0 →
        wB_X8_weigh_34 a1 a2 a3 k   M28))))))
set_option maxHeartbeats 4000000 in
set_option maxRecDepth 100000 in
theorem m_X8_weigh {l : Launch} {D : va_G} {tys : List (ClassId × FieldType)} {ad : Nat → Nat} {cI cS : ClassId} {a1 : Int} {a2 : Int} {a3 : Int} {M : gSt} {k : Int → gSt → Prop} (h : w_X8_weigh a1 a2 a3 M k) : MOi l yX8_weigh cX8_weigh 4 .int (rmR 2 46) D clC ((cI, .int) :: (cS, .object "OldBronze$Sheet") :: tys) (wC ad cI cS) tC zC [.ref (ad 0), iv a1, iv a2, iv a3] M k := by
  refine moi_intro (by decide +kernel) (Nat.le_of_ble_eq_true rfl) wc_506 ?_
  intro p e s m args below meth c A Q C hR
  unfold w_X8_weigh at h
  have pB34 : ∀    (M : gSt), wB_X8_weigh_34 a1 a2 a3 k   M → gG p l e (rmR 2 46) s m args below meth c Q D clC A (wC ad cI cS) 4 34 [(0, .ref (ad 0))] [] M := by
    intro    M h
    unfold wB_X8_weigh_34 at h
    refine g_aload_n C dX8_weigh_34 rfl ?_
    refine g_iconst C dX8_weigh_35 ?_
    refine g_callVi C (nargs := 1) (o := 0) (st := []) (m_X8_refuse h) pl_0.1 pl_0.2.1 rfl rfl gc_X8_67 (by decide +kernel) ⟨rfl, rfl⟩ dX8_weigh_36 ⟨by decide, by decide⟩ rfl rfl (Nat.le_of_ble_eq_true rfl) ?_
    intro r36c M36 hN
    replace h := hN
    clear hN
    exact hR _ _ _ _ dX8_weigh_39 rfl h
  refine g_locals (lv' := [(0, .ref (ad 0)), (1, iv a1), (2, iv a2), (3, iv a3)]) rfl ?_
  refine g_aload_n C dX8_weigh_0 rfl ?_
  refine cf_X8_12 C pl_0 dX8_weigh_1 ?_
  refine cf_X8_71 C pl_1 dX8_weigh_4 ?_
  refine g_iload_n C dX8_weigh_7 rfl ?_
  refine g_callVi C (nargs := 1) (o := 2) (st := []) (m_X0_has h) pl_2.1 pl_2.2.1 rfl rfl gc_X8_82 (by decide +kernel) ⟨rfl, rfl⟩ dX8_weigh_8 ⟨by decide, by decide⟩ rfl rfl (Nat.le_of_ble_eq_true rfl) ?_
  intro r8c M8 hN
  replace h := hN
  clear hN
  refine g_if_eq C 34 dX8_weigh_11 (by decide) (fun hc => ?_) (fun hc => ?_)
  · replace h := h.1 hc
    refine g_locals (lv' := [(0, .ref (ad 0))]) rfl ?_
    exact pB34  _ h
  · replace h := h.2 hc
    refine g_iload_n C dX8_weigh_14 rfl ?_
    refine g_iconst C dX8_weigh_15 ?_
    refine g_ldc C 9999999 wc_412 rfl dX8_weigh_16 ?_
    refine g_callSi C (nargs := 3) (st := []) (m_X8_within h) gc_X8_63 (by decide +kernel) ⟨rfl, rfl⟩ dX8_weigh_18 ⟨by decide, by decide⟩ rfl rfl (Nat.le_of_ble_eq_true rfl) ?_
    intro r18c M18 hN
    replace h := hN
    clear hN
    refine g_if_eq C 34 dX8_weigh_21 (by decide) (fun hc => ?_) (fun hc => ?_)
    · replace h := h.1 hc
      refine g_locals (lv' := [(0, .ref (ad 0))]) rfl ?_
      exact pB34  _ h
    · replace h := h.2 hc
      refine g_iload_n C dX8_weigh_24 rfl ?_
      refine g_iconst C dX8_weigh_25 ?_
      refine g_bipush C dX8_weigh_26 rfl ?_
      refine g_callSi C (nargs := 3) (st := []) (m_X8_within h) gc_X8_63 (by decide +kernel) ⟨rfl, rfl⟩ dX8_weigh_28 ⟨by decide, by decide⟩ rfl rfl (Nat.le_of_ble_eq_true rfl) ?_
      intro r28c M28 hN
      replace h := hN
      clear hN
      refine g_if_ne C 40 dX8_weigh_31 (by decide) (fun hc => ?_) (fun hc => ?_)
      · replace h := h.1 hc
        refine g_aload_n C dX8_weigh_40 rfl ?_
        refine cf_X8_12 C pl_0 dX8_weigh_41 ?_
        refine cf_X8_184 C pl_1 dX8_weigh_44 ?_
        refine g_callVi C (nargs := 0) (o := 10) (st := []) (m_X4_room h) pl_10.1 pl_10.2.1 rfl rfl gc_X8_136 (by decide +kernel) ⟨rfl, rfl⟩ dX8_weigh_47 ⟨by decide, by decide⟩ rfl rfl (Nat.le_of_ble_eq_true rfl) ?_
        intro r47c M47 hN
        replace h := hN
        clear hN
        refine g_iconst C dX8_weigh_50 ?_
        refine g_icmp_ge C 60 dX8_weigh_51 (by decide) (fun hc => ?_) (fun hc => ?_)
        · replace h := h.1 hc
          refine g_aload_n C dX8_weigh_60 rfl ?_
          refine cf_X8_12 C pl_0 dX8_weigh_61 ?_
          refine cf_X8_184 C pl_1 dX8_weigh_64 ?_
          refine g_iload_n C dX8_weigh_67 rfl ?_
          refine g_iload_n C dX8_weigh_68 rfl ?_
          refine g_iload_n C dX8_weigh_69 rfl ?_
          refine g_callVi C (nargs := 3) (o := 10) (st := []) (m_X4_append h) pl_10.1 pl_10.2.1 rfl rfl gc_X8_139 (by decide +kernel) ⟨rfl, rfl⟩ dX8_weigh_70 ⟨by decide, by decide⟩ rfl rfl (Nat.le_of_ble_eq_true rfl) ?_
          intro r70c M70 hN
          replace h := hN
          clear hN
          exact hR _ _ _ _ dX8_weigh_73 rfl h
        · replace h := h.2 hc
          refine g_aload_n C dX8_weigh_54 rfl ?_
          refine g_iconst C dX8_weigh_55 ?_
          refine g_callVi C (nargs := 1) (o := 0) (st := []) (m_X8_refuse h) pl_0.1 pl_0.2.1 rfl rfl gc_X8_67 (by decide +kernel) ⟨rfl, rfl⟩ dX8_weigh_56 ⟨by decide, by decide⟩ rfl rfl (Nat.le_of_ble_eq_true rfl) ?_
          intro r56c M56 hN
          replace h := hN
          clear hN
          exact hR _ _ _ _ dX8_weigh_59 rfl h
      · replace h := h.2 hc
        refine g_locals (lv' := [(0, .ref (ad 0))]) rfl ?_
        exact pB34  _ h
def wB_X8_forget_36 (a1 : Int) (k : Int → gSt → Prop)  (s0 : Nat) (M : gSt) : Prop :=
w_X4_size s0 M (fun r38c M38 => w_X4_clear s0 M38 (fun M43 => k r38c M43))
def w_X8_forget (a1 : Int) (M : gSt) (k : Int → gSt → Prop) : Prop :=
  w_X8_within a1 0 1 M (fun r3c M3 => 
  (¬ wrap r3c = 0 →

    (¬ wrap a1 = 0 →
      wB_X8_forget_36 a1 k  10 M3) ∧
    (wrap a1 = 0 →
      wB_X8_forget_36 a1 k  8 M3)) ∧
  (wrap r3c = 0 →
    w_X8_refuse 1 M3 (fun r11c M11 => k r11c M11)))
set_option maxHeartbeats 4000000 in
set_option maxRecDepth 100000 in
theorem m_X8_forget {l : Launch} {D : va_G} {tys : List (ClassId × FieldType)} {ad : Nat → Nat} {cI cS : ClassId} {a1 : Int} {M : gSt} {k : Int → gSt → Prop} (h : w_X8_forget a1 M k) : MOi l yX8_forget cX8_forget 4 .int (rmR 1 22) D clC ((cI, .int) :: (cS, .object "OldBronze$Sheet") :: tys) (wC ad cI cS) tC zC [.ref (ad 0), iv a1] M k := by
  refine moi_intro (by decide +kernel) (Nat.le_of_ble_eq_true rfl) wc_507 ?_
  intro p e s m args below meth c A Q C hR
  unfold w_X8_forget at h
  have pB36 : ∀   (s0 : Nat) (M : gSt), wB_X8_forget_36 a1 k  s0 M → gG p l e (rmR 1 22) s m args below meth c Q D clC A (wC ad cI cS) 4 36 [] [.ref (ad s0)] M := by
    intro   s0 M h
    unfold wB_X8_forget_36 at h
    refine g_astore_n C dX8_forget_36 (by decide) rfl ?_
    refine g_locals (lv' := [(2, .ref (ad s0))]) rfl ?_
    refine g_aload_n C dX8_forget_37 rfl ?_
    refine g_callVi C (nargs := 0) (o := s0) (st := []) (m_X4_size h) (show isRows s0 from h.1).1 (show isRows s0 from h.1).2.1 rfl rfl gc_X8_143 (by decide +kernel) ⟨rfl, rfl⟩ dX8_forget_38 ⟨by decide, by decide⟩ rfl rfl (Nat.le_of_ble_eq_true rfl) ?_
    intro r38c M38 hN
    replace h := hN
    clear hN
    refine g_istore_n C dX8_forget_41 (by decide) rfl ?_
    refine g_locals (lv' := [(2, .ref (ad s0)), (3, iv r38c)]) rfl ?_
    refine g_aload_n C dX8_forget_42 rfl ?_
    refine g_callVv C (nargs := 0) (o := s0) (st := []) (m_X4_clear h) (show isRows s0 from h.1).1 (show isRows s0 from h.1).2.1 rfl rfl gc_X8_150 (by decide +kernel) ⟨rfl, rfl⟩ dX8_forget_43 ⟨by decide, by decide⟩ rfl rfl (Nat.le_of_ble_eq_true rfl) ?_
    intro M43 hN
    replace h := hN
    clear hN
    refine g_iload_n C dX8_forget_46 rfl ?_
    exact hR _ _ _ _ dX8_forget_47 rfl h
  refine g_locals (lv' := [(0, .ref (ad 0)), (1, iv a1)]) rfl ?_
  refine g_iload_n C dX8_forget_0 rfl ?_
  refine g_iconst C dX8_forget_1 ?_
  refine g_iconst C dX8_forget_2 ?_
  refine g_callSi C (nargs := 3) (st := []) (m_X8_within h) gc_X8_63 (by decide +kernel) ⟨rfl, rfl⟩ dX8_forget_3 ⟨by decide, by decide⟩ rfl rfl (Nat.le_of_ble_eq_true rfl) ?_
  intro r3c M3 hN
  replace h := hN
  clear hN
  refine g_if_ne C 15 dX8_forget_6 (by decide) (fun hc => ?_) (fun hc => ?_)
  · replace h := h.1 hc
    refine g_iload_n C dX8_forget_15 rfl ?_
    refine g_if_ne C 29 dX8_forget_16 (by decide) (fun hc => ?_) (fun hc => ?_)
    · replace h := h.1 hc
      refine g_aload_n C dX8_forget_29 rfl ?_
      refine cf_X8_12 C pl_0 dX8_forget_30 ?_
      refine cf_X8_184 C pl_1 dX8_forget_33 ?_
      refine g_locals (lv' := []) rfl ?_
      exact pB36 _ _ h
    · replace h := h.2 hc
      refine g_aload_n C dX8_forget_19 rfl ?_
      refine cf_X8_12 C pl_0 dX8_forget_20 ?_
      refine cf_X8_181 C pl_1 dX8_forget_23 ?_
      refine g_goto C 36 dX8_forget_26 (by decide) ?_
      refine g_locals (lv' := []) rfl ?_
      exact pB36 _ _ h
  · replace h := h.2 hc
    refine g_aload_n C dX8_forget_9 rfl ?_
    refine g_iconst C dX8_forget_10 ?_
    refine g_callVi C (nargs := 1) (o := 0) (st := []) (m_X8_refuse h) pl_0.1 pl_0.2.1 rfl rfl gc_X8_67 (by decide +kernel) ⟨rfl, rfl⟩ dX8_forget_11 ⟨by decide, by decide⟩ rfl rfl (Nat.le_of_ble_eq_true rfl) ?_
    intro r11c M11 hN
    replace h := hN
    clear hN
    exact hR _ _ _ _ dX8_forget_14 rfl h
def w_X8_allPapers  (M : gSt) (k : Int → gSt → Prop) : Prop :=
  w_X4_size 8 M (fun r8c M8 => k ((xshl 1 r8c) - 1) M8)
set_option maxHeartbeats 4000000 in
set_option maxRecDepth 100000 in
theorem m_X8_allPapers {l : Launch} {D : va_G} {tys : List (ClassId × FieldType)} {ad : Nat → Nat} {cI cS : ClassId}  {M : gSt} {k : Int → gSt → Prop} (h : w_X8_allPapers  M k) : MOi l yX8_allPapers cX8_allPapers 1 .int (rmR 1 20) D clC ((cI, .int) :: (cS, .object "OldBronze$Sheet") :: tys) (wC ad cI cS) tC zC [.ref (ad 0)] M k := by
  refine moi_intro (by decide +kernel) (Nat.le_of_ble_eq_true rfl) wc_508 ?_
  intro p e s m args below meth c A Q C hR
  unfold w_X8_allPapers at h
  refine g_locals (lv' := [(0, .ref (ad 0))]) rfl ?_
  refine g_iconst C dX8_allPapers_0 ?_
  refine g_aload_n C dX8_allPapers_1 rfl ?_
  refine cf_X8_12 C pl_0 dX8_allPapers_2 ?_
  refine cf_X8_181 C pl_1 dX8_allPapers_5 ?_
  refine g_callVi C (nargs := 0) (o := 8) (st := [iv 1]) (m_X4_size h) pl_8.1 pl_8.2.1 rfl rfl gc_X8_143 (by decide +kernel) ⟨rfl, rfl⟩ dX8_allPapers_8 ⟨by decide, by decide⟩ rfl rfl (Nat.le_of_ble_eq_true rfl) ?_
  intro r8c M8 hN
  replace h := hN
  clear hN
  refine g_ishl C dX8_allPapers_11 ?_
  refine g_iconst C dX8_allPapers_12 ?_
  refine g_isub C dX8_allPapers_13 ?_
  exact hR _ _ _ _ dX8_allPapers_14 rfl h
end
section
def w_X8_isHistory (a1 : Int) (M : gSt) (k : Int → gSt → Prop) : Prop :=
  w_X8_allPapers  M (fun r3c M3 => w_X8_within a1 0 r3c M3 (fun r6c M6 => (r6c = 0 ∨ r6c = 1) ∧ (k r6c M6)))
set_option maxHeartbeats 4000000 in
set_option maxRecDepth 100000 in
theorem m_X8_isHistory {l : Launch} {D : va_G} {tys : List (ClassId × FieldType)} {ad : Nat → Nat} {cI cS : ClassId} {a1 : Int} {M : gSt} {k : Int → gSt → Prop} (h : w_X8_isHistory a1 M k) : MOi l yX8_isHistory cX8_isHistory 2 .boolean (rmR 2 40) D clC ((cI, .int) :: (cS, .object "OldBronze$Sheet") :: tys) (wC ad cI cS) tC zC [.ref (ad 0), iv a1] M k := by
  refine moi_intro (by decide +kernel) (Nat.le_of_ble_eq_true rfl) wc_509 ?_
  intro p e s m args below meth c A Q C hR
  unfold w_X8_isHistory at h
  refine g_locals (lv' := [(0, .ref (ad 0)), (1, iv a1)]) rfl ?_
  refine g_iload_n C dX8_isHistory_0 rfl ?_
  refine g_iconst C dX8_isHistory_1 ?_
  refine g_aload_n C dX8_isHistory_2 rfl ?_
  refine g_callVi C (nargs := 0) (o := 0) (st := [iv 0, iv a1]) (m_X8_allPapers h) pl_0.1 pl_0.2.1 rfl rfl gc_X8_201 (by decide +kernel) ⟨rfl, rfl⟩ dX8_isHistory_3 ⟨by decide, by decide⟩ rfl rfl (Nat.le_of_ble_eq_true rfl) ?_
  intro r3c M3 hN
  replace h := hN
  clear hN
  refine g_callSi C (nargs := 3) (st := []) (m_X8_within h) gc_X8_63 (by decide +kernel) ⟨rfl, rfl⟩ dX8_isHistory_6 ⟨by decide, by decide⟩ rfl rfl (Nat.le_of_ble_eq_true rfl) ?_
  intro r6c M6 hN
  replace h := hN
  clear hN
  exact hR _ _ _ _ dX8_isHistory_9 (zn_bool h.1).1 h.2
def wB_X8_by_32 (a1 : Int) (a2 : Int) (a3 : Int) (k : Int → gSt → Prop)   (M : gSt) : Prop :=
w_X8_refuse 1 M (fun r34c M34 => k r34c M34)
def w_X8_by (a1 : Int) (a2 : Int) (a3 : Int) (M : gSt) (k : Int → gSt → Prop) : Prop :=
  w_X8_isHistory a1 M (fun r2c M2 => 
  (wrap r2c = 0 →
    wB_X8_by_32 a1 a2 a3 k   M2) ∧
  (¬ wrap r2c = 0 →
    w_X0_has 2 a2 M2 (fun r16c M16 => 
    (wrap r16c = 0 →
      wB_X8_by_32 a1 a2 a3 k   M16) ∧
    (¬ wrap r16c = 0 →
      w_X8_within a3 2 9 M16 (fun r26c M26 => 
      (¬ wrap r26c = 0 →
        w_X2_follow 41 1 a1 M26 (fun M47 => w_X2_numberBehind 41 a2 a3 M47 (fun r56c M56 => k r56c M56))) ∧
      (wrap r26c = 0 →
        wB_X8_by_32 a1 a2 a3 k   M26))))))
set_option maxHeartbeats 4000000 in
set_option maxRecDepth 100000 in
theorem m_X8_by {l : Launch} {D : va_G} {tys : List (ClassId × FieldType)} {ad : Nat → Nat} {cI cS : ClassId} {a1 : Int} {a2 : Int} {a3 : Int} {M : gSt} {k : Int → gSt → Prop} (h : w_X8_by a1 a2 a3 M k) : MOi l yX8_by cX8_by 4 .int (rmR 6 147) D clC ((cI, .int) :: (cS, .object "OldBronze$Sheet") :: tys) (wC ad cI cS) tC zC [.ref (ad 0), iv a1, iv a2, iv a3] M k := by
  refine moi_intro (by decide +kernel) (Nat.le_of_ble_eq_true rfl) wc_520 ?_
  intro p e s m args below meth c A Q C hR
  unfold w_X8_by at h
  have pB32 : ∀    (M : gSt), wB_X8_by_32 a1 a2 a3 k   M → gG p l e (rmR 6 147) s m args below meth c Q D clC A (wC ad cI cS) 4 32 [(0, .ref (ad 0))] [] M := by
    intro    M h
    unfold wB_X8_by_32 at h
    refine g_aload_n C dX8_by_32 rfl ?_
    refine g_iconst C dX8_by_33 ?_
    refine g_callVi C (nargs := 1) (o := 0) (st := []) (m_X8_refuse h) pl_0.1 pl_0.2.1 rfl rfl gc_X8_67 (by decide +kernel) ⟨rfl, rfl⟩ dX8_by_34 ⟨by decide, by decide⟩ rfl rfl (Nat.le_of_ble_eq_true rfl) ?_
    intro r34c M34 hN
    replace h := hN
    clear hN
    exact hR _ _ _ _ dX8_by_37 rfl h
  refine g_locals (lv' := [(0, .ref (ad 0)), (1, iv a1), (2, iv a2), (3, iv a3)]) rfl ?_
  refine g_aload_n C dX8_by_0 rfl ?_
  refine g_iload_n C dX8_by_1 rfl ?_
  refine g_callVi C (nargs := 1) (o := 0) (st := []) (m_X8_isHistory h) pl_0.1 pl_0.2.1 rfl rfl gc_X8_187 (by decide +kernel) ⟨rfl, rfl⟩ dX8_by_2 ⟨by decide, by decide⟩ rfl rfl (Nat.le_of_ble_eq_true rfl) ?_
  intro r2c M2 hN
  replace h := hN
  clear hN
  refine g_if_eq C 32 dX8_by_5 (by decide) (fun hc => ?_) (fun hc => ?_)
  · replace h := h.1 hc
    refine g_locals (lv' := [(0, .ref (ad 0))]) rfl ?_
    exact pB32  _ h
  · replace h := h.2 hc
    refine g_aload_n C dX8_by_8 rfl ?_
    refine cf_X8_12 C pl_0 dX8_by_9 ?_
    refine cf_X8_71 C pl_1 dX8_by_12 ?_
    refine g_iload_n C dX8_by_15 rfl ?_
    refine g_callVi C (nargs := 1) (o := 2) (st := []) (m_X0_has h) pl_2.1 pl_2.2.1 rfl rfl gc_X8_82 (by decide +kernel) ⟨rfl, rfl⟩ dX8_by_16 ⟨by decide, by decide⟩ rfl rfl (Nat.le_of_ble_eq_true rfl) ?_
    intro r16c M16 hN
    replace h := hN
    clear hN
    refine g_if_eq C 32 dX8_by_19 (by decide) (fun hc => ?_) (fun hc => ?_)
    · replace h := h.1 hc
      refine g_locals (lv' := [(0, .ref (ad 0))]) rfl ?_
      exact pB32  _ h
    · replace h := h.2 hc
      refine g_iload_n C dX8_by_22 rfl ?_
      refine g_iconst C dX8_by_23 ?_
      refine g_bipush C dX8_by_24 rfl ?_
      refine g_callSi C (nargs := 3) (st := []) (m_X8_within h) gc_X8_63 (by decide +kernel) ⟨rfl, rfl⟩ dX8_by_26 ⟨by decide, by decide⟩ rfl rfl (Nat.le_of_ble_eq_true rfl) ?_
      intro r26c M26 hN
      replace h := hN
      clear hN
      refine g_if_ne C 38 dX8_by_29 (by decide) (fun hc => ?_) (fun hc => ?_)
      · replace h := h.1 hc
        refine g_aload_n C dX8_by_38 rfl ?_
        refine cf_X8_29 C pl_0 dX8_by_39 ?_
        refine g_aload_n C dX8_by_42 rfl ?_
        refine cf_X8_12 C pl_0 dX8_by_43 ?_
        refine g_iload_n C dX8_by_46 rfl ?_
        refine g_callVv C (nargs := 2) (o := 41) (st := []) (m_X2_follow h) pl_41.1 pl_41.2.1 rfl rfl gc_X8_190 (by decide +kernel) ⟨rfl, rfl⟩ dX8_by_47 ⟨by decide, by decide⟩ rfl rfl (Nat.le_of_ble_eq_true rfl) ?_
        intro M47 hN
        replace h := hN
        clear hN
        refine g_aload_n C dX8_by_50 rfl ?_
        refine cf_X8_29 C pl_0 dX8_by_51 ?_
        refine g_iload_n C dX8_by_54 rfl ?_
        refine g_iload_n C dX8_by_55 rfl ?_
        refine g_callVi C (nargs := 2) (o := 41) (st := []) (m_X2_numberBehind h) pl_41.1 pl_41.2.1 rfl rfl gc_X8_194 (by decide +kernel) ⟨rfl, rfl⟩ dX8_by_56 ⟨by decide, by decide⟩ rfl rfl (Nat.le_of_ble_eq_true rfl) ?_
        intro r56c M56 hN
        replace h := hN
        clear hN
        exact hR _ _ _ _ dX8_by_59 rfl h
      · replace h := h.2 hc
        refine g_locals (lv' := [(0, .ref (ad 0))]) rfl ?_
        exact pB32  _ h
def wB_X8_fits_57 (a1 : Int) (k : Int → gSt → Prop)  (v2 : Int) (M : gSt) : Prop :=

  (wrap a1 = 0 →
    w_X2_size 41 M (fun r92c M92 => k r92c M92)) ∧
  (wrap a1 = 1 →
    w_X2_fitting 41 0 M (fun r101c M101 => k r101c M101)) ∧
  (wrap a1 = 2 →
    w_X2_inAll 41 v2 M (fun r110c M110 => k r110c M110)) ∧
  (wrap a1 = 3 →
    w_X2_inAny 41 M (fun r118c M118 => k r118c M118)) ∧
  (¬ wrap a1 = 0 ∧ ¬ wrap a1 = 1 ∧ ¬ wrap a1 = 2 ∧ ¬ wrap a1 = 3 →
    w_X4_size 8 M (fun r129c M129 => w_X2_mostPapers 41 M129 (fun r136c M136 => k (r129c - r136c) M136)))
def wB_X8_fits_51 (a1 : Int) (k : Int → gSt → Prop)   (M : gSt) : Prop :=
w_X8_refuse 2 M (fun r53c M53 => k r53c M53)
def w_X8_fits (a1 : Int) (M : gSt) (k : Int → gSt → Prop) : Prop :=
  w_X8_within a1 0 4 M (fun r3c M3 => 
  (¬ wrap r3c = 0 →
    w_X2_find 41 1 M3 (fun M23 => w_X8_allPapers  M23 (fun r27c M27 => w_X2_size 41 M27 (fun r35c M35 => 
    (¬ wrap r35c = 0 →
      wB_X8_fits_57 a1 k  r27c M35) ∧
    (wrap r35c = 0 →

      (wrap a1 = 1 →
        wB_X8_fits_51 a1 k   M35) ∧
      (¬ wrap a1 = 1 →

        (¬ wrap a1 = 4 →
          wB_X8_fits_57 a1 k  r27c M35) ∧
        (wrap a1 = 4 →
          wB_X8_fits_51 a1 k   M35))))))) ∧
  (wrap r3c = 0 →
    w_X8_refuse 1 M3 (fun r11c M11 => k r11c M11)))
set_option maxHeartbeats 4000000 in
set_option maxRecDepth 100000 in
theorem m_X8_fits {l : Launch} {D : va_G} {tys : List (ClassId × FieldType)} {ad : Nat → Nat} {cI cS : ClassId} {a1 : Int} {M : gSt} {k : Int → gSt → Prop} (h : w_X8_fits a1 M k) : MOi l yX8_fits cX8_fits 3 .int (rmR 7 169) D clC ((cI, .int) :: (cS, .object "OldBronze$Sheet") :: tys) (wC ad cI cS) tC zC [.ref (ad 0), iv a1] M k := by
  refine moi_intro (by decide +kernel) (Nat.le_of_ble_eq_true rfl) wc_537 ?_
  intro p e s m args below meth c A Q C hR
  unfold w_X8_fits at h
  have pB57 : ∀   (v2 : Int) (M : gSt), wB_X8_fits_57 a1 k  v2 M → gG p l e (rmR 7 169) s m args below meth c Q D clC A (wC ad cI cS) 3 57 [(0, .ref (ad 0)), (1, iv a1), (2, iv v2)] [] M := by
    intro   v2 M h
    unfold wB_X8_fits_57 at h
    refine g_iload_n C dX8_fits_57 rfl ?_
    by_cases hc0 : wrap a1 = 0
    · refine g_tableIn C 88 dX8_fits_58 (by omega) (by omega) (by rw [hc0] <;> rfl) (by decide) ?_
      replace h := h.1 hc0
      refine g_aload_n C dX8_fits_88 rfl ?_
      refine cf_X8_29 C pl_0 dX8_fits_89 ?_
      refine g_callVi C (nargs := 0) (o := 41) (st := []) (m_X2_size h) pl_41.1 pl_41.2.1 rfl rfl gc_X8_204 (by decide +kernel) ⟨rfl, rfl⟩ dX8_fits_92 ⟨by decide, by decide⟩ rfl rfl (Nat.le_of_ble_eq_true rfl) ?_
      intro r92c M92 hN
      replace h := hN
      clear hN
      exact hR _ _ _ _ dX8_fits_95 rfl h
    · by_cases hc1 : wrap a1 = 1
      · refine g_tableIn C 96 dX8_fits_58 (by omega) (by omega) (by rw [hc1] <;> rfl) (by decide) ?_
        replace h := h.2.1 hc1
        refine g_aload_n C dX8_fits_96 rfl ?_
        refine cf_X8_29 C pl_0 dX8_fits_97 ?_
        refine g_iconst C dX8_fits_100 ?_
        refine g_callVi C (nargs := 1) (o := 41) (st := []) (m_X2_fitting h) pl_41.1 pl_41.2.1 rfl rfl gc_X8_205 (by decide +kernel) ⟨rfl, rfl⟩ dX8_fits_101 ⟨by decide, by decide⟩ rfl rfl (Nat.le_of_ble_eq_true rfl) ?_
        intro r101c M101 hN
        replace h := hN
        clear hN
        exact hR _ _ _ _ dX8_fits_104 rfl h
      · by_cases hc2 : wrap a1 = 2
        · refine g_tableIn C 105 dX8_fits_58 (by omega) (by omega) (by rw [hc2] <;> rfl) (by decide) ?_
          replace h := h.2.2.1 hc2
          refine g_aload_n C dX8_fits_105 rfl ?_
          refine cf_X8_29 C pl_0 dX8_fits_106 ?_
          refine g_iload_n C dX8_fits_109 rfl ?_
          refine g_callVi C (nargs := 1) (o := 41) (st := []) (m_X2_inAll h) pl_41.1 pl_41.2.1 rfl rfl gc_X8_208 (by decide +kernel) ⟨rfl, rfl⟩ dX8_fits_110 ⟨by decide, by decide⟩ rfl rfl (Nat.le_of_ble_eq_true rfl) ?_
          intro r110c M110 hN
          replace h := hN
          clear hN
          exact hR _ _ _ _ dX8_fits_113 rfl h
        · by_cases hc3 : wrap a1 = 3
          · refine g_tableIn C 114 dX8_fits_58 (by omega) (by omega) (by rw [hc3] <;> rfl) (by decide) ?_
            replace h := h.2.2.2.1 hc3
            refine g_aload_n C dX8_fits_114 rfl ?_
            refine cf_X8_29 C pl_0 dX8_fits_115 ?_
            refine g_callVi C (nargs := 0) (o := 41) (st := []) (m_X2_inAny h) pl_41.1 pl_41.2.1 rfl rfl gc_X8_211 (by decide +kernel) ⟨rfl, rfl⟩ dX8_fits_118 ⟨by decide, by decide⟩ rfl rfl (Nat.le_of_ble_eq_true rfl) ?_
            intro r118c M118 hN
            replace h := hN
            clear hN
            exact hR _ _ _ _ dX8_fits_121 rfl h
          · refine g_tableOut C 122 dX8_fits_58 (by omega) (by decide) ?_
            replace h := h.2.2.2.2 ⟨hc0, hc1, hc2, hc3⟩
            refine g_aload_n C dX8_fits_122 rfl ?_
            refine cf_X8_12 C pl_0 dX8_fits_123 ?_
            refine cf_X8_181 C pl_1 dX8_fits_126 ?_
            refine g_callVi C (nargs := 0) (o := 8) (st := []) (m_X4_size h) pl_8.1 pl_8.2.1 rfl rfl gc_X8_143 (by decide +kernel) ⟨rfl, rfl⟩ dX8_fits_129 ⟨by decide, by decide⟩ rfl rfl (Nat.le_of_ble_eq_true rfl) ?_
            intro r129c M129 hN
            replace h := hN
            clear hN
            refine g_aload_n C dX8_fits_132 rfl ?_
            refine cf_X8_29 C pl_0 dX8_fits_133 ?_
            refine g_callVi C (nargs := 0) (o := 41) (st := [iv r129c]) (m_X2_mostPapers h) pl_41.1 pl_41.2.1 rfl rfl gc_X8_214 (by decide +kernel) ⟨rfl, rfl⟩ dX8_fits_136 ⟨by decide, by decide⟩ rfl rfl (Nat.le_of_ble_eq_true rfl) ?_
            intro r136c M136 hN
            replace h := hN
            clear hN
            refine g_isub C dX8_fits_139 ?_
            exact hR _ _ _ _ dX8_fits_140 rfl h
  have pB51 : ∀    (M : gSt), wB_X8_fits_51 a1 k   M → gG p l e (rmR 7 169) s m args below meth c Q D clC A (wC ad cI cS) 3 51 [(0, .ref (ad 0))] [] M := by
    intro    M h
    unfold wB_X8_fits_51 at h
    refine g_aload_n C dX8_fits_51 rfl ?_
    refine g_iconst C dX8_fits_52 ?_
    refine g_callVi C (nargs := 1) (o := 0) (st := []) (m_X8_refuse h) pl_0.1 pl_0.2.1 rfl rfl gc_X8_67 (by decide +kernel) ⟨rfl, rfl⟩ dX8_fits_53 ⟨by decide, by decide⟩ rfl rfl (Nat.le_of_ble_eq_true rfl) ?_
    intro r53c M53 hN
    replace h := hN
    clear hN
    exact hR _ _ _ _ dX8_fits_56 rfl h
  refine g_locals (lv' := [(0, .ref (ad 0)), (1, iv a1)]) rfl ?_
  refine g_iload_n C dX8_fits_0 rfl ?_
  refine g_iconst C dX8_fits_1 ?_
  refine g_iconst C dX8_fits_2 ?_
  refine g_callSi C (nargs := 3) (st := []) (m_X8_within h) gc_X8_63 (by decide +kernel) ⟨rfl, rfl⟩ dX8_fits_3 ⟨by decide, by decide⟩ rfl rfl (Nat.le_of_ble_eq_true rfl) ?_
  intro r3c M3 hN
  replace h := hN
  clear hN
  refine g_if_ne C 15 dX8_fits_6 (by decide) (fun hc => ?_) (fun hc => ?_)
  · replace h := h.1 hc
    refine g_aload_n C dX8_fits_15 rfl ?_
    refine cf_X8_29 C pl_0 dX8_fits_16 ?_
    refine g_aload_n C dX8_fits_19 rfl ?_
    refine cf_X8_12 C pl_0 dX8_fits_20 ?_
    refine g_callVv C (nargs := 1) (o := 41) (st := []) (m_X2_find h) pl_41.1 pl_41.2.1 rfl rfl gc_X8_197 (by decide +kernel) ⟨rfl, rfl⟩ dX8_fits_23 ⟨by decide, by decide⟩ rfl rfl (Nat.le_of_ble_eq_true rfl) ?_
    intro M23 hN
    replace h := hN
    clear hN
    refine g_aload_n C dX8_fits_26 rfl ?_
    refine g_callVi C (nargs := 0) (o := 0) (st := []) (m_X8_allPapers h) pl_0.1 pl_0.2.1 rfl rfl gc_X8_201 (by decide +kernel) ⟨rfl, rfl⟩ dX8_fits_27 ⟨by decide, by decide⟩ rfl rfl (Nat.le_of_ble_eq_true rfl) ?_
    intro r27c M27 hN
    replace h := hN
    clear hN
    refine g_istore_n C dX8_fits_30 (by decide) rfl ?_
    refine g_locals (lv' := [(0, .ref (ad 0)), (1, iv a1), (2, iv r27c)]) rfl ?_
    refine g_aload_n C dX8_fits_31 rfl ?_
    refine cf_X8_29 C pl_0 dX8_fits_32 ?_
    refine g_callVi C (nargs := 0) (o := 41) (st := []) (m_X2_size h) pl_41.1 pl_41.2.1 rfl rfl gc_X8_204 (by decide +kernel) ⟨rfl, rfl⟩ dX8_fits_35 ⟨by decide, by decide⟩ rfl rfl (Nat.le_of_ble_eq_true rfl) ?_
    intro r35c M35 hN
    replace h := hN
    clear hN
    refine g_if_ne C 57 dX8_fits_38 (by decide) (fun hc => ?_) (fun hc => ?_)
    · replace h := h.1 hc
      refine g_locals (lv' := [(0, .ref (ad 0)), (1, iv a1), (2, iv r27c)]) rfl ?_
      exact pB57 _ _ h
    · replace h := h.2 hc
      refine g_iload_n C dX8_fits_41 rfl ?_
      refine g_iconst C dX8_fits_42 ?_
      refine g_icmp_eq C 51 dX8_fits_43 (by decide) (fun hc => ?_) (fun hc => ?_)
      · replace h := h.1 hc
        refine g_locals (lv' := [(0, .ref (ad 0))]) rfl ?_
        exact pB51  _ h
      · replace h := h.2 hc
        refine g_iload_n C dX8_fits_46 rfl ?_
        refine g_iconst C dX8_fits_47 ?_
        refine g_icmp_ne C 57 dX8_fits_48 (by decide) (fun hc => ?_) (fun hc => ?_)
        · replace h := h.1 hc
          refine g_locals (lv' := [(0, .ref (ad 0)), (1, iv a1), (2, iv r27c)]) rfl ?_
          exact pB57 _ _ h
        · replace h := h.2 hc
          refine g_locals (lv' := [(0, .ref (ad 0))]) rfl ?_
          exact pB51  _ h
  · replace h := h.2 hc
    refine g_aload_n C dX8_fits_9 rfl ?_
    refine g_iconst C dX8_fits_10 ?_
    refine g_callVi C (nargs := 1) (o := 0) (st := []) (m_X8_refuse h) pl_0.1 pl_0.2.1 rfl rfl gc_X8_67 (by decide +kernel) ⟨rfl, rfl⟩ dX8_fits_11 ⟨by decide, by decide⟩ rfl rfl (Nat.le_of_ble_eq_true rfl) ?_
    intro r11c M11 hN
    replace h := hN
    clear hN
    exact hR _ _ _ _ dX8_fits_14 rfl h
def wB_X8_span_32 (a1 : Int) (a2 : Int) (a3 : Int) (k : Int → gSt → Prop)   (M : gSt) : Prop :=
w_X8_refuse 1 M (fun r34c M34 => k r34c M34)
def wB_X8_span_88 (a1 : Int) (a2 : Int) (a3 : Int) (k : Int → gSt → Prop)  (s0 : Int) (s1 : Int) (s2 : Int) (M : gSt) : Prop :=
w_X2_outermost 41 1 s2 s1 s0 M (fun r88c M88 => k r88c M88)
def w_X8_span (a1 : Int) (a2 : Int) (a3 : Int) (M : gSt) (k : Int → gSt → Prop) : Prop :=
  w_X0_has 2 a1 M (fun r8c M8 => 
  (wrap r8c = 0 →
    wB_X8_span_32 a1 a2 a3 k   M8) ∧
  (¬ wrap r8c = 0 →
    w_X8_within a2 0 3 M8 (fun r17c M17 => 
    (wrap r17c = 0 →
      wB_X8_span_32 a1 a2 a3 k   M17) ∧
    (¬ wrap r17c = 0 →
      w_X8_within a3 0 1 M17 (fun r26c M26 => 
      (¬ wrap r26c = 0 →
        w_X2_find 41 1 M26 (fun M46 => w_X2_size 41 M46 (fun r53c M53 => 
        (¬ wrap r53c = 0 →

          (¬ wrap a3 = 1 →
            wB_X8_span_88 a1 a2 a3 k  0 (6 + a2) a1 M53) ∧
          (wrap a3 = 1 →
            wB_X8_span_88 a1 a2 a3 k  1 (6 + a2) a1 M53)) ∧
        (wrap r53c = 0 →
          w_X8_refuse 2 M53 (fun r61c M61 => k r61c M61))))) ∧
      (wrap r26c = 0 →
        wB_X8_span_32 a1 a2 a3 k   M26))))))
set_option maxHeartbeats 4000000 in
set_option maxRecDepth 100000 in
theorem m_X8_span {l : Launch} {D : va_G} {tys : List (ClassId × FieldType)} {ad : Nat → Nat} {cI cS : ClassId} {a1 : Int} {a2 : Int} {a3 : Int} {M : gSt} {k : Int → gSt → Prop} (h : w_X8_span a1 a2 a3 M k) : MOi l yX8_span cX8_span 4 .int (rmR 7 174) D clC ((cI, .int) :: (cS, .object "OldBronze$Sheet") :: tys) (wC ad cI cS) tC zC [.ref (ad 0), iv a1, iv a2, iv a3] M k := by
  refine moi_intro (by decide +kernel) (Nat.le_of_ble_eq_true rfl) wc_541 ?_
  intro p e s m args below meth c A Q C hR
  unfold w_X8_span at h
  have pB32 : ∀    (M : gSt), wB_X8_span_32 a1 a2 a3 k   M → gG p l e (rmR 7 174) s m args below meth c Q D clC A (wC ad cI cS) 4 32 [(0, .ref (ad 0))] [] M := by
    intro    M h
    unfold wB_X8_span_32 at h
    refine g_aload_n C dX8_span_32 rfl ?_
    refine g_iconst C dX8_span_33 ?_
    refine g_callVi C (nargs := 1) (o := 0) (st := []) (m_X8_refuse h) pl_0.1 pl_0.2.1 rfl rfl gc_X8_67 (by decide +kernel) ⟨rfl, rfl⟩ dX8_span_34 ⟨by decide, by decide⟩ rfl rfl (Nat.le_of_ble_eq_true rfl) ?_
    intro r34c M34 hN
    replace h := hN
    clear hN
    exact hR _ _ _ _ dX8_span_37 rfl h
  have pB88 : ∀   (s0 : Int) (s1 : Int) (s2 : Int) (M : gSt), wB_X8_span_88 a1 a2 a3 k  s0 s1 s2 M → gG p l e (rmR 7 174) s m args below meth c Q D clC A (wC ad cI cS) 4 88 [] [iv s0, iv s1, iv s2, .ref (ad 1), .ref (ad 41)] M := by
    intro   s0 s1 s2 M h
    unfold wB_X8_span_88 at h
    refine g_callVi C (nargs := 4) (o := 41) (st := []) (m_X2_outermost h) pl_41.1 pl_41.2.1 rfl rfl gc_X8_217 (by decide +kernel) ⟨rfl, rfl⟩ dX8_span_88 ⟨by decide, by decide⟩ rfl rfl (Nat.le_of_ble_eq_true rfl) ?_
    intro r88c M88 hN
    replace h := hN
    clear hN
    exact hR _ _ _ _ dX8_span_91 rfl h
  refine g_locals (lv' := [(0, .ref (ad 0)), (1, iv a1), (2, iv a2), (3, iv a3)]) rfl ?_
  refine g_aload_n C dX8_span_0 rfl ?_
  refine cf_X8_12 C pl_0 dX8_span_1 ?_
  refine cf_X8_71 C pl_1 dX8_span_4 ?_
  refine g_iload_n C dX8_span_7 rfl ?_
  refine g_callVi C (nargs := 1) (o := 2) (st := []) (m_X0_has h) pl_2.1 pl_2.2.1 rfl rfl gc_X8_82 (by decide +kernel) ⟨rfl, rfl⟩ dX8_span_8 ⟨by decide, by decide⟩ rfl rfl (Nat.le_of_ble_eq_true rfl) ?_
  intro r8c M8 hN
  replace h := hN
  clear hN
  refine g_if_eq C 32 dX8_span_11 (by decide) (fun hc => ?_) (fun hc => ?_)
  · replace h := h.1 hc
    refine g_locals (lv' := [(0, .ref (ad 0))]) rfl ?_
    exact pB32  _ h
  · replace h := h.2 hc
    refine g_iload_n C dX8_span_14 rfl ?_
    refine g_iconst C dX8_span_15 ?_
    refine g_iconst C dX8_span_16 ?_
    refine g_callSi C (nargs := 3) (st := []) (m_X8_within h) gc_X8_63 (by decide +kernel) ⟨rfl, rfl⟩ dX8_span_17 ⟨by decide, by decide⟩ rfl rfl (Nat.le_of_ble_eq_true rfl) ?_
    intro r17c M17 hN
    replace h := hN
    clear hN
    refine g_if_eq C 32 dX8_span_20 (by decide) (fun hc => ?_) (fun hc => ?_)
    · replace h := h.1 hc
      refine g_locals (lv' := [(0, .ref (ad 0))]) rfl ?_
      exact pB32  _ h
    · replace h := h.2 hc
      refine g_iload_n C dX8_span_23 rfl ?_
      refine g_iconst C dX8_span_24 ?_
      refine g_iconst C dX8_span_25 ?_
      refine g_callSi C (nargs := 3) (st := []) (m_X8_within h) gc_X8_63 (by decide +kernel) ⟨rfl, rfl⟩ dX8_span_26 ⟨by decide, by decide⟩ rfl rfl (Nat.le_of_ble_eq_true rfl) ?_
      intro r26c M26 hN
      replace h := hN
      clear hN
      refine g_if_ne C 38 dX8_span_29 (by decide) (fun hc => ?_) (fun hc => ?_)
      · replace h := h.1 hc
        refine g_aload_n C dX8_span_38 rfl ?_
        refine cf_X8_29 C pl_0 dX8_span_39 ?_
        refine g_aload_n C dX8_span_42 rfl ?_
        refine cf_X8_12 C pl_0 dX8_span_43 ?_
        refine g_callVv C (nargs := 1) (o := 41) (st := []) (m_X2_find h) pl_41.1 pl_41.2.1 rfl rfl gc_X8_197 (by decide +kernel) ⟨rfl, rfl⟩ dX8_span_46 ⟨by decide, by decide⟩ rfl rfl (Nat.le_of_ble_eq_true rfl) ?_
        intro M46 hN
        replace h := hN
        clear hN
        refine g_aload_n C dX8_span_49 rfl ?_
        refine cf_X8_29 C pl_0 dX8_span_50 ?_
        refine g_callVi C (nargs := 0) (o := 41) (st := []) (m_X2_size h) pl_41.1 pl_41.2.1 rfl rfl gc_X8_204 (by decide +kernel) ⟨rfl, rfl⟩ dX8_span_53 ⟨by decide, by decide⟩ rfl rfl (Nat.le_of_ble_eq_true rfl) ?_
        intro r53c M53 hN
        replace h := hN
        clear hN
        refine g_if_ne C 65 dX8_span_56 (by decide) (fun hc => ?_) (fun hc => ?_)
        · replace h := h.1 hc
          refine g_aload_n C dX8_span_65 rfl ?_
          refine cf_X8_29 C pl_0 dX8_span_66 ?_
          refine g_aload_n C dX8_span_69 rfl ?_
          refine cf_X8_12 C pl_0 dX8_span_70 ?_
          refine g_iload_n C dX8_span_73 rfl ?_
          refine g_bipush C dX8_span_74 rfl ?_
          refine g_iload_n C dX8_span_76 rfl ?_
          refine g_iadd C dX8_span_77 ?_
          refine g_iload_n C dX8_span_78 rfl ?_
          refine g_iconst C dX8_span_79 ?_
          refine g_icmp_ne C 87 dX8_span_80 (by decide) (fun hc => ?_) (fun hc => ?_)
          · replace h := h.1 hc
            refine g_iconst C dX8_span_87 ?_
            refine g_locals (lv' := []) rfl ?_
            exact pB88 _ _ _ _ h
          · replace h := h.2 hc
            refine g_iconst C dX8_span_83 ?_
            refine g_goto C 88 dX8_span_84 (by decide) ?_
            refine g_locals (lv' := []) rfl ?_
            exact pB88 _ _ _ _ h
        · replace h := h.2 hc
          refine g_aload_n C dX8_span_59 rfl ?_
          refine g_iconst C dX8_span_60 ?_
          refine g_callVi C (nargs := 1) (o := 0) (st := []) (m_X8_refuse h) pl_0.1 pl_0.2.1 rfl rfl gc_X8_67 (by decide +kernel) ⟨rfl, rfl⟩ dX8_span_61 ⟨by decide, by decide⟩ rfl rfl (Nat.le_of_ble_eq_true rfl) ?_
          intro r61c M61 hN
          replace h := hN
          clear hN
          exact hR _ _ _ _ dX8_span_64 rfl h
      · replace h := h.2 hc
        refine g_locals (lv' := [(0, .ref (ad 0))]) rfl ?_
        exact pB32  _ h
def wB_X8_next_34  (k : Int → gSt → Prop)   (M : gSt) : Prop :=
w_X8_refuse 2 M (fun r36c M36 => k r36c M36)
def w_X8_next  (M : gSt) (k : Int → gSt → Prop) : Prop :=
  w_X2_find 41 1 M (fun M8 => w_X2_size 41 M8 (fun r15c M15 => 
  (wrap r15c = 0 →
    wB_X8_next_34  k   M15) ∧
  (¬ wrap r15c = 0 →
    w_X0_size 2 M15 (fun r28c M28 => 
    (¬ wrap r28c = 0 →
      w_X0_size 2 M28 (fun r51c M51 => w_X2_bestParted 41 r51c M51 (fun r54c M54 => k r54c M54))) ∧
    (wrap r28c = 0 →
      wB_X8_next_34  k   M28)))))
set_option maxHeartbeats 4000000 in
set_option maxRecDepth 100000 in
theorem m_X8_next {l : Launch} {D : va_G} {tys : List (ClassId × FieldType)} {ad : Nat → Nat} {cI cS : ClassId}  {M : gSt} {k : Int → gSt → Prop} (h : w_X8_next  M k) : MOi l yX8_next cX8_next 1 .int (rmR 7 169) D clC ((cI, .int) :: (cS, .object "OldBronze$Sheet") :: tys) (wC ad cI cS) tC zC [.ref (ad 0)] M k := by
  refine moi_intro (by decide +kernel) (Nat.le_of_ble_eq_true rfl) wc_548 ?_
  intro p e s m args below meth c A Q C hR
  unfold w_X8_next at h
  have pB34 : ∀    (M : gSt), wB_X8_next_34  k   M → gG p l e (rmR 7 169) s m args below meth c Q D clC A (wC ad cI cS) 1 34 [(0, .ref (ad 0))] [] M := by
    intro    M h
    unfold wB_X8_next_34 at h
    refine g_aload_n C dX8_next_34 rfl ?_
    refine g_iconst C dX8_next_35 ?_
    refine g_callVi C (nargs := 1) (o := 0) (st := []) (m_X8_refuse h) pl_0.1 pl_0.2.1 rfl rfl gc_X8_67 (by decide +kernel) ⟨rfl, rfl⟩ dX8_next_36 ⟨by decide, by decide⟩ rfl rfl (Nat.le_of_ble_eq_true rfl) ?_
    intro r36c M36 hN
    replace h := hN
    clear hN
    exact hR _ _ _ _ dX8_next_39 rfl h
  refine g_locals (lv' := [(0, .ref (ad 0))]) rfl ?_
  refine g_aload_n C dX8_next_0 rfl ?_
  refine cf_X8_29 C pl_0 dX8_next_1 ?_
  refine g_aload_n C dX8_next_4 rfl ?_
  refine cf_X8_12 C pl_0 dX8_next_5 ?_
  refine g_callVv C (nargs := 1) (o := 41) (st := []) (m_X2_find h) pl_41.1 pl_41.2.1 rfl rfl gc_X8_197 (by decide +kernel) ⟨rfl, rfl⟩ dX8_next_8 ⟨by decide, by decide⟩ rfl rfl (Nat.le_of_ble_eq_true rfl) ?_
  intro M8 hN
  replace h := hN
  clear hN
  refine g_aload_n C dX8_next_11 rfl ?_
  refine cf_X8_29 C pl_0 dX8_next_12 ?_
  refine g_callVi C (nargs := 0) (o := 41) (st := []) (m_X2_size h) pl_41.1 pl_41.2.1 rfl rfl gc_X8_204 (by decide +kernel) ⟨rfl, rfl⟩ dX8_next_15 ⟨by decide, by decide⟩ rfl rfl (Nat.le_of_ble_eq_true rfl) ?_
  intro r15c M15 hN
  replace h := hN
  clear hN
  refine g_if_eq C 34 dX8_next_18 (by decide) (fun hc => ?_) (fun hc => ?_)
  · replace h := h.1 hc
    refine g_locals (lv' := [(0, .ref (ad 0))]) rfl ?_
    exact pB34  _ h
  · replace h := h.2 hc
    refine g_aload_n C dX8_next_21 rfl ?_
    refine cf_X8_12 C pl_0 dX8_next_22 ?_
    refine cf_X8_71 C pl_1 dX8_next_25 ?_
    refine g_callVi C (nargs := 0) (o := 2) (st := []) (m_X0_size h) pl_2.1 pl_2.2.1 rfl rfl gc_X8_221 (by decide +kernel) ⟨rfl, rfl⟩ dX8_next_28 ⟨by decide, by decide⟩ rfl rfl (Nat.le_of_ble_eq_true rfl) ?_
    intro r28c M28 hN
    replace h := hN
    clear hN
    refine g_if_ne C 40 dX8_next_31 (by decide) (fun hc => ?_) (fun hc => ?_)
    · replace h := h.1 hc
      refine g_aload_n C dX8_next_40 rfl ?_
      refine cf_X8_29 C pl_0 dX8_next_41 ?_
      refine g_aload_n C dX8_next_44 rfl ?_
      refine cf_X8_12 C pl_0 dX8_next_45 ?_
      refine cf_X8_71 C pl_1 dX8_next_48 ?_
      refine g_callVi C (nargs := 0) (o := 2) (st := [.ref (ad 41)]) (m_X0_size h) pl_2.1 pl_2.2.1 rfl rfl gc_X8_221 (by decide +kernel) ⟨rfl, rfl⟩ dX8_next_51 ⟨by decide, by decide⟩ rfl rfl (Nat.le_of_ble_eq_true rfl) ?_
      intro r51c M51 hN
      replace h := hN
      clear hN
      refine g_callVi C (nargs := 1) (o := 41) (st := []) (m_X2_bestParted h) pl_41.1 pl_41.2.1 rfl rfl gc_X8_222 (by decide +kernel) ⟨rfl, rfl⟩ dX8_next_54 ⟨by decide, by decide⟩ rfl rfl (Nat.le_of_ble_eq_true rfl) ?_
      intro r54c M54 hN
      replace h := hN
      clear hN
      exact hR _ _ _ _ dX8_next_57 rfl h
    · replace h := h.2 hc
      refine g_locals (lv' := [(0, .ref (ad 0))]) rfl ?_
      exact pB34  _ h
def wB_X8_most_27 (a1 : Int) (a2 : Int) (a3 : Int) (k : Int → gSt → Prop)   (M : gSt) : Prop :=
w_X8_refuse 1 M (fun r29c M29 => k r29c M29)
def w_X8_most (a1 : Int) (a2 : Int) (a3 : Int) (M : gSt) (k : Int → gSt → Prop) : Prop :=
  w_X8_within a1 0 3 M (fun r3c M3 => 
  (wrap r3c = 0 →
    wB_X8_most_27 a1 a2 a3 k   M3) ∧
  (¬ wrap r3c = 0 →
    w_X8_within a2 0 3 M3 (fun r12c M12 => 
    (wrap r12c = 0 →
      wB_X8_most_27 a1 a2 a3 k   M12) ∧
    (¬ wrap r12c = 0 →
      w_X8_within a3 0 1 M12 (fun r21c M21 => 
      (¬ wrap r21c = 0 →
        w_X0_mostOf 2 (6 + a1) a2 M21 (fun r45c M45 => 
        (¬ wrap a3 = 0 →
          w_X0_together 2 r45c (6 + a1) M45 (fun r73c M73 => k (xmax 0 r73c) M73)) ∧
        (wrap a3 = 0 →
          k r45c M45))) ∧
      (wrap r21c = 0 →
        wB_X8_most_27 a1 a2 a3 k   M21))))))
set_option maxHeartbeats 4000000 in
set_option maxRecDepth 100000 in
theorem m_X8_most {l : Launch} {D : va_G} {tys : List (ClassId × FieldType)} {ad : Nat → Nat} {cI cS : ClassId} {a1 : Int} {a2 : Int} {a3 : Int} {M : gSt} {k : Int → gSt → Prop} (h : w_X8_most a1 a2 a3 M k) : MOi l yX8_most cX8_most 5 .int (rmR 4 100) D clC ((cI, .int) :: (cS, .object "OldBronze$Sheet") :: tys) (wC ad cI cS) tC zC [.ref (ad 0), iv a1, iv a2, iv a3] M k := by
  refine moi_intro (by decide +kernel) (Nat.le_of_ble_eq_true rfl) wc_554 ?_
  intro p e s m args below meth c A Q C hR
  unfold w_X8_most at h
  have pB27 : ∀    (M : gSt), wB_X8_most_27 a1 a2 a3 k   M → gG p l e (rmR 4 100) s m args below meth c Q D clC A (wC ad cI cS) 5 27 [(0, .ref (ad 0))] [] M := by
    intro    M h
    unfold wB_X8_most_27 at h
    refine g_aload_n C dX8_most_27 rfl ?_
    refine g_iconst C dX8_most_28 ?_
    refine g_callVi C (nargs := 1) (o := 0) (st := []) (m_X8_refuse h) pl_0.1 pl_0.2.1 rfl rfl gc_X8_67 (by decide +kernel) ⟨rfl, rfl⟩ dX8_most_29 ⟨by decide, by decide⟩ rfl rfl (Nat.le_of_ble_eq_true rfl) ?_
    intro r29c M29 hN
    replace h := hN
    clear hN
    exact hR _ _ _ _ dX8_most_32 rfl h
  refine g_locals (lv' := [(0, .ref (ad 0)), (1, iv a1), (2, iv a2), (3, iv a3)]) rfl ?_
  refine g_iload_n C dX8_most_0 rfl ?_
  refine g_iconst C dX8_most_1 ?_
  refine g_iconst C dX8_most_2 ?_
  refine g_callSi C (nargs := 3) (st := []) (m_X8_within h) gc_X8_63 (by decide +kernel) ⟨rfl, rfl⟩ dX8_most_3 ⟨by decide, by decide⟩ rfl rfl (Nat.le_of_ble_eq_true rfl) ?_
  intro r3c M3 hN
  replace h := hN
  clear hN
  refine g_if_eq C 27 dX8_most_6 (by decide) (fun hc => ?_) (fun hc => ?_)
  · replace h := h.1 hc
    refine g_locals (lv' := [(0, .ref (ad 0))]) rfl ?_
    exact pB27  _ h
  · replace h := h.2 hc
    refine g_iload_n C dX8_most_9 rfl ?_
    refine g_iconst C dX8_most_10 ?_
    refine g_iconst C dX8_most_11 ?_
    refine g_callSi C (nargs := 3) (st := []) (m_X8_within h) gc_X8_63 (by decide +kernel) ⟨rfl, rfl⟩ dX8_most_12 ⟨by decide, by decide⟩ rfl rfl (Nat.le_of_ble_eq_true rfl) ?_
    intro r12c M12 hN
    replace h := hN
    clear hN
    refine g_if_eq C 27 dX8_most_15 (by decide) (fun hc => ?_) (fun hc => ?_)
    · replace h := h.1 hc
      refine g_locals (lv' := [(0, .ref (ad 0))]) rfl ?_
      exact pB27  _ h
    · replace h := h.2 hc
      refine g_iload_n C dX8_most_18 rfl ?_
      refine g_iconst C dX8_most_19 ?_
      refine g_iconst C dX8_most_20 ?_
      refine g_callSi C (nargs := 3) (st := []) (m_X8_within h) gc_X8_63 (by decide +kernel) ⟨rfl, rfl⟩ dX8_most_21 ⟨by decide, by decide⟩ rfl rfl (Nat.le_of_ble_eq_true rfl) ?_
      intro r21c M21 hN
      replace h := hN
      clear hN
      refine g_if_ne C 33 dX8_most_24 (by decide) (fun hc => ?_) (fun hc => ?_)
      · replace h := h.1 hc
        refine g_aload_n C dX8_most_33 rfl ?_
        refine cf_X8_12 C pl_0 dX8_most_34 ?_
        refine cf_X8_71 C pl_1 dX8_most_37 ?_
        refine g_bipush C dX8_most_40 rfl ?_
        refine g_iload_n C dX8_most_42 rfl ?_
        refine g_iadd C dX8_most_43 ?_
        refine g_iload_n C dX8_most_44 rfl ?_
        refine g_callVi C (nargs := 2) (o := 2) (st := []) (m_X0_mostOf h) pl_2.1 pl_2.2.1 rfl rfl gc_X8_225 (by decide +kernel) ⟨rfl, rfl⟩ dX8_most_45 ⟨by decide, by decide⟩ rfl rfl (Nat.le_of_ble_eq_true rfl) ?_
        intro r45c M45 hN
        replace h := hN
        clear hN
        refine g_istore C dX8_most_48 (by decide) rfl ?_
        refine g_locals (lv' := [(0, .ref (ad 0)), (1, iv a1), (2, iv a2), (3, iv a3), (4, iv r45c)]) rfl ?_
        refine g_iload_n C dX8_most_50 rfl ?_
        refine g_if_ne C 59 dX8_most_51 (by decide) (fun hc => ?_) (fun hc => ?_)
        · replace h := h.1 hc
          refine g_iconst C dX8_most_59 ?_
          refine g_aload_n C dX8_most_60 rfl ?_
          refine cf_X8_12 C pl_0 dX8_most_61 ?_
          refine cf_X8_71 C pl_1 dX8_most_64 ?_
          refine g_iload C dX8_most_67 rfl ?_
          refine g_bipush C dX8_most_69 rfl ?_
          refine g_iload_n C dX8_most_71 rfl ?_
          refine g_iadd C dX8_most_72 ?_
          refine g_callVi C (nargs := 2) (o := 2) (st := [iv 0]) (m_X0_together h) pl_2.1 pl_2.2.1 rfl rfl gc_X8_228 (by decide +kernel) ⟨rfl, rfl⟩ dX8_most_73 ⟨by decide, by decide⟩ rfl rfl (Nat.le_of_ble_eq_true rfl) ?_
          intro r73c M73 hN
          replace h := hN
          clear hN
          refine g_mmax C (st := []) dX8_most_76 wc_549 wc_91 wc_62 wc_92 (by decide) (Nat.le_of_ble_eq_true rfl) ?_
          exact hR _ _ _ _ dX8_most_79 rfl h
        · replace h := h.2 hc
          refine g_iload C dX8_most_54 rfl ?_
          refine g_goto C 79 dX8_most_56 (by decide) ?_
          exact hR _ _ _ _ dX8_most_79 rfl h
      · replace h := h.2 hc
        refine g_locals (lv' := [(0, .ref (ad 0))]) rfl ?_
        exact pB27  _ h
def wB_X8_voice_23 (a1 : Int) (a2 : Int) (a3 : Int) (k : Int → gSt → Prop)   (M : gSt) : Prop :=
w_X8_refuse 1 M (fun r25c M25 => k r25c M25)
def w_X8_voice (a1 : Int) (a2 : Int) (a3 : Int) (M : gSt) (k : Int → gSt → Prop) : Prop :=
  w_X0_has 2 a1 M (fun r8c M8 => 
  (wrap r8c = 0 →
    wB_X8_voice_23 a1 a2 a3 k   M8) ∧
  (¬ wrap r8c = 0 →
    w_X8_within a2 0 3 M8 (fun r17c M17 => 
    (¬ wrap r17c = 0 →
      w_X0_number 2 a1 0 M17 (fun r42c M42 => w_X0_number 2 a1 1 M42 (fun r55c M55 => w_X6_begin 52 r42c a1 r55c M55 (fun M58 => w_X6_own 52 a2 a3 0 M58 (fun r68c M68 => w_X6_isParted 52 M68 (fun r77c M77 => 
      (wrap r77c = 0 →
        k r68c M77) ∧
      (¬ wrap r77c = 0 →
        w_X8_refuse 6 M77 (fun r86c M86 => k r86c M86)))))))) ∧
    (wrap r17c = 0 →
      wB_X8_voice_23 a1 a2 a3 k   M17))))
set_option maxHeartbeats 4000000 in
set_option maxRecDepth 100000 in
theorem m_X8_voice {l : Launch} {D : va_G} {tys : List (ClassId × FieldType)} {ad : Nat → Nat} {cI cS : ClassId} {a1 : Int} {a2 : Int} {a3 : Int} {M : gSt} {k : Int → gSt → Prop} (h : w_X8_voice a1 a2 a3 M k) : MOi l yX8_voice cX8_voice 5 .int (rmR 63 1629) D clC ((cI, .int) :: (cS, .object "OldBronze$Sheet") :: tys) (wC ad cI cS) tC zC [.ref (ad 0), iv a1, iv a2, iv a3] M k := by
  refine moi_intro (by decide +kernel) (Nat.le_of_ble_eq_true rfl) wc_561 ?_
  intro p e s m args below meth c A Q C hR
  unfold w_X8_voice at h
  have pB23 : ∀    (M : gSt), wB_X8_voice_23 a1 a2 a3 k   M → gG p l e (rmR 63 1629) s m args below meth c Q D clC A (wC ad cI cS) 5 23 [(0, .ref (ad 0))] [] M := by
    intro    M h
    unfold wB_X8_voice_23 at h
    refine g_aload_n C dX8_voice_23 rfl ?_
    refine g_iconst C dX8_voice_24 ?_
    refine g_callVi C (nargs := 1) (o := 0) (st := []) (m_X8_refuse h) pl_0.1 pl_0.2.1 rfl rfl gc_X8_67 (by decide +kernel) ⟨rfl, rfl⟩ dX8_voice_25 ⟨by decide, by decide⟩ rfl rfl (Nat.le_of_ble_eq_true rfl) ?_
    intro r25c M25 hN
    replace h := hN
    clear hN
    exact hR _ _ _ _ dX8_voice_28 rfl h
  refine g_locals (lv' := [(0, .ref (ad 0)), (1, iv a1), (2, iv a2), (3, iv a3)]) rfl ?_
  refine g_aload_n C dX8_voice_0 rfl ?_
  refine cf_X8_12 C pl_0 dX8_voice_1 ?_
  refine cf_X8_71 C pl_1 dX8_voice_4 ?_
  refine g_iload_n C dX8_voice_7 rfl ?_
  refine g_callVi C (nargs := 1) (o := 2) (st := []) (m_X0_has h) pl_2.1 pl_2.2.1 rfl rfl gc_X8_82 (by decide +kernel) ⟨rfl, rfl⟩ dX8_voice_8 ⟨by decide, by decide⟩ rfl rfl (Nat.le_of_ble_eq_true rfl) ?_
  intro r8c M8 hN
  replace h := hN
  clear hN
  refine g_if_eq C 23 dX8_voice_11 (by decide) (fun hc => ?_) (fun hc => ?_)
  · replace h := h.1 hc
    refine g_locals (lv' := [(0, .ref (ad 0))]) rfl ?_
    exact pB23  _ h
  · replace h := h.2 hc
    refine g_iload_n C dX8_voice_14 rfl ?_
    refine g_iconst C dX8_voice_15 ?_
    refine g_iconst C dX8_voice_16 ?_
    refine g_callSi C (nargs := 3) (st := []) (m_X8_within h) gc_X8_63 (by decide +kernel) ⟨rfl, rfl⟩ dX8_voice_17 ⟨by decide, by decide⟩ rfl rfl (Nat.le_of_ble_eq_true rfl) ?_
    intro r17c M17 hN
    replace h := hN
    clear hN
    refine g_if_ne C 29 dX8_voice_20 (by decide) (fun hc => ?_) (fun hc => ?_)
    · replace h := h.1 hc
      refine g_aload_n C dX8_voice_29 rfl ?_
      refine cf_X8_43 C pl_0 dX8_voice_30 ?_
      refine g_aload_n C dX8_voice_33 rfl ?_
      refine cf_X8_12 C pl_0 dX8_voice_34 ?_
      refine cf_X8_71 C pl_1 dX8_voice_37 ?_
      refine g_iload_n C dX8_voice_40 rfl ?_
      refine g_iconst C dX8_voice_41 ?_
      refine g_callVi C (nargs := 2) (o := 2) (st := [.ref (ad 52)]) (m_X0_number h) pl_2.1 pl_2.2.1 rfl rfl gc_X8_89 (by decide +kernel) ⟨rfl, rfl⟩ dX8_voice_42 ⟨by decide, by decide⟩ rfl rfl (Nat.le_of_ble_eq_true rfl) ?_
      intro r42c M42 hN
      replace h := hN
      clear hN
      refine g_iload_n C dX8_voice_45 rfl ?_
      refine g_aload_n C dX8_voice_46 rfl ?_
      refine cf_X8_12 C pl_0 dX8_voice_47 ?_
      refine cf_X8_71 C pl_1 dX8_voice_50 ?_
      refine g_iload_n C dX8_voice_53 rfl ?_
      refine g_iconst C dX8_voice_54 ?_
      refine g_callVi C (nargs := 2) (o := 2) (st := [iv a1, iv r42c, .ref (ad 52)]) (m_X0_number h) pl_2.1 pl_2.2.1 rfl rfl gc_X8_89 (by decide +kernel) ⟨rfl, rfl⟩ dX8_voice_55 ⟨by decide, by decide⟩ rfl rfl (Nat.le_of_ble_eq_true rfl) ?_
      intro r55c M55 hN
      replace h := hN
      clear hN
      refine g_callVv C (nargs := 3) (o := 52) (st := []) (m_X6_begin h) pl_52.1 pl_52.2 rfl rfl gc_X8_236 (by decide +kernel) ⟨rfl, rfl⟩ dX8_voice_58 ⟨by decide, by decide⟩ rfl rfl (Nat.le_of_ble_eq_true rfl) ?_
      intro M58 hN
      replace h := hN
      clear hN
      refine g_aload_n C dX8_voice_61 rfl ?_
      refine cf_X8_43 C pl_0 dX8_voice_62 ?_
      refine g_iload_n C dX8_voice_65 rfl ?_
      refine g_iload_n C dX8_voice_66 rfl ?_
      refine g_iconst C dX8_voice_67 ?_
      refine g_callNi C (nargs := 3) (o := 52) (st := []) (m_X6_own h) pl_52.1 pl_52.2 rfl rfl zn_13 (gc_code wc_381) wc_365 wc_376 wc_377 (by decide +kernel) ⟨rfl, rfl⟩ dX8_voice_68 ⟨by decide, by decide⟩ rfl rfl (Nat.le_of_ble_eq_true rfl) ?_
      intro r68c M68 hN
      replace h := hN
      clear hN
      refine g_istore C dX8_voice_71 (by decide) rfl ?_
      refine g_locals (lv' := [(0, .ref (ad 0)), (1, iv a1), (2, iv a2), (3, iv a3), (4, iv r68c)]) rfl ?_
      refine g_aload_n C dX8_voice_73 rfl ?_
      refine cf_X8_43 C pl_0 dX8_voice_74 ?_
      refine g_callVi C (nargs := 0) (o := 52) (st := []) (m_X6_isParted h) pl_52.1 pl_52.2 rfl rfl gc_X8_242 (by decide +kernel) ⟨rfl, rfl⟩ dX8_voice_77 ⟨by decide, by decide⟩ rfl rfl (Nat.le_of_ble_eq_true rfl) ?_
      intro r77c M77 hN
      replace h := hN
      clear hN
      refine g_if_eq C 92 dX8_voice_80 (by decide) (fun hc => ?_) (fun hc => ?_)
      · replace h := h.1 hc
        refine g_iload C dX8_voice_92 rfl ?_
        exact hR _ _ _ _ dX8_voice_94 rfl h
      · replace h := h.2 hc
        refine g_aload_n C dX8_voice_83 rfl ?_
        refine g_bipush C dX8_voice_84 rfl ?_
        refine g_callVi C (nargs := 1) (o := 0) (st := []) (m_X8_refuse h) pl_0.1 pl_0.2.1 rfl rfl gc_X8_67 (by decide +kernel) ⟨rfl, rfl⟩ dX8_voice_86 ⟨by decide, by decide⟩ rfl rfl (Nat.le_of_ble_eq_true rfl) ?_
        intro r86c M86 hN
        replace h := hN
        clear hN
        refine g_goto C 94 dX8_voice_89 (by decide) ?_
        exact hR _ _ _ _ dX8_voice_94 rfl h
    · replace h := h.2 hc
      refine g_locals (lv' := [(0, .ref (ad 0))]) rfl ?_
      exact pB23  _ h
def w_X8_body (a1 : Int) (M : gSt) (k : Int → gSt → Prop) : Prop :=
  w_X6_trace 52 M (fun r4c M4 => ∃ q4 : Nat, r4c = some q4 ∧ (w_X4_has q4 a1 M4 (fun r8c M8 => 
  (wrap r8c = 0 →
    w_X8_refuse 2 M8 (fun r31c M31 => k r31c M31)) ∧
  (¬ wrap r8c = 0 →
    w_X6_trace 52 M8 (fun r18c M18 => ∃ q18 : Nat, r18c = some q18 ∧ (w_X4_at q18 a1 0 M18 (fun r23c M23 => k r23c M23)))))))
set_option maxHeartbeats 4000000 in
set_option maxRecDepth 100000 in
theorem m_X8_body {l : Launch} {D : va_G} {tys : List (ClassId × FieldType)} {ad : Nat → Nat} {cI cS : ClassId} {a1 : Int} {M : gSt} {k : Int → gSt → Prop} (h : w_X8_body a1 M k) : MOi l yX8_body cX8_body 2 .int (rmR 1 24) D clC ((cI, .int) :: (cS, .object "OldBronze$Sheet") :: tys) (wC ad cI cS) tC zC [.ref (ad 0), iv a1] M k := by
  refine moi_intro (by decide +kernel) (Nat.le_of_ble_eq_true rfl) wc_565 ?_
  intro p e s m args below meth c A Q C hR
  unfold w_X8_body at h
  refine g_locals (lv' := [(0, .ref (ad 0)), (1, iv a1)]) rfl ?_
  refine g_aload_n C dX8_body_0 rfl ?_
  refine cf_X8_43 C pl_0 dX8_body_1 ?_
  refine g_callVr C (nargs := 0) (o := 52) (st := []) (m_X6_trace h) pl_52.1 pl_52.2 rfl rfl gc_X8_246 (by decide +kernel) ⟨rfl, rfl⟩ dX8_body_4 ⟨by decide, by decide⟩ rfl rfl (Nat.le_of_ble_eq_true rfl) ?_
  intro r4c M4 hN
  replace h := hN
  clear hN
  obtain ⟨q4, hq4, h⟩ := h
  subst hq4
  refine g_iload_n C dX8_body_7 rfl ?_
  refine g_callVi C (nargs := 1) (o := q4) (st := []) (m_X4_has h) (show isRows q4 from h.1).1 (show isRows q4 from h.1).2.1 rfl rfl gc_X8_165 (by decide +kernel) ⟨rfl, rfl⟩ dX8_body_8 ⟨by decide, by decide⟩ rfl rfl (Nat.le_of_ble_eq_true rfl) ?_
  intro r8c M8 hN
  replace h := hN
  clear hN
  refine g_if_eq C 29 dX8_body_11 (by decide) (fun hc => ?_) (fun hc => ?_)
  · replace h := h.1 hc
    refine g_aload_n C dX8_body_29 rfl ?_
    refine g_iconst C dX8_body_30 ?_
    refine g_callVi C (nargs := 1) (o := 0) (st := []) (m_X8_refuse h) pl_0.1 pl_0.2.1 rfl rfl gc_X8_67 (by decide +kernel) ⟨rfl, rfl⟩ dX8_body_31 ⟨by decide, by decide⟩ rfl rfl (Nat.le_of_ble_eq_true rfl) ?_
    intro r31c M31 hN
    replace h := hN
    clear hN
    exact hR _ _ _ _ dX8_body_34 rfl h
  · replace h := h.2 hc
    refine g_aload_n C dX8_body_14 rfl ?_
    refine cf_X8_43 C pl_0 dX8_body_15 ?_
    refine g_callVr C (nargs := 0) (o := 52) (st := []) (m_X6_trace h) pl_52.1 pl_52.2 rfl rfl gc_X8_246 (by decide +kernel) ⟨rfl, rfl⟩ dX8_body_18 ⟨by decide, by decide⟩ rfl rfl (Nat.le_of_ble_eq_true rfl) ?_
    intro r18c M18 hN
    replace h := hN
    clear hN
    obtain ⟨q18, hq18, h⟩ := h
    subst hq18
    refine g_iload_n C dX8_body_21 rfl ?_
    refine g_iconst C dX8_body_22 ?_
    refine g_callVi C (nargs := 2) (o := q18) (st := []) (m_X4_at h) (show isRows q18 from h.1).1 (show isRows q18 from h.1).2.1 rfl rfl gc_X8_169 (by decide +kernel) ⟨rfl, rfl⟩ dX8_body_23 ⟨by decide, by decide⟩ rfl rfl (Nat.le_of_ble_eq_true rfl) ?_
    intro r23c M23 hN
    replace h := hN
    clear hN
    refine g_goto C 34 dX8_body_26 (by decide) ?_
    exact hR _ _ _ _ dX8_body_34 rfl h
def w_X8_sheetAt (a1 : Int) (M : gSt) (k : Option Nat → gSt → Prop) : Prop :=
  
  (wrap a1 < 0 →
    k none M) ∧
  (0 ≤ wrap a1 →

    (4 ≤ wrap a1 →
      k none M) ∧
    (wrap a1 < 4 →
      ∃ q18 : Nat, ((0 : Int) ≤ a1 ∧ a1 < 4) ∧ ([56, 58, 60, 62] : List Nat)[Int.toNat a1]? = some q18 ∧ (k (some q18) M)))
set_option maxHeartbeats 4000000 in
set_option maxRecDepth 100000 in
theorem m_X8_sheetAt {l : Launch} {D : va_G} {tys : List (ClassId × FieldType)} {ad : Nat → Nat} {cI cS : ClassId} {a1 : Int} {M : gSt} {k : Option Nat → gSt → Prop} (h : w_X8_sheetAt a1 M k) : MOr l yX8_sheetAt cX8_sheetAt 2 (.object "OldBronze$Sheet") (rmR 0 0) D clC ((cI, .int) :: (cS, .object "OldBronze$Sheet") :: tys) ad (wC ad cI cS) tC zC [.ref (ad 0), iv a1] M k := by
  refine mor_intro (by decide +kernel) (Nat.le_of_ble_eq_true rfl) wc_566 (Or.inl ⟨_, rfl⟩) ?_
  intro p e s m args below meth c A Q C hR
  unfold w_X8_sheetAt at h
  refine g_locals (lv' := [(0, .ref (ad 0)), (1, iv a1)]) rfl ?_
  refine g_iload_n C dX8_sheetAt_0 rfl ?_
  refine g_if_lt C 22 dX8_sheetAt_1 (by decide) (fun hc => ?_) (fun hc => ?_)
  · replace h := h.1 hc
    refine g_aconst_null (ad := ad) C dX8_sheetAt_22 ?_
    exact hR _ _ none _ _ dX8_sheetAt_23 rfl h
  · replace h := h.2 hc
    refine g_iload_n C dX8_sheetAt_4 rfl ?_
    refine g_aload_n C dX8_sheetAt_5 rfl ?_
    refine cf_X8_49 C pl_0 dX8_sheetAt_6 ?_
    refine g_aalen C dX8_sheetAt_9 (ps := [56, 58, 60, 62]) rfl (by decide) ?_
    refine g_top (y := 4) rfl ?_
    refine g_icmp_ge C 22 dX8_sheetAt_10 (by decide) (fun hc => ?_) (fun hc => ?_)
    · replace h := h.1 hc
      refine g_aconst_null (ad := ad) C dX8_sheetAt_22 ?_
      exact hR _ _ none _ _ dX8_sheetAt_23 rfl h
    · replace h := h.2 hc
      refine g_aload_n C dX8_sheetAt_13 rfl ?_
      refine cf_X8_49 C pl_0 dX8_sheetAt_14 ?_
      refine g_iload_n C dX8_sheetAt_17 rfl ?_
      obtain ⟨q18, hi18, hq18, h⟩ := h
      refine g_aald C dX8_sheetAt_18 (ps := [56, 58, 60, 62]) rfl ⟨by decide, by decide⟩ hi18 hq18 ?_
      refine g_goto C 23 dX8_sheetAt_19 (by decide) ?_
      exact hR _ _ (some q18) _ _ dX8_sheetAt_23 rfl h
def wB_X8_sheet_34 (a1 : Int) (a2 : Int) (a3 : Int) (k : Int → gSt → Prop)   (M : gSt) : Prop :=
w_X8_refuse 1 M (fun r36c M36 => k r36c M36)
def wB_X8_sheet_82 (a1 : Int) (a2 : Int) (a3 : Int) (k : Int → gSt → Prop)  (s0 : Int) (s1 : Int) (s2 : Nat) (M : gSt) : Prop :=
w_X5_begin s2 s1 s0 M (fun M82 => k 1 M82)
def wB_X8_sheet_70 (a1 : Int) (a2 : Int) (a3 : Int) (k : Int → gSt → Prop)  (v4 : Nat) (M : gSt) : Prop :=

  (¬ wrap a2 = 0 →
    wB_X8_sheet_82 a1 a2 a3 k  a3 a2 v4 M) ∧
  (wrap a2 = 0 →
    wB_X8_sheet_82 a1 a2 a3 k  0 a2 v4 M)
def wB_X8_sheet_54 (a1 : Int) (a2 : Int) (a3 : Int) (k : Int → gSt → Prop)  (v4 : Nat) (M : gSt) : Prop :=

  (wrap a2 = 0 →
    wB_X8_sheet_70 a1 a2 a3 k  v4 M) ∧
  (¬ wrap a2 = 0 →

    (wrap a3 ≤ 24 →
      wB_X8_sheet_70 a1 a2 a3 k  v4 M) ∧
    (24 < wrap a3 →
      w_X8_refuse 1 M (fun r66c M66 => k r66c M66)))
def wB_X8_sheet_40 (a1 : Int) (a2 : Int) (a3 : Int) (k : Int → gSt → Prop)  (v4 : Nat) (M : gSt) : Prop :=

  (wrap a2 = 0 →
    wB_X8_sheet_54 a1 a2 a3 k  v4 M) ∧
  (¬ wrap a2 = 0 →

    (0 ≤ wrap a3 →
      wB_X8_sheet_54 a1 a2 a3 k  v4 M) ∧
    (wrap a3 < 0 →
      w_X8_refuse 3 M (fun r50c M50 => k r50c M50)))
def w_X8_sheet (a1 : Int) (a2 : Int) (a3 : Int) (M : gSt) (k : Int → gSt → Prop) : Prop :=
  w_X8_sheetAt a1 M (fun r2c M2 => 
  (r2c = none →
    wB_X8_sheet_34 a1 a2 a3 k   M2) ∧
  (∀ q9 : Nat, r2c = some q9 →

    (wrap a2 = 0 →
      wB_X8_sheet_40 a1 a2 a3 k  q9 M2) ∧
    (¬ wrap a2 = 0 →

      (wrap a2 = 8 →
        wB_X8_sheet_40 a1 a2 a3 k  q9 M2) ∧
      (¬ wrap a2 = 8 →

        (wrap a2 = 16 →
          wB_X8_sheet_40 a1 a2 a3 k  q9 M2) ∧
        (¬ wrap a2 = 16 →

          (wrap a2 = 32 →
            wB_X8_sheet_40 a1 a2 a3 k  q9 M2) ∧
          (¬ wrap a2 = 32 →
            wB_X8_sheet_34 a1 a2 a3 k   M2))))))
set_option maxHeartbeats 4000000 in
set_option maxRecDepth 100000 in
theorem m_X8_sheet {l : Launch} {D : va_G} {tys : List (ClassId × FieldType)} {ad : Nat → Nat} {cI cS : ClassId} {a1 : Int} {a2 : Int} {a3 : Int} {M : gSt} {k : Int → gSt → Prop} (h : w_X8_sheet a1 a2 a3 M k) : MOi l yX8_sheet cX8_sheet 5 .int (rmR 2 62) D clC ((cI, .int) :: (cS, .object "OldBronze$Sheet") :: tys) (wC ad cI cS) tC zC [.ref (ad 0), iv a1, iv a2, iv a3] M k := by
  refine moi_intro (by decide +kernel) (Nat.le_of_ble_eq_true rfl) wc_573 ?_
  intro p e s m args below meth c A Q C hR
  unfold w_X8_sheet at h
  have pB34 : ∀    (M : gSt), wB_X8_sheet_34 a1 a2 a3 k   M → gG p l e (rmR 2 62) s m args below meth c Q D clC A (wC ad cI cS) 5 34 [(0, .ref (ad 0))] [] M := by
    intro    M h
    unfold wB_X8_sheet_34 at h
    refine g_aload_n C dX8_sheet_34 rfl ?_
    refine g_iconst C dX8_sheet_35 ?_
    refine g_callVi C (nargs := 1) (o := 0) (st := []) (m_X8_refuse h) pl_0.1 pl_0.2.1 rfl rfl gc_X8_67 (by decide +kernel) ⟨rfl, rfl⟩ dX8_sheet_36 ⟨by decide, by decide⟩ rfl rfl (Nat.le_of_ble_eq_true rfl) ?_
    intro r36c M36 hN
    replace h := hN
    clear hN
    exact hR _ _ _ _ dX8_sheet_39 rfl h
  have pB82 : ∀   (s0 : Int) (s1 : Int) (s2 : Nat) (M : gSt), wB_X8_sheet_82 a1 a2 a3 k  s0 s1 s2 M → gG p l e (rmR 2 62) s m args below meth c Q D clC A (wC ad cI cS) 5 82 [] [iv s0, iv s1, .ref (ad s2)] M := by
    intro   s0 s1 s2 M h
    unfold wB_X8_sheet_82 at h
    refine g_callVv C (nargs := 2) (o := s2) (st := []) (m_X5_begin h) (show isSheet s2 from h.1).1 (show isSheet s2 from h.1).2.1 rfl rfl gc_X8_254 (by decide +kernel) ⟨rfl, rfl⟩ dX8_sheet_82 ⟨by decide, by decide⟩ rfl rfl (Nat.le_of_ble_eq_true rfl) ?_
    intro M82 hN
    replace h := hN
    clear hN
    refine g_iconst C dX8_sheet_85 ?_
    exact hR _ _ _ _ dX8_sheet_86 rfl h
  have pB70 : ∀   (v4 : Nat) (M : gSt), wB_X8_sheet_70 a1 a2 a3 k  v4 M → gG p l e (rmR 2 62) s m args below meth c Q D clC A (wC ad cI cS) 5 70 [(2, iv a2), (3, iv a3), (4, .ref (ad v4))] [] M := by
    intro   v4 M h
    unfold wB_X8_sheet_70 at h
    refine g_aload C dX8_sheet_70 rfl ?_
    refine g_iload_n C dX8_sheet_72 rfl ?_
    refine g_iload_n C dX8_sheet_73 rfl ?_
    refine g_if_ne C 81 dX8_sheet_74 (by decide) (fun hc => ?_) (fun hc => ?_)
    · replace h := h.1 hc
      refine g_iload_n C dX8_sheet_81 rfl ?_
      refine g_locals (lv' := []) rfl ?_
      exact pB82 _ _ _ _ h
    · replace h := h.2 hc
      refine g_iconst C dX8_sheet_77 ?_
      refine g_goto C 82 dX8_sheet_78 (by decide) ?_
      refine g_locals (lv' := []) rfl ?_
      exact pB82 _ _ _ _ h
  have pB54 : ∀   (v4 : Nat) (M : gSt), wB_X8_sheet_54 a1 a2 a3 k  v4 M → gG p l e (rmR 2 62) s m args below meth c Q D clC A (wC ad cI cS) 5 54 [(0, .ref (ad 0)), (2, iv a2), (3, iv a3), (4, .ref (ad v4))] [] M := by
    intro   v4 M h
    unfold wB_X8_sheet_54 at h
    refine g_iload_n C dX8_sheet_54 rfl ?_
    refine g_if_eq C 70 dX8_sheet_55 (by decide) (fun hc => ?_) (fun hc => ?_)
    · replace h := h.1 hc
      refine g_locals (lv' := [(2, iv a2), (3, iv a3), (4, .ref (ad v4))]) rfl ?_
      exact pB70 _ _ h
    · replace h := h.2 hc
      refine g_iload_n C dX8_sheet_58 rfl ?_
      refine g_bipush C dX8_sheet_59 rfl ?_
      refine g_icmp_le C 70 dX8_sheet_61 (by decide) (fun hc => ?_) (fun hc => ?_)
      · replace h := h.1 hc
        refine g_locals (lv' := [(2, iv a2), (3, iv a3), (4, .ref (ad v4))]) rfl ?_
        exact pB70 _ _ h
      · replace h := h.2 hc
        refine g_aload_n C dX8_sheet_64 rfl ?_
        refine g_iconst C dX8_sheet_65 ?_
        refine g_callVi C (nargs := 1) (o := 0) (st := []) (m_X8_refuse h) pl_0.1 pl_0.2.1 rfl rfl gc_X8_67 (by decide +kernel) ⟨rfl, rfl⟩ dX8_sheet_66 ⟨by decide, by decide⟩ rfl rfl (Nat.le_of_ble_eq_true rfl) ?_
        intro r66c M66 hN
        replace h := hN
        clear hN
        exact hR _ _ _ _ dX8_sheet_69 rfl h
  have pB40 : ∀   (v4 : Nat) (M : gSt), wB_X8_sheet_40 a1 a2 a3 k  v4 M → gG p l e (rmR 2 62) s m args below meth c Q D clC A (wC ad cI cS) 5 40 [(0, .ref (ad 0)), (2, iv a2), (3, iv a3), (4, .ref (ad v4))] [] M := by
    intro   v4 M h
    unfold wB_X8_sheet_40 at h
    refine g_iload_n C dX8_sheet_40 rfl ?_
    refine g_if_eq C 54 dX8_sheet_41 (by decide) (fun hc => ?_) (fun hc => ?_)
    · replace h := h.1 hc
      refine g_locals (lv' := [(0, .ref (ad 0)), (2, iv a2), (3, iv a3), (4, .ref (ad v4))]) rfl ?_
      exact pB54 _ _ h
    · replace h := h.2 hc
      refine g_iload_n C dX8_sheet_44 rfl ?_
      refine g_if_ge C 54 dX8_sheet_45 (by decide) (fun hc => ?_) (fun hc => ?_)
      · replace h := h.1 hc
        refine g_locals (lv' := [(0, .ref (ad 0)), (2, iv a2), (3, iv a3), (4, .ref (ad v4))]) rfl ?_
        exact pB54 _ _ h
      · replace h := h.2 hc
        refine g_aload_n C dX8_sheet_48 rfl ?_
        refine g_iconst C dX8_sheet_49 ?_
        refine g_callVi C (nargs := 1) (o := 0) (st := []) (m_X8_refuse h) pl_0.1 pl_0.2.1 rfl rfl gc_X8_67 (by decide +kernel) ⟨rfl, rfl⟩ dX8_sheet_50 ⟨by decide, by decide⟩ rfl rfl (Nat.le_of_ble_eq_true rfl) ?_
        intro r50c M50 hN
        replace h := hN
        clear hN
        exact hR _ _ _ _ dX8_sheet_53 rfl h
  refine g_locals (lv' := [(0, .ref (ad 0)), (1, iv a1), (2, iv a2), (3, iv a3)]) rfl ?_
  refine g_aload_n C dX8_sheet_0 rfl ?_
  refine g_iload_n C dX8_sheet_1 rfl ?_
  refine g_callVr C (nargs := 1) (o := 0) (st := []) (m_X8_sheetAt h) pl_0.1 pl_0.2.1 rfl rfl gc_X8_250 (by decide +kernel) ⟨rfl, rfl⟩ dX8_sheet_2 ⟨by decide, by decide⟩ rfl rfl (Nat.le_of_ble_eq_true rfl) ?_
  intro r2c M2 hN
  replace h := hN
  clear hN
  refine g_astoreO' C dX8_sheet_5 (by decide) rfl ?_
  refine g_locals (lv' := [(0, .ref (ad 0)), (1, iv a1), (2, iv a2), (3, iv a3), (4, orv ad r2c)]) rfl ?_
  refine g_aloadO' C dX8_sheet_7 rfl ?_
  refine g_ifnull C 34 dX8_sheet_9 (by decide) (fun hc => ?_) (fun q9 hc => ?_)
  · replace h := h.1 hc
    refine g_locals (lv' := [(0, .ref (ad 0)), (1, iv a1), (2, iv a2), (3, iv a3)]) rfl ?_
    refine g_locals (lv' := [(0, .ref (ad 0))]) rfl ?_
    exact pB34  _ h
  · replace h := h.2 q9 hc
    subst hc
    refine g_locals (lv' := [(0, .ref (ad 0)), (1, iv a1), (2, iv a2), (3, iv a3), (4, .ref (ad q9))]) rfl ?_
    refine g_iload_n C dX8_sheet_12 rfl ?_
    refine g_if_eq C 40 dX8_sheet_13 (by decide) (fun hc => ?_) (fun hc => ?_)
    · replace h := h.1 hc
      refine g_locals (lv' := [(0, .ref (ad 0)), (2, iv a2), (3, iv a3), (4, .ref (ad q9))]) rfl ?_
      exact pB40 _ _ h
    · replace h := h.2 hc
      refine g_iload_n C dX8_sheet_16 rfl ?_
      refine g_bipush C dX8_sheet_17 rfl ?_
      refine g_icmp_eq C 40 dX8_sheet_19 (by decide) (fun hc => ?_) (fun hc => ?_)
      · replace h := h.1 hc
        refine g_locals (lv' := [(0, .ref (ad 0)), (2, iv a2), (3, iv a3), (4, .ref (ad q9))]) rfl ?_
        exact pB40 _ _ h
      · replace h := h.2 hc
        refine g_iload_n C dX8_sheet_22 rfl ?_
        refine g_bipush C dX8_sheet_23 rfl ?_
        refine g_icmp_eq C 40 dX8_sheet_25 (by decide) (fun hc => ?_) (fun hc => ?_)
        · replace h := h.1 hc
          refine g_locals (lv' := [(0, .ref (ad 0)), (2, iv a2), (3, iv a3), (4, .ref (ad q9))]) rfl ?_
          exact pB40 _ _ h
        · replace h := h.2 hc
          refine g_iload_n C dX8_sheet_28 rfl ?_
          refine g_bipush C dX8_sheet_29 rfl ?_
          refine g_icmp_eq C 40 dX8_sheet_31 (by decide) (fun hc => ?_) (fun hc => ?_)
          · replace h := h.1 hc
            refine g_locals (lv' := [(0, .ref (ad 0)), (2, iv a2), (3, iv a3), (4, .ref (ad q9))]) rfl ?_
            exact pB40 _ _ h
          · replace h := h.2 hc
            refine g_locals (lv' := [(0, .ref (ad 0))]) rfl ?_
            exact pB34  _ h
end
section
def w_X8_put (a1 : Int) (a2 : Int) (a3 : Int) (M : gSt) (k : Int → gSt → Prop) : Prop :=
  w_X8_sheetAt a1 M (fun r2c M2 => 
  (r2c = none →
    w_X8_refuse 1 M2 (fun r14c M14 => k r14c M14)) ∧
  (∀ q9 : Nat, r2c = some q9 →
    w_X5_isMissing q9 M2 (fun r20c M20 => 
    (wrap r20c = 0 →
      w_X5_has q9 a2 M20 (fun r35c M35 => 
      (¬ wrap r35c = 0 →
        w_X5_write q9 a2 a3 M35 (fun M51 => k 1 M51)) ∧
      (wrap r35c = 0 →
        w_X8_refuse 1 M35 (fun r43c M43 => k r43c M43)))) ∧
    (¬ wrap r20c = 0 →
      w_X8_refuse 2 M20 (fun r28c M28 => k r28c M28)))))
set_option maxHeartbeats 4000000 in
set_option maxRecDepth 100000 in
theorem m_X8_put {l : Launch} {D : va_G} {tys : List (ClassId × FieldType)} {ad : Nat → Nat} {cI cS : ClassId} {a1 : Int} {a2 : Int} {a3 : Int} {M : gSt} {k : Int → gSt → Prop} (h : w_X8_put a1 a2 a3 M k) : MOi l yX8_put cX8_put 5 .int (rmR 2 43) D clC ((cI, .int) :: (cS, .object "OldBronze$Sheet") :: tys) (wC ad cI cS) tC zC [.ref (ad 0), iv a1, iv a2, iv a3] M k := by
  refine moi_intro (by decide +kernel) (Nat.le_of_ble_eq_true rfl) wc_581 ?_
  intro p e s m args below meth c A Q C hR
  unfold w_X8_put at h
  refine g_locals (lv' := [(0, .ref (ad 0)), (1, iv a1), (2, iv a2), (3, iv a3)]) rfl ?_
  refine g_aload_n C dX8_put_0 rfl ?_
  refine g_iload_n C dX8_put_1 rfl ?_
  refine g_callVr C (nargs := 1) (o := 0) (st := []) (m_X8_sheetAt h) pl_0.1 pl_0.2.1 rfl rfl gc_X8_250 (by decide +kernel) ⟨rfl, rfl⟩ dX8_put_2 ⟨by decide, by decide⟩ rfl rfl (Nat.le_of_ble_eq_true rfl) ?_
  intro r2c M2 hN
  replace h := hN
  clear hN
  refine g_astoreO' C dX8_put_5 (by decide) rfl ?_
  refine g_locals (lv' := [(0, .ref (ad 0)), (1, iv a1), (2, iv a2), (3, iv a3), (4, orv ad r2c)]) rfl ?_
  refine g_aloadO' C dX8_put_7 rfl ?_
  refine g_ifnonnull C 18 dX8_put_9 (by decide) (fun q9 hc => ?_) (fun hc => ?_)
  · replace h := h.2 q9 hc
    subst hc
    refine g_locals (lv' := [(0, .ref (ad 0)), (1, iv a1), (2, iv a2), (3, iv a3), (4, .ref (ad q9))]) rfl ?_
    refine g_aload C dX8_put_18 rfl ?_
    refine g_callVi C (nargs := 0) (o := q9) (st := []) (m_X5_isMissing h) (show isSheet q9 from h.1).1 (show isSheet q9 from h.1).2.1 rfl rfl gc_X8_257 (by decide +kernel) ⟨rfl, rfl⟩ dX8_put_20 ⟨by decide, by decide⟩ rfl rfl (Nat.le_of_ble_eq_true rfl) ?_
    intro r20c M20 hN
    replace h := hN
    clear hN
    refine g_if_eq C 32 dX8_put_23 (by decide) (fun hc => ?_) (fun hc => ?_)
    · replace h := h.1 hc
      refine g_aload C dX8_put_32 rfl ?_
      refine g_iload_n C dX8_put_34 rfl ?_
      refine g_callVi C (nargs := 1) (o := q9) (st := []) (m_X5_has h) (show isSheet q9 from h.1).1 (show isSheet q9 from h.1).2.1 rfl rfl gc_X8_260 (by decide +kernel) ⟨rfl, rfl⟩ dX8_put_35 ⟨by decide, by decide⟩ rfl rfl (Nat.le_of_ble_eq_true rfl) ?_
      intro r35c M35 hN
      replace h := hN
      clear hN
      refine g_if_ne C 47 dX8_put_38 (by decide) (fun hc => ?_) (fun hc => ?_)
      · replace h := h.1 hc
        refine g_aload C dX8_put_47 rfl ?_
        refine g_iload_n C dX8_put_49 rfl ?_
        refine g_iload_n C dX8_put_50 rfl ?_
        refine g_callVv C (nargs := 2) (o := q9) (st := []) (m_X5_write h) (show isSheet q9 from h.1).1 (show isSheet q9 from h.1).2.1 rfl rfl gc_X8_261 (by decide +kernel) ⟨rfl, rfl⟩ dX8_put_51 ⟨by decide, by decide⟩ rfl rfl (Nat.le_of_ble_eq_true rfl) ?_
        intro M51 hN
        replace h := hN
        clear hN
        refine g_iconst C dX8_put_54 ?_
        exact hR _ _ _ _ dX8_put_55 rfl h
      · replace h := h.2 hc
        refine g_aload_n C dX8_put_41 rfl ?_
        refine g_iconst C dX8_put_42 ?_
        refine g_callVi C (nargs := 1) (o := 0) (st := []) (m_X8_refuse h) pl_0.1 pl_0.2.1 rfl rfl gc_X8_67 (by decide +kernel) ⟨rfl, rfl⟩ dX8_put_43 ⟨by decide, by decide⟩ rfl rfl (Nat.le_of_ble_eq_true rfl) ?_
        intro r43c M43 hN
        replace h := hN
        clear hN
        exact hR _ _ _ _ dX8_put_46 rfl h
    · replace h := h.2 hc
      refine g_aload_n C dX8_put_26 rfl ?_
      refine g_iconst C dX8_put_27 ?_
      refine g_callVi C (nargs := 1) (o := 0) (st := []) (m_X8_refuse h) pl_0.1 pl_0.2.1 rfl rfl gc_X8_67 (by decide +kernel) ⟨rfl, rfl⟩ dX8_put_28 ⟨by decide, by decide⟩ rfl rfl (Nat.le_of_ble_eq_true rfl) ?_
      intro r28c M28 hN
      replace h := hN
      clear hN
      exact hR _ _ _ _ dX8_put_31 rfl h
  · replace h := h.1 hc
    refine g_locals (lv' := [(0, .ref (ad 0)), (1, iv a1), (2, iv a2), (3, iv a3)]) rfl ?_
    refine g_aload_n C dX8_put_12 rfl ?_
    refine g_iconst C dX8_put_13 ?_
    refine g_callVi C (nargs := 1) (o := 0) (st := []) (m_X8_refuse h) pl_0.1 pl_0.2.1 rfl rfl gc_X8_67 (by decide +kernel) ⟨rfl, rfl⟩ dX8_put_14 ⟨by decide, by decide⟩ rfl rfl (Nat.le_of_ble_eq_true rfl) ?_
    intro r14c M14 hN
    replace h := hN
    clear hN
    exact hR _ _ _ _ dX8_put_17 rfl h
def wB_X8_move_24 (a1 : Int) (a2 : Int) (a3 : Int) (a4 : Int) (a5 : Int) (k : Int → gSt → Prop)   (M : gSt) : Prop :=
w_X8_refuse 1 M (fun r26c M26 => k r26c M26)
def wB_X8_move_46 (a1 : Int) (a2 : Int) (a3 : Int) (a4 : Int) (a5 : Int) (k : Int → gSt → Prop)   (M : gSt) : Prop :=
w_X8_refuse 2 M (fun r48c M48 => k r48c M48)
def wB_X8_move_91 (a1 : Int) (a2 : Int) (a3 : Int) (a4 : Int) (a5 : Int) (k : Int → gSt → Prop)   (M : gSt) : Prop :=
w_X8_refuse 1 M (fun r93c M93 => k r93c M93)
def w_X8_move (a1 : Int) (a2 : Int) (a3 : Int) (a4 : Int) (a5 : Int) (M : gSt) (k : Int → gSt → Prop) : Prop :=
  w_X8_sheetAt a1 M (fun r2c M2 => w_X8_sheetAt a3 M2 (fun r9c M9 => 
  (r2c = none →
    wB_X8_move_24 a1 a2 a3 a4 a5 k   M9) ∧
  (∀ q16 : Nat, r2c = some q16 →

    (r9c = none →
      wB_X8_move_24 a1 a2 a3 a4 a5 k   M9) ∧
    (∀ q21 : Nat, r9c = some q21 →
      w_X5_isMissing q16 M9 (fun r32c M32 => 
      (¬ wrap r32c = 0 →
        wB_X8_move_46 a1 a2 a3 a4 a5 k   M32) ∧
      (wrap r32c = 0 →
        w_X5_isMissing q21 M32 (fun r40c M40 => 
        (wrap r40c = 0 →
          w_X5_isLike q16 q21 M40 (fun r56c M56 => 
          (¬ wrap r56c = 0 →
            w_X5_hasRange q16 a2 a5 M56 (fun r73c M73 => 
            (wrap r73c = 0 →
              wB_X8_move_91 a1 a2 a3 a4 a5 k   M73) ∧
            (¬ wrap r73c = 0 →
              w_X5_hasRange q21 a4 a5 M73 (fun r85c M85 => 
              (¬ wrap r85c = 0 →
                w_X5_copyRange q16 a2 q21 a4 a5 M85 (fun M106 => k a5 M106)) ∧
              (wrap r85c = 0 →
                wB_X8_move_91 a1 a2 a3 a4 a5 k   M85))))) ∧
          (wrap r56c = 0 →
            w_X8_refuse 5 M56 (fun r64c M64 => k r64c M64)))) ∧
        (¬ wrap r40c = 0 →
          wB_X8_move_46 a1 a2 a3 a4 a5 k   M40))))))))
set_option maxHeartbeats 4000000 in
set_option maxRecDepth 100000 in
theorem m_X8_move {l : Launch} {D : va_G} {tys : List (ClassId × FieldType)} {ad : Nat → Nat} {cI cS : ClassId} {a1 : Int} {a2 : Int} {a3 : Int} {a4 : Int} {a5 : Int} {M : gSt} {k : Int → gSt → Prop} (h : w_X8_move a1 a2 a3 a4 a5 M k) : MOi l yX8_move cX8_move 8 .int (rmR 3 87) D clC ((cI, .int) :: (cS, .object "OldBronze$Sheet") :: tys) (wC ad cI cS) tC zC [.ref (ad 0), iv a1, iv a2, iv a3, iv a4, iv a5] M k := by
  refine moi_intro (by decide +kernel) (Nat.le_of_ble_eq_true rfl) wc_589 ?_
  intro p e s m args below meth c A Q C hR
  unfold w_X8_move at h
  have pB24 : ∀    (M : gSt), wB_X8_move_24 a1 a2 a3 a4 a5 k   M → gG p l e (rmR 3 87) s m args below meth c Q D clC A (wC ad cI cS) 8 24 [(0, .ref (ad 0))] [] M := by
    intro    M h
    unfold wB_X8_move_24 at h
    refine g_aload_n C dX8_move_24 rfl ?_
    refine g_iconst C dX8_move_25 ?_
    refine g_callVi C (nargs := 1) (o := 0) (st := []) (m_X8_refuse h) pl_0.1 pl_0.2.1 rfl rfl gc_X8_67 (by decide +kernel) ⟨rfl, rfl⟩ dX8_move_26 ⟨by decide, by decide⟩ rfl rfl (Nat.le_of_ble_eq_true rfl) ?_
    intro r26c M26 hN
    replace h := hN
    clear hN
    exact hR _ _ _ _ dX8_move_29 rfl h
  have pB46 : ∀    (M : gSt), wB_X8_move_46 a1 a2 a3 a4 a5 k   M → gG p l e (rmR 3 87) s m args below meth c Q D clC A (wC ad cI cS) 8 46 [(0, .ref (ad 0))] [] M := by
    intro    M h
    unfold wB_X8_move_46 at h
    refine g_aload_n C dX8_move_46 rfl ?_
    refine g_iconst C dX8_move_47 ?_
    refine g_callVi C (nargs := 1) (o := 0) (st := []) (m_X8_refuse h) pl_0.1 pl_0.2.1 rfl rfl gc_X8_67 (by decide +kernel) ⟨rfl, rfl⟩ dX8_move_48 ⟨by decide, by decide⟩ rfl rfl (Nat.le_of_ble_eq_true rfl) ?_
    intro r48c M48 hN
    replace h := hN
    clear hN
    exact hR _ _ _ _ dX8_move_51 rfl h
  have pB91 : ∀    (M : gSt), wB_X8_move_91 a1 a2 a3 a4 a5 k   M → gG p l e (rmR 3 87) s m args below meth c Q D clC A (wC ad cI cS) 8 91 [(0, .ref (ad 0))] [] M := by
    intro    M h
    unfold wB_X8_move_91 at h
    refine g_aload_n C dX8_move_91 rfl ?_
    refine g_iconst C dX8_move_92 ?_
    refine g_callVi C (nargs := 1) (o := 0) (st := []) (m_X8_refuse h) pl_0.1 pl_0.2.1 rfl rfl gc_X8_67 (by decide +kernel) ⟨rfl, rfl⟩ dX8_move_93 ⟨by decide, by decide⟩ rfl rfl (Nat.le_of_ble_eq_true rfl) ?_
    intro r93c M93 hN
    replace h := hN
    clear hN
    exact hR _ _ _ _ dX8_move_96 rfl h
  refine g_locals (lv' := [(0, .ref (ad 0)), (1, iv a1), (2, iv a2), (3, iv a3), (4, iv a4), (5, iv a5)]) rfl ?_
  refine g_aload_n C dX8_move_0 rfl ?_
  refine g_iload_n C dX8_move_1 rfl ?_
  refine g_callVr C (nargs := 1) (o := 0) (st := []) (m_X8_sheetAt h) pl_0.1 pl_0.2.1 rfl rfl gc_X8_250 (by decide +kernel) ⟨rfl, rfl⟩ dX8_move_2 ⟨by decide, by decide⟩ rfl rfl (Nat.le_of_ble_eq_true rfl) ?_
  intro r2c M2 hN
  replace h := hN
  clear hN
  refine g_astoreO' C dX8_move_5 (by decide) rfl ?_
  refine g_locals (lv' := [(0, .ref (ad 0)), (1, iv a1), (2, iv a2), (3, iv a3), (4, iv a4), (5, iv a5), (6, orv ad r2c)]) rfl ?_
  refine g_aload_n C dX8_move_7 rfl ?_
  refine g_iload_n C dX8_move_8 rfl ?_
  refine g_callVr C (nargs := 1) (o := 0) (st := []) (m_X8_sheetAt h) pl_0.1 pl_0.2.1 rfl rfl gc_X8_250 (by decide +kernel) ⟨rfl, rfl⟩ dX8_move_9 ⟨by decide, by decide⟩ rfl rfl (Nat.le_of_ble_eq_true rfl) ?_
  intro r9c M9 hN
  replace h := hN
  clear hN
  refine g_astoreO' C dX8_move_12 (by decide) (lv' := [(7, orv ad r9c), (0, .ref (ad 0)), (1, iv a1), (2, iv a2), (3, iv a3), (4, iv a4), (5, iv a5), (6, orv ad r2c)]) (by simp [lvs, orv_cat]) ?_
  refine g_locals (lv' := [(0, .ref (ad 0)), (1, iv a1), (2, iv a2), (3, iv a3), (4, iv a4), (5, iv a5), (6, orv ad r2c), (7, orv ad r9c)]) rfl ?_
  refine g_aloadO' C dX8_move_14 rfl ?_
  refine g_ifnull C 24 dX8_move_16 (by decide) (fun hc => ?_) (fun q16 hc => ?_)
  · replace h := h.1 hc
    refine g_locals (lv' := [(0, .ref (ad 0)), (1, iv a1), (2, iv a2), (3, iv a3), (4, iv a4), (5, iv a5), (7, orv ad r9c)]) rfl ?_
    refine g_locals (lv' := [(0, .ref (ad 0))]) rfl ?_
    exact pB24  _ h
  · replace h := h.2 q16 hc
    subst hc
    refine g_locals (lv' := [(0, .ref (ad 0)), (1, iv a1), (2, iv a2), (3, iv a3), (4, iv a4), (5, iv a5), (6, .ref (ad q16)), (7, orv ad r9c)]) rfl ?_
    refine g_aloadO' C dX8_move_19 rfl ?_
    refine g_ifnonnull C 30 dX8_move_21 (by decide) (fun q21 hc => ?_) (fun hc => ?_)
    · replace h := h.2 q21 hc
      subst hc
      refine g_locals (lv' := [(0, .ref (ad 0)), (1, iv a1), (2, iv a2), (3, iv a3), (4, iv a4), (5, iv a5), (6, .ref (ad q16)), (7, .ref (ad q21))]) rfl ?_
      refine g_aload C dX8_move_30 rfl ?_
      refine g_callVi C (nargs := 0) (o := q16) (st := []) (m_X5_isMissing h) (show isSheet q16 from h.1).1 (show isSheet q16 from h.1).2.1 rfl rfl gc_X8_257 (by decide +kernel) ⟨rfl, rfl⟩ dX8_move_32 ⟨by decide, by decide⟩ rfl rfl (Nat.le_of_ble_eq_true rfl) ?_
      intro r32c M32 hN
      replace h := hN
      clear hN
      refine g_if_ne C 46 dX8_move_35 (by decide) (fun hc => ?_) (fun hc => ?_)
      · replace h := h.1 hc
        refine g_locals (lv' := [(0, .ref (ad 0))]) rfl ?_
        exact pB46  _ h
      · replace h := h.2 hc
        refine g_aload C dX8_move_38 rfl ?_
        refine g_callVi C (nargs := 0) (o := q21) (st := []) (m_X5_isMissing h) (show isSheet q21 from h.1).1 (show isSheet q21 from h.1).2.1 rfl rfl gc_X8_257 (by decide +kernel) ⟨rfl, rfl⟩ dX8_move_40 ⟨by decide, by decide⟩ rfl rfl (Nat.le_of_ble_eq_true rfl) ?_
        intro r40c M40 hN
        replace h := hN
        clear hN
        refine g_if_eq C 52 dX8_move_43 (by decide) (fun hc => ?_) (fun hc => ?_)
        · replace h := h.1 hc
          refine g_aload C dX8_move_52 rfl ?_
          refine g_aload C dX8_move_54 rfl ?_
          refine g_callVi C (nargs := 1) (o := q16) (st := []) (m_X5_isLike h) (show isSheet q16 from h.1).1 (show isSheet q16 from h.1).2.1 rfl rfl gc_X8_264 (by decide +kernel) ⟨rfl, rfl⟩ dX8_move_56 ⟨by decide, by decide⟩ rfl rfl (Nat.le_of_ble_eq_true rfl) ?_
          intro r56c M56 hN
          replace h := hN
          clear hN
          refine g_if_ne C 68 dX8_move_59 (by decide) (fun hc => ?_) (fun hc => ?_)
          · replace h := h.1 hc
            refine g_aload C dX8_move_68 rfl ?_
            refine g_iload_n C dX8_move_70 rfl ?_
            refine g_iload C dX8_move_71 rfl ?_
            refine g_callVi C (nargs := 2) (o := q16) (st := []) (m_X5_hasRange h) (show isSheet q16 from h.1).1 (show isSheet q16 from h.1).2.1 rfl rfl gc_X8_268 (by decide +kernel) ⟨rfl, rfl⟩ dX8_move_73 ⟨by decide, by decide⟩ rfl rfl (Nat.le_of_ble_eq_true rfl) ?_
            intro r73c M73 hN
            replace h := hN
            clear hN
            refine g_if_eq C 91 dX8_move_76 (by decide) (fun hc => ?_) (fun hc => ?_)
            · replace h := h.1 hc
              refine g_locals (lv' := [(0, .ref (ad 0))]) rfl ?_
              exact pB91  _ h
            · replace h := h.2 hc
              refine g_aload C dX8_move_79 rfl ?_
              refine g_iload C dX8_move_81 rfl ?_
              refine g_iload C dX8_move_83 rfl ?_
              refine g_callVi C (nargs := 2) (o := q21) (st := []) (m_X5_hasRange h) (show isSheet q21 from h.1).1 (show isSheet q21 from h.1).2.1 rfl rfl gc_X8_268 (by decide +kernel) ⟨rfl, rfl⟩ dX8_move_85 ⟨by decide, by decide⟩ rfl rfl (Nat.le_of_ble_eq_true rfl) ?_
              intro r85c M85 hN
              replace h := hN
              clear hN
              refine g_if_ne C 97 dX8_move_88 (by decide) (fun hc => ?_) (fun hc => ?_)
              · replace h := h.1 hc
                refine g_aload C dX8_move_97 rfl ?_
                refine g_iload_n C dX8_move_99 rfl ?_
                refine g_aload C dX8_move_100 rfl ?_
                refine g_iload C dX8_move_102 rfl ?_
                refine g_iload C dX8_move_104 rfl ?_
                refine g_callVv C (nargs := 4) (o := q16) (st := []) (m_X5_copyRange h) (show isSheet q16 from h.1).1 (show isSheet q16 from h.1).2.1 rfl rfl gc_X8_271 (by decide +kernel) ⟨rfl, rfl⟩ dX8_move_106 ⟨by decide, by decide⟩ rfl rfl (Nat.le_of_ble_eq_true rfl) ?_
                intro M106 hN
                replace h := hN
                clear hN
                refine g_iload C dX8_move_109 rfl ?_
                exact hR _ _ _ _ dX8_move_111 rfl h
              · replace h := h.2 hc
                refine g_locals (lv' := [(0, .ref (ad 0))]) rfl ?_
                exact pB91  _ h
          · replace h := h.2 hc
            refine g_aload_n C dX8_move_62 rfl ?_
            refine g_iconst C dX8_move_63 ?_
            refine g_callVi C (nargs := 1) (o := 0) (st := []) (m_X8_refuse h) pl_0.1 pl_0.2.1 rfl rfl gc_X8_67 (by decide +kernel) ⟨rfl, rfl⟩ dX8_move_64 ⟨by decide, by decide⟩ rfl rfl (Nat.le_of_ble_eq_true rfl) ?_
            intro r64c M64 hN
            replace h := hN
            clear hN
            exact hR _ _ _ _ dX8_move_67 rfl h
        · replace h := h.2 hc
          refine g_locals (lv' := [(0, .ref (ad 0))]) rfl ?_
          exact pB46  _ h
    · replace h := h.1 hc
      refine g_locals (lv' := [(0, .ref (ad 0)), (1, iv a1), (2, iv a2), (3, iv a3), (4, iv a4), (5, iv a5), (6, .ref (ad q16))]) rfl ?_
      refine g_locals (lv' := [(0, .ref (ad 0))]) rfl ?_
      exact pB24  _ h
def wC_X8_papers_34 (a1 : Int) (k : Int → gSt → Prop) (r34 : Nat → Int → Int → gSt → Prop) (X34_88 : Int → gSt → Prop) (X34_132 : Int → gSt → Prop) (v2 : Nat) (v3 : Int) (v4 : Int) (M : gSt) : Prop :=
w_X5_size v2 M (fun r39c M39 => 
  (wrap r39c ≤ wrap (v4 + 2) →
    X34_132 v3 M39) ∧
  (wrap (v4 + 2) < wrap r39c →
    w_X5_at v2 v4 M39 (fun r49c M49 => w_X5_at v2 (v4 + 1) M49 (fun r57c M57 => w_X5_at v2 (v4 + 2) M57 (fun r65c M65 => w_X8_isPaper r49c r57c r65c M65 (fun r68c M68 => 
    (wrap r68c = 0 →
      X34_88 v3 M68) ∧
    (¬ wrap r68c = 0 →
      w_X4_room 8 M68 (fun r81c M81 => 
      (1 ≤ wrap r81c →
        w_X5_at v2 v4 M81 (fun r100c M100 => w_X5_at v2 (v4 + 1) M100 (fun r108c M108 => w_X5_at v2 (v4 + 2) M108 (fun r116c M116 => w_X4_append 8 r100c r108c r116c M116 (fun r119c M119 => r34 v2 (v3 + 1) (v4 + 3) M119))))) ∧
      (wrap r81c < 1 →
        X34_88 v3 M81)))))))))
def wL_X8_papers_34 (a1 : Int) (k : Int → gSt → Prop)  (X34_88 : Int → gSt → Prop) (X34_132 : Int → gSt → Prop) : Nat → Nat → Int → Int → gSt → Prop
  | 0 => fun _ _ _ _ => False
  | n + 1 => fun v2 v3 v4 M => wC_X8_papers_34 a1 k  (wL_X8_papers_34 a1 k  X34_88 X34_132 n) X34_88 X34_132 v2 v3 v4 M
def w_X8_papers (a1 : Int) (M : gSt) (k : Int → gSt → Prop) : Prop :=
  w_X8_sheetAt a1 M (fun r2c M2 => 
  (r2c = none →
    w_X8_refuse 1 M2 (fun r12c M12 => k r12c M12)) ∧
  (∀ q7 : Nat, r2c = some q7 →
    w_X5_isMissing q7 M2 (fun r17c M17 => 
    (wrap r17c = 0 →
      ∃ n, wL_X8_papers_34 a1 k  (fun u3_34 M34 =>
        k u3_34 M34) (fun u3_34 M34 =>
        k u3_34 M34) n q7 0 0 M17) ∧
    (¬ wrap r17c = 0 →
      w_X8_refuse 2 M17 (fun r25c M25 => k r25c M25)))))
set_option maxHeartbeats 4000000 in
set_option maxRecDepth 100000 in
theorem m_X8_papers {l : Launch} {D : va_G} {tys : List (ClassId × FieldType)} {ad : Nat → Nat} {cI cS : ClassId} {a1 : Int} {M : gSt} {k : Int → gSt → Prop} (h : w_X8_papers a1 M k) : MOi l yX8_papers cX8_papers 5 .int (rmR 2 46) D clC ((cI, .int) :: (cS, .object "OldBronze$Sheet") :: tys) (wC ad cI cS) tC zC [.ref (ad 0), iv a1] M k := by
  refine moi_intro (by decide +kernel) (Nat.le_of_ble_eq_true rfl) wc_596 ?_
  intro p e s m args below meth c A Q C hR
  unfold w_X8_papers at h
  have pC34 : ∀ (r34 : Nat → Int → Int → gSt → Prop) (X34_88 : Int → gSt → Prop) (X34_132 : Int → gSt → Prop) (hr34 : ∀ (v2 : Nat) (v3 : Int) (v4 : Int) (M : gSt), r34 v2 v3 v4 M → gG p l e (rmR 2 46) s m args below meth c Q D clC A (wC ad cI cS) 5 34 [(0, .ref (ad 0)), (2, .ref (ad v2)), (3, iv v3), (4, iv v4)] [] M) (hX34_88 : ∀ (v3 : Int) (M : gSt), X34_88 v3 M → gG p l e (rmR 2 46) s m args below meth c Q D clC A (wC ad cI cS) 5 88 [(3, iv v3)] [] M) (hX34_132 : ∀ (v3 : Int) (M : gSt), X34_132 v3 M → gG p l e (rmR 2 46) s m args below meth c Q D clC A (wC ad cI cS) 5 132 [(3, iv v3)] [] M) (v2 : Nat) (v3 : Int) (v4 : Int) (M : gSt), wC_X8_papers_34 a1 k r34 X34_88 X34_132 v2 v3 v4 M → gG p l e (rmR 2 46) s m args below meth c Q D clC A (wC ad cI cS) 5 34 [(0, .ref (ad 0)), (2, .ref (ad v2)), (3, iv v3), (4, iv v4)] [] M := by
    intro r34 X34_88 X34_132 hr34 hX34_88 hX34_132 v2 v3 v4 M h
    unfold wC_X8_papers_34 at h
    refine g_iload C dX8_papers_34 rfl ?_
    refine g_iconst C dX8_papers_36 ?_
    refine g_iadd C dX8_papers_37 ?_
    refine g_aload_n C dX8_papers_38 rfl ?_
    refine g_callVi C (nargs := 0) (o := v2) (st := [iv (v4 + 2)]) (m_X5_size h) (show isSheet v2 from h.1).1 (show isSheet v2 from h.1).2.1 rfl rfl gc_X8_275 (by decide +kernel) ⟨rfl, rfl⟩ dX8_papers_39 ⟨by decide, by decide⟩ rfl rfl (Nat.le_of_ble_eq_true rfl) ?_
    intro r39c M39 hN
    replace h := hN
    clear hN
    refine g_icmp_ge C 132 dX8_papers_42 (by decide) (fun hc => ?_) (fun hc => ?_)
    · replace h := h.1 hc
      refine g_locals (lv' := [(3, iv v3)]) rfl ?_
      exact hX34_132 _  _ h
    · replace h := h.2 hc
      refine g_aload_n C dX8_papers_45 rfl ?_
      refine g_aload_n C dX8_papers_46 rfl ?_
      refine g_iload C dX8_papers_47 rfl ?_
      refine g_callVi C (nargs := 1) (o := v2) (st := [.ref (ad 0)]) (m_X5_at h) (show isSheet v2 from h.1).1 (show isSheet v2 from h.1).2.1 rfl rfl gc_X8_276 (by decide +kernel) ⟨rfl, rfl⟩ dX8_papers_49 ⟨by decide, by decide⟩ rfl rfl (Nat.le_of_ble_eq_true rfl) ?_
      intro r49c M49 hN
      replace h := hN
      clear hN
      refine g_aload_n C dX8_papers_52 rfl ?_
      refine g_iload C dX8_papers_53 rfl ?_
      refine g_iconst C dX8_papers_55 ?_
      refine g_iadd C dX8_papers_56 ?_
      refine g_callVi C (nargs := 1) (o := v2) (st := [iv r49c, .ref (ad 0)]) (m_X5_at h) (show isSheet v2 from h.1).1 (show isSheet v2 from h.1).2.1 rfl rfl gc_X8_276 (by decide +kernel) ⟨rfl, rfl⟩ dX8_papers_57 ⟨by decide, by decide⟩ rfl rfl (Nat.le_of_ble_eq_true rfl) ?_
      intro r57c M57 hN
      replace h := hN
      clear hN
      refine g_aload_n C dX8_papers_60 rfl ?_
      refine g_iload C dX8_papers_61 rfl ?_
      refine g_iconst C dX8_papers_63 ?_
      refine g_iadd C dX8_papers_64 ?_
      refine g_callVi C (nargs := 1) (o := v2) (st := [iv r57c, iv r49c, .ref (ad 0)]) (m_X5_at h) (show isSheet v2 from h.1).1 (show isSheet v2 from h.1).2.1 rfl rfl gc_X8_276 (by decide +kernel) ⟨rfl, rfl⟩ dX8_papers_65 ⟨by decide, by decide⟩ rfl rfl (Nat.le_of_ble_eq_true rfl) ?_
      intro r65c M65 hN
      replace h := hN
      clear hN
      refine g_callVi C (nargs := 3) (o := 0) (st := []) (m_X8_isPaper h) pl_0.1 pl_0.2.1 rfl rfl gc_X8_178 (by decide +kernel) ⟨rfl, rfl⟩ dX8_papers_68 ⟨by decide, by decide⟩ rfl rfl (Nat.le_of_ble_eq_true rfl) ?_
      intro r68c M68 hN
      replace h := hN
      clear hN
      refine g_if_eq C 88 dX8_papers_71 (by decide) (fun hc => ?_) (fun hc => ?_)
      · replace h := h.1 hc
        refine g_locals (lv' := [(3, iv v3)]) rfl ?_
        exact hX34_88 _  _ h
      · replace h := h.2 hc
        refine g_aload_n C dX8_papers_74 rfl ?_
        refine cf_X8_12 C pl_0 dX8_papers_75 ?_
        refine cf_X8_181 C pl_1 dX8_papers_78 ?_
        refine g_callVi C (nargs := 0) (o := 8) (st := []) (m_X4_room h) pl_8.1 pl_8.2.1 rfl rfl gc_X8_136 (by decide +kernel) ⟨rfl, rfl⟩ dX8_papers_81 ⟨by decide, by decide⟩ rfl rfl (Nat.le_of_ble_eq_true rfl) ?_
        intro r81c M81 hN
        replace h := hN
        clear hN
        refine g_iconst C dX8_papers_84 ?_
        refine g_icmp_ge C 90 dX8_papers_85 (by decide) (fun hc => ?_) (fun hc => ?_)
        · replace h := h.1 hc
          refine g_aload_n C dX8_papers_90 rfl ?_
          refine cf_X8_12 C pl_0 dX8_papers_91 ?_
          refine cf_X8_181 C pl_1 dX8_papers_94 ?_
          refine g_aload_n C dX8_papers_97 rfl ?_
          refine g_iload C dX8_papers_98 rfl ?_
          refine g_callVi C (nargs := 1) (o := v2) (st := [.ref (ad 8)]) (m_X5_at h) (show isSheet v2 from h.1).1 (show isSheet v2 from h.1).2.1 rfl rfl gc_X8_276 (by decide +kernel) ⟨rfl, rfl⟩ dX8_papers_100 ⟨by decide, by decide⟩ rfl rfl (Nat.le_of_ble_eq_true rfl) ?_
          intro r100c M100 hN
          replace h := hN
          clear hN
          refine g_aload_n C dX8_papers_103 rfl ?_
          refine g_iload C dX8_papers_104 rfl ?_
          refine g_iconst C dX8_papers_106 ?_
          refine g_iadd C dX8_papers_107 ?_
          refine g_callVi C (nargs := 1) (o := v2) (st := [iv r100c, .ref (ad 8)]) (m_X5_at h) (show isSheet v2 from h.1).1 (show isSheet v2 from h.1).2.1 rfl rfl gc_X8_276 (by decide +kernel) ⟨rfl, rfl⟩ dX8_papers_108 ⟨by decide, by decide⟩ rfl rfl (Nat.le_of_ble_eq_true rfl) ?_
          intro r108c M108 hN
          replace h := hN
          clear hN
          refine g_aload_n C dX8_papers_111 rfl ?_
          refine g_iload C dX8_papers_112 rfl ?_
          refine g_iconst C dX8_papers_114 ?_
          refine g_iadd C dX8_papers_115 ?_
          refine g_callVi C (nargs := 1) (o := v2) (st := [iv r108c, iv r100c, .ref (ad 8)]) (m_X5_at h) (show isSheet v2 from h.1).1 (show isSheet v2 from h.1).2.1 rfl rfl gc_X8_276 (by decide +kernel) ⟨rfl, rfl⟩ dX8_papers_116 ⟨by decide, by decide⟩ rfl rfl (Nat.le_of_ble_eq_true rfl) ?_
          intro r116c M116 hN
          replace h := hN
          clear hN
          refine g_callVi C (nargs := 3) (o := 8) (st := []) (m_X4_append h) pl_8.1 pl_8.2.1 rfl rfl gc_X8_139 (by decide +kernel) ⟨rfl, rfl⟩ dX8_papers_119 ⟨by decide, by decide⟩ rfl rfl (Nat.le_of_ble_eq_true rfl) ?_
          intro r119c M119 hN
          replace h := hN
          clear hN
          refine g_pop C dX8_papers_122 rfl ?_
          refine g_iinc C dX8_papers_123 rfl (by decide) rfl ?_
          refine g_locals (lv' := [(0, .ref (ad 0)), (2, .ref (ad v2)), (3, iv (v3 + 1)), (4, iv v4)]) rfl ?_
          refine g_iinc C dX8_papers_126 rfl (by decide) rfl ?_
          refine g_locals (lv' := [(0, .ref (ad 0)), (2, .ref (ad v2)), (3, iv (v3 + 1)), (4, iv (v4 + 3))]) rfl ?_
          refine g_goto C 34 dX8_papers_129 (by decide) ?_
          refine g_locals (lv' := [(0, .ref (ad 0)), (2, .ref (ad v2)), (3, iv (v3 + 1)), (4, iv (v4 + 3))]) rfl ?_
          exact hr34 _ _ _  _ h
        · replace h := h.2 hc
          refine g_locals (lv' := [(3, iv v3)]) rfl ?_
          exact hX34_88 _  _ h
  have pL34 : ∀  (X34_88 : Int → gSt → Prop) (X34_132 : Int → gSt → Prop) (hX34_88 : ∀ (v3 : Int) (M : gSt), X34_88 v3 M → gG p l e (rmR 2 46) s m args below meth c Q D clC A (wC ad cI cS) 5 88 [(3, iv v3)] [] M) (hX34_132 : ∀ (v3 : Int) (M : gSt), X34_132 v3 M → gG p l e (rmR 2 46) s m args below meth c Q D clC A (wC ad cI cS) 5 132 [(3, iv v3)] [] M) (n : Nat) (v2 : Nat) (v3 : Int) (v4 : Int) (M : gSt), wL_X8_papers_34 a1 k  X34_88 X34_132 n v2 v3 v4 M → gG p l e (rmR 2 46) s m args below meth c Q D clC A (wC ad cI cS) 5 34 [(0, .ref (ad 0)), (2, .ref (ad v2)), (3, iv v3), (4, iv v4)] [] M := by
    intro  X34_88 X34_132 hX34_88 hX34_132 n
    induction n with
    | zero => intro v2 v3 v4 M h; exact h.elim
    | succ n ih =>
      intro v2 v3 v4 M h
      exact pC34  (wL_X8_papers_34 a1 k  X34_88 X34_132 n) X34_88 X34_132 ih hX34_88 hX34_132 v2 v3 v4 M h
  refine g_locals (lv' := [(0, .ref (ad 0)), (1, iv a1)]) rfl ?_
  refine g_aload_n C dX8_papers_0 rfl ?_
  refine g_iload_n C dX8_papers_1 rfl ?_
  refine g_callVr C (nargs := 1) (o := 0) (st := []) (m_X8_sheetAt h) pl_0.1 pl_0.2.1 rfl rfl gc_X8_250 (by decide +kernel) ⟨rfl, rfl⟩ dX8_papers_2 ⟨by decide, by decide⟩ rfl rfl (Nat.le_of_ble_eq_true rfl) ?_
  intro r2c M2 hN
  replace h := hN
  clear hN
  refine g_astoreO C dX8_papers_5 (by decide) rfl ?_
  refine g_locals (lv' := [(0, .ref (ad 0)), (1, iv a1), (2, orv ad r2c)]) rfl ?_
  refine g_aloadO C dX8_papers_6 rfl ?_
  refine g_ifnonnull C 16 dX8_papers_7 (by decide) (fun q7 hc => ?_) (fun hc => ?_)
  · replace h := h.2 q7 hc
    subst hc
    refine g_locals (lv' := [(0, .ref (ad 0)), (1, iv a1), (2, .ref (ad q7))]) rfl ?_
    refine g_aload_n C dX8_papers_16 rfl ?_
    refine g_callVi C (nargs := 0) (o := q7) (st := []) (m_X5_isMissing h) (show isSheet q7 from h.1).1 (show isSheet q7 from h.1).2.1 rfl rfl gc_X8_257 (by decide +kernel) ⟨rfl, rfl⟩ dX8_papers_17 ⟨by decide, by decide⟩ rfl rfl (Nat.le_of_ble_eq_true rfl) ?_
    intro r17c M17 hN
    replace h := hN
    clear hN
    refine g_if_eq C 29 dX8_papers_20 (by decide) (fun hc => ?_) (fun hc => ?_)
    · replace h := h.1 hc
      refine g_iconst C dX8_papers_29 ?_
      refine g_istore_n C dX8_papers_30 (by decide) rfl ?_
      refine g_locals (lv' := [(0, .ref (ad 0)), (1, iv a1), (2, .ref (ad q7)), (3, iv 0)]) rfl ?_
      refine g_iconst C dX8_papers_31 ?_
      refine g_istore C dX8_papers_32 (by decide) rfl ?_
      refine g_locals (lv' := [(0, .ref (ad 0)), (1, iv a1), (2, .ref (ad q7)), (3, iv 0), (4, iv 0)]) rfl ?_
      refine g_locals (lv' := [(0, .ref (ad 0)), (2, .ref (ad q7)), (3, iv 0), (4, iv 0)]) rfl ?_
      obtain ⟨n, h⟩ := h
      refine pL34 _ _ ?_ ?_ n _ _ _ _ h
      · intro u3_34 M34 hN
        replace h := hN
        clear hN
        refine g_iload_n C dX8_papers_88 rfl ?_
        exact hR _ _ _ _ dX8_papers_89 rfl h
      · intro u3_34 M34 hN
        replace h := hN
        clear hN
        refine g_iload_n C dX8_papers_132 rfl ?_
        exact hR _ _ _ _ dX8_papers_133 rfl h
    · replace h := h.2 hc
      refine g_aload_n C dX8_papers_23 rfl ?_
      refine g_iconst C dX8_papers_24 ?_
      refine g_callVi C (nargs := 1) (o := 0) (st := []) (m_X8_refuse h) pl_0.1 pl_0.2.1 rfl rfl gc_X8_67 (by decide +kernel) ⟨rfl, rfl⟩ dX8_papers_25 ⟨by decide, by decide⟩ rfl rfl (Nat.le_of_ble_eq_true rfl) ?_
      intro r25c M25 hN
      replace h := hN
      clear hN
      exact hR _ _ _ _ dX8_papers_28 rfl h
  · replace h := h.1 hc
    refine g_locals (lv' := [(0, .ref (ad 0)), (1, iv a1)]) rfl ?_
    refine g_aload_n C dX8_papers_10 rfl ?_
    refine g_iconst C dX8_papers_11 ?_
    refine g_callVi C (nargs := 1) (o := 0) (st := []) (m_X8_refuse h) pl_0.1 pl_0.2.1 rfl rfl gc_X8_67 (by decide +kernel) ⟨rfl, rfl⟩ dX8_papers_12 ⟨by decide, by decide⟩ rfl rfl (Nat.le_of_ble_eq_true rfl) ?_
    intro r12c M12 hN
    replace h := hN
    clear hN
    exact hR _ _ _ _ dX8_papers_15 rfl h
def wB_X8_judge_18 (a1 : Int) (a2 : Int) (k : Int → gSt → Prop)   (M : gSt) : Prop :=
w_X8_refuse 1 M (fun r20c M20 => k r20c M20)
def wC_X8_judge_64 (a1 : Int) (a2 : Int) (k : Int → gSt → Prop) (r64 : Nat → Int → Int → gSt → Prop) (X64_99 : Int → gSt → Prop) (X64_108 : Int → gSt → Prop) (v3 : Nat) (v4 : Int) (v5 : Int) (M : gSt) : Prop :=

  (wrap v4 ≤ wrap v5 →
    X64_108 v4 M) ∧
  (wrap v5 < wrap v4 →
    w_X5_has v3 v5 M (fun r74c M74 => 
    (wrap r74c = 0 →
      X64_99 v5 M74) ∧
    (¬ wrap r74c = 0 →
      w_X5_at v3 v5 M74 (fun r83c M83 => w_X2_numberBehind 41 v5 2 M83 (fun r93c M93 => 
      (wrap r83c = wrap r93c →
        r64 v3 v4 (v5 + 1) M93) ∧
      (¬ wrap r83c = wrap r93c →
        X64_99 v5 M93))))))
def wL_X8_judge_64 (a1 : Int) (a2 : Int) (k : Int → gSt → Prop)  (X64_99 : Int → gSt → Prop) (X64_108 : Int → gSt → Prop) : Nat → Nat → Int → Int → gSt → Prop
  | 0 => fun _ _ _ _ => False
  | n + 1 => fun v3 v4 v5 M => wC_X8_judge_64 a1 a2 k  (wL_X8_judge_64 a1 a2 k  X64_99 X64_108 n) X64_99 X64_108 v3 v4 v5 M
def w_X8_judge (a1 : Int) (a2 : Int) (M : gSt) (k : Int → gSt → Prop) : Prop :=
  w_X8_sheetAt a1 M (fun r2c M2 => 
  (r2c = none →
    wB_X8_judge_18 a1 a2 k   M2) ∧
  (∀ q7 : Nat, r2c = some q7 →
    w_X8_isHistory a2 M2 (fun r12c M12 => 
    (¬ wrap r12c = 0 →
      w_X5_isMissing q7 M12 (fun r25c M25 => 
      (wrap r25c = 0 →
        w_X2_follow 41 1 a2 M25 (fun M46 => w_X0_size 2 M46 (fun r56c M56 => ∃ n, wL_X8_judge_64 a1 a2 k  (fun u5_64 M64 =>
          k u5_64 M64) (fun u4_64 M64 =>
          k u4_64 M64) n q7 r56c 0 M56))) ∧
      (¬ wrap r25c = 0 →
        w_X8_refuse 2 M25 (fun r33c M33 => k r33c M33)))) ∧
    (wrap r12c = 0 →
      wB_X8_judge_18 a1 a2 k   M12))))
set_option maxHeartbeats 4000000 in
set_option maxRecDepth 100000 in
theorem m_X8_judge {l : Launch} {D : va_G} {tys : List (ClassId × FieldType)} {ad : Nat → Nat} {cI cS : ClassId} {a1 : Int} {a2 : Int} {M : gSt} {k : Int → gSt → Prop} (h : w_X8_judge a1 a2 M k) : MOi l yX8_judge cX8_judge 6 .int (rmR 6 147) D clC ((cI, .int) :: (cS, .object "OldBronze$Sheet") :: tys) (wC ad cI cS) tC zC [.ref (ad 0), iv a1, iv a2] M k := by
  refine moi_intro (by decide +kernel) (Nat.le_of_ble_eq_true rfl) wc_597 ?_
  intro p e s m args below meth c A Q C hR
  unfold w_X8_judge at h
  have pB18 : ∀    (M : gSt), wB_X8_judge_18 a1 a2 k   M → gG p l e (rmR 6 147) s m args below meth c Q D clC A (wC ad cI cS) 6 18 [(0, .ref (ad 0))] [] M := by
    intro    M h
    unfold wB_X8_judge_18 at h
    refine g_aload_n C dX8_judge_18 rfl ?_
    refine g_iconst C dX8_judge_19 ?_
    refine g_callVi C (nargs := 1) (o := 0) (st := []) (m_X8_refuse h) pl_0.1 pl_0.2.1 rfl rfl gc_X8_67 (by decide +kernel) ⟨rfl, rfl⟩ dX8_judge_20 ⟨by decide, by decide⟩ rfl rfl (Nat.le_of_ble_eq_true rfl) ?_
    intro r20c M20 hN
    replace h := hN
    clear hN
    exact hR _ _ _ _ dX8_judge_23 rfl h
  have pC64 : ∀ (r64 : Nat → Int → Int → gSt → Prop) (X64_99 : Int → gSt → Prop) (X64_108 : Int → gSt → Prop) (hr64 : ∀ (v3 : Nat) (v4 : Int) (v5 : Int) (M : gSt), r64 v3 v4 v5 M → gG p l e (rmR 6 147) s m args below meth c Q D clC A (wC ad cI cS) 6 64 [(0, .ref (ad 0)), (3, .ref (ad v3)), (4, iv v4), (5, iv v5)] [] M) (hX64_99 : ∀ (v5 : Int) (M : gSt), X64_99 v5 M → gG p l e (rmR 6 147) s m args below meth c Q D clC A (wC ad cI cS) 6 99 [(5, iv v5)] [] M) (hX64_108 : ∀ (v4 : Int) (M : gSt), X64_108 v4 M → gG p l e (rmR 6 147) s m args below meth c Q D clC A (wC ad cI cS) 6 108 [(4, iv v4)] [] M) (v3 : Nat) (v4 : Int) (v5 : Int) (M : gSt), wC_X8_judge_64 a1 a2 k r64 X64_99 X64_108 v3 v4 v5 M → gG p l e (rmR 6 147) s m args below meth c Q D clC A (wC ad cI cS) 6 64 [(0, .ref (ad 0)), (3, .ref (ad v3)), (4, iv v4), (5, iv v5)] [] M := by
    intro r64 X64_99 X64_108 hr64 hX64_99 hX64_108 v3 v4 v5 M h
    unfold wC_X8_judge_64 at h
    refine g_iload C dX8_judge_64 rfl ?_
    refine g_iload C dX8_judge_66 rfl ?_
    refine g_icmp_ge C 108 dX8_judge_68 (by decide) (fun hc => ?_) (fun hc => ?_)
    · replace h := h.1 hc
      refine g_locals (lv' := [(4, iv v4)]) rfl ?_
      exact hX64_108 _  _ h
    · replace h := h.2 hc
      refine g_aload_n C dX8_judge_71 rfl ?_
      refine g_iload C dX8_judge_72 rfl ?_
      refine g_callVi C (nargs := 1) (o := v3) (st := []) (m_X5_has h) (show isSheet v3 from h.1).1 (show isSheet v3 from h.1).2.1 rfl rfl gc_X8_260 (by decide +kernel) ⟨rfl, rfl⟩ dX8_judge_74 ⟨by decide, by decide⟩ rfl rfl (Nat.le_of_ble_eq_true rfl) ?_
      intro r74c M74 hN
      replace h := hN
      clear hN
      refine g_if_eq C 99 dX8_judge_77 (by decide) (fun hc => ?_) (fun hc => ?_)
      · replace h := h.1 hc
        refine g_locals (lv' := [(5, iv v5)]) rfl ?_
        exact hX64_99 _  _ h
      · replace h := h.2 hc
        refine g_aload_n C dX8_judge_80 rfl ?_
        refine g_iload C dX8_judge_81 rfl ?_
        refine g_callVi C (nargs := 1) (o := v3) (st := []) (m_X5_at h) (show isSheet v3 from h.1).1 (show isSheet v3 from h.1).2.1 rfl rfl gc_X8_276 (by decide +kernel) ⟨rfl, rfl⟩ dX8_judge_83 ⟨by decide, by decide⟩ rfl rfl (Nat.le_of_ble_eq_true rfl) ?_
        intro r83c M83 hN
        replace h := hN
        clear hN
        refine g_aload_n C dX8_judge_86 rfl ?_
        refine cf_X8_29 C pl_0 dX8_judge_87 ?_
        refine g_iload C dX8_judge_90 rfl ?_
        refine g_iconst C dX8_judge_92 ?_
        refine g_callVi C (nargs := 2) (o := 41) (st := [iv r83c]) (m_X2_numberBehind h) pl_41.1 pl_41.2.1 rfl rfl gc_X8_194 (by decide +kernel) ⟨rfl, rfl⟩ dX8_judge_93 ⟨by decide, by decide⟩ rfl rfl (Nat.le_of_ble_eq_true rfl) ?_
        intro r93c M93 hN
        replace h := hN
        clear hN
        refine g_icmp_eq C 102 dX8_judge_96 (by decide) (fun hc => ?_) (fun hc => ?_)
        · replace h := h.1 hc
          refine g_iinc C dX8_judge_102 rfl (by decide) rfl ?_
          refine g_locals (lv' := [(0, .ref (ad 0)), (3, .ref (ad v3)), (4, iv v4), (5, iv (v5 + 1))]) rfl ?_
          refine g_goto C 64 dX8_judge_105 (by decide) ?_
          refine g_locals (lv' := [(0, .ref (ad 0)), (3, .ref (ad v3)), (4, iv v4), (5, iv (v5 + 1))]) rfl ?_
          exact hr64 _ _ _  _ h
        · replace h := h.2 hc
          refine g_locals (lv' := [(5, iv v5)]) rfl ?_
          exact hX64_99 _  _ h
  have pL64 : ∀  (X64_99 : Int → gSt → Prop) (X64_108 : Int → gSt → Prop) (hX64_99 : ∀ (v5 : Int) (M : gSt), X64_99 v5 M → gG p l e (rmR 6 147) s m args below meth c Q D clC A (wC ad cI cS) 6 99 [(5, iv v5)] [] M) (hX64_108 : ∀ (v4 : Int) (M : gSt), X64_108 v4 M → gG p l e (rmR 6 147) s m args below meth c Q D clC A (wC ad cI cS) 6 108 [(4, iv v4)] [] M) (n : Nat) (v3 : Nat) (v4 : Int) (v5 : Int) (M : gSt), wL_X8_judge_64 a1 a2 k  X64_99 X64_108 n v3 v4 v5 M → gG p l e (rmR 6 147) s m args below meth c Q D clC A (wC ad cI cS) 6 64 [(0, .ref (ad 0)), (3, .ref (ad v3)), (4, iv v4), (5, iv v5)] [] M := by
    intro  X64_99 X64_108 hX64_99 hX64_108 n
    induction n with
    | zero => intro v3 v4 v5 M h; exact h.elim
    | succ n ih =>
      intro v3 v4 v5 M h
      exact pC64  (wL_X8_judge_64 a1 a2 k  X64_99 X64_108 n) X64_99 X64_108 ih hX64_99 hX64_108 v3 v4 v5 M h
  refine g_locals (lv' := [(0, .ref (ad 0)), (1, iv a1), (2, iv a2)]) rfl ?_
  refine g_aload_n C dX8_judge_0 rfl ?_
  refine g_iload_n C dX8_judge_1 rfl ?_
  refine g_callVr C (nargs := 1) (o := 0) (st := []) (m_X8_sheetAt h) pl_0.1 pl_0.2.1 rfl rfl gc_X8_250 (by decide +kernel) ⟨rfl, rfl⟩ dX8_judge_2 ⟨by decide, by decide⟩ rfl rfl (Nat.le_of_ble_eq_true rfl) ?_
  intro r2c M2 hN
  replace h := hN
  clear hN
  refine g_astoreO C dX8_judge_5 (by decide) rfl ?_
  refine g_locals (lv' := [(0, .ref (ad 0)), (1, iv a1), (2, iv a2), (3, orv ad r2c)]) rfl ?_
  refine g_aloadO C dX8_judge_6 rfl ?_
  refine g_ifnull C 18 dX8_judge_7 (by decide) (fun hc => ?_) (fun q7 hc => ?_)
  · replace h := h.1 hc
    refine g_locals (lv' := [(0, .ref (ad 0)), (1, iv a1), (2, iv a2)]) rfl ?_
    refine g_locals (lv' := [(0, .ref (ad 0))]) rfl ?_
    exact pB18  _ h
  · replace h := h.2 q7 hc
    subst hc
    refine g_locals (lv' := [(0, .ref (ad 0)), (1, iv a1), (2, iv a2), (3, .ref (ad q7))]) rfl ?_
    refine g_aload_n C dX8_judge_10 rfl ?_
    refine g_iload_n C dX8_judge_11 rfl ?_
    refine g_callVi C (nargs := 1) (o := 0) (st := []) (m_X8_isHistory h) pl_0.1 pl_0.2.1 rfl rfl gc_X8_187 (by decide +kernel) ⟨rfl, rfl⟩ dX8_judge_12 ⟨by decide, by decide⟩ rfl rfl (Nat.le_of_ble_eq_true rfl) ?_
    intro r12c M12 hN
    replace h := hN
    clear hN
    refine g_if_ne C 24 dX8_judge_15 (by decide) (fun hc => ?_) (fun hc => ?_)
    · replace h := h.1 hc
      refine g_aload_n C dX8_judge_24 rfl ?_
      refine g_callVi C (nargs := 0) (o := q7) (st := []) (m_X5_isMissing h) (show isSheet q7 from h.1).1 (show isSheet q7 from h.1).2.1 rfl rfl gc_X8_257 (by decide +kernel) ⟨rfl, rfl⟩ dX8_judge_25 ⟨by decide, by decide⟩ rfl rfl (Nat.le_of_ble_eq_true rfl) ?_
      intro r25c M25 hN
      replace h := hN
      clear hN
      refine g_if_eq C 37 dX8_judge_28 (by decide) (fun hc => ?_) (fun hc => ?_)
      · replace h := h.1 hc
        refine g_aload_n C dX8_judge_37 rfl ?_
        refine cf_X8_29 C pl_0 dX8_judge_38 ?_
        refine g_aload_n C dX8_judge_41 rfl ?_
        refine cf_X8_12 C pl_0 dX8_judge_42 ?_
        refine g_iload_n C dX8_judge_45 rfl ?_
        refine g_callVv C (nargs := 2) (o := 41) (st := []) (m_X2_follow h) pl_41.1 pl_41.2.1 rfl rfl gc_X8_190 (by decide +kernel) ⟨rfl, rfl⟩ dX8_judge_46 ⟨by decide, by decide⟩ rfl rfl (Nat.le_of_ble_eq_true rfl) ?_
        intro M46 hN
        replace h := hN
        clear hN
        refine g_aload_n C dX8_judge_49 rfl ?_
        refine cf_X8_12 C pl_0 dX8_judge_50 ?_
        refine cf_X8_71 C pl_1 dX8_judge_53 ?_
        refine g_callVi C (nargs := 0) (o := 2) (st := []) (m_X0_size h) pl_2.1 pl_2.2.1 rfl rfl gc_X8_221 (by decide +kernel) ⟨rfl, rfl⟩ dX8_judge_56 ⟨by decide, by decide⟩ rfl rfl (Nat.le_of_ble_eq_true rfl) ?_
        intro r56c M56 hN
        replace h := hN
        clear hN
        refine g_istore C dX8_judge_59 (by decide) rfl ?_
        refine g_locals (lv' := [(0, .ref (ad 0)), (1, iv a1), (2, iv a2), (3, .ref (ad q7)), (4, iv r56c)]) rfl ?_
        refine g_iconst C dX8_judge_61 ?_
        refine g_istore C dX8_judge_62 (by decide) rfl ?_
        refine g_locals (lv' := [(0, .ref (ad 0)), (1, iv a1), (2, iv a2), (3, .ref (ad q7)), (4, iv r56c), (5, iv 0)]) rfl ?_
        refine g_locals (lv' := [(0, .ref (ad 0)), (3, .ref (ad q7)), (4, iv r56c), (5, iv 0)]) rfl ?_
        obtain ⟨n, h⟩ := h
        refine pL64 _ _ ?_ ?_ n _ _ _ _ h
        · intro u5_64 M64 hN
          replace h := hN
          clear hN
          refine g_iload C dX8_judge_99 rfl ?_
          exact hR _ _ _ _ dX8_judge_101 rfl h
        · intro u4_64 M64 hN
          replace h := hN
          clear hN
          refine g_iload C dX8_judge_108 rfl ?_
          exact hR _ _ _ _ dX8_judge_110 rfl h
      · replace h := h.2 hc
        refine g_aload_n C dX8_judge_31 rfl ?_
        refine g_iconst C dX8_judge_32 ?_
        refine g_callVi C (nargs := 1) (o := 0) (st := []) (m_X8_refuse h) pl_0.1 pl_0.2.1 rfl rfl gc_X8_67 (by decide +kernel) ⟨rfl, rfl⟩ dX8_judge_33 ⟨by decide, by decide⟩ rfl rfl (Nat.le_of_ble_eq_true rfl) ?_
        intro r33c M33 hN
        replace h := hN
        clear hN
        exact hR _ _ _ _ dX8_judge_36 rfl h
    · replace h := h.2 hc
      refine g_locals (lv' := [(0, .ref (ad 0))]) rfl ?_
      exact pB18  _ h
def w_X8_image  (M : gSt) (k : Int → gSt → Prop) : Prop :=
  w_X1_copyFrom 20 1 M (fun M8 => ∀ M18 : gSt, M18 = wr M8 0 8 ((M8 0 8) + 1) → (k (M18 0 8) M18))
set_option maxHeartbeats 4000000 in
set_option maxRecDepth 100000 in
theorem m_X8_image {l : Launch} {D : va_G} {tys : List (ClassId × FieldType)} {ad : Nat → Nat} {cI cS : ClassId}  {M : gSt} {k : Int → gSt → Prop} (h : w_X8_image  M k) : MOi l yX8_image cX8_image 1 .int (rmR 3 82) D clC ((cI, .int) :: (cS, .object "OldBronze$Sheet") :: tys) (wC ad cI cS) tC zC [.ref (ad 0)] M k := by
  refine moi_intro (by decide +kernel) (Nat.le_of_ble_eq_true rfl) wc_602 ?_
  intro p e s m args below meth c A Q C hR
  unfold w_X8_image at h
  refine g_locals (lv' := [(0, .ref (ad 0))]) rfl ?_
  refine g_aload_n C dX8_image_0 rfl ?_
  refine cf_X8_16 C pl_0 dX8_image_1 ?_
  refine g_aload_n C dX8_image_4 rfl ?_
  refine cf_X8_12 C pl_0 dX8_image_5 ?_
  refine g_callVv C (nargs := 1) (o := 20) (st := []) (m_X1_copyFrom h) pl_20.1 pl_20.2 rfl rfl gc_X8_278 (by decide +kernel) ⟨rfl, rfl⟩ dX8_image_8 ⟨by decide, by decide⟩ rfl rfl (Nat.le_of_ble_eq_true rfl) ?_
  intro M8 hN
  replace h := hN
  clear hN
  refine g_aload_n C dX8_image_11 rfl ?_
  refine g_dup C dX8_image_12 rfl ?_
  refine cf_X8_280 C pl_0 dX8_image_13 ?_
  refine g_iconst C dX8_image_16 ?_
  refine g_iadd C dX8_image_17 ?_
  refine cp_X8_280 C pl_0 dX8_image_18 ?_
  refine g_memname (fun M18 hM18 => ?_)
  replace h := h M18 hM18
  refine g_aload_n C dX8_image_21 rfl ?_
  refine cf_X8_280 C pl_0 dX8_image_22 ?_
  exact hR _ _ _ _ dX8_image_25 rfl h
def w_X8_restore  (M : gSt) (k : Int → gSt → Prop) : Prop :=
  
  (¬ wrap (M 0 8) = 0 →
    w_X1_copyFrom 1 20 M (fun M21 => w_X0_yearsSoFar 2 M21 (fun r31c M31 => k r31c M31))) ∧
  (wrap (M 0 8) = 0 →
    w_X8_refuse 2 M (fun r9c M9 => k r9c M9))
set_option maxHeartbeats 4000000 in
set_option maxRecDepth 100000 in
theorem m_X8_restore {l : Launch} {D : va_G} {tys : List (ClassId × FieldType)} {ad : Nat → Nat} {cI cS : ClassId}  {M : gSt} {k : Int → gSt → Prop} (h : w_X8_restore  M k) : MOi l yX8_restore cX8_restore 1 .int (rmR 3 82) D clC ((cI, .int) :: (cS, .object "OldBronze$Sheet") :: tys) (wC ad cI cS) tC zC [.ref (ad 0)] M k := by
  refine moi_intro (by decide +kernel) (Nat.le_of_ble_eq_true rfl) wc_603 ?_
  intro p e s m args below meth c A Q C hR
  unfold w_X8_restore at h
  refine g_locals (lv' := [(0, .ref (ad 0))]) rfl ?_
  refine g_aload_n C dX8_restore_0 rfl ?_
  refine cf_X8_280 C pl_0 dX8_restore_1 ?_
  refine g_if_ne C 13 dX8_restore_4 (by decide) (fun hc => ?_) (fun hc => ?_)
  · replace h := h.1 hc
    refine g_aload_n C dX8_restore_13 rfl ?_
    refine cf_X8_12 C pl_0 dX8_restore_14 ?_
    refine g_aload_n C dX8_restore_17 rfl ?_
    refine cf_X8_16 C pl_0 dX8_restore_18 ?_
    refine g_callVv C (nargs := 1) (o := 1) (st := []) (m_X1_copyFrom h) pl_1.1 pl_1.2 rfl rfl gc_X8_278 (by decide +kernel) ⟨rfl, rfl⟩ dX8_restore_21 ⟨by decide, by decide⟩ rfl rfl (Nat.le_of_ble_eq_true rfl) ?_
    intro M21 hN
    replace h := hN
    clear hN
    refine g_aload_n C dX8_restore_24 rfl ?_
    refine cf_X8_12 C pl_0 dX8_restore_25 ?_
    refine cf_X8_71 C pl_1 dX8_restore_28 ?_
    refine g_callVi C (nargs := 0) (o := 2) (st := []) (m_X0_yearsSoFar h) pl_2.1 pl_2.2.1 rfl rfl gc_X8_116 (by decide +kernel) ⟨rfl, rfl⟩ dX8_restore_31 ⟨by decide, by decide⟩ rfl rfl (Nat.le_of_ble_eq_true rfl) ?_
    intro r31c M31 hN
    replace h := hN
    clear hN
    exact hR _ _ _ _ dX8_restore_34 rfl h
  · replace h := h.2 hc
    refine g_aload_n C dX8_restore_7 rfl ?_
    refine g_iconst C dX8_restore_8 ?_
    refine g_callVi C (nargs := 1) (o := 0) (st := []) (m_X8_refuse h) pl_0.1 pl_0.2.1 rfl rfl gc_X8_67 (by decide +kernel) ⟨rfl, rfl⟩ dX8_restore_9 ⟨by decide, by decide⟩ rfl rfl (Nat.le_of_ble_eq_true rfl) ?_
    intro r9c M9 hN
    replace h := hN
    clear hN
    exact hR _ _ _ _ dX8_restore_12 rfl h
def w_X8_tell (a1 : Int) (M : gSt) (k : Int → gSt → Prop) : Prop :=
  w_X4_room 12 M (fun r7c M7 => 
  (1 ≤ wrap r7c →
    w_X4_append 12 a1 0 0 M7 (fun r30c M30 => w_X4_size 12 M30 (fun r41c M41 => k r41c M41))) ∧
  (wrap r7c < 1 →
    w_X8_refuse 4 M7 (fun r16c M16 => k r16c M16)))
set_option maxHeartbeats 4000000 in
set_option maxRecDepth 100000 in
theorem m_X8_tell {l : Launch} {D : va_G} {tys : List (ClassId × FieldType)} {ad : Nat → Nat} {cI cS : ClassId} {a1 : Int} {M : gSt} {k : Int → gSt → Prop} (h : w_X8_tell a1 M k) : MOi l yX8_tell cX8_tell 2 .int (rmR 2 46) D clC ((cI, .int) :: (cS, .object "OldBronze$Sheet") :: tys) (wC ad cI cS) tC zC [.ref (ad 0), iv a1] M k := by
  refine moi_intro (by decide +kernel) (Nat.le_of_ble_eq_true rfl) wc_605 ?_
  intro p e s m args below meth c A Q C hR
  unfold w_X8_tell at h
  refine g_locals (lv' := [(0, .ref (ad 0)), (1, iv a1)]) rfl ?_
  refine g_aload_n C dX8_tell_0 rfl ?_
  refine cf_X8_12 C pl_0 dX8_tell_1 ?_
  refine cf_X8_284 C pl_1 dX8_tell_4 ?_
  refine g_callVi C (nargs := 0) (o := 12) (st := []) (m_X4_room h) pl_12.1 pl_12.2.1 rfl rfl gc_X8_136 (by decide +kernel) ⟨rfl, rfl⟩ dX8_tell_7 ⟨by decide, by decide⟩ rfl rfl (Nat.le_of_ble_eq_true rfl) ?_
  intro r7c M7 hN
  replace h := hN
  clear hN
  refine g_iconst C dX8_tell_10 ?_
  refine g_icmp_ge C 20 dX8_tell_11 (by decide) (fun hc => ?_) (fun hc => ?_)
  · replace h := h.1 hc
    refine g_aload_n C dX8_tell_20 rfl ?_
    refine cf_X8_12 C pl_0 dX8_tell_21 ?_
    refine cf_X8_284 C pl_1 dX8_tell_24 ?_
    refine g_iload_n C dX8_tell_27 rfl ?_
    refine g_iconst C dX8_tell_28 ?_
    refine g_iconst C dX8_tell_29 ?_
    refine g_callVi C (nargs := 3) (o := 12) (st := []) (m_X4_append h) pl_12.1 pl_12.2.1 rfl rfl gc_X8_139 (by decide +kernel) ⟨rfl, rfl⟩ dX8_tell_30 ⟨by decide, by decide⟩ rfl rfl (Nat.le_of_ble_eq_true rfl) ?_
    intro r30c M30 hN
    replace h := hN
    clear hN
    refine g_pop C dX8_tell_33 rfl ?_
    refine g_aload_n C dX8_tell_34 rfl ?_
    refine cf_X8_12 C pl_0 dX8_tell_35 ?_
    refine cf_X8_284 C pl_1 dX8_tell_38 ?_
    refine g_callVi C (nargs := 0) (o := 12) (st := []) (m_X4_size h) pl_12.1 pl_12.2.1 rfl rfl gc_X8_143 (by decide +kernel) ⟨rfl, rfl⟩ dX8_tell_41 ⟨by decide, by decide⟩ rfl rfl (Nat.le_of_ble_eq_true rfl) ?_
    intro r41c M41 hN
    replace h := hN
    clear hN
    exact hR _ _ _ _ dX8_tell_44 rfl h
  · replace h := h.2 hc
    refine g_aload_n C dX8_tell_14 rfl ?_
    refine g_iconst C dX8_tell_15 ?_
    refine g_callVi C (nargs := 1) (o := 0) (st := []) (m_X8_refuse h) pl_0.1 pl_0.2.1 rfl rfl gc_X8_67 (by decide +kernel) ⟨rfl, rfl⟩ dX8_tell_16 ⟨by decide, by decide⟩ rfl rfl (Nat.le_of_ble_eq_true rfl) ?_
    intro r16c M16 hN
    replace h := hN
    clear hN
    exact hR _ _ _ _ dX8_tell_19 rfl h
def w_X8_check  (M : gSt) (k : Int → gSt → Prop) : Prop :=
  w_X2_find 41 1 M (fun M8 => w_X2_firstUnlike 41 12 M8 (fun r22c M22 => w_X4_clear 12 M22 (fun M33 => k (r22c + 1) M33)))
set_option maxHeartbeats 4000000 in
set_option maxRecDepth 100000 in
theorem m_X8_check {l : Launch} {D : va_G} {tys : List (ClassId × FieldType)} {ad : Nat → Nat} {cI cS : ClassId}  {M : gSt} {k : Int → gSt → Prop} (h : w_X8_check  M k) : MOi l yX8_check cX8_check 2 .int (rmR 7 169) D clC ((cI, .int) :: (cS, .object "OldBronze$Sheet") :: tys) (wC ad cI cS) tC zC [.ref (ad 0)] M k := by
  refine moi_intro (by decide +kernel) (Nat.le_of_ble_eq_true rfl) wc_609 ?_
  intro p e s m args below meth c A Q C hR
  unfold w_X8_check at h
  refine g_locals (lv' := [(0, .ref (ad 0))]) rfl ?_
  refine g_aload_n C dX8_check_0 rfl ?_
  refine cf_X8_29 C pl_0 dX8_check_1 ?_
  refine g_aload_n C dX8_check_4 rfl ?_
  refine cf_X8_12 C pl_0 dX8_check_5 ?_
  refine g_callVv C (nargs := 1) (o := 41) (st := []) (m_X2_find h) pl_41.1 pl_41.2.1 rfl rfl gc_X8_197 (by decide +kernel) ⟨rfl, rfl⟩ dX8_check_8 ⟨by decide, by decide⟩ rfl rfl (Nat.le_of_ble_eq_true rfl) ?_
  intro M8 hN
  replace h := hN
  clear hN
  refine g_aload_n C dX8_check_11 rfl ?_
  refine cf_X8_29 C pl_0 dX8_check_12 ?_
  refine g_aload_n C dX8_check_15 rfl ?_
  refine cf_X8_12 C pl_0 dX8_check_16 ?_
  refine cf_X8_284 C pl_1 dX8_check_19 ?_
  refine g_callVi C (nargs := 1) (o := 41) (st := []) (m_X2_firstUnlike h) pl_41.1 pl_41.2.1 rfl rfl gc_X8_287 (by decide +kernel) ⟨rfl, rfl⟩ dX8_check_22 ⟨by decide, by decide⟩ rfl rfl (Nat.le_of_ble_eq_true rfl) ?_
  intro r22c M22 hN
  replace h := hN
  clear hN
  refine g_istore_n C dX8_check_25 (by decide) rfl ?_
  refine g_locals (lv' := [(0, .ref (ad 0)), (1, iv r22c)]) rfl ?_
  refine g_aload_n C dX8_check_26 rfl ?_
  refine cf_X8_12 C pl_0 dX8_check_27 ?_
  refine cf_X8_284 C pl_1 dX8_check_30 ?_
  refine g_callVv C (nargs := 0) (o := 12) (st := []) (m_X4_clear h) pl_12.1 pl_12.2.1 rfl rfl gc_X8_150 (by decide +kernel) ⟨rfl, rfl⟩ dX8_check_33 ⟨by decide, by decide⟩ rfl rfl (Nat.le_of_ble_eq_true rfl) ?_
  intro M33 hN
  replace h := hN
  clear hN
  refine g_iload_n C dX8_check_36 rfl ?_
  refine g_iconst C dX8_check_37 ?_
  refine g_iadd C dX8_check_38 ?_
  exact hR _ _ _ _ dX8_check_39 rfl h
def w_X8_count (a1 : Int) (M : gSt) (k : Int → gSt → Prop) : Prop :=
  
  (wrap a1 = 0 →
    w_X0_size 2 M (fun r67c M67 => k r67c M67)) ∧
  (wrap a1 = 1 →
    w_X0_firstsThatCount 2 M (fun r78c M78 => k r78c M78)) ∧
  (wrap a1 = 2 →
    w_X4_size 6 M (fun r89c M89 => k r89c M89)) ∧
  (wrap a1 = 3 →
    w_X4_size 8 M (fun r100c M100 => k r100c M100)) ∧
  (wrap a1 = 4 →
    w_X4_size 10 M (fun r111c M111 => k r111c M111)) ∧
  (wrap a1 = 5 →
    w_X0_allGrams 2 M (fun r122c M122 => k r122c M122)) ∧
  (wrap a1 = 6 →
    w_X0_yearsSoFar 2 M (fun r133c M133 => k r133c M133)) ∧
  (wrap a1 = 7 →
    w_X4_size 4 M (fun r144c M144 => k r144c M144)) ∧
  (wrap a1 = 8 →
    w_X4_size 12 M (fun r155c M155 => k r155c M155)) ∧
  (wrap a1 = 9 →
    w_X6_trace 52 M (fun r163c M163 => ∃ q163 : Nat, r163c = some q163 ∧ (w_X4_size q163 M163 (fun r166c M166 => k r166c M166)))) ∧
  (wrap a1 = 10 →
    w_X0_lastDraw 2 M (fun r177c M177 => k r177c M177)) ∧
  (¬ wrap a1 = 0 ∧ ¬ wrap a1 = 1 ∧ ¬ wrap a1 = 2 ∧ ¬ wrap a1 = 3 ∧ ¬ wrap a1 = 4 ∧ ¬ wrap a1 = 5 ∧ ¬ wrap a1 = 6 ∧ ¬ wrap a1 = 7 ∧ ¬ wrap a1 = 8 ∧ ¬ wrap a1 = 9 ∧ ¬ wrap a1 = 10 →
    w_X8_refuse 1 M (fun r183c M183 => k r183c M183))
set_option maxHeartbeats 4000000 in
set_option maxRecDepth 100000 in
theorem m_X8_count {l : Launch} {D : va_G} {tys : List (ClassId × FieldType)} {ad : Nat → Nat} {cI cS : ClassId} {a1 : Int} {M : gSt} {k : Int → gSt → Prop} (h : w_X8_count a1 M k) : MOi l yX8_count cX8_count 2 .int (rmR 3 67) D clC ((cI, .int) :: (cS, .object "OldBronze$Sheet") :: tys) (wC ad cI cS) tC zC [.ref (ad 0), iv a1] M k := by
  refine moi_intro (by decide +kernel) (Nat.le_of_ble_eq_true rfl) wc_616 ?_
  intro p e s m args below meth c A Q C hR
  unfold w_X8_count at h
  refine g_locals (lv' := [(0, .ref (ad 0)), (1, iv a1)]) rfl ?_
  refine g_iload_n C dX8_count_0 rfl ?_
  by_cases hc0 : wrap a1 = 0
  · refine g_tableIn C 60 dX8_count_1 (by omega) (by omega) (by rw [hc0] <;> rfl) (by decide) ?_
    replace h := h.1 hc0
    refine g_aload_n C dX8_count_60 rfl ?_
    refine cf_X8_12 C pl_0 dX8_count_61 ?_
    refine cf_X8_71 C pl_1 dX8_count_64 ?_
    refine g_callVi C (nargs := 0) (o := 2) (st := []) (m_X0_size h) pl_2.1 pl_2.2.1 rfl rfl gc_X8_221 (by decide +kernel) ⟨rfl, rfl⟩ dX8_count_67 ⟨by decide, by decide⟩ rfl rfl (Nat.le_of_ble_eq_true rfl) ?_
    intro r67c M67 hN
    replace h := hN
    clear hN
    exact hR _ _ _ _ dX8_count_70 rfl h
  · by_cases hc1 : wrap a1 = 1
    · refine g_tableIn C 71 dX8_count_1 (by omega) (by omega) (by rw [hc1] <;> rfl) (by decide) ?_
      replace h := h.2.1 hc1
      refine g_aload_n C dX8_count_71 rfl ?_
      refine cf_X8_12 C pl_0 dX8_count_72 ?_
      refine cf_X8_71 C pl_1 dX8_count_75 ?_
      refine g_callVi C (nargs := 0) (o := 2) (st := []) (m_X0_firstsThatCount h) pl_2.1 pl_2.2.1 rfl rfl gc_X8_291 (by decide +kernel) ⟨rfl, rfl⟩ dX8_count_78 ⟨by decide, by decide⟩ rfl rfl (Nat.le_of_ble_eq_true rfl) ?_
      intro r78c M78 hN
      replace h := hN
      clear hN
      exact hR _ _ _ _ dX8_count_81 rfl h
    · by_cases hc2 : wrap a1 = 2
      · refine g_tableIn C 82 dX8_count_1 (by omega) (by omega) (by rw [hc2] <;> rfl) (by decide) ?_
        replace h := h.2.2.1 hc2
        refine g_aload_n C dX8_count_82 rfl ?_
        refine cf_X8_12 C pl_0 dX8_count_83 ?_
        refine cf_X8_162 C pl_1 dX8_count_86 ?_
        refine g_callVi C (nargs := 0) (o := 6) (st := []) (m_X4_size h) pl_6.1 pl_6.2.1 rfl rfl gc_X8_143 (by decide +kernel) ⟨rfl, rfl⟩ dX8_count_89 ⟨by decide, by decide⟩ rfl rfl (Nat.le_of_ble_eq_true rfl) ?_
        intro r89c M89 hN
        replace h := hN
        clear hN
        exact hR _ _ _ _ dX8_count_92 rfl h
      · by_cases hc3 : wrap a1 = 3
        · refine g_tableIn C 93 dX8_count_1 (by omega) (by omega) (by rw [hc3] <;> rfl) (by decide) ?_
          replace h := h.2.2.2.1 hc3
          refine g_aload_n C dX8_count_93 rfl ?_
          refine cf_X8_12 C pl_0 dX8_count_94 ?_
          refine cf_X8_181 C pl_1 dX8_count_97 ?_
          refine g_callVi C (nargs := 0) (o := 8) (st := []) (m_X4_size h) pl_8.1 pl_8.2.1 rfl rfl gc_X8_143 (by decide +kernel) ⟨rfl, rfl⟩ dX8_count_100 ⟨by decide, by decide⟩ rfl rfl (Nat.le_of_ble_eq_true rfl) ?_
          intro r100c M100 hN
          replace h := hN
          clear hN
          exact hR _ _ _ _ dX8_count_103 rfl h
        · by_cases hc4 : wrap a1 = 4
          · refine g_tableIn C 104 dX8_count_1 (by omega) (by omega) (by rw [hc4] <;> rfl) (by decide) ?_
            replace h := h.2.2.2.2.1 hc4
            refine g_aload_n C dX8_count_104 rfl ?_
            refine cf_X8_12 C pl_0 dX8_count_105 ?_
            refine cf_X8_184 C pl_1 dX8_count_108 ?_
            refine g_callVi C (nargs := 0) (o := 10) (st := []) (m_X4_size h) pl_10.1 pl_10.2.1 rfl rfl gc_X8_143 (by decide +kernel) ⟨rfl, rfl⟩ dX8_count_111 ⟨by decide, by decide⟩ rfl rfl (Nat.le_of_ble_eq_true rfl) ?_
            intro r111c M111 hN
            replace h := hN
            clear hN
            exact hR _ _ _ _ dX8_count_114 rfl h
          · by_cases hc5 : wrap a1 = 5
            · refine g_tableIn C 115 dX8_count_1 (by omega) (by omega) (by rw [hc5] <;> rfl) (by decide) ?_
              replace h := h.2.2.2.2.2.1 hc5
              refine g_aload_n C dX8_count_115 rfl ?_
              refine cf_X8_12 C pl_0 dX8_count_116 ?_
              refine cf_X8_71 C pl_1 dX8_count_119 ?_
              refine g_callVi C (nargs := 0) (o := 2) (st := []) (m_X0_allGrams h) pl_2.1 pl_2.2.1 rfl rfl gc_X8_122 (by decide +kernel) ⟨rfl, rfl⟩ dX8_count_122 ⟨by decide, by decide⟩ rfl rfl (Nat.le_of_ble_eq_true rfl) ?_
              intro r122c M122 hN
              replace h := hN
              clear hN
              exact hR _ _ _ _ dX8_count_125 rfl h
            · by_cases hc6 : wrap a1 = 6
              · refine g_tableIn C 126 dX8_count_1 (by omega) (by omega) (by rw [hc6] <;> rfl) (by decide) ?_
                replace h := h.2.2.2.2.2.2.1 hc6
                refine g_aload_n C dX8_count_126 rfl ?_
                refine cf_X8_12 C pl_0 dX8_count_127 ?_
                refine cf_X8_71 C pl_1 dX8_count_130 ?_
                refine g_callVi C (nargs := 0) (o := 2) (st := []) (m_X0_yearsSoFar h) pl_2.1 pl_2.2.1 rfl rfl gc_X8_116 (by decide +kernel) ⟨rfl, rfl⟩ dX8_count_133 ⟨by decide, by decide⟩ rfl rfl (Nat.le_of_ble_eq_true rfl) ?_
                intro r133c M133 hN
                replace h := hN
                clear hN
                exact hR _ _ _ _ dX8_count_136 rfl h
              · by_cases hc7 : wrap a1 = 7
                · refine g_tableIn C 137 dX8_count_1 (by omega) (by omega) (by rw [hc7] <;> rfl) (by decide) ?_
                  replace h := h.2.2.2.2.2.2.2.1 hc7
                  refine g_aload_n C dX8_count_137 rfl ?_
                  refine cf_X8_12 C pl_0 dX8_count_138 ?_
                  refine cf_X8_132 C pl_1 dX8_count_141 ?_
                  refine g_callVi C (nargs := 0) (o := 4) (st := []) (m_X4_size h) pl_4.1 pl_4.2.1 rfl rfl gc_X8_143 (by decide +kernel) ⟨rfl, rfl⟩ dX8_count_144 ⟨by decide, by decide⟩ rfl rfl (Nat.le_of_ble_eq_true rfl) ?_
                  intro r144c M144 hN
                  replace h := hN
                  clear hN
                  exact hR _ _ _ _ dX8_count_147 rfl h
                · by_cases hc8 : wrap a1 = 8
                  · refine g_tableIn C 148 dX8_count_1 (by omega) (by omega) (by rw [hc8] <;> rfl) (by decide) ?_
                    replace h := h.2.2.2.2.2.2.2.2.1 hc8
                    refine g_aload_n C dX8_count_148 rfl ?_
                    refine cf_X8_12 C pl_0 dX8_count_149 ?_
                    refine cf_X8_284 C pl_1 dX8_count_152 ?_
                    refine g_callVi C (nargs := 0) (o := 12) (st := []) (m_X4_size h) pl_12.1 pl_12.2.1 rfl rfl gc_X8_143 (by decide +kernel) ⟨rfl, rfl⟩ dX8_count_155 ⟨by decide, by decide⟩ rfl rfl (Nat.le_of_ble_eq_true rfl) ?_
                    intro r155c M155 hN
                    replace h := hN
                    clear hN
                    exact hR _ _ _ _ dX8_count_158 rfl h
                  · by_cases hc9 : wrap a1 = 9
                    · refine g_tableIn C 159 dX8_count_1 (by omega) (by omega) (by rw [hc9] <;> rfl) (by decide) ?_
                      replace h := h.2.2.2.2.2.2.2.2.2.1 hc9
                      refine g_aload_n C dX8_count_159 rfl ?_
                      refine cf_X8_43 C pl_0 dX8_count_160 ?_
                      refine g_callVr C (nargs := 0) (o := 52) (st := []) (m_X6_trace h) pl_52.1 pl_52.2 rfl rfl gc_X8_246 (by decide +kernel) ⟨rfl, rfl⟩ dX8_count_163 ⟨by decide, by decide⟩ rfl rfl (Nat.le_of_ble_eq_true rfl) ?_
                      intro r163c M163 hN
                      replace h := hN
                      clear hN
                      obtain ⟨q163, hq163, h⟩ := h
                      subst hq163
                      refine g_callVi C (nargs := 0) (o := q163) (st := []) (m_X4_size h) (show isRows q163 from h.1).1 (show isRows q163 from h.1).2.1 rfl rfl gc_X8_143 (by decide +kernel) ⟨rfl, rfl⟩ dX8_count_166 ⟨by decide, by decide⟩ rfl rfl (Nat.le_of_ble_eq_true rfl) ?_
                      intro r166c M166 hN
                      replace h := hN
                      clear hN
                      exact hR _ _ _ _ dX8_count_169 rfl h
                    · by_cases hc10 : wrap a1 = 10
                      · refine g_tableIn C 170 dX8_count_1 (by omega) (by omega) (by rw [hc10] <;> rfl) (by decide) ?_
                        replace h := h.2.2.2.2.2.2.2.2.2.2.1 hc10
                        refine g_aload_n C dX8_count_170 rfl ?_
                        refine cf_X8_12 C pl_0 dX8_count_171 ?_
                        refine cf_X8_71 C pl_1 dX8_count_174 ?_
                        refine g_callVi C (nargs := 0) (o := 2) (st := []) (m_X0_lastDraw h) pl_2.1 pl_2.2.1 rfl rfl gc_X8_294 (by decide +kernel) ⟨rfl, rfl⟩ dX8_count_177 ⟨by decide, by decide⟩ rfl rfl (Nat.le_of_ble_eq_true rfl) ?_
                        intro r177c M177 hN
                        replace h := hN
                        clear hN
                        exact hR _ _ _ _ dX8_count_180 rfl h
                      · refine g_tableOut C 181 dX8_count_1 (by omega) (by decide) ?_
                        replace h := h.2.2.2.2.2.2.2.2.2.2.2 ⟨hc0, hc1, hc2, hc3, hc4, hc5, hc6, hc7, hc8, hc9, hc10⟩
                        refine g_aload_n C dX8_count_181 rfl ?_
                        refine g_iconst C dX8_count_182 ?_
                        refine g_callVi C (nargs := 1) (o := 0) (st := []) (m_X8_refuse h) pl_0.1 pl_0.2.1 rfl rfl gc_X8_67 (by decide +kernel) ⟨rfl, rfl⟩ dX8_count_183 ⟨by decide, by decide⟩ rfl rfl (Nat.le_of_ble_eq_true rfl) ?_
                        intro r183c M183 hN
                        replace h := hN
                        clear hN
                        exact hR _ _ _ _ dX8_count_186 rfl h
end
section
def wB_X8_told_23 (a1 : Int) (k : Int → gSt → Prop)   (M : gSt) : Prop :=
w_X8_refuse 1 M (fun r25c M25 => k r25c M25)
def w_X8_told (a1 : Int) (M : gSt) (k : Int → gSt → Prop) : Prop :=
  
  (wrap a1 < 1 →
    wB_X8_told_23 a1 k   M) ∧
  (1 ≤ wrap a1 →

    (7 ≤ wrap a1 →
      wB_X8_told_23 a1 k   M) ∧
    (wrap a1 < 7 →
      ((0 : Int) ≤ a1 ∧ a1 < 7) ∧ (k (M 64 a1) M)))
set_option maxHeartbeats 4000000 in
set_option maxRecDepth 100000 in
theorem m_X8_told {l : Launch} {D : va_G} {tys : List (ClassId × FieldType)} {ad : Nat → Nat} {cI cS : ClassId} {a1 : Int} {M : gSt} {k : Int → gSt → Prop} (h : w_X8_told a1 M k) : MOi l yX8_told cX8_told 2 .int (rmR 1 21) D clC ((cI, .int) :: (cS, .object "OldBronze$Sheet") :: tys) (wC ad cI cS) tC zC [.ref (ad 0), iv a1] M k := by
  refine moi_intro (by decide +kernel) (Nat.le_of_ble_eq_true rfl) wc_617 ?_
  intro p e s m args below meth c A Q C hR
  unfold w_X8_told at h
  have pB23 : ∀    (M : gSt), wB_X8_told_23 a1 k   M → gG p l e (rmR 1 21) s m args below meth c Q D clC A (wC ad cI cS) 2 23 [(0, .ref (ad 0))] [] M := by
    intro    M h
    unfold wB_X8_told_23 at h
    refine g_aload_n C dX8_told_23 rfl ?_
    refine g_iconst C dX8_told_24 ?_
    refine g_callVi C (nargs := 1) (o := 0) (st := []) (m_X8_refuse h) pl_0.1 pl_0.2.1 rfl rfl gc_X8_67 (by decide +kernel) ⟨rfl, rfl⟩ dX8_told_25 ⟨by decide, by decide⟩ rfl rfl (Nat.le_of_ble_eq_true rfl) ?_
    intro r25c M25 hN
    replace h := hN
    clear hN
    exact hR _ _ _ _ dX8_told_28 rfl h
  refine g_locals (lv' := [(0, .ref (ad 0)), (1, iv a1)]) rfl ?_
  refine g_iload_n C dX8_told_0 rfl ?_
  refine g_iconst C dX8_told_1 ?_
  refine g_icmp_lt C 23 dX8_told_2 (by decide) (fun hc => ?_) (fun hc => ?_)
  · replace h := h.1 hc
    refine g_locals (lv' := [(0, .ref (ad 0))]) rfl ?_
    exact pB23  _ h
  · replace h := h.2 hc
    refine g_iload_n C dX8_told_5 rfl ?_
    refine g_aload_n C dX8_told_6 rfl ?_
    refine cf_X8_53 C pl_0 dX8_told_7 ?_
    refine g_alen C (n := 7) dX8_told_10 pl_64.1 pl_64.2.1 ?_
    refine g_top (y := 7) rfl ?_
    refine g_icmp_ge C 23 dX8_told_11 (by decide) (fun hc => ?_) (fun hc => ?_)
    · replace h := h.1 hc
      refine g_locals (lv' := [(0, .ref (ad 0))]) rfl ?_
      exact pB23  _ h
    · replace h := h.2 hc
      refine g_aload_n C dX8_told_14 rfl ?_
      refine cf_X8_53 C pl_0 dX8_told_15 ?_
      refine g_iload_n C dX8_told_18 rfl ?_
      refine g_iald C (n := 7) dX8_told_19 pl_64.1 pl_64.2 h.1 ?_
      replace h := h.2
      refine g_goto C 28 dX8_told_20 (by decide) ?_
      exact hR _ _ _ _ dX8_told_28 rfl h
end
