def wB_X2_find_53 (o : Nat) (a1 : Nat) (k : gSt → Prop) (r9 : Int → gSt → Prop) (X9_59 : gSt → Prop) (v2 : Int) (M : gSt) : Prop :=
r9 (v2 + 1) M
def wC_X2_find_9 (o : Nat) (a1 : Nat) (k : gSt → Prop) (r9 : Int → gSt → Prop) (X9_59 : gSt → Prop) (v2 : Int) (M : gSt) : Prop :=
w_X4_size (a1 + 7) M (fun r15c M15 => 
  (wrap (xshl 1 r15c) ≤ wrap v2 →
    X9_59  M15) ∧
  (wrap v2 < wrap (xshl 1 r15c) →
    w_X2_follow o a1 v2 M15 (fun M25 => w_X2_isSo o (a1 + 9) M25 (fun r33c M33 => 
    (wrap r33c = 0 →
      wB_X2_find_53 o a1 k r9 X9_59 v2 M33) ∧
    (¬ wrap r33c = 0 →
      w_X4_append (o + 3) v2 0 0 M33 (fun r47c M47 => w_X2_noteGrams o r47c M47 (fun M50 => wB_X2_find_53 o a1 k r9 X9_59 v2 M50)))))))
def wL_X2_find_9 (o : Nat) (a1 : Nat) (k : gSt → Prop)  (X9_59 : gSt → Prop) : Nat → Int → gSt → Prop
  | 0 => fun _ _ => False
  | n + 1 => fun v2 M => wC_X2_find_9 o a1 k  (wL_X2_find_9 o a1 k  X9_59 n) X9_59 v2 M
def w_X2_find (o : Nat) (a1 : Nat) (M : gSt) (k : gSt → Prop) : Prop :=
  (isHistories o) ∧ ((isForge a1) ∧ (w_X4_clear (o + 3) M (fun M4 => ∃ n, wL_X2_find_9 o a1 k  (fun  M9 =>
    k M9) n 0 M4)))
set_option maxHeartbeats 4000000 in
set_option maxRecDepth 100000 in
theorem m_X2_find {l : Launch} {D : va_G} {tys : List (ClassId × FieldType)} {ad : Nat → Nat} {cI cS : ClassId} {o : Nat} {a1 : Nat} {M : gSt} {k : gSt → Prop} (h : w_X2_find o a1 M k) : MOv l yX2_find cX2_find 3 (rmR 6 147) D clC ((cI, .int) :: (cS, .object "OldBronze$Sheet") :: tys) (wC ad cI cS) tC zC [.ref (ad o), .ref (ad a1)] M k := by
  refine mov_intro (by decide +kernel) (Nat.le_of_ble_eq_true rfl) wc_244 ?_
  intro p e s m args below meth c A Q C hR
  unfold w_X2_find at h
  obtain ⟨h_o, h_a1, h⟩ := h
  have pB53 : ∀ (r9 : Int → gSt → Prop) (X9_59 : gSt → Prop) (hr9 : ∀ (v2 : Int) (M : gSt), r9 v2 M → gG p l e (rmR 6 147) s m args below meth c Q D clC A (wC ad cI cS) 3 9 [(0, .ref (ad o)), (1, .ref (ad a1)), (2, iv v2)] [] M) (hX9_59 : ∀  (M : gSt), X9_59  M → gG p l e (rmR 6 147) s m args below meth c Q D clC A (wC ad cI cS) 3 59 [] [] M) (v2 : Int) (M : gSt), wB_X2_find_53 o a1 k r9 X9_59 v2 M → gG p l e (rmR 6 147) s m args below meth c Q D clC A (wC ad cI cS) 3 53 [(0, .ref (ad o)), (1, .ref (ad a1)), (2, iv v2)] [] M := by
    intro r9 X9_59 hr9 hX9_59 v2 M h
    unfold wB_X2_find_53 at h
    refine g_iinc C dX2_find_53 rfl (by decide) rfl ?_
    refine g_locals (lv' := [(0, .ref (ad o)), (1, .ref (ad a1)), (2, iv (v2 + 1))]) rfl ?_
    refine g_goto C 9 dX2_find_56 (by decide) ?_
    refine g_locals (lv' := [(0, .ref (ad o)), (1, .ref (ad a1)), (2, iv (v2 + 1))]) rfl ?_
    exact hr9 _  _ h
  have pC9 : ∀ (r9 : Int → gSt → Prop) (X9_59 : gSt → Prop) (hr9 : ∀ (v2 : Int) (M : gSt), r9 v2 M → gG p l e (rmR 6 147) s m args below meth c Q D clC A (wC ad cI cS) 3 9 [(0, .ref (ad o)), (1, .ref (ad a1)), (2, iv v2)] [] M) (hX9_59 : ∀  (M : gSt), X9_59  M → gG p l e (rmR 6 147) s m args below meth c Q D clC A (wC ad cI cS) 3 59 [] [] M) (v2 : Int) (M : gSt), wC_X2_find_9 o a1 k r9 X9_59 v2 M → gG p l e (rmR 6 147) s m args below meth c Q D clC A (wC ad cI cS) 3 9 [(0, .ref (ad o)), (1, .ref (ad a1)), (2, iv v2)] [] M := by
    intro r9 X9_59 hr9 hX9_59 v2 M h
    unfold wC_X2_find_9 at h
    refine g_iload_n C dX2_find_9 rfl ?_
    refine g_iconst C dX2_find_10 ?_
    refine g_aload_n C dX2_find_11 rfl ?_
    refine cf_X2_40 C h_a1 dX2_find_12 ?_
    refine g_callVi C (nargs := 0) (o := (a1 + 7)) (st := [iv 1, iv v2]) (m_X4_size h) (show isRows (a1 + 7) from h.1).1 (show isRows (a1 + 7) from h.1).2.1 rfl rfl gc_X2_43 (by decide +kernel) ⟨rfl, rfl⟩ dX2_find_15 ⟨by decide, by decide⟩ rfl rfl (Nat.le_of_ble_eq_true rfl) ?_
    intro r15c M15 hN
    replace h := hN
    clear hN
    refine g_ishl C dX2_find_18 ?_
    refine g_icmp_ge C 59 dX2_find_19 (by decide) (fun hc => ?_) (fun hc => ?_)
    · replace h := h.1 hc
      refine g_locals (lv' := []) rfl ?_
      exact hX9_59  _ h
    · replace h := h.2 hc
      refine g_aload_n C dX2_find_22 rfl ?_
      refine g_aload_n C dX2_find_23 rfl ?_
      refine g_iload_n C dX2_find_24 rfl ?_
      refine g_callVv C (nargs := 2) (o := o) (st := []) (m_X2_follow h) (show isHistories o from h.1).1 (show isHistories o from h.1).2.1 rfl rfl gc_X2_61 (by decide +kernel) ⟨rfl, rfl⟩ dX2_find_25 ⟨by decide, by decide⟩ rfl rfl (Nat.le_of_ble_eq_true rfl) ?_
      intro M25 hN
      replace h := hN
      clear hN
      refine g_aload_n C dX2_find_28 rfl ?_
      refine g_aload_n C dX2_find_29 rfl ?_
      refine cf_X2_65 C h_a1 dX2_find_30 ?_
      refine g_callVi C (nargs := 1) (o := o) (st := []) (m_X2_isSo h) (show isHistories o from h.1).1 (show isHistories o from h.1).2.1 rfl rfl gc_X2_68 (by decide +kernel) ⟨rfl, rfl⟩ dX2_find_33 ⟨by decide, by decide⟩ rfl rfl (Nat.le_of_ble_eq_true rfl) ?_
      intro r33c M33 hN
      replace h := hN
      clear hN
      refine g_if_eq C 53 dX2_find_36 (by decide) (fun hc => ?_) (fun hc => ?_)
      · replace h := h.1 hc
        refine g_locals (lv' := [(0, .ref (ad o)), (1, .ref (ad a1)), (2, iv v2)]) rfl ?_
        exact pB53 r9 X9_59 hr9 hX9_59 _ _ h
      · replace h := h.2 hc
        refine g_aload_n C dX2_find_39 rfl ?_
        refine g_aload_n C dX2_find_40 rfl ?_
        refine cf_X2_23 C h_o dX2_find_41 ?_
        refine g_iload_n C dX2_find_44 rfl ?_
        refine g_iconst C dX2_find_45 ?_
        refine g_iconst C dX2_find_46 ?_
        refine g_callVi C (nargs := 3) (o := (o + 3)) (st := [.ref (ad o)]) (m_X4_append h) (show isRows (o + 3) from h.1).1 (show isRows (o + 3) from h.1).2.1 rfl rfl gc_X2_72 (by decide +kernel) ⟨rfl, rfl⟩ dX2_find_47 ⟨by decide, by decide⟩ rfl rfl (Nat.le_of_ble_eq_true rfl) ?_
        intro r47c M47 hN
        replace h := hN
        clear hN
        refine g_callVv C (nargs := 1) (o := o) (st := []) (m_X2_noteGrams h) (show isHistories o from h.1).1 (show isHistories o from h.1).2.1 rfl rfl gc_X2_76 (by decide +kernel) ⟨rfl, rfl⟩ dX2_find_50 ⟨by decide, by decide⟩ rfl rfl (Nat.le_of_ble_eq_true rfl) ?_
        intro M50 hN
        replace h := hN
        clear hN
        refine g_locals (lv' := [(0, .ref (ad o)), (1, .ref (ad a1)), (2, iv v2)]) rfl ?_
        exact pB53 r9 X9_59 hr9 hX9_59 _ _ h
  have pL9 : ∀  (X9_59 : gSt → Prop) (hX9_59 : ∀  (M : gSt), X9_59  M → gG p l e (rmR 6 147) s m args below meth c Q D clC A (wC ad cI cS) 3 59 [] [] M) (n : Nat) (v2 : Int) (M : gSt), wL_X2_find_9 o a1 k  X9_59 n v2 M → gG p l e (rmR 6 147) s m args below meth c Q D clC A (wC ad cI cS) 3 9 [(0, .ref (ad o)), (1, .ref (ad a1)), (2, iv v2)] [] M := by
    intro  X9_59 hX9_59 n
    induction n with
    | zero => intro v2 M h; exact h.elim
    | succ n ih =>
      intro v2 M h
      exact pC9  (wL_X2_find_9 o a1 k  X9_59 n) X9_59 ih hX9_59 v2 M h
  refine g_locals (lv' := [(0, .ref (ad o)), (1, .ref (ad a1))]) rfl ?_
  refine g_aload_n C dX2_find_0 rfl ?_
  refine cf_X2_23 C h_o dX2_find_1 ?_
  refine g_callVv C (nargs := 0) (o := (o + 3)) (st := []) (m_X4_clear h) (show isRows (o + 3) from h.1).1 (show isRows (o + 3) from h.1).2.1 rfl rfl gc_X2_58 (by decide +kernel) ⟨rfl, rfl⟩ dX2_find_4 ⟨by decide, by decide⟩ rfl rfl (Nat.le_of_ble_eq_true rfl) ?_
  intro M4 hN
  replace h := hN
  clear hN
  refine g_iconst C dX2_find_7 ?_
  refine g_istore_n C dX2_find_8 (by decide) rfl ?_
  refine g_locals (lv' := [(0, .ref (ad o)), (1, .ref (ad a1)), (2, iv 0)]) rfl ?_
  refine g_locals (lv' := [(0, .ref (ad o)), (1, .ref (ad a1)), (2, iv 0)]) rfl ?_
  obtain ⟨n, h⟩ := h
  refine pL9 _ ?_ n _ _ h
  · intro  M9 hN
    replace h := hN
    clear hN
    exact hR _ _ _ dX2_find_59 h
def w_X2_notedGrams (o : Nat) (a1 : Int) (a2 : Int) (M : gSt) (k : Int → gSt → Prop) : Prop :=
  (isHistories o) ∧ (∀ x3_6 : Int, x3_6 = (a1 * 12) + a2 → (
  (wrap x3_6 < 0 →
    k 0 M) ∧
  (0 ≤ wrap x3_6 →

    (wrap (lenC (o + 5) : Int) ≤ wrap x3_6 →
      k 0 M) ∧
    (wrap x3_6 < wrap (lenC (o + 5) : Int) →
      ((0 : Int) ≤ x3_6 ∧ x3_6 < lenC (o + 5)) ∧ (k (M (o + 5) x3_6) M)))))
set_option maxHeartbeats 4000000 in
set_option maxRecDepth 100000 in
theorem m_X2_notedGrams {l : Launch} {D : va_G} {tys : List (ClassId × FieldType)} {ad : Nat → Nat} {cI cS : ClassId} {o : Nat} {a1 : Int} {a2 : Int} {M : gSt} {k : Int → gSt → Prop} (h : w_X2_notedGrams o a1 a2 M k) : MOi l yX2_notedGrams cX2_notedGrams 4 .int (rmR 0 0) D clC ((cI, .int) :: (cS, .object "OldBronze$Sheet") :: tys) (wC ad cI cS) tC zC [.ref (ad o), iv a1, iv a2] M k := by
  refine moi_intro (by decide +kernel) (Nat.le_of_ble_eq_true rfl) wc_245 ?_
  intro p e s m args below meth c A Q C hR
  unfold w_X2_notedGrams at h
  obtain ⟨h_o, h⟩ := h
  refine g_locals (lv' := [(0, .ref (ad o)), (1, iv a1), (2, iv a2)]) rfl ?_
  refine g_iload_n C dX2_notedGrams_0 rfl ?_
  refine g_bipush C dX2_notedGrams_1 rfl ?_
  refine g_imul C dX2_notedGrams_3 ?_
  refine g_iload_n C dX2_notedGrams_4 rfl ?_
  refine g_iadd C dX2_notedGrams_5 ?_
  refine g_name (fun x3_6 hx3_6 => ?_)
  replace h := h x3_6 hx3_6
  refine g_istore_n C dX2_notedGrams_6 (by decide) rfl ?_
  refine g_locals (lv' := [(0, .ref (ad o)), (1, iv a1), (2, iv a2), (3, iv x3_6)]) rfl ?_
  refine g_iload_n C dX2_notedGrams_7 rfl ?_
  refine g_if_lt C 29 dX2_notedGrams_8 (by decide) (fun hc => ?_) (fun hc => ?_)
  · replace h := h.1 hc
    refine g_iconst C dX2_notedGrams_29 ?_
    exact hR _ _ _ _ dX2_notedGrams_30 rfl h
  · replace h := h.2 hc
    refine g_iload_n C dX2_notedGrams_11 rfl ?_
    refine g_aload_n C dX2_notedGrams_12 rfl ?_
    refine cf_X2_27 C h_o dX2_notedGrams_13 ?_
    refine g_alen C dX2_notedGrams_16 h_o.2.2.1 h_o.2.2.2.1 ?_
    refine g_icmp_ge C 29 dX2_notedGrams_17 (by decide) (fun hc => ?_) (fun hc => ?_)
    · replace h := h.1 hc
      refine g_iconst C dX2_notedGrams_29 ?_
      exact hR _ _ _ _ dX2_notedGrams_30 rfl h
    · replace h := h.2 hc
      refine g_aload_n C dX2_notedGrams_20 rfl ?_
      refine cf_X2_27 C h_o dX2_notedGrams_21 ?_
      refine g_iload_n C dX2_notedGrams_24 rfl ?_
      refine g_iald C dX2_notedGrams_25 h_o.2.2.1 h_o.2.2.2 h.1 ?_
      replace h := h.2
      refine g_goto C 30 dX2_notedGrams_26 (by decide) ?_
      exact hR _ _ _ _ dX2_notedGrams_30 rfl h
def w_X2_size (o : Nat) (M : gSt) (k : Int → gSt → Prop) : Prop :=
  (isHistories o) ∧ (w_X4_size (o + 3) M (fun r4c M4 => k r4c M4))
set_option maxHeartbeats 4000000 in
set_option maxRecDepth 100000 in
theorem m_X2_size {l : Launch} {D : va_G} {tys : List (ClassId × FieldType)} {ad : Nat → Nat} {cI cS : ClassId} {o : Nat} {M : gSt} {k : Int → gSt → Prop} (h : w_X2_size o M k) : MOi l yX2_size cX2_size 1 .int (rmR 1 20) D clC ((cI, .int) :: (cS, .object "OldBronze$Sheet") :: tys) (wC ad cI cS) tC zC [.ref (ad o)] M k := by
  refine moi_intro (by decide +kernel) (Nat.le_of_ble_eq_true rfl) wc_246 ?_
  intro p e s m args below meth c A Q C hR
  unfold w_X2_size at h
  obtain ⟨h_o, h⟩ := h
  refine g_locals (lv' := [(0, .ref (ad o))]) rfl ?_
  refine g_aload_n C dX2_size_0 rfl ?_
  refine cf_X2_23 C h_o dX2_size_1 ?_
  refine g_callVi C (nargs := 0) (o := (o + 3)) (st := []) (m_X4_size h) (show isRows (o + 3) from h.1).1 (show isRows (o + 3) from h.1).2.1 rfl rfl gc_X2_43 (by decide +kernel) ⟨rfl, rfl⟩ dX2_size_4 ⟨by decide, by decide⟩ rfl rfl (Nat.le_of_ble_eq_true rfl) ?_
  intro r4c M4 hN
  replace h := hN
  clear hN
  exact hR _ _ _ _ dX2_size_7 rfl h
def w_X2_fitting (o : Nat) (a1 : Int) (M : gSt) (k : Int → gSt → Prop) : Prop :=
  (isHistories o) ∧ (w_X4_at (o + 3) a1 0 M (fun r6c M6 => k r6c M6))
set_option maxHeartbeats 4000000 in
set_option maxRecDepth 100000 in
theorem m_X2_fitting {l : Launch} {D : va_G} {tys : List (ClassId × FieldType)} {ad : Nat → Nat} {cI cS : ClassId} {o : Nat} {a1 : Int} {M : gSt} {k : Int → gSt → Prop} (h : w_X2_fitting o a1 M k) : MOi l yX2_fitting cX2_fitting 2 .int (rmR 1 24) D clC ((cI, .int) :: (cS, .object "OldBronze$Sheet") :: tys) (wC ad cI cS) tC zC [.ref (ad o), iv a1] M k := by
  refine moi_intro (by decide +kernel) (Nat.le_of_ble_eq_true rfl) wc_247 ?_
  intro p e s m args below meth c A Q C hR
  unfold w_X2_fitting at h
  obtain ⟨h_o, h⟩ := h
  refine g_locals (lv' := [(0, .ref (ad o)), (1, iv a1)]) rfl ?_
  refine g_aload_n C dX2_fitting_0 rfl ?_
  refine cf_X2_23 C h_o dX2_fitting_1 ?_
  refine g_iload_n C dX2_fitting_4 rfl ?_
  refine g_iconst C dX2_fitting_5 ?_
  refine g_callVi C (nargs := 2) (o := (o + 3)) (st := []) (m_X4_at h) (show isRows (o + 3) from h.1).1 (show isRows (o + 3) from h.1).2.1 rfl rfl gc_X2_47 (by decide +kernel) ⟨rfl, rfl⟩ dX2_fitting_6 ⟨by decide, by decide⟩ rfl rfl (Nat.le_of_ble_eq_true rfl) ?_
  intro r6c M6 hN
  replace h := hN
  clear hN
  exact hR _ _ _ _ dX2_fitting_9 rfl h
def wC_X2_inAll_4 (o : Nat) (a1 : Int) (k : Int → gSt → Prop) (r4 : Int → Int → gSt → Prop) (X4_29 : Int → gSt → Prop) (v2 : Int) (v3 : Int) (M : gSt) : Prop :=
w_X4_size (o + 3) M (fun r9c M9 => 
  (wrap r9c ≤ wrap v3 →
    X4_29 v2 M9) ∧
  (wrap v3 < wrap r9c →
    w_X2_fitting o v3 M9 (fun r18c M18 => ∀ x2_22 : Int, x2_22 = xand v2 r18c → (r4 x2_22 (v3 + 1) M18))))
def wL_X2_inAll_4 (o : Nat) (a1 : Int) (k : Int → gSt → Prop)  (X4_29 : Int → gSt → Prop) : Nat → Int → Int → gSt → Prop
  | 0 => fun _ _ _ => False
  | n + 1 => fun v2 v3 M => wC_X2_inAll_4 o a1 k  (wL_X2_inAll_4 o a1 k  X4_29 n) X4_29 v2 v3 M
def w_X2_inAll (o : Nat) (a1 : Int) (M : gSt) (k : Int → gSt → Prop) : Prop :=
  (isHistories o) ∧ (∃ n, wL_X2_inAll_4 o a1 k  (fun u2_4 M4 =>
    k u2_4 M4) n a1 0 M)
set_option maxHeartbeats 4000000 in
set_option maxRecDepth 100000 in
theorem m_X2_inAll {l : Launch} {D : va_G} {tys : List (ClassId × FieldType)} {ad : Nat → Nat} {cI cS : ClassId} {o : Nat} {a1 : Int} {M : gSt} {k : Int → gSt → Prop} (h : w_X2_inAll o a1 M k) : MOi l yX2_inAll cX2_inAll 4 .int (rmR 2 45) D clC ((cI, .int) :: (cS, .object "OldBronze$Sheet") :: tys) (wC ad cI cS) tC zC [.ref (ad o), iv a1] M k := by
  refine moi_intro (by decide +kernel) (Nat.le_of_ble_eq_true rfl) wc_248 ?_
  intro p e s m args below meth c A Q C hR
  unfold w_X2_inAll at h
  obtain ⟨h_o, h⟩ := h
  have pC4 : ∀ (r4 : Int → Int → gSt → Prop) (X4_29 : Int → gSt → Prop) (hr4 : ∀ (v2 : Int) (v3 : Int) (M : gSt), r4 v2 v3 M → gG p l e (rmR 2 45) s m args below meth c Q D clC A (wC ad cI cS) 4 4 [(0, .ref (ad o)), (2, iv v2), (3, iv v3)] [] M) (hX4_29 : ∀ (v2 : Int) (M : gSt), X4_29 v2 M → gG p l e (rmR 2 45) s m args below meth c Q D clC A (wC ad cI cS) 4 29 [(2, iv v2)] [] M) (v2 : Int) (v3 : Int) (M : gSt), wC_X2_inAll_4 o a1 k r4 X4_29 v2 v3 M → gG p l e (rmR 2 45) s m args below meth c Q D clC A (wC ad cI cS) 4 4 [(0, .ref (ad o)), (2, iv v2), (3, iv v3)] [] M := by
    intro r4 X4_29 hr4 hX4_29 v2 v3 M h
    unfold wC_X2_inAll_4 at h
    refine g_iload_n C dX2_inAll_4 rfl ?_
    refine g_aload_n C dX2_inAll_5 rfl ?_
    refine cf_X2_23 C h_o dX2_inAll_6 ?_
    refine g_callVi C (nargs := 0) (o := (o + 3)) (st := [iv v3]) (m_X4_size h) (show isRows (o + 3) from h.1).1 (show isRows (o + 3) from h.1).2.1 rfl rfl gc_X2_43 (by decide +kernel) ⟨rfl, rfl⟩ dX2_inAll_9 ⟨by decide, by decide⟩ rfl rfl (Nat.le_of_ble_eq_true rfl) ?_
    intro r9c M9 hN
    replace h := hN
    clear hN
    refine g_icmp_ge C 29 dX2_inAll_12 (by decide) (fun hc => ?_) (fun hc => ?_)
    · replace h := h.1 hc
      refine g_locals (lv' := [(2, iv v2)]) rfl ?_
      exact hX4_29 _  _ h
    · replace h := h.2 hc
      refine g_iload_n C dX2_inAll_15 rfl ?_
      refine g_aload_n C dX2_inAll_16 rfl ?_
      refine g_iload_n C dX2_inAll_17 rfl ?_
      refine g_callVi C (nargs := 1) (o := o) (st := [iv v2]) (m_X2_fitting h) (show isHistories o from h.1).1 (show isHistories o from h.1).2.1 rfl rfl gc_X2_86 (by decide +kernel) ⟨rfl, rfl⟩ dX2_inAll_18 ⟨by decide, by decide⟩ rfl rfl (Nat.le_of_ble_eq_true rfl) ?_
      intro r18c M18 hN
      replace h := hN
      clear hN
      refine g_iand C dX2_inAll_21 ?_
      refine g_name (fun x2_22 hx2_22 => ?_)
      replace h := h x2_22 hx2_22
      refine g_istore_n C dX2_inAll_22 (by decide) rfl ?_
      refine g_locals (lv' := [(0, .ref (ad o)), (2, iv x2_22), (3, iv v3)]) rfl ?_
      refine g_iinc C dX2_inAll_23 rfl (by decide) rfl ?_
      refine g_locals (lv' := [(0, .ref (ad o)), (2, iv x2_22), (3, iv (v3 + 1))]) rfl ?_
      refine g_goto C 4 dX2_inAll_26 (by decide) ?_
      refine g_locals (lv' := [(0, .ref (ad o)), (2, iv x2_22), (3, iv (v3 + 1))]) rfl ?_
      exact hr4 _ _  _ h
  have pL4 : ∀  (X4_29 : Int → gSt → Prop) (hX4_29 : ∀ (v2 : Int) (M : gSt), X4_29 v2 M → gG p l e (rmR 2 45) s m args below meth c Q D clC A (wC ad cI cS) 4 29 [(2, iv v2)] [] M) (n : Nat) (v2 : Int) (v3 : Int) (M : gSt), wL_X2_inAll_4 o a1 k  X4_29 n v2 v3 M → gG p l e (rmR 2 45) s m args below meth c Q D clC A (wC ad cI cS) 4 4 [(0, .ref (ad o)), (2, iv v2), (3, iv v3)] [] M := by
    intro  X4_29 hX4_29 n
    induction n with
    | zero => intro v2 v3 M h; exact h.elim
    | succ n ih =>
      intro v2 v3 M h
      exact pC4  (wL_X2_inAll_4 o a1 k  X4_29 n) X4_29 ih hX4_29 v2 v3 M h
  refine g_locals (lv' := [(0, .ref (ad o)), (1, iv a1)]) rfl ?_
  refine g_iload_n C dX2_inAll_0 rfl ?_
  refine g_istore_n C dX2_inAll_1 (by decide) rfl ?_
  refine g_locals (lv' := [(0, .ref (ad o)), (1, iv a1), (2, iv a1)]) rfl ?_
  refine g_iconst C dX2_inAll_2 ?_
  refine g_istore_n C dX2_inAll_3 (by decide) rfl ?_
  refine g_locals (lv' := [(0, .ref (ad o)), (1, iv a1), (2, iv a1), (3, iv 0)]) rfl ?_
  refine g_locals (lv' := [(0, .ref (ad o)), (2, iv a1), (3, iv 0)]) rfl ?_
  obtain ⟨n, h⟩ := h
  refine pL4 _ ?_ n _ _ _ h
  · intro u2_4 M4 hN
    replace h := hN
    clear hN
    refine g_iload_n C dX2_inAll_29 rfl ?_
    exact hR _ _ _ _ dX2_inAll_30 rfl h
def wC_X2_inAny_4 (o : Nat) (k : Int → gSt → Prop) (r4 : Int → Int → gSt → Prop) (X4_29 : Int → gSt → Prop) (v1 : Int) (v2 : Int) (M : gSt) : Prop :=
w_X4_size (o + 3) M (fun r9c M9 => 
  (wrap r9c ≤ wrap v2 →
    X4_29 v1 M9) ∧
  (wrap v2 < wrap r9c →
    w_X2_fitting o v2 M9 (fun r18c M18 => ∀ x1_22 : Int, x1_22 = xor2 v1 r18c → (r4 x1_22 (v2 + 1) M18))))
def wL_X2_inAny_4 (o : Nat) (k : Int → gSt → Prop)  (X4_29 : Int → gSt → Prop) : Nat → Int → Int → gSt → Prop
  | 0 => fun _ _ _ => False
  | n + 1 => fun v1 v2 M => wC_X2_inAny_4 o k  (wL_X2_inAny_4 o k  X4_29 n) X4_29 v1 v2 M
def w_X2_inAny (o : Nat) (M : gSt) (k : Int → gSt → Prop) : Prop :=
  (isHistories o) ∧ (∃ n, wL_X2_inAny_4 o k  (fun u1_4 M4 =>
    k u1_4 M4) n 0 0 M)
set_option maxHeartbeats 4000000 in
set_option maxRecDepth 100000 in
theorem m_X2_inAny {l : Launch} {D : va_G} {tys : List (ClassId × FieldType)} {ad : Nat → Nat} {cI cS : ClassId} {o : Nat} {M : gSt} {k : Int → gSt → Prop} (h : w_X2_inAny o M k) : MOi l yX2_inAny cX2_inAny 3 .int (rmR 2 45) D clC ((cI, .int) :: (cS, .object "OldBronze$Sheet") :: tys) (wC ad cI cS) tC zC [.ref (ad o)] M k := by
  refine moi_intro (by decide +kernel) (Nat.le_of_ble_eq_true rfl) wc_252 ?_
  intro p e s m args below meth c A Q C hR
  unfold w_X2_inAny at h
  obtain ⟨h_o, h⟩ := h
  have pC4 : ∀ (r4 : Int → Int → gSt → Prop) (X4_29 : Int → gSt → Prop) (hr4 : ∀ (v1 : Int) (v2 : Int) (M : gSt), r4 v1 v2 M → gG p l e (rmR 2 45) s m args below meth c Q D clC A (wC ad cI cS) 3 4 [(0, .ref (ad o)), (1, iv v1), (2, iv v2)] [] M) (hX4_29 : ∀ (v1 : Int) (M : gSt), X4_29 v1 M → gG p l e (rmR 2 45) s m args below meth c Q D clC A (wC ad cI cS) 3 29 [(1, iv v1)] [] M) (v1 : Int) (v2 : Int) (M : gSt), wC_X2_inAny_4 o k r4 X4_29 v1 v2 M → gG p l e (rmR 2 45) s m args below meth c Q D clC A (wC ad cI cS) 3 4 [(0, .ref (ad o)), (1, iv v1), (2, iv v2)] [] M := by
    intro r4 X4_29 hr4 hX4_29 v1 v2 M h
    unfold wC_X2_inAny_4 at h
    refine g_iload_n C dX2_inAny_4 rfl ?_
    refine g_aload_n C dX2_inAny_5 rfl ?_
    refine cf_X2_23 C h_o dX2_inAny_6 ?_
    refine g_callVi C (nargs := 0) (o := (o + 3)) (st := [iv v2]) (m_X4_size h) (show isRows (o + 3) from h.1).1 (show isRows (o + 3) from h.1).2.1 rfl rfl gc_X2_43 (by decide +kernel) ⟨rfl, rfl⟩ dX2_inAny_9 ⟨by decide, by decide⟩ rfl rfl (Nat.le_of_ble_eq_true rfl) ?_
    intro r9c M9 hN
    replace h := hN
    clear hN
    refine g_icmp_ge C 29 dX2_inAny_12 (by decide) (fun hc => ?_) (fun hc => ?_)
    · replace h := h.1 hc
      refine g_locals (lv' := [(1, iv v1)]) rfl ?_
      exact hX4_29 _  _ h
    · replace h := h.2 hc
      refine g_iload_n C dX2_inAny_15 rfl ?_
      refine g_aload_n C dX2_inAny_16 rfl ?_
      refine g_iload_n C dX2_inAny_17 rfl ?_
      refine g_callVi C (nargs := 1) (o := o) (st := [iv v1]) (m_X2_fitting h) (show isHistories o from h.1).1 (show isHistories o from h.1).2.1 rfl rfl gc_X2_86 (by decide +kernel) ⟨rfl, rfl⟩ dX2_inAny_18 ⟨by decide, by decide⟩ rfl rfl (Nat.le_of_ble_eq_true rfl) ?_
      intro r18c M18 hN
      replace h := hN
      clear hN
      refine g_ior C dX2_inAny_21 ?_
      refine g_name (fun x1_22 hx1_22 => ?_)
      replace h := h x1_22 hx1_22
      refine g_istore_n C dX2_inAny_22 (by decide) rfl ?_
      refine g_locals (lv' := [(0, .ref (ad o)), (1, iv x1_22), (2, iv v2)]) rfl ?_
      refine g_iinc C dX2_inAny_23 rfl (by decide) rfl ?_
      refine g_locals (lv' := [(0, .ref (ad o)), (1, iv x1_22), (2, iv (v2 + 1))]) rfl ?_
      refine g_goto C 4 dX2_inAny_26 (by decide) ?_
      refine g_locals (lv' := [(0, .ref (ad o)), (1, iv x1_22), (2, iv (v2 + 1))]) rfl ?_
      exact hr4 _ _  _ h
  have pL4 : ∀  (X4_29 : Int → gSt → Prop) (hX4_29 : ∀ (v1 : Int) (M : gSt), X4_29 v1 M → gG p l e (rmR 2 45) s m args below meth c Q D clC A (wC ad cI cS) 3 29 [(1, iv v1)] [] M) (n : Nat) (v1 : Int) (v2 : Int) (M : gSt), wL_X2_inAny_4 o k  X4_29 n v1 v2 M → gG p l e (rmR 2 45) s m args below meth c Q D clC A (wC ad cI cS) 3 4 [(0, .ref (ad o)), (1, iv v1), (2, iv v2)] [] M := by
    intro  X4_29 hX4_29 n
    induction n with
    | zero => intro v1 v2 M h; exact h.elim
    | succ n ih =>
      intro v1 v2 M h
      exact pC4  (wL_X2_inAny_4 o k  X4_29 n) X4_29 ih hX4_29 v1 v2 M h
  refine g_locals (lv' := [(0, .ref (ad o))]) rfl ?_
  refine g_iconst C dX2_inAny_0 ?_
  refine g_istore_n C dX2_inAny_1 (by decide) rfl ?_
  refine g_locals (lv' := [(0, .ref (ad o)), (1, iv 0)]) rfl ?_
  refine g_iconst C dX2_inAny_2 ?_
  refine g_istore_n C dX2_inAny_3 (by decide) rfl ?_
  refine g_locals (lv' := [(0, .ref (ad o)), (1, iv 0), (2, iv 0)]) rfl ?_
  refine g_locals (lv' := [(0, .ref (ad o)), (1, iv 0), (2, iv 0)]) rfl ?_
  obtain ⟨n, h⟩ := h
  refine pL4 _ ?_ n _ _ _ h
  · intro u1_4 M4 hN
    replace h := hN
    clear hN
    refine g_iload_n C dX2_inAny_29 rfl ?_
    exact hR _ _ _ _ dX2_inAny_30 rfl h
def wC_X2_mostPapers_4 (o : Nat) (k : Int → gSt → Prop) (r4 : Int → Int → gSt → Prop) (X4_34 : Int → gSt → Prop) (v1 : Int) (v2 : Int) (M : gSt) : Prop :=
w_X4_size (o + 3) M (fun r9c M9 => 
  (wrap r9c ≤ wrap v2 →
    X4_34 v1 M9) ∧
  (wrap v2 < wrap r9c →
    w_X2_fitting o v2 M9 (fun r18c M18 => w_J6_bitCount_0f7a4 r18c M18 (fun r21c M21 => ∀ x1_27 : Int, x1_27 = xmax v1 r21c → (r4 x1_27 (v2 + 1) M21)))))
def wL_X2_mostPapers_4 (o : Nat) (k : Int → gSt → Prop)  (X4_34 : Int → gSt → Prop) : Nat → Int → Int → gSt → Prop
  | 0 => fun _ _ _ => False
  | n + 1 => fun v1 v2 M => wC_X2_mostPapers_4 o k  (wL_X2_mostPapers_4 o k  X4_34 n) X4_34 v1 v2 M
def w_X2_mostPapers (o : Nat) (M : gSt) (k : Int → gSt → Prop) : Prop :=
  (isHistories o) ∧ (∃ n, wL_X2_mostPapers_4 o k  (fun u1_4 M4 =>
    k u1_4 M4) n 0 0 M)
set_option maxHeartbeats 4000000 in
set_option maxRecDepth 100000 in
theorem m_X2_mostPapers {l : Launch} {D : va_G} {tys : List (ClassId × FieldType)} {ad : Nat → Nat} {cI cS : ClassId} {o : Nat} {M : gSt} {k : Int → gSt → Prop} (h : w_X2_mostPapers o M k) : MOi l yX2_mostPapers cX2_mostPapers 3 .int (rmR 2 45) D clC ((cI, .int) :: (cS, .object "OldBronze$Sheet") :: tys) (wC ad cI cS) tC zC [.ref (ad o)] M k := by
  refine moi_intro (by decide +kernel) (Nat.le_of_ble_eq_true rfl) wc_255 ?_
  intro p e s m args below meth c A Q C hR
  unfold w_X2_mostPapers at h
  obtain ⟨h_o, h⟩ := h
  have pC4 : ∀ (r4 : Int → Int → gSt → Prop) (X4_34 : Int → gSt → Prop) (hr4 : ∀ (v1 : Int) (v2 : Int) (M : gSt), r4 v1 v2 M → gG p l e (rmR 2 45) s m args below meth c Q D clC A (wC ad cI cS) 3 4 [(0, .ref (ad o)), (1, iv v1), (2, iv v2)] [] M) (hX4_34 : ∀ (v1 : Int) (M : gSt), X4_34 v1 M → gG p l e (rmR 2 45) s m args below meth c Q D clC A (wC ad cI cS) 3 34 [(1, iv v1)] [] M) (v1 : Int) (v2 : Int) (M : gSt), wC_X2_mostPapers_4 o k r4 X4_34 v1 v2 M → gG p l e (rmR 2 45) s m args below meth c Q D clC A (wC ad cI cS) 3 4 [(0, .ref (ad o)), (1, iv v1), (2, iv v2)] [] M := by
    intro r4 X4_34 hr4 hX4_34 v1 v2 M h
    unfold wC_X2_mostPapers_4 at h
    refine g_iload_n C dX2_mostPapers_4 rfl ?_
    refine g_aload_n C dX2_mostPapers_5 rfl ?_
    refine cf_X2_23 C h_o dX2_mostPapers_6 ?_
    refine g_callVi C (nargs := 0) (o := (o + 3)) (st := [iv v2]) (m_X4_size h) (show isRows (o + 3) from h.1).1 (show isRows (o + 3) from h.1).2.1 rfl rfl gc_X2_43 (by decide +kernel) ⟨rfl, rfl⟩ dX2_mostPapers_9 ⟨by decide, by decide⟩ rfl rfl (Nat.le_of_ble_eq_true rfl) ?_
    intro r9c M9 hN
    replace h := hN
    clear hN
    refine g_icmp_ge C 34 dX2_mostPapers_12 (by decide) (fun hc => ?_) (fun hc => ?_)
    · replace h := h.1 hc
      refine g_locals (lv' := [(1, iv v1)]) rfl ?_
      exact hX4_34 _  _ h
    · replace h := h.2 hc
      refine g_iload_n C dX2_mostPapers_15 rfl ?_
      refine g_aload_n C dX2_mostPapers_16 rfl ?_
      refine g_iload_n C dX2_mostPapers_17 rfl ?_
      refine g_callVi C (nargs := 1) (o := o) (st := [iv v1]) (m_X2_fitting h) (show isHistories o from h.1).1 (show isHistories o from h.1).2.1 rfl rfl gc_X2_86 (by decide +kernel) ⟨rfl, rfl⟩ dX2_mostPapers_18 ⟨by decide, by decide⟩ rfl rfl (Nat.le_of_ble_eq_true rfl) ?_
      intro r18c M18 hN
      replace h := hN
      clear hN
      refine g_callSi C (nargs := 1) (st := [iv v1]) (m_J6_bitCount_0f7a4 h) gc_X2_89 (by decide +kernel) ⟨rfl, rfl⟩ dX2_mostPapers_21 ⟨by decide, by decide⟩ rfl rfl (Nat.le_of_ble_eq_true rfl) ?_
      intro r21c M21 hN
      replace h := hN
      clear hN
      refine g_mmax C (st := []) dX2_mostPapers_24 wc_253 wc_91 wc_62 wc_92 (by decide) (Nat.le_of_ble_eq_true rfl) ?_
      refine g_name (fun x1_27 hx1_27 => ?_)
      replace h := h x1_27 hx1_27
      refine g_istore_n C dX2_mostPapers_27 (by decide) rfl ?_
      refine g_locals (lv' := [(0, .ref (ad o)), (1, iv x1_27), (2, iv v2)]) rfl ?_
      refine g_iinc C dX2_mostPapers_28 rfl (by decide) rfl ?_
      refine g_locals (lv' := [(0, .ref (ad o)), (1, iv x1_27), (2, iv (v2 + 1))]) rfl ?_
      refine g_goto C 4 dX2_mostPapers_31 (by decide) ?_
      refine g_locals (lv' := [(0, .ref (ad o)), (1, iv x1_27), (2, iv (v2 + 1))]) rfl ?_
      exact hr4 _ _  _ h
  have pL4 : ∀  (X4_34 : Int → gSt → Prop) (hX4_34 : ∀ (v1 : Int) (M : gSt), X4_34 v1 M → gG p l e (rmR 2 45) s m args below meth c Q D clC A (wC ad cI cS) 3 34 [(1, iv v1)] [] M) (n : Nat) (v1 : Int) (v2 : Int) (M : gSt), wL_X2_mostPapers_4 o k  X4_34 n v1 v2 M → gG p l e (rmR 2 45) s m args below meth c Q D clC A (wC ad cI cS) 3 4 [(0, .ref (ad o)), (1, iv v1), (2, iv v2)] [] M := by
    intro  X4_34 hX4_34 n
    induction n with
    | zero => intro v1 v2 M h; exact h.elim
    | succ n ih =>
      intro v1 v2 M h
      exact pC4  (wL_X2_mostPapers_4 o k  X4_34 n) X4_34 ih hX4_34 v1 v2 M h
  refine g_locals (lv' := [(0, .ref (ad o))]) rfl ?_
  refine g_iconst C dX2_mostPapers_0 ?_
  refine g_istore_n C dX2_mostPapers_1 (by decide) rfl ?_
  refine g_locals (lv' := [(0, .ref (ad o)), (1, iv 0)]) rfl ?_
  refine g_iconst C dX2_mostPapers_2 ?_
  refine g_istore_n C dX2_mostPapers_3 (by decide) rfl ?_
  refine g_locals (lv' := [(0, .ref (ad o)), (1, iv 0), (2, iv 0)]) rfl ?_
  refine g_locals (lv' := [(0, .ref (ad o)), (1, iv 0), (2, iv 0)]) rfl ?_
  obtain ⟨n, h⟩ := h
  refine pL4 _ ?_ n _ _ _ h
  · intro u1_4 M4 hN
    replace h := hN
    clear hN
    refine g_iload_n C dX2_mostPapers_34 rfl ?_
    exact hR _ _ _ _ dX2_mostPapers_35 rfl h
def wB_X2_outermost_71 (o : Nat) (a1 : Nat) (a2 : Int) (a3 : Int) (a4 : Int) (k : Int → gSt → Prop) (r6 : Int → Int → gSt → Prop) (X6_77 : Int → gSt → Prop) (v5 : Int) (v6 : Int) (M : gSt) : Prop :=
r6 v5 (v6 + 1) M
def wB_X2_outermost_67 (o : Nat) (a1 : Nat) (a2 : Int) (a3 : Int) (a4 : Int) (k : Int → gSt → Prop) (r6 : Int → Int → gSt → Prop) (X6_77 : Int → gSt → Prop) (v6 : Int) (v7 : Int) (M : gSt) : Prop :=
wB_X2_outermost_71 o a1 a2 a3 a4 k r6 X6_77 v7 v6 M
def wC_X2_outermost_6 (o : Nat) (a1 : Nat) (a2 : Int) (a3 : Int) (a4 : Int) (k : Int → gSt → Prop) (r6 : Int → Int → gSt → Prop) (X6_77 : Int → gSt → Prop) (v5 : Int) (v6 : Int) (M : gSt) : Prop :=
w_X4_size (o + 3) M (fun r12c M12 => 
  (wrap r12c ≤ wrap v6 →
    X6_77 v5 M12) ∧
  (wrap v6 < wrap r12c →
    w_X2_fitting o v6 M12 (fun r23c M23 => w_X2_follow o a1 r23c M23 (fun M26 => w_X0_number (o + 1) a2 a3 M26 (fun r35c M35 => 
    (wrap v6 = 0 →
      wB_X2_outermost_67 o a1 a2 a3 a4 k r6 X6_77 v6 r35c M35) ∧
    (¬ wrap v6 = 0 →

      (wrap a4 = 0 →

        (wrap v5 ≤ wrap r35c →
          wB_X2_outermost_71 o a1 a2 a3 a4 k r6 X6_77 v5 v6 M35) ∧
        (wrap r35c < wrap v5 →
          wB_X2_outermost_67 o a1 a2 a3 a4 k r6 X6_77 v6 r35c M35)) ∧
      (¬ wrap a4 = 0 →

        (wrap r35c ≤ wrap v5 →
          wB_X2_outermost_71 o a1 a2 a3 a4 k r6 X6_77 v5 v6 M35) ∧
        (wrap v5 < wrap r35c →
          wB_X2_outermost_67 o a1 a2 a3 a4 k r6 X6_77 v6 r35c M35))))))))
def wL_X2_outermost_6 (o : Nat) (a1 : Nat) (a2 : Int) (a3 : Int) (a4 : Int) (k : Int → gSt → Prop)  (X6_77 : Int → gSt → Prop) : Nat → Int → Int → gSt → Prop
  | 0 => fun _ _ _ => False
  | n + 1 => fun v5 v6 M => wC_X2_outermost_6 o a1 a2 a3 a4 k  (wL_X2_outermost_6 o a1 a2 a3 a4 k  X6_77 n) X6_77 v5 v6 M
def w_X2_outermost (o : Nat) (a1 : Nat) (a2 : Int) (a3 : Int) (a4 : Int) (M : gSt) (k : Int → gSt → Prop) : Prop :=
  (isHistories o) ∧ ((isForge a1) ∧ (∃ n, wL_X2_outermost_6 o a1 a2 a3 a4 k  (fun u5_6 M6 =>
    k u5_6 M6) n 0 0 M))
set_option maxHeartbeats 4000000 in
set_option maxRecDepth 100000 in
theorem m_X2_outermost {l : Launch} {D : va_G} {tys : List (ClassId × FieldType)} {ad : Nat → Nat} {cI cS : ClassId} {o : Nat} {a1 : Nat} {a2 : Int} {a3 : Int} {a4 : Int} {M : gSt} {k : Int → gSt → Prop} (h : w_X2_outermost o a1 a2 a3 a4 M k) : MOi l yX2_outermost cX2_outermost 8 .int (rmR 6 147) D clC ((cI, .int) :: (cS, .object "OldBronze$Sheet") :: tys) (wC ad cI cS) tC zC [.ref (ad o), .ref (ad a1), iv a2, iv a3, iv a4] M k := by
  refine moi_intro (by decide +kernel) (Nat.le_of_ble_eq_true rfl) wc_256 ?_
  intro p e s m args below meth c A Q C hR
  unfold w_X2_outermost at h
  obtain ⟨h_o, h_a1, h⟩ := h
  have pB71 : ∀ (r6 : Int → Int → gSt → Prop) (X6_77 : Int → gSt → Prop) (hr6 : ∀ (v5 : Int) (v6 : Int) (M : gSt), r6 v5 v6 M → gG p l e (rmR 6 147) s m args below meth c Q D clC A (wC ad cI cS) 8 6 [(0, .ref (ad o)), (1, .ref (ad a1)), (2, iv a2), (3, iv a3), (4, iv a4), (5, iv v5), (6, iv v6)] [] M) (hX6_77 : ∀ (v5 : Int) (M : gSt), X6_77 v5 M → gG p l e (rmR 6 147) s m args below meth c Q D clC A (wC ad cI cS) 8 77 [(5, iv v5)] [] M) (v5 : Int) (v6 : Int) (M : gSt), wB_X2_outermost_71 o a1 a2 a3 a4 k r6 X6_77 v5 v6 M → gG p l e (rmR 6 147) s m args below meth c Q D clC A (wC ad cI cS) 8 71 [(0, .ref (ad o)), (1, .ref (ad a1)), (2, iv a2), (3, iv a3), (4, iv a4), (5, iv v5), (6, iv v6)] [] M := by
    intro r6 X6_77 hr6 hX6_77 v5 v6 M h
    unfold wB_X2_outermost_71 at h
    refine g_iinc C dX2_outermost_71 rfl (by decide) rfl ?_
    refine g_locals (lv' := [(0, .ref (ad o)), (1, .ref (ad a1)), (2, iv a2), (3, iv a3), (4, iv a4), (5, iv v5), (6, iv (v6 + 1))]) rfl ?_
    refine g_goto C 6 dX2_outermost_74 (by decide) ?_
    refine g_locals (lv' := [(0, .ref (ad o)), (1, .ref (ad a1)), (2, iv a2), (3, iv a3), (4, iv a4), (5, iv v5), (6, iv (v6 + 1))]) rfl ?_
    exact hr6 _ _  _ h
  have pB67 : ∀ (r6 : Int → Int → gSt → Prop) (X6_77 : Int → gSt → Prop) (hr6 : ∀ (v5 : Int) (v6 : Int) (M : gSt), r6 v5 v6 M → gG p l e (rmR 6 147) s m args below meth c Q D clC A (wC ad cI cS) 8 6 [(0, .ref (ad o)), (1, .ref (ad a1)), (2, iv a2), (3, iv a3), (4, iv a4), (5, iv v5), (6, iv v6)] [] M) (hX6_77 : ∀ (v5 : Int) (M : gSt), X6_77 v5 M → gG p l e (rmR 6 147) s m args below meth c Q D clC A (wC ad cI cS) 8 77 [(5, iv v5)] [] M) (v6 : Int) (v7 : Int) (M : gSt), wB_X2_outermost_67 o a1 a2 a3 a4 k r6 X6_77 v6 v7 M → gG p l e (rmR 6 147) s m args below meth c Q D clC A (wC ad cI cS) 8 67 [(0, .ref (ad o)), (1, .ref (ad a1)), (2, iv a2), (3, iv a3), (4, iv a4), (6, iv v6), (7, iv v7)] [] M := by
    intro r6 X6_77 hr6 hX6_77 v6 v7 M h
    unfold wB_X2_outermost_67 at h
    refine g_iload C dX2_outermost_67 rfl ?_
    refine g_istore C dX2_outermost_69 (by decide) rfl ?_
    refine g_locals (lv' := [(0, .ref (ad o)), (1, .ref (ad a1)), (2, iv a2), (3, iv a3), (4, iv a4), (5, iv v7), (6, iv v6), (7, iv v7)]) rfl ?_
    refine g_locals (lv' := [(0, .ref (ad o)), (1, .ref (ad a1)), (2, iv a2), (3, iv a3), (4, iv a4), (5, iv v7), (6, iv v6)]) rfl ?_
    exact pB71 r6 X6_77 hr6 hX6_77 _ _ _ h
  have pC6 : ∀ (r6 : Int → Int → gSt → Prop) (X6_77 : Int → gSt → Prop) (hr6 : ∀ (v5 : Int) (v6 : Int) (M : gSt), r6 v5 v6 M → gG p l e (rmR 6 147) s m args below meth c Q D clC A (wC ad cI cS) 8 6 [(0, .ref (ad o)), (1, .ref (ad a1)), (2, iv a2), (3, iv a3), (4, iv a4), (5, iv v5), (6, iv v6)] [] M) (hX6_77 : ∀ (v5 : Int) (M : gSt), X6_77 v5 M → gG p l e (rmR 6 147) s m args below meth c Q D clC A (wC ad cI cS) 8 77 [(5, iv v5)] [] M) (v5 : Int) (v6 : Int) (M : gSt), wC_X2_outermost_6 o a1 a2 a3 a4 k r6 X6_77 v5 v6 M → gG p l e (rmR 6 147) s m args below meth c Q D clC A (wC ad cI cS) 8 6 [(0, .ref (ad o)), (1, .ref (ad a1)), (2, iv a2), (3, iv a3), (4, iv a4), (5, iv v5), (6, iv v6)] [] M := by
    intro r6 X6_77 hr6 hX6_77 v5 v6 M h
    unfold wC_X2_outermost_6 at h
    refine g_iload C dX2_outermost_6 rfl ?_
    refine g_aload_n C dX2_outermost_8 rfl ?_
    refine cf_X2_23 C h_o dX2_outermost_9 ?_
    refine g_callVi C (nargs := 0) (o := (o + 3)) (st := [iv v6]) (m_X4_size h) (show isRows (o + 3) from h.1).1 (show isRows (o + 3) from h.1).2.1 rfl rfl gc_X2_43 (by decide +kernel) ⟨rfl, rfl⟩ dX2_outermost_12 ⟨by decide, by decide⟩ rfl rfl (Nat.le_of_ble_eq_true rfl) ?_
    intro r12c M12 hN
    replace h := hN
    clear hN
    refine g_icmp_ge C 77 dX2_outermost_15 (by decide) (fun hc => ?_) (fun hc => ?_)
    · replace h := h.1 hc
      refine g_locals (lv' := [(5, iv v5)]) rfl ?_
      exact hX6_77 _  _ h
    · replace h := h.2 hc
      refine g_aload_n C dX2_outermost_18 rfl ?_
      refine g_aload_n C dX2_outermost_19 rfl ?_
      refine g_aload_n C dX2_outermost_20 rfl ?_
      refine g_iload C dX2_outermost_21 rfl ?_
      refine g_callVi C (nargs := 1) (o := o) (st := [.ref (ad a1), .ref (ad o)]) (m_X2_fitting h) (show isHistories o from h.1).1 (show isHistories o from h.1).2.1 rfl rfl gc_X2_86 (by decide +kernel) ⟨rfl, rfl⟩ dX2_outermost_23 ⟨by decide, by decide⟩ rfl rfl (Nat.le_of_ble_eq_true rfl) ?_
      intro r23c M23 hN
      replace h := hN
      clear hN
      refine g_callVv C (nargs := 2) (o := o) (st := []) (m_X2_follow h) (show isHistories o from h.1).1 (show isHistories o from h.1).2.1 rfl rfl gc_X2_61 (by decide +kernel) ⟨rfl, rfl⟩ dX2_outermost_26 ⟨by decide, by decide⟩ rfl rfl (Nat.le_of_ble_eq_true rfl) ?_
      intro M26 hN
      replace h := hN
      clear hN
      refine g_aload_n C dX2_outermost_29 rfl ?_
      refine cf_X2_12 C h_o dX2_outermost_30 ?_
      refine g_iload_n C dX2_outermost_33 rfl ?_
      refine g_iload_n C dX2_outermost_34 rfl ?_
      refine g_callVi C (nargs := 2) (o := (o + 1)) (st := []) (m_X0_number h) (show isBronze (o + 1) from h.1).1 (show isBronze (o + 1) from h.1).2.1 rfl rfl gc_X2_55 (by decide +kernel) ⟨rfl, rfl⟩ dX2_outermost_35 ⟨by decide, by decide⟩ rfl rfl (Nat.le_of_ble_eq_true rfl) ?_
      intro r35c M35 hN
      replace h := hN
      clear hN
      refine g_istore C dX2_outermost_38 (by decide) rfl ?_
      refine g_locals (lv' := [(0, .ref (ad o)), (1, .ref (ad a1)), (2, iv a2), (3, iv a3), (4, iv a4), (5, iv v5), (6, iv v6), (7, iv r35c)]) rfl ?_
      refine g_iload C dX2_outermost_40 rfl ?_
      refine g_if_eq C 67 dX2_outermost_42 (by decide) (fun hc => ?_) (fun hc => ?_)
      · replace h := h.1 hc
        refine g_locals (lv' := [(0, .ref (ad o)), (1, .ref (ad a1)), (2, iv a2), (3, iv a3), (4, iv a4), (6, iv v6), (7, iv r35c)]) rfl ?_
        exact pB67 r6 X6_77 hr6 hX6_77 _ _ _ h
      · replace h := h.2 hc
        refine g_iload C dX2_outermost_45 rfl ?_
        refine g_if_eq C 60 dX2_outermost_47 (by decide) (fun hc => ?_) (fun hc => ?_)
        · replace h := h.1 hc
          refine g_iload C dX2_outermost_60 rfl ?_
          refine g_iload C dX2_outermost_62 rfl ?_
          refine g_icmp_ge C 71 dX2_outermost_64 (by decide) (fun hc => ?_) (fun hc => ?_)
          · replace h := h.1 hc
            refine g_locals (lv' := [(0, .ref (ad o)), (1, .ref (ad a1)), (2, iv a2), (3, iv a3), (4, iv a4), (5, iv v5), (6, iv v6)]) rfl ?_
            exact pB71 r6 X6_77 hr6 hX6_77 _ _ _ h
          · replace h := h.2 hc
            refine g_locals (lv' := [(0, .ref (ad o)), (1, .ref (ad a1)), (2, iv a2), (3, iv a3), (4, iv a4), (6, iv v6), (7, iv r35c)]) rfl ?_
            exact pB67 r6 X6_77 hr6 hX6_77 _ _ _ h
        · replace h := h.2 hc
          refine g_iload C dX2_outermost_50 rfl ?_
          refine g_iload C dX2_outermost_52 rfl ?_
          refine g_icmp_le C 71 dX2_outermost_54 (by decide) (fun hc => ?_) (fun hc => ?_)
          · replace h := h.1 hc
            refine g_locals (lv' := [(0, .ref (ad o)), (1, .ref (ad a1)), (2, iv a2), (3, iv a3), (4, iv a4), (5, iv v5), (6, iv v6)]) rfl ?_
            exact pB71 r6 X6_77 hr6 hX6_77 _ _ _ h
          · replace h := h.2 hc
            refine g_goto C 67 dX2_outermost_57 (by decide) ?_
            refine g_locals (lv' := [(0, .ref (ad o)), (1, .ref (ad a1)), (2, iv a2), (3, iv a3), (4, iv a4), (6, iv v6), (7, iv r35c)]) rfl ?_
            exact pB67 r6 X6_77 hr6 hX6_77 _ _ _ h
  have pL6 : ∀  (X6_77 : Int → gSt → Prop) (hX6_77 : ∀ (v5 : Int) (M : gSt), X6_77 v5 M → gG p l e (rmR 6 147) s m args below meth c Q D clC A (wC ad cI cS) 8 77 [(5, iv v5)] [] M) (n : Nat) (v5 : Int) (v6 : Int) (M : gSt), wL_X2_outermost_6 o a1 a2 a3 a4 k  X6_77 n v5 v6 M → gG p l e (rmR 6 147) s m args below meth c Q D clC A (wC ad cI cS) 8 6 [(0, .ref (ad o)), (1, .ref (ad a1)), (2, iv a2), (3, iv a3), (4, iv a4), (5, iv v5), (6, iv v6)] [] M := by
    intro  X6_77 hX6_77 n
    induction n with
    | zero => intro v5 v6 M h; exact h.elim
    | succ n ih =>
      intro v5 v6 M h
      exact pC6  (wL_X2_outermost_6 o a1 a2 a3 a4 k  X6_77 n) X6_77 ih hX6_77 v5 v6 M h
  refine g_locals (lv' := [(0, .ref (ad o)), (1, .ref (ad a1)), (2, iv a2), (3, iv a3), (4, iv a4)]) rfl ?_
  refine g_iconst C dX2_outermost_0 ?_
  refine g_istore C dX2_outermost_1 (by decide) rfl ?_
  refine g_locals (lv' := [(0, .ref (ad o)), (1, .ref (ad a1)), (2, iv a2), (3, iv a3), (4, iv a4), (5, iv 0)]) rfl ?_
  refine g_iconst C dX2_outermost_3 ?_
  refine g_istore C dX2_outermost_4 (by decide) rfl ?_
  refine g_locals (lv' := [(0, .ref (ad o)), (1, .ref (ad a1)), (2, iv a2), (3, iv a3), (4, iv a4), (5, iv 0), (6, iv 0)]) rfl ?_
  refine g_locals (lv' := [(0, .ref (ad o)), (1, .ref (ad a1)), (2, iv a2), (3, iv a3), (4, iv a4), (5, iv 0), (6, iv 0)]) rfl ?_
  obtain ⟨n, h⟩ := h
  refine pL6 _ ?_ n _ _ _ h
  · intro u5_6 M6 hN
    replace h := hN
    clear hN
    refine g_iload C dX2_outermost_77 rfl ?_
    exact hR _ _ _ _ dX2_outermost_79 rfl h
def wB_X2_greatestHeap_52 (o : Nat) (a1 : Int) (k : Int → gSt → Prop) (r4 : Int → Int → gSt → Prop) (X4_71 : Int → gSt → Prop) (r21 : Int → Int → Int → Int → gSt → Prop) (X21_58 : Int → Int → Int → gSt → Prop) (v2 : Int) (v3 : Int) (v4 : Int) (v5 : Int) (M : gSt) : Prop :=
r21 v2 v3 v4 (v5 + 1) M
def wC_X2_greatestHeap_21 (o : Nat) (a1 : Int) (k : Int → gSt → Prop) (r4 : Int → Int → gSt → Prop) (X4_71 : Int → gSt → Prop) (r21 : Int → Int → Int → Int → gSt → Prop) (X21_58 : Int → Int → Int → gSt → Prop) (v2 : Int) (v3 : Int) (v4 : Int) (v5 : Int) (M : gSt) : Prop :=
w_X4_size (o + 3) M (fun r27c M27 => 
  (wrap r27c ≤ wrap v5 →
    X21_58 v2 v3 v4 M27) ∧
  (wrap v5 < wrap r27c →
    w_X2_notedGrams o v5 a1 M27 (fun r37c M37 => w_X2_notedGrams o v3 a1 M37 (fun r43c M43 => 
    (¬ wrap r37c = wrap r43c →
      wB_X2_greatestHeap_52 o a1 k r4 X4_71 r21 X21_58 v2 v3 v4 v5 M43) ∧
    (wrap r37c = wrap r43c →
      wB_X2_greatestHeap_52 o a1 k r4 X4_71 r21 X21_58 v2 v3 (v4 + 1) v5 M43)))))
def wL_X2_greatestHeap_21 (o : Nat) (a1 : Int) (k : Int → gSt → Prop) (r4 : Int → Int → gSt → Prop) (X4_71 : Int → gSt → Prop) (X21_58 : Int → Int → Int → gSt → Prop) : Nat → Int → Int → Int → Int → gSt → Prop
  | 0 => fun _ _ _ _ _ => False
  | n + 1 => fun v2 v3 v4 v5 M => wC_X2_greatestHeap_21 o a1 k r4 X4_71 (wL_X2_greatestHeap_21 o a1 k r4 X4_71 X21_58 n) X21_58 v2 v3 v4 v5 M
def wC_X2_greatestHeap_4 (o : Nat) (a1 : Int) (k : Int → gSt → Prop) (r4 : Int → Int → gSt → Prop) (X4_71 : Int → gSt → Prop) (v2 : Int) (v3 : Int) (M : gSt) : Prop :=
w_X4_size (o + 3) M (fun r9c M9 => 
  (wrap r9c ≤ wrap v3 →
    X4_71 v2 M9) ∧
  (wrap v3 < wrap r9c →
    ∃ n, wL_X2_greatestHeap_21 o a1 k r4 X4_71 (fun u2_21 u3_21 u4_21 M21 =>
      ∀ x2_64 : Int, x2_64 = xmax u2_21 u4_21 → (r4 x2_64 (u3_21 + 1) M21)) n v2 v3 0 v3 M9))
def wL_X2_greatestHeap_4 (o : Nat) (a1 : Int) (k : Int → gSt → Prop)  (X4_71 : Int → gSt → Prop) : Nat → Int → Int → gSt → Prop
  | 0 => fun _ _ _ => False
  | n + 1 => fun v2 v3 M => wC_X2_greatestHeap_4 o a1 k  (wL_X2_greatestHeap_4 o a1 k  X4_71 n) X4_71 v2 v3 M
def w_X2_greatestHeap (o : Nat) (a1 : Int) (M : gSt) (k : Int → gSt → Prop) : Prop :=
  (isHistories o) ∧ (∃ n, wL_X2_greatestHeap_4 o a1 k  (fun u2_4 M4 =>
    k u2_4 M4) n 0 0 M)
set_option maxHeartbeats 4000000 in
set_option maxRecDepth 100000 in
theorem m_X2_greatestHeap {l : Launch} {D : va_G} {tys : List (ClassId × FieldType)} {ad : Nat → Nat} {cI cS : ClassId} {o : Nat} {a1 : Int} {M : gSt} {k : Int → gSt → Prop} (h : w_X2_greatestHeap o a1 M k) : MOi l yX2_greatestHeap cX2_greatestHeap 6 .int (rmR 1 40) D clC ((cI, .int) :: (cS, .object "OldBronze$Sheet") :: tys) (wC ad cI cS) tC zC [.ref (ad o), iv a1] M k := by
  refine moi_intro (by decide +kernel) (Nat.le_of_ble_eq_true rfl) wc_257 ?_
  intro p e s m args below meth c A Q C hR
  unfold w_X2_greatestHeap at h
  obtain ⟨h_o, h⟩ := h
  have pB52 : ∀ (r4 : Int → Int → gSt → Prop) (X4_71 : Int → gSt → Prop) (r21 : Int → Int → Int → Int → gSt → Prop) (X21_58 : Int → Int → Int → gSt → Prop) (hr4 : ∀ (v2 : Int) (v3 : Int) (M : gSt), r4 v2 v3 M → gG p l e (rmR 1 40) s m args below meth c Q D clC A (wC ad cI cS) 6 4 [(0, .ref (ad o)), (1, iv a1), (2, iv v2), (3, iv v3)] [] M) (hX4_71 : ∀ (v2 : Int) (M : gSt), X4_71 v2 M → gG p l e (rmR 1 40) s m args below meth c Q D clC A (wC ad cI cS) 6 71 [(2, iv v2)] [] M) (hr21 : ∀ (v2 : Int) (v3 : Int) (v4 : Int) (v5 : Int) (M : gSt), r21 v2 v3 v4 v5 M → gG p l e (rmR 1 40) s m args below meth c Q D clC A (wC ad cI cS) 6 21 [(0, .ref (ad o)), (1, iv a1), (2, iv v2), (3, iv v3), (4, iv v4), (5, iv v5)] [] M) (hX21_58 : ∀ (v2 : Int) (v3 : Int) (v4 : Int) (M : gSt), X21_58 v2 v3 v4 M → gG p l e (rmR 1 40) s m args below meth c Q D clC A (wC ad cI cS) 6 58 [(0, .ref (ad o)), (1, iv a1), (2, iv v2), (3, iv v3), (4, iv v4)] [] M) (v2 : Int) (v3 : Int) (v4 : Int) (v5 : Int) (M : gSt), wB_X2_greatestHeap_52 o a1 k r4 X4_71 r21 X21_58 v2 v3 v4 v5 M → gG p l e (rmR 1 40) s m args below meth c Q D clC A (wC ad cI cS) 6 52 [(0, .ref (ad o)), (1, iv a1), (2, iv v2), (3, iv v3), (4, iv v4), (5, iv v5)] [] M := by
    intro r4 X4_71 r21 X21_58 hr4 hX4_71 hr21 hX21_58 v2 v3 v4 v5 M h
    unfold wB_X2_greatestHeap_52 at h
    refine g_iinc C dX2_greatestHeap_52 rfl (by decide) rfl ?_
    refine g_locals (lv' := [(0, .ref (ad o)), (1, iv a1), (2, iv v2), (3, iv v3), (4, iv v4), (5, iv (v5 + 1))]) rfl ?_
    refine g_goto C 21 dX2_greatestHeap_55 (by decide) ?_
    refine g_locals (lv' := [(0, .ref (ad o)), (1, iv a1), (2, iv v2), (3, iv v3), (4, iv v4), (5, iv (v5 + 1))]) rfl ?_
    exact hr21 _ _ _ _  _ h
  have pC21 : ∀ (r4 : Int → Int → gSt → Prop) (X4_71 : Int → gSt → Prop) (r21 : Int → Int → Int → Int → gSt → Prop) (X21_58 : Int → Int → Int → gSt → Prop) (hr4 : ∀ (v2 : Int) (v3 : Int) (M : gSt), r4 v2 v3 M → gG p l e (rmR 1 40) s m args below meth c Q D clC A (wC ad cI cS) 6 4 [(0, .ref (ad o)), (1, iv a1), (2, iv v2), (3, iv v3)] [] M) (hX4_71 : ∀ (v2 : Int) (M : gSt), X4_71 v2 M → gG p l e (rmR 1 40) s m args below meth c Q D clC A (wC ad cI cS) 6 71 [(2, iv v2)] [] M) (hr21 : ∀ (v2 : Int) (v3 : Int) (v4 : Int) (v5 : Int) (M : gSt), r21 v2 v3 v4 v5 M → gG p l e (rmR 1 40) s m args below meth c Q D clC A (wC ad cI cS) 6 21 [(0, .ref (ad o)), (1, iv a1), (2, iv v2), (3, iv v3), (4, iv v4), (5, iv v5)] [] M) (hX21_58 : ∀ (v2 : Int) (v3 : Int) (v4 : Int) (M : gSt), X21_58 v2 v3 v4 M → gG p l e (rmR 1 40) s m args below meth c Q D clC A (wC ad cI cS) 6 58 [(0, .ref (ad o)), (1, iv a1), (2, iv v2), (3, iv v3), (4, iv v4)] [] M) (v2 : Int) (v3 : Int) (v4 : Int) (v5 : Int) (M : gSt), wC_X2_greatestHeap_21 o a1 k r4 X4_71 r21 X21_58 v2 v3 v4 v5 M → gG p l e (rmR 1 40) s m args below meth c Q D clC A (wC ad cI cS) 6 21 [(0, .ref (ad o)), (1, iv a1), (2, iv v2), (3, iv v3), (4, iv v4), (5, iv v5)] [] M := by
    intro r4 X4_71 r21 X21_58 hr4 hX4_71 hr21 hX21_58 v2 v3 v4 v5 M h
    unfold wC_X2_greatestHeap_21 at h
    refine g_iload C dX2_greatestHeap_21 rfl ?_
    refine g_aload_n C dX2_greatestHeap_23 rfl ?_
    refine cf_X2_23 C h_o dX2_greatestHeap_24 ?_
    refine g_callVi C (nargs := 0) (o := (o + 3)) (st := [iv v5]) (m_X4_size h) (show isRows (o + 3) from h.1).1 (show isRows (o + 3) from h.1).2.1 rfl rfl gc_X2_43 (by decide +kernel) ⟨rfl, rfl⟩ dX2_greatestHeap_27 ⟨by decide, by decide⟩ rfl rfl (Nat.le_of_ble_eq_true rfl) ?_
    intro r27c M27 hN
    replace h := hN
    clear hN
    refine g_icmp_ge C 58 dX2_greatestHeap_30 (by decide) (fun hc => ?_) (fun hc => ?_)
    · replace h := h.1 hc
      refine g_locals (lv' := [(0, .ref (ad o)), (1, iv a1), (2, iv v2), (3, iv v3), (4, iv v4)]) rfl ?_
      exact hX21_58 _ _ _  _ h
    · replace h := h.2 hc
      refine g_aload_n C dX2_greatestHeap_33 rfl ?_
      refine g_iload C dX2_greatestHeap_34 rfl ?_
      refine g_iload_n C dX2_greatestHeap_36 rfl ?_
      refine g_callVi C (nargs := 2) (o := o) (st := []) (m_X2_notedGrams h) (show isHistories o from h.1).1 (show isHistories o from h.1).2.1 rfl rfl gc_X2_100 (by decide +kernel) ⟨rfl, rfl⟩ dX2_greatestHeap_37 ⟨by decide, by decide⟩ rfl rfl (Nat.le_of_ble_eq_true rfl) ?_
      intro r37c M37 hN
      replace h := hN
      clear hN
      refine g_aload_n C dX2_greatestHeap_40 rfl ?_
      refine g_iload_n C dX2_greatestHeap_41 rfl ?_
      refine g_iload_n C dX2_greatestHeap_42 rfl ?_
      refine g_callVi C (nargs := 2) (o := o) (st := [iv r37c]) (m_X2_notedGrams h) (show isHistories o from h.1).1 (show isHistories o from h.1).2.1 rfl rfl gc_X2_100 (by decide +kernel) ⟨rfl, rfl⟩ dX2_greatestHeap_43 ⟨by decide, by decide⟩ rfl rfl (Nat.le_of_ble_eq_true rfl) ?_
      intro r43c M43 hN
      replace h := hN
      clear hN
      refine g_icmp_ne C 52 dX2_greatestHeap_46 (by decide) (fun hc => ?_) (fun hc => ?_)
      · replace h := h.1 hc
        refine g_locals (lv' := [(0, .ref (ad o)), (1, iv a1), (2, iv v2), (3, iv v3), (4, iv v4), (5, iv v5)]) rfl ?_
        exact pB52 r4 X4_71 r21 X21_58 hr4 hX4_71 hr21 hX21_58 _ _ _ _ _ h
      · replace h := h.2 hc
        refine g_iinc C dX2_greatestHeap_49 rfl (by decide) rfl ?_
        refine g_locals (lv' := [(0, .ref (ad o)), (1, iv a1), (2, iv v2), (3, iv v3), (4, iv (v4 + 1)), (5, iv v5)]) rfl ?_
        refine g_locals (lv' := [(0, .ref (ad o)), (1, iv a1), (2, iv v2), (3, iv v3), (4, iv (v4 + 1)), (5, iv v5)]) rfl ?_
        exact pB52 r4 X4_71 r21 X21_58 hr4 hX4_71 hr21 hX21_58 _ _ _ _ _ h
  have pL21 : ∀ (r4 : Int → Int → gSt → Prop) (X4_71 : Int → gSt → Prop) (X21_58 : Int → Int → Int → gSt → Prop) (hr4 : ∀ (v2 : Int) (v3 : Int) (M : gSt), r4 v2 v3 M → gG p l e (rmR 1 40) s m args below meth c Q D clC A (wC ad cI cS) 6 4 [(0, .ref (ad o)), (1, iv a1), (2, iv v2), (3, iv v3)] [] M) (hX4_71 : ∀ (v2 : Int) (M : gSt), X4_71 v2 M → gG p l e (rmR 1 40) s m args below meth c Q D clC A (wC ad cI cS) 6 71 [(2, iv v2)] [] M) (hX21_58 : ∀ (v2 : Int) (v3 : Int) (v4 : Int) (M : gSt), X21_58 v2 v3 v4 M → gG p l e (rmR 1 40) s m args below meth c Q D clC A (wC ad cI cS) 6 58 [(0, .ref (ad o)), (1, iv a1), (2, iv v2), (3, iv v3), (4, iv v4)] [] M) (n : Nat) (v2 : Int) (v3 : Int) (v4 : Int) (v5 : Int) (M : gSt), wL_X2_greatestHeap_21 o a1 k r4 X4_71 X21_58 n v2 v3 v4 v5 M → gG p l e (rmR 1 40) s m args below meth c Q D clC A (wC ad cI cS) 6 21 [(0, .ref (ad o)), (1, iv a1), (2, iv v2), (3, iv v3), (4, iv v4), (5, iv v5)] [] M := by
    intro r4 X4_71 X21_58 hr4 hX4_71 hX21_58 n
    induction n with
    | zero => intro v2 v3 v4 v5 M h; exact h.elim
    | succ n ih =>
      intro v2 v3 v4 v5 M h
      exact pC21 r4 X4_71 (wL_X2_greatestHeap_21 o a1 k r4 X4_71 X21_58 n) X21_58 hr4 hX4_71 ih hX21_58 v2 v3 v4 v5 M h
  have pC4 : ∀ (r4 : Int → Int → gSt → Prop) (X4_71 : Int → gSt → Prop) (hr4 : ∀ (v2 : Int) (v3 : Int) (M : gSt), r4 v2 v3 M → gG p l e (rmR 1 40) s m args below meth c Q D clC A (wC ad cI cS) 6 4 [(0, .ref (ad o)), (1, iv a1), (2, iv v2), (3, iv v3)] [] M) (hX4_71 : ∀ (v2 : Int) (M : gSt), X4_71 v2 M → gG p l e (rmR 1 40) s m args below meth c Q D clC A (wC ad cI cS) 6 71 [(2, iv v2)] [] M) (v2 : Int) (v3 : Int) (M : gSt), wC_X2_greatestHeap_4 o a1 k r4 X4_71 v2 v3 M → gG p l e (rmR 1 40) s m args below meth c Q D clC A (wC ad cI cS) 6 4 [(0, .ref (ad o)), (1, iv a1), (2, iv v2), (3, iv v3)] [] M := by
    intro r4 X4_71 hr4 hX4_71 v2 v3 M h
    unfold wC_X2_greatestHeap_4 at h
    refine g_iload_n C dX2_greatestHeap_4 rfl ?_
    refine g_aload_n C dX2_greatestHeap_5 rfl ?_
    refine cf_X2_23 C h_o dX2_greatestHeap_6 ?_
    refine g_callVi C (nargs := 0) (o := (o + 3)) (st := [iv v3]) (m_X4_size h) (show isRows (o + 3) from h.1).1 (show isRows (o + 3) from h.1).2.1 rfl rfl gc_X2_43 (by decide +kernel) ⟨rfl, rfl⟩ dX2_greatestHeap_9 ⟨by decide, by decide⟩ rfl rfl (Nat.le_of_ble_eq_true rfl) ?_
    intro r9c M9 hN
    replace h := hN
    clear hN
    refine g_icmp_ge C 71 dX2_greatestHeap_12 (by decide) (fun hc => ?_) (fun hc => ?_)
    · replace h := h.1 hc
      refine g_locals (lv' := [(2, iv v2)]) rfl ?_
      exact hX4_71 _  _ h
    · replace h := h.2 hc
      refine g_iconst C dX2_greatestHeap_15 ?_
      refine g_istore C dX2_greatestHeap_16 (by decide) rfl ?_
      refine g_locals (lv' := [(0, .ref (ad o)), (1, iv a1), (2, iv v2), (3, iv v3), (4, iv 0)]) rfl ?_
      refine g_iload_n C dX2_greatestHeap_18 rfl ?_
      refine g_istore C dX2_greatestHeap_19 (by decide) rfl ?_
      refine g_locals (lv' := [(0, .ref (ad o)), (1, iv a1), (2, iv v2), (3, iv v3), (4, iv 0), (5, iv v3)]) rfl ?_
      refine g_locals (lv' := [(0, .ref (ad o)), (1, iv a1), (2, iv v2), (3, iv v3), (4, iv 0), (5, iv v3)]) rfl ?_
      obtain ⟨n, h⟩ := h
      refine pL21 r4 X4_71 _ hr4 hX4_71 ?_ n _ _ _ _ _ h
      · intro u2_21 u3_21 u4_21 M21 hN
        replace h := hN
        clear hN
        refine g_iload_n C dX2_greatestHeap_58 rfl ?_
        refine g_iload C dX2_greatestHeap_59 rfl ?_
        refine g_mmax C (st := []) dX2_greatestHeap_61 wc_253 wc_91 wc_62 wc_92 (by decide) (Nat.le_of_ble_eq_true rfl) ?_
        refine g_name (fun x2_64 hx2_64 => ?_)
        replace h := h x2_64 hx2_64
        refine g_istore_n C dX2_greatestHeap_64 (by decide) rfl ?_
        refine g_locals (lv' := [(0, .ref (ad o)), (1, iv a1), (2, iv x2_64), (3, iv u3_21), (4, iv u4_21)]) rfl ?_
        refine g_iinc C dX2_greatestHeap_65 rfl (by decide) rfl ?_
        refine g_locals (lv' := [(0, .ref (ad o)), (1, iv a1), (2, iv x2_64), (3, iv (u3_21 + 1)), (4, iv u4_21)]) rfl ?_
        refine g_goto C 4 dX2_greatestHeap_68 (by decide) ?_
        refine g_locals (lv' := [(0, .ref (ad o)), (1, iv a1), (2, iv x2_64), (3, iv (u3_21 + 1))]) rfl ?_
        exact hr4 _ _  _ h
  have pL4 : ∀  (X4_71 : Int → gSt → Prop) (hX4_71 : ∀ (v2 : Int) (M : gSt), X4_71 v2 M → gG p l e (rmR 1 40) s m args below meth c Q D clC A (wC ad cI cS) 6 71 [(2, iv v2)] [] M) (n : Nat) (v2 : Int) (v3 : Int) (M : gSt), wL_X2_greatestHeap_4 o a1 k  X4_71 n v2 v3 M → gG p l e (rmR 1 40) s m args below meth c Q D clC A (wC ad cI cS) 6 4 [(0, .ref (ad o)), (1, iv a1), (2, iv v2), (3, iv v3)] [] M := by
    intro  X4_71 hX4_71 n
    induction n with
    | zero => intro v2 v3 M h; exact h.elim
    | succ n ih =>
      intro v2 v3 M h
      exact pC4  (wL_X2_greatestHeap_4 o a1 k  X4_71 n) X4_71 ih hX4_71 v2 v3 M h
  refine g_locals (lv' := [(0, .ref (ad o)), (1, iv a1)]) rfl ?_
  refine g_iconst C dX2_greatestHeap_0 ?_
  refine g_istore_n C dX2_greatestHeap_1 (by decide) rfl ?_
  refine g_locals (lv' := [(0, .ref (ad o)), (1, iv a1), (2, iv 0)]) rfl ?_
  refine g_iconst C dX2_greatestHeap_2 ?_
  refine g_istore_n C dX2_greatestHeap_3 (by decide) rfl ?_
  refine g_locals (lv' := [(0, .ref (ad o)), (1, iv a1), (2, iv 0), (3, iv 0)]) rfl ?_
  refine g_locals (lv' := [(0, .ref (ad o)), (1, iv a1), (2, iv 0), (3, iv 0)]) rfl ?_
  obtain ⟨n, h⟩ := h
  refine pL4 _ ?_ n _ _ _ h
  · intro u2_4 M4 hN
    replace h := hN
    clear hN
    refine g_iload_n C dX2_greatestHeap_71 rfl ?_
    exact hR _ _ _ _ dX2_greatestHeap_72 rfl h
def wB_X2_bestParted_34 (o : Nat) (a1 : Int) (k : Int → gSt → Prop) (r8 : Int → Int → Int → gSt → Prop) (X8_40 : Int → gSt → Prop) (v2 : Int) (v3 : Int) (v4 : Int) (M : gSt) : Prop :=
r8 v2 v3 (v4 + 1) M
def wC_X2_bestParted_8 (o : Nat) (a1 : Int) (k : Int → gSt → Prop) (r8 : Int → Int → Int → gSt → Prop) (X8_40 : Int → gSt → Prop) (v2 : Int) (v3 : Int) (v4 : Int) (M : gSt) : Prop :=

  (wrap a1 ≤ wrap v4 →
    X8_40 v2 M) ∧
  (wrap v4 < wrap a1 →
    w_X2_greatestHeap o v4 M (fun r17c M17 => 
    (wrap v3 ≤ wrap r17c →
      wB_X2_bestParted_34 o a1 k r8 X8_40 v2 v3 v4 M17) ∧
    (wrap r17c < wrap v3 →
      wB_X2_bestParted_34 o a1 k r8 X8_40 v4 r17c v4 M17)))
def wL_X2_bestParted_8 (o : Nat) (a1 : Int) (k : Int → gSt → Prop)  (X8_40 : Int → gSt → Prop) : Nat → Int → Int → Int → gSt → Prop
  | 0 => fun _ _ _ _ => False
  | n + 1 => fun v2 v3 v4 M => wC_X2_bestParted_8 o a1 k  (wL_X2_bestParted_8 o a1 k  X8_40 n) X8_40 v2 v3 v4 M
def w_X2_bestParted (o : Nat) (a1 : Int) (M : gSt) (k : Int → gSt → Prop) : Prop :=
  (isHistories o) ∧ (∃ n, wL_X2_bestParted_8 o a1 k  (fun u2_8 M8 =>
    k u2_8 M8) n 0 65 0 M)
set_option maxHeartbeats 4000000 in
set_option maxRecDepth 100000 in
theorem m_X2_bestParted {l : Launch} {D : va_G} {tys : List (ClassId × FieldType)} {ad : Nat → Nat} {cI cS : ClassId} {o : Nat} {a1 : Int} {M : gSt} {k : Int → gSt → Prop} (h : w_X2_bestParted o a1 M k) : MOi l yX2_bestParted cX2_bestParted 6 .int (rmR 2 65) D clC ((cI, .int) :: (cS, .object "OldBronze$Sheet") :: tys) (wC ad cI cS) tC zC [.ref (ad o), iv a1] M k := by
  refine moi_intro (by decide +kernel) (Nat.le_of_ble_eq_true rfl) wc_261 ?_
  intro p e s m args below meth c A Q C hR
  unfold w_X2_bestParted at h
  obtain ⟨h_o, h⟩ := h
  have pB34 : ∀ (r8 : Int → Int → Int → gSt → Prop) (X8_40 : Int → gSt → Prop) (hr8 : ∀ (v2 : Int) (v3 : Int) (v4 : Int) (M : gSt), r8 v2 v3 v4 M → gG p l e (rmR 2 65) s m args below meth c Q D clC A (wC ad cI cS) 6 8 [(0, .ref (ad o)), (1, iv a1), (2, iv v2), (3, iv v3), (4, iv v4)] [] M) (hX8_40 : ∀ (v2 : Int) (M : gSt), X8_40 v2 M → gG p l e (rmR 2 65) s m args below meth c Q D clC A (wC ad cI cS) 6 40 [(2, iv v2)] [] M) (v2 : Int) (v3 : Int) (v4 : Int) (M : gSt), wB_X2_bestParted_34 o a1 k r8 X8_40 v2 v3 v4 M → gG p l e (rmR 2 65) s m args below meth c Q D clC A (wC ad cI cS) 6 34 [(0, .ref (ad o)), (1, iv a1), (2, iv v2), (3, iv v3), (4, iv v4)] [] M := by
    intro r8 X8_40 hr8 hX8_40 v2 v3 v4 M h
    unfold wB_X2_bestParted_34 at h
    refine g_iinc C dX2_bestParted_34 rfl (by decide) rfl ?_
    refine g_locals (lv' := [(0, .ref (ad o)), (1, iv a1), (2, iv v2), (3, iv v3), (4, iv (v4 + 1))]) rfl ?_
    refine g_goto C 8 dX2_bestParted_37 (by decide) ?_
    refine g_locals (lv' := [(0, .ref (ad o)), (1, iv a1), (2, iv v2), (3, iv v3), (4, iv (v4 + 1))]) rfl ?_
    exact hr8 _ _ _  _ h
  have pC8 : ∀ (r8 : Int → Int → Int → gSt → Prop) (X8_40 : Int → gSt → Prop) (hr8 : ∀ (v2 : Int) (v3 : Int) (v4 : Int) (M : gSt), r8 v2 v3 v4 M → gG p l e (rmR 2 65) s m args below meth c Q D clC A (wC ad cI cS) 6 8 [(0, .ref (ad o)), (1, iv a1), (2, iv v2), (3, iv v3), (4, iv v4)] [] M) (hX8_40 : ∀ (v2 : Int) (M : gSt), X8_40 v2 M → gG p l e (rmR 2 65) s m args below meth c Q D clC A (wC ad cI cS) 6 40 [(2, iv v2)] [] M) (v2 : Int) (v3 : Int) (v4 : Int) (M : gSt), wC_X2_bestParted_8 o a1 k r8 X8_40 v2 v3 v4 M → gG p l e (rmR 2 65) s m args below meth c Q D clC A (wC ad cI cS) 6 8 [(0, .ref (ad o)), (1, iv a1), (2, iv v2), (3, iv v3), (4, iv v4)] [] M := by
    intro r8 X8_40 hr8 hX8_40 v2 v3 v4 M h
    unfold wC_X2_bestParted_8 at h
    refine g_iload C dX2_bestParted_8 rfl ?_
    refine g_iload_n C dX2_bestParted_10 rfl ?_
    refine g_icmp_ge C 40 dX2_bestParted_11 (by decide) (fun hc => ?_) (fun hc => ?_)
    · replace h := h.1 hc
      refine g_locals (lv' := [(2, iv v2)]) rfl ?_
      exact hX8_40 _  _ h
    · replace h := h.2 hc
      refine g_aload_n C dX2_bestParted_14 rfl ?_
      refine g_iload C dX2_bestParted_15 rfl ?_
      refine g_callVi C (nargs := 1) (o := o) (st := []) (m_X2_greatestHeap h) (show isHistories o from h.1).1 (show isHistories o from h.1).2.1 rfl rfl gc_X2_97 (by decide +kernel) ⟨rfl, rfl⟩ dX2_bestParted_17 ⟨by decide, by decide⟩ rfl rfl (Nat.le_of_ble_eq_true rfl) ?_
      intro r17c M17 hN
      replace h := hN
      clear hN
      refine g_istore C dX2_bestParted_20 (by decide) rfl ?_
      refine g_locals (lv' := [(0, .ref (ad o)), (1, iv a1), (2, iv v2), (3, iv v3), (4, iv v4), (5, iv r17c)]) rfl ?_
      refine g_iload C dX2_bestParted_22 rfl ?_
      refine g_iload_n C dX2_bestParted_24 rfl ?_
      refine g_icmp_ge C 34 dX2_bestParted_25 (by decide) (fun hc => ?_) (fun hc => ?_)
      · replace h := h.1 hc
        refine g_locals (lv' := [(0, .ref (ad o)), (1, iv a1), (2, iv v2), (3, iv v3), (4, iv v4)]) rfl ?_
        exact pB34 r8 X8_40 hr8 hX8_40 _ _ _ _ h
      · replace h := h.2 hc
        refine g_iload C dX2_bestParted_28 rfl ?_
        refine g_istore_n C dX2_bestParted_30 (by decide) rfl ?_
        refine g_locals (lv' := [(0, .ref (ad o)), (1, iv a1), (2, iv v4), (3, iv v3), (4, iv v4), (5, iv r17c)]) rfl ?_
        refine g_iload C dX2_bestParted_31 rfl ?_
        refine g_istore_n C dX2_bestParted_33 (by decide) rfl ?_
        refine g_locals (lv' := [(0, .ref (ad o)), (1, iv a1), (2, iv v4), (3, iv r17c), (4, iv v4), (5, iv r17c)]) rfl ?_
        refine g_locals (lv' := [(0, .ref (ad o)), (1, iv a1), (2, iv v4), (3, iv r17c), (4, iv v4)]) rfl ?_
        exact pB34 r8 X8_40 hr8 hX8_40 _ _ _ _ h
  have pL8 : ∀  (X8_40 : Int → gSt → Prop) (hX8_40 : ∀ (v2 : Int) (M : gSt), X8_40 v2 M → gG p l e (rmR 2 65) s m args below meth c Q D clC A (wC ad cI cS) 6 40 [(2, iv v2)] [] M) (n : Nat) (v2 : Int) (v3 : Int) (v4 : Int) (M : gSt), wL_X2_bestParted_8 o a1 k  X8_40 n v2 v3 v4 M → gG p l e (rmR 2 65) s m args below meth c Q D clC A (wC ad cI cS) 6 8 [(0, .ref (ad o)), (1, iv a1), (2, iv v2), (3, iv v3), (4, iv v4)] [] M := by
    intro  X8_40 hX8_40 n
    induction n with
    | zero => intro v2 v3 v4 M h; exact h.elim
    | succ n ih =>
      intro v2 v3 v4 M h
      exact pC8  (wL_X2_bestParted_8 o a1 k  X8_40 n) X8_40 ih hX8_40 v2 v3 v4 M h
  refine g_locals (lv' := [(0, .ref (ad o)), (1, iv a1)]) rfl ?_
  refine g_iconst C dX2_bestParted_0 ?_
  refine g_istore_n C dX2_bestParted_1 (by decide) rfl ?_
  refine g_locals (lv' := [(0, .ref (ad o)), (1, iv a1), (2, iv 0)]) rfl ?_
  refine g_bipush C dX2_bestParted_2 rfl ?_
  refine g_istore_n C dX2_bestParted_4 (by decide) rfl ?_
  refine g_locals (lv' := [(0, .ref (ad o)), (1, iv a1), (2, iv 0), (3, iv 65)]) rfl ?_
  refine g_iconst C dX2_bestParted_5 ?_
  refine g_istore C dX2_bestParted_6 (by decide) rfl ?_
  refine g_locals (lv' := [(0, .ref (ad o)), (1, iv a1), (2, iv 0), (3, iv 65), (4, iv 0)]) rfl ?_
  refine g_locals (lv' := [(0, .ref (ad o)), (1, iv a1), (2, iv 0), (3, iv 65), (4, iv 0)]) rfl ?_
  obtain ⟨n, h⟩ := h
  refine pL8 _ ?_ n _ _ _ _ h
  · intro u2_8 M8 hN
    replace h := hN
    clear hN
    refine g_iload_n C dX2_bestParted_40 rfl ?_
    exact hR _ _ _ _ dX2_bestParted_41 rfl h
def w_X4_has (o : Nat) (a1 : Int) (M : gSt) (k : Int → gSt → Prop) : Prop :=
  (isRows o) ∧ (
  (wrap a1 < 0 →
    k 0 M) ∧
  (0 ≤ wrap a1 →

    (wrap (M o 3) ≤ wrap a1 →
      k 0 M) ∧
    (wrap a1 < wrap (M o 3) →
      k 1 M)))
set_option maxHeartbeats 4000000 in
set_option maxRecDepth 100000 in
theorem m_X4_has {l : Launch} {D : va_G} {tys : List (ClassId × FieldType)} {ad : Nat → Nat} {cI cS : ClassId} {o : Nat} {a1 : Int} {M : gSt} {k : Int → gSt → Prop} (h : w_X4_has o a1 M k) : MOi l yX4_has cX4_has 2 .boolean (rmR 0 0) D clC ((cI, .int) :: (cS, .object "OldBronze$Sheet") :: tys) (wC ad cI cS) tC zC [.ref (ad o), iv a1] M k := by
  refine moi_intro (by decide +kernel) (Nat.le_of_ble_eq_true rfl) wc_265 ?_
  intro p e s m args below meth c A Q C hR
  unfold w_X4_has at h
  obtain ⟨h_o, h⟩ := h
  refine g_locals (lv' := [(0, .ref (ad o)), (1, iv a1)]) rfl ?_
  refine g_iload_n C dX4_has_0 rfl ?_
  refine g_if_lt C 16 dX4_has_1 (by decide) (fun hc => ?_) (fun hc => ?_)
  · replace h := h.1 hc
    refine g_iconst C dX4_has_16 ?_
    exact hR _ _ _ _ dX4_has_17 rfl h
  · replace h := h.2 hc
    refine g_iload_n C dX4_has_4 rfl ?_
    refine g_aload_n C dX4_has_5 rfl ?_
    refine cf_X4_26 C h_o dX4_has_6 ?_
    refine g_icmp_ge C 16 dX4_has_9 (by decide) (fun hc => ?_) (fun hc => ?_)
    · replace h := h.1 hc
      refine g_iconst C dX4_has_16 ?_
      exact hR _ _ _ _ dX4_has_17 rfl h
    · replace h := h.2 hc
      refine g_iconst C dX4_has_12 ?_
      refine g_goto C 17 dX4_has_13 (by decide) ?_
      exact hR _ _ _ _ dX4_has_17 rfl h
def wC_X2_firstUnlike_17 (o : Nat) (a1 : Nat) (k : Int → gSt → Prop) (r17 : Int → Int → gSt → Prop) (X17_55 : Int → gSt → Prop) (X17_63 : gSt → Prop) (v2 : Int) (v3 : Int) (M : gSt) : Prop :=

  (wrap v2 ≤ wrap v3 →
    X17_63  M) ∧
  (wrap v3 < wrap v2 →
    w_X4_has a1 v3 M (fun r24c M24 => 
    (wrap r24c = 0 →
      X17_55 v3 M24) ∧
    (¬ wrap r24c = 0 →
      w_X4_has (o + 3) v3 M24 (fun r35c M35 => 
      (wrap r35c = 0 →
        X17_55 v3 M35) ∧
      (¬ wrap r35c = 0 →
        w_X4_at a1 v3 0 M35 (fun r44c M44 => w_X2_fitting o v3 M44 (fun r49c M49 => 
        (wrap r44c = wrap r49c →
          r17 v2 (v3 + 1) M49) ∧
        (¬ wrap r44c = wrap r49c →
          X17_55 v3 M49))))))))
def wL_X2_firstUnlike_17 (o : Nat) (a1 : Nat) (k : Int → gSt → Prop)  (X17_55 : Int → gSt → Prop) (X17_63 : gSt → Prop) : Nat → Int → Int → gSt → Prop
  | 0 => fun _ _ _ => False
  | n + 1 => fun v2 v3 M => wC_X2_firstUnlike_17 o a1 k  (wL_X2_firstUnlike_17 o a1 k  X17_55 X17_63 n) X17_55 X17_63 v2 v3 M
def w_X2_firstUnlike (o : Nat) (a1 : Nat) (M : gSt) (k : Int → gSt → Prop) : Prop :=
  (isHistories o) ∧ ((isRows a1) ∧ (w_X4_size a1 M (fun r1c M1 => w_X4_size (o + 3) M1 (fun r8c M8 => ∀ x2_14 : Int, x2_14 = xmax r1c r8c → (∃ n, wL_X2_firstUnlike_17 o a1 k  (fun u3_17 M17 =>
    k u3_17 M17) (fun  M17 =>
    k (-1) M17) n x2_14 0 M8)))))
set_option maxHeartbeats 4000000 in
set_option maxRecDepth 100000 in
theorem m_X2_firstUnlike {l : Launch} {D : va_G} {tys : List (ClassId × FieldType)} {ad : Nat → Nat} {cI cS : ClassId} {o : Nat} {a1 : Nat} {M : gSt} {k : Int → gSt → Prop} (h : w_X2_firstUnlike o a1 M k) : MOi l yX2_firstUnlike cX2_firstUnlike 4 .int (rmR 2 45) D clC ((cI, .int) :: (cS, .object "OldBronze$Sheet") :: tys) (wC ad cI cS) tC zC [.ref (ad o), .ref (ad a1)] M k := by
  refine moi_intro (by decide +kernel) (Nat.le_of_ble_eq_true rfl) wc_269 ?_
  intro p e s m args below meth c A Q C hR
  unfold w_X2_firstUnlike at h
  obtain ⟨h_o, h_a1, h⟩ := h
  have pC17 : ∀ (r17 : Int → Int → gSt → Prop) (X17_55 : Int → gSt → Prop) (X17_63 : gSt → Prop) (hr17 : ∀ (v2 : Int) (v3 : Int) (M : gSt), r17 v2 v3 M → gG p l e (rmR 2 45) s m args below meth c Q D clC A (wC ad cI cS) 4 17 [(0, .ref (ad o)), (1, .ref (ad a1)), (2, iv v2), (3, iv v3)] [] M) (hX17_55 : ∀ (v3 : Int) (M : gSt), X17_55 v3 M → gG p l e (rmR 2 45) s m args below meth c Q D clC A (wC ad cI cS) 4 55 [(3, iv v3)] [] M) (hX17_63 : ∀  (M : gSt), X17_63  M → gG p l e (rmR 2 45) s m args below meth c Q D clC A (wC ad cI cS) 4 63 [] [] M) (v2 : Int) (v3 : Int) (M : gSt), wC_X2_firstUnlike_17 o a1 k r17 X17_55 X17_63 v2 v3 M → gG p l e (rmR 2 45) s m args below meth c Q D clC A (wC ad cI cS) 4 17 [(0, .ref (ad o)), (1, .ref (ad a1)), (2, iv v2), (3, iv v3)] [] M := by
    intro r17 X17_55 X17_63 hr17 hX17_55 hX17_63 v2 v3 M h
    unfold wC_X2_firstUnlike_17 at h
    refine g_iload_n C dX2_firstUnlike_17 rfl ?_
    refine g_iload_n C dX2_firstUnlike_18 rfl ?_
    refine g_icmp_ge C 63 dX2_firstUnlike_19 (by decide) (fun hc => ?_) (fun hc => ?_)
    · replace h := h.1 hc
      refine g_locals (lv' := []) rfl ?_
      exact hX17_63  _ h
    · replace h := h.2 hc
      refine g_aload_n C dX2_firstUnlike_22 rfl ?_
      refine g_iload_n C dX2_firstUnlike_23 rfl ?_
      refine g_callVi C (nargs := 1) (o := a1) (st := []) (m_X4_has h) (show isRows a1 from h.1).1 (show isRows a1 from h.1).2.1 rfl rfl gc_X2_103 (by decide +kernel) ⟨rfl, rfl⟩ dX2_firstUnlike_24 ⟨by decide, by decide⟩ rfl rfl (Nat.le_of_ble_eq_true rfl) ?_
      intro r24c M24 hN
      replace h := hN
      clear hN
      refine g_if_eq C 55 dX2_firstUnlike_27 (by decide) (fun hc => ?_) (fun hc => ?_)
      · replace h := h.1 hc
        refine g_locals (lv' := [(3, iv v3)]) rfl ?_
        exact hX17_55 _  _ h
      · replace h := h.2 hc
        refine g_aload_n C dX2_firstUnlike_30 rfl ?_
        refine cf_X2_23 C h_o dX2_firstUnlike_31 ?_
        refine g_iload_n C dX2_firstUnlike_34 rfl ?_
        refine g_callVi C (nargs := 1) (o := (o + 3)) (st := []) (m_X4_has h) (show isRows (o + 3) from h.1).1 (show isRows (o + 3) from h.1).2.1 rfl rfl gc_X2_103 (by decide +kernel) ⟨rfl, rfl⟩ dX2_firstUnlike_35 ⟨by decide, by decide⟩ rfl rfl (Nat.le_of_ble_eq_true rfl) ?_
        intro r35c M35 hN
        replace h := hN
        clear hN
        refine g_if_eq C 55 dX2_firstUnlike_38 (by decide) (fun hc => ?_) (fun hc => ?_)
        · replace h := h.1 hc
          refine g_locals (lv' := [(3, iv v3)]) rfl ?_
          exact hX17_55 _  _ h
        · replace h := h.2 hc
          refine g_aload_n C dX2_firstUnlike_41 rfl ?_
          refine g_iload_n C dX2_firstUnlike_42 rfl ?_
          refine g_iconst C dX2_firstUnlike_43 ?_
          refine g_callVi C (nargs := 2) (o := a1) (st := []) (m_X4_at h) (show isRows a1 from h.1).1 (show isRows a1 from h.1).2.1 rfl rfl gc_X2_47 (by decide +kernel) ⟨rfl, rfl⟩ dX2_firstUnlike_44 ⟨by decide, by decide⟩ rfl rfl (Nat.le_of_ble_eq_true rfl) ?_
          intro r44c M44 hN
          replace h := hN
          clear hN
          refine g_aload_n C dX2_firstUnlike_47 rfl ?_
          refine g_iload_n C dX2_firstUnlike_48 rfl ?_
          refine g_callVi C (nargs := 1) (o := o) (st := [iv r44c]) (m_X2_fitting h) (show isHistories o from h.1).1 (show isHistories o from h.1).2.1 rfl rfl gc_X2_86 (by decide +kernel) ⟨rfl, rfl⟩ dX2_firstUnlike_49 ⟨by decide, by decide⟩ rfl rfl (Nat.le_of_ble_eq_true rfl) ?_
          intro r49c M49 hN
          replace h := hN
          clear hN
          refine g_icmp_eq C 57 dX2_firstUnlike_52 (by decide) (fun hc => ?_) (fun hc => ?_)
          · replace h := h.1 hc
            refine g_iinc C dX2_firstUnlike_57 rfl (by decide) rfl ?_
            refine g_locals (lv' := [(0, .ref (ad o)), (1, .ref (ad a1)), (2, iv v2), (3, iv (v3 + 1))]) rfl ?_
            refine g_goto C 17 dX2_firstUnlike_60 (by decide) ?_
            refine g_locals (lv' := [(0, .ref (ad o)), (1, .ref (ad a1)), (2, iv v2), (3, iv (v3 + 1))]) rfl ?_
            exact hr17 _ _  _ h
          · replace h := h.2 hc
            refine g_locals (lv' := [(3, iv v3)]) rfl ?_
            exact hX17_55 _  _ h
  have pL17 : ∀  (X17_55 : Int → gSt → Prop) (X17_63 : gSt → Prop) (hX17_55 : ∀ (v3 : Int) (M : gSt), X17_55 v3 M → gG p l e (rmR 2 45) s m args below meth c Q D clC A (wC ad cI cS) 4 55 [(3, iv v3)] [] M) (hX17_63 : ∀  (M : gSt), X17_63  M → gG p l e (rmR 2 45) s m args below meth c Q D clC A (wC ad cI cS) 4 63 [] [] M) (n : Nat) (v2 : Int) (v3 : Int) (M : gSt), wL_X2_firstUnlike_17 o a1 k  X17_55 X17_63 n v2 v3 M → gG p l e (rmR 2 45) s m args below meth c Q D clC A (wC ad cI cS) 4 17 [(0, .ref (ad o)), (1, .ref (ad a1)), (2, iv v2), (3, iv v3)] [] M := by
    intro  X17_55 X17_63 hX17_55 hX17_63 n
    induction n with
    | zero => intro v2 v3 M h; exact h.elim
    | succ n ih =>
      intro v2 v3 M h
      exact pC17  (wL_X2_firstUnlike_17 o a1 k  X17_55 X17_63 n) X17_55 X17_63 ih hX17_55 hX17_63 v2 v3 M h
  refine g_locals (lv' := [(0, .ref (ad o)), (1, .ref (ad a1))]) rfl ?_
  refine g_aload_n C dX2_firstUnlike_0 rfl ?_
  refine g_callVi C (nargs := 0) (o := a1) (st := []) (m_X4_size h) (show isRows a1 from h.1).1 (show isRows a1 from h.1).2.1 rfl rfl gc_X2_43 (by decide +kernel) ⟨rfl, rfl⟩ dX2_firstUnlike_1 ⟨by decide, by decide⟩ rfl rfl (Nat.le_of_ble_eq_true rfl) ?_
  intro r1c M1 hN
  replace h := hN
  clear hN
  refine g_aload_n C dX2_firstUnlike_4 rfl ?_
  refine cf_X2_23 C h_o dX2_firstUnlike_5 ?_
  refine g_callVi C (nargs := 0) (o := (o + 3)) (st := [iv r1c]) (m_X4_size h) (show isRows (o + 3) from h.1).1 (show isRows (o + 3) from h.1).2.1 rfl rfl gc_X2_43 (by decide +kernel) ⟨rfl, rfl⟩ dX2_firstUnlike_8 ⟨by decide, by decide⟩ rfl rfl (Nat.le_of_ble_eq_true rfl) ?_
  intro r8c M8 hN
  replace h := hN
  clear hN
  refine g_mmax C (st := []) dX2_firstUnlike_11 wc_253 wc_91 wc_62 wc_92 (by decide) (Nat.le_of_ble_eq_true rfl) ?_
  refine g_name (fun x2_14 hx2_14 => ?_)
  replace h := h x2_14 hx2_14
  refine g_istore_n C dX2_firstUnlike_14 (by decide) rfl ?_
  refine g_locals (lv' := [(0, .ref (ad o)), (1, .ref (ad a1)), (2, iv x2_14)]) rfl ?_
  refine g_iconst C dX2_firstUnlike_15 ?_
  refine g_istore_n C dX2_firstUnlike_16 (by decide) rfl ?_
  refine g_locals (lv' := [(0, .ref (ad o)), (1, .ref (ad a1)), (2, iv x2_14), (3, iv 0)]) rfl ?_
  refine g_locals (lv' := [(0, .ref (ad o)), (1, .ref (ad a1)), (2, iv x2_14), (3, iv 0)]) rfl ?_
  obtain ⟨n, h⟩ := h
  refine pL17 _ _ ?_ ?_ n _ _ _ h
  · intro u3_17 M17 hN
    replace h := hN
    clear hN
    refine g_iload_n C dX2_firstUnlike_55 rfl ?_
    exact hR _ _ _ _ dX2_firstUnlike_56 rfl h
  · intro  M17 hN
    replace h := hN
    clear hN
    refine g_iconst C dX2_firstUnlike_63 ?_
    exact hR _ _ _ _ dX2_firstUnlike_64 rfl h
