def w_X3_peek (o : Nat) (M : gSt) (k : Int → gSt → Prop) : Prop :=
  (isReader o) ∧ (w_X4_has (o + 1) (M o 3) M (fun r8c M8 => 
  (wrap r8c = 0 →
    k (-1) M8) ∧
  (¬ wrap r8c = 0 →
    w_X4_at (o + 1) (M8 o 3) 0 M8 (fun r23c M23 => k r23c M23))))
set_option maxHeartbeats 4000000 in
set_option maxRecDepth 100000 in
theorem m_X3_peek {l : Launch} {D : va_G} {tys : List (ClassId × FieldType)} {ad : Nat → Nat} {cI cS : ClassId} {o : Nat} {M : gSt} {k : Int → gSt → Prop} (h : w_X3_peek o M k) : MOi l yX3_peek cX3_peek 1 .int (rmR 1 24) D clC ((cI, .int) :: (cS, .object "OldBronze$Sheet") :: tys) (wC ad cI cS) tC zC [.ref (ad o)] M k := by
  refine moi_intro (by decide +kernel) (Nat.le_of_ble_eq_true rfl) wc_276 ?_
  intro p e s m args below meth c A Q C hR
  unfold w_X3_peek at h
  obtain ⟨h_o, h⟩ := h
  refine g_locals (lv' := [(0, .ref (ad o))]) rfl ?_
  refine g_aload_n C dX3_peek_0 rfl ?_
  refine cf_X3_14 C h_o dX3_peek_1 ?_
  refine g_aload_n C dX3_peek_4 rfl ?_
  refine cf_X3_34 C h_o dX3_peek_5 ?_
  refine g_callVi C (nargs := 1) (o := (o + 1)) (st := []) (m_X4_has h) (show isRows (o + 1) from h.1).1 (show isRows (o + 1) from h.1).2.1 rfl rfl gc_X3_45 (by decide +kernel) ⟨rfl, rfl⟩ dX3_peek_8 ⟨by decide, by decide⟩ rfl rfl (Nat.le_of_ble_eq_true rfl) ?_
  intro r8c M8 hN
  replace h := hN
  clear hN
  refine g_if_eq C 29 dX3_peek_11 (by decide) (fun hc => ?_) (fun hc => ?_)
  · replace h := h.1 hc
    refine g_iconst C dX3_peek_29 ?_
    exact hR _ _ _ _ dX3_peek_30 rfl h
  · replace h := h.2 hc
    refine g_aload_n C dX3_peek_14 rfl ?_
    refine cf_X3_14 C h_o dX3_peek_15 ?_
    refine g_aload_n C dX3_peek_18 rfl ?_
    refine cf_X3_34 C h_o dX3_peek_19 ?_
    refine g_iconst C dX3_peek_22 ?_
    refine g_callVi C (nargs := 2) (o := (o + 1)) (st := []) (m_X4_at h) (show isRows (o + 1) from h.1).1 (show isRows (o + 1) from h.1).2.1 rfl rfl gc_X3_49 (by decide +kernel) ⟨rfl, rfl⟩ dX3_peek_23 ⟨by decide, by decide⟩ rfl rfl (Nat.le_of_ble_eq_true rfl) ?_
    intro r23c M23 hN
    replace h := hN
    clear hN
    refine g_goto C 30 dX3_peek_26 (by decide) ?_
    exact hR _ _ _ _ dX3_peek_30 rfl h
def w_X3_levelOf (a1 : Int) (M : gSt) (k : Int → gSt → Prop) : Prop :=
  
  (wrap a1 = 37 →
    k 4 M) ∧
  (wrap a1 = 38 →
    k 1 M) ∧
  (wrap a1 = 42 →
    k 4 M) ∧
  (wrap a1 = 43 →
    k 3 M) ∧
  (wrap a1 = 45 →
    k 3 M) ∧
  (wrap a1 = 47 →
    k 4 M) ∧
  (wrap a1 = 60 →
    k 2 M) ∧
  (wrap a1 = 61 →
    k 2 M) ∧
  (wrap a1 = 62 →
    k 2 M) ∧
  (wrap a1 = 124 →
    k 0 M) ∧
  (¬ wrap a1 = 37 ∧ ¬ wrap a1 = 38 ∧ ¬ wrap a1 = 42 ∧ ¬ wrap a1 = 43 ∧ ¬ wrap a1 = 45 ∧ ¬ wrap a1 = 47 ∧ ¬ wrap a1 = 60 ∧ ¬ wrap a1 = 61 ∧ ¬ wrap a1 = 62 ∧ ¬ wrap a1 = 124 →
    k (-1) M)
set_option maxHeartbeats 4000000 in
set_option maxRecDepth 100000 in
theorem m_X3_levelOf {l : Launch} {D : va_G} {tys : List (ClassId × FieldType)} {ad : Nat → Nat} {cI cS : ClassId} {a1 : Int} {M : gSt} {k : Int → gSt → Prop} (h : w_X3_levelOf a1 M k) : MOi l yX3_levelOf cX3_levelOf 1 .int (rmR 0 0) D clC ((cI, .int) :: (cS, .object "OldBronze$Sheet") :: tys) (wC ad cI cS) tC zC [iv a1] M k := by
  refine moi_intro (by decide +kernel) (Nat.le_of_ble_eq_true rfl) wc_280 ?_
  intro p e s m args below meth c A Q C hR
  unfold w_X3_levelOf at h
  refine g_locals (lv' := [(0, iv a1)]) rfl ?_
  refine g_iload_n C dX3_levelOf_0 rfl ?_
  by_cases hc37 : wrap a1 = 37
  · refine g_lookup C 100 dX3_levelOf_1 (by decide) (by rw [hc37] <;> rfl) (by decide) ?_
    replace h := h.1 hc37
    refine g_iconst C dX3_levelOf_100 ?_
    exact hR _ _ _ _ dX3_levelOf_101 rfl h
  · by_cases hc38 : wrap a1 = 38
    · refine g_lookup C 94 dX3_levelOf_1 (by decide) (by rw [hc38] <;> rfl) (by decide) ?_
      replace h := h.2.1 hc38
      refine g_iconst C dX3_levelOf_94 ?_
      exact hR _ _ _ _ dX3_levelOf_95 rfl h
    · by_cases hc42 : wrap a1 = 42
      · refine g_lookup C 100 dX3_levelOf_1 (by decide) (by rw [hc42] <;> rfl) (by decide) ?_
        replace h := h.2.2.1 hc42
        refine g_iconst C dX3_levelOf_100 ?_
        exact hR _ _ _ _ dX3_levelOf_101 rfl h
      · by_cases hc43 : wrap a1 = 43
        · refine g_lookup C 98 dX3_levelOf_1 (by decide) (by rw [hc43] <;> rfl) (by decide) ?_
          replace h := h.2.2.2.1 hc43
          refine g_iconst C dX3_levelOf_98 ?_
          exact hR _ _ _ _ dX3_levelOf_99 rfl h
        · by_cases hc45 : wrap a1 = 45
          · refine g_lookup C 98 dX3_levelOf_1 (by decide) (by rw [hc45] <;> rfl) (by decide) ?_
            replace h := h.2.2.2.2.1 hc45
            refine g_iconst C dX3_levelOf_98 ?_
            exact hR _ _ _ _ dX3_levelOf_99 rfl h
          · by_cases hc47 : wrap a1 = 47
            · refine g_lookup C 100 dX3_levelOf_1 (by decide) (by rw [hc47] <;> rfl) (by decide) ?_
              replace h := h.2.2.2.2.2.1 hc47
              refine g_iconst C dX3_levelOf_100 ?_
              exact hR _ _ _ _ dX3_levelOf_101 rfl h
            · by_cases hc60 : wrap a1 = 60
              · refine g_lookup C 96 dX3_levelOf_1 (by decide) (by rw [hc60] <;> rfl) (by decide) ?_
                replace h := h.2.2.2.2.2.2.1 hc60
                refine g_iconst C dX3_levelOf_96 ?_
                exact hR _ _ _ _ dX3_levelOf_97 rfl h
              · by_cases hc61 : wrap a1 = 61
                · refine g_lookup C 96 dX3_levelOf_1 (by decide) (by rw [hc61] <;> rfl) (by decide) ?_
                  replace h := h.2.2.2.2.2.2.2.1 hc61
                  refine g_iconst C dX3_levelOf_96 ?_
                  exact hR _ _ _ _ dX3_levelOf_97 rfl h
                · by_cases hc62 : wrap a1 = 62
                  · refine g_lookup C 96 dX3_levelOf_1 (by decide) (by rw [hc62] <;> rfl) (by decide) ?_
                    replace h := h.2.2.2.2.2.2.2.2.1 hc62
                    refine g_iconst C dX3_levelOf_96 ?_
                    exact hR _ _ _ _ dX3_levelOf_97 rfl h
                  · by_cases hc124 : wrap a1 = 124
                    · refine g_lookup C 92 dX3_levelOf_1 (by decide) (by rw [hc124] <;> rfl) (by decide) ?_
                      replace h := h.2.2.2.2.2.2.2.2.2.1 hc124
                      refine g_iconst C dX3_levelOf_92 ?_
                      exact hR _ _ _ _ dX3_levelOf_93 rfl h
                    · refine g_lookup C (off := 101) 102 dX3_levelOf_1 (by decide) (by simp [Op.lookupswitch.offset, Ne.symm hc37, Ne.symm hc38, Ne.symm hc42, Ne.symm hc43, Ne.symm hc45, Ne.symm hc47, Ne.symm hc60, Ne.symm hc61, Ne.symm hc62, Ne.symm hc124]) (by decide) ?_
                      replace h := h.2.2.2.2.2.2.2.2.2.2 ⟨hc37, hc38, hc42, hc43, hc45, hc47, hc60, hc61, hc62, hc124⟩
                      refine g_iconst C dX3_levelOf_102 ?_
                      exact hR _ _ _ _ dX3_levelOf_103 rfl h
def w_X3_isDigit (a1 : Int) (M : gSt) (k : Int → gSt → Prop) : Prop :=
  
  (wrap a1 < 48 →
    k 0 M) ∧
  (48 ≤ wrap a1 →

    (57 < wrap a1 →
      k 0 M) ∧
    (wrap a1 ≤ 57 →
      k 1 M))
set_option maxHeartbeats 4000000 in
set_option maxRecDepth 100000 in
theorem m_X3_isDigit {l : Launch} {D : va_G} {tys : List (ClassId × FieldType)} {ad : Nat → Nat} {cI cS : ClassId} {a1 : Int} {M : gSt} {k : Int → gSt → Prop} (h : w_X3_isDigit a1 M k) : MOi l yX3_isDigit cX3_isDigit 1 .boolean (rmR 0 0) D clC ((cI, .int) :: (cS, .object "OldBronze$Sheet") :: tys) (wC ad cI cS) tC zC [iv a1] M k := by
  refine moi_intro (by decide +kernel) (Nat.le_of_ble_eq_true rfl) wc_281 ?_
  intro p e s m args below meth c A Q C hR
  unfold w_X3_isDigit at h
  refine g_locals (lv' := [(0, iv a1)]) rfl ?_
  refine g_iload_n C dX3_isDigit_0 rfl ?_
  refine g_bipush C dX3_isDigit_1 rfl ?_
  refine g_icmp_lt C 16 dX3_isDigit_3 (by decide) (fun hc => ?_) (fun hc => ?_)
  · replace h := h.1 hc
    refine g_iconst C dX3_isDigit_16 ?_
    exact hR _ _ _ _ dX3_isDigit_17 rfl h
  · replace h := h.2 hc
    refine g_iload_n C dX3_isDigit_6 rfl ?_
    refine g_bipush C dX3_isDigit_7 rfl ?_
    refine g_icmp_gt C 16 dX3_isDigit_9 (by decide) (fun hc => ?_) (fun hc => ?_)
    · replace h := h.1 hc
      refine g_iconst C dX3_isDigit_16 ?_
      exact hR _ _ _ _ dX3_isDigit_17 rfl h
    · replace h := h.2 hc
      refine g_iconst C dX3_isDigit_12 ?_
      refine g_goto C 17 dX3_isDigit_13 (by decide) ?_
      exact hR _ _ _ _ dX3_isDigit_17 rfl h
def wC_X3_readNumber_4 (o : Nat) (k : gSt → Prop) (r4 : Int → Int → gSt → Prop) (X4_48 : Int → gSt → Prop) (v1 : Int) (v2 : Int) (M : gSt) : Prop :=

  (4 ≤ wrap v2 →
    X4_48 v1 M) ∧
  (wrap v2 < 4 →
    w_X3_peek o M (fun r10c M10 => w_X3_isDigit r10c M10 (fun r13c M13 => 
    (wrap r13c = 0 →
      X4_48 v1 M13) ∧
    (¬ wrap r13c = 0 →
      w_X3_peek o M13 (fun r24c M24 => ∀ x1_31 : Int, x1_31 = ((v1 * 10) + r24c) - 48 → (∀ M39 : gSt, M39 = wr M24 o 3 ((M24 o 3) + 1) → (r4 x1_31 (v2 + 1) M39)))))))
def wL_X3_readNumber_4 (o : Nat) (k : gSt → Prop)  (X4_48 : Int → gSt → Prop) : Nat → Int → Int → gSt → Prop
  | 0 => fun _ _ _ => False
  | n + 1 => fun v1 v2 M => wC_X3_readNumber_4 o k  (wL_X3_readNumber_4 o k  X4_48 n) X4_48 v1 v2 M
def wB_X3_readNumber_48 (o : Nat) (k : gSt → Prop)  (v1 : Int) (M : gSt) : Prop :=
w_X4_append (o + 3) v1 0 0 M (fun r55c M55 => k M55)
def w_X3_readNumber (o : Nat) (M : gSt) (k : gSt → Prop) : Prop :=
  (isReader o) ∧ (∃ n, wL_X3_readNumber_4 o k  (fun u1_4 M4 =>
    wB_X3_readNumber_48 o k  u1_4 M4) n 0 0 M)
set_option maxHeartbeats 4000000 in
set_option maxRecDepth 100000 in
theorem m_X3_readNumber {l : Launch} {D : va_G} {tys : List (ClassId × FieldType)} {ad : Nat → Nat} {cI cS : ClassId} {o : Nat} {M : gSt} {k : gSt → Prop} (h : w_X3_readNumber o M k) : MOv l yX3_readNumber cX3_readNumber 3 (rmR 2 46) D clC ((cI, .int) :: (cS, .object "OldBronze$Sheet") :: tys) (wC ad cI cS) tC zC [.ref (ad o)] M k := by
  refine mov_intro (by decide +kernel) (Nat.le_of_ble_eq_true rfl) wc_289 ?_
  intro p e s m args below meth c A Q C hR
  unfold w_X3_readNumber at h
  obtain ⟨h_o, h⟩ := h
  have pC4 : ∀ (r4 : Int → Int → gSt → Prop) (X4_48 : Int → gSt → Prop) (hr4 : ∀ (v1 : Int) (v2 : Int) (M : gSt), r4 v1 v2 M → gG p l e (rmR 2 46) s m args below meth c Q D clC A (wC ad cI cS) 3 4 [(0, .ref (ad o)), (1, iv v1), (2, iv v2)] [] M) (hX4_48 : ∀ (v1 : Int) (M : gSt), X4_48 v1 M → gG p l e (rmR 2 46) s m args below meth c Q D clC A (wC ad cI cS) 3 48 [(0, .ref (ad o)), (1, iv v1)] [] M) (v1 : Int) (v2 : Int) (M : gSt), wC_X3_readNumber_4 o k r4 X4_48 v1 v2 M → gG p l e (rmR 2 46) s m args below meth c Q D clC A (wC ad cI cS) 3 4 [(0, .ref (ad o)), (1, iv v1), (2, iv v2)] [] M := by
    intro r4 X4_48 hr4 hX4_48 v1 v2 M h
    unfold wC_X3_readNumber_4 at h
    refine g_iload_n C dX3_readNumber_4 rfl ?_
    refine g_iconst C dX3_readNumber_5 ?_
    refine g_icmp_ge C 48 dX3_readNumber_6 (by decide) (fun hc => ?_) (fun hc => ?_)
    · replace h := h.1 hc
      refine g_locals (lv' := [(0, .ref (ad o)), (1, iv v1)]) rfl ?_
      exact hX4_48 _  _ h
    · replace h := h.2 hc
      refine g_aload_n C dX3_readNumber_9 rfl ?_
      refine g_callVi C (nargs := 0) (o := o) (st := []) (m_X3_peek h) (show isReader o from h.1).1 (show isReader o from h.1).2 rfl rfl gc_X3_56 (by decide +kernel) ⟨rfl, rfl⟩ dX3_readNumber_10 ⟨by decide, by decide⟩ rfl rfl (Nat.le_of_ble_eq_true rfl) ?_
      intro r10c M10 hN
      replace h := hN
      clear hN
      refine g_callSi C (nargs := 1) (st := []) (m_X3_isDigit h) gc_X3_67 (by decide +kernel) ⟨rfl, rfl⟩ dX3_readNumber_13 ⟨by decide, by decide⟩ rfl rfl (Nat.le_of_ble_eq_true rfl) ?_
      intro r13c M13 hN
      replace h := hN
      clear hN
      refine g_if_eq C 48 dX3_readNumber_16 (by decide) (fun hc => ?_) (fun hc => ?_)
      · replace h := h.1 hc
        refine g_locals (lv' := [(0, .ref (ad o)), (1, iv v1)]) rfl ?_
        exact hX4_48 _  _ h
      · replace h := h.2 hc
        refine g_iload_n C dX3_readNumber_19 rfl ?_
        refine g_bipush C dX3_readNumber_20 rfl ?_
        refine g_imul C dX3_readNumber_22 ?_
        refine g_aload_n C dX3_readNumber_23 rfl ?_
        refine g_callVi C (nargs := 0) (o := o) (st := [iv (v1 * 10)]) (m_X3_peek h) (show isReader o from h.1).1 (show isReader o from h.1).2 rfl rfl gc_X3_56 (by decide +kernel) ⟨rfl, rfl⟩ dX3_readNumber_24 ⟨by decide, by decide⟩ rfl rfl (Nat.le_of_ble_eq_true rfl) ?_
        intro r24c M24 hN
        replace h := hN
        clear hN
        refine g_iadd C dX3_readNumber_27 ?_
        refine g_bipush C dX3_readNumber_28 rfl ?_
        refine g_isub C dX3_readNumber_30 ?_
        refine g_name (fun x1_31 hx1_31 => ?_)
        replace h := h x1_31 hx1_31
        refine g_istore_n C dX3_readNumber_31 (by decide) rfl ?_
        refine g_locals (lv' := [(0, .ref (ad o)), (1, iv x1_31), (2, iv v2)]) rfl ?_
        refine g_aload_n C dX3_readNumber_32 rfl ?_
        refine g_dup C dX3_readNumber_33 rfl ?_
        refine cf_X3_34 C h_o dX3_readNumber_34 ?_
        refine g_iconst C dX3_readNumber_37 ?_
        refine g_iadd C dX3_readNumber_38 ?_
        refine cp_X3_34 C h_o dX3_readNumber_39 ?_
        refine g_memname (fun M39 hM39 => ?_)
        replace h := h M39 hM39
        refine g_iinc C dX3_readNumber_42 rfl (by decide) rfl ?_
        refine g_locals (lv' := [(0, .ref (ad o)), (1, iv x1_31), (2, iv (v2 + 1))]) rfl ?_
        refine g_goto C 4 dX3_readNumber_45 (by decide) ?_
        refine g_locals (lv' := [(0, .ref (ad o)), (1, iv x1_31), (2, iv (v2 + 1))]) rfl ?_
        exact hr4 _ _  _ h
  have pL4 : ∀  (X4_48 : Int → gSt → Prop) (hX4_48 : ∀ (v1 : Int) (M : gSt), X4_48 v1 M → gG p l e (rmR 2 46) s m args below meth c Q D clC A (wC ad cI cS) 3 48 [(0, .ref (ad o)), (1, iv v1)] [] M) (n : Nat) (v1 : Int) (v2 : Int) (M : gSt), wL_X3_readNumber_4 o k  X4_48 n v1 v2 M → gG p l e (rmR 2 46) s m args below meth c Q D clC A (wC ad cI cS) 3 4 [(0, .ref (ad o)), (1, iv v1), (2, iv v2)] [] M := by
    intro  X4_48 hX4_48 n
    induction n with
    | zero => intro v1 v2 M h; exact h.elim
    | succ n ih =>
      intro v1 v2 M h
      exact pC4  (wL_X3_readNumber_4 o k  X4_48 n) X4_48 ih hX4_48 v1 v2 M h
  have pB48 : ∀   (v1 : Int) (M : gSt), wB_X3_readNumber_48 o k  v1 M → gG p l e (rmR 2 46) s m args below meth c Q D clC A (wC ad cI cS) 3 48 [(0, .ref (ad o)), (1, iv v1)] [] M := by
    intro   v1 M h
    unfold wB_X3_readNumber_48 at h
    refine g_aload_n C dX3_readNumber_48 rfl ?_
    refine cf_X3_20 C h_o dX3_readNumber_49 ?_
    refine g_iload_n C dX3_readNumber_52 rfl ?_
    refine g_iconst C dX3_readNumber_53 ?_
    refine g_iconst C dX3_readNumber_54 ?_
    refine g_callVi C (nargs := 3) (o := (o + 3)) (st := []) (m_X4_append h) (show isRows (o + 3) from h.1).1 (show isRows (o + 3) from h.1).2.1 rfl rfl gc_X3_63 (by decide +kernel) ⟨rfl, rfl⟩ dX3_readNumber_55 ⟨by decide, by decide⟩ rfl rfl (Nat.le_of_ble_eq_true rfl) ?_
    intro r55c M55 hN
    replace h := hN
    clear hN
    refine g_pop C dX3_readNumber_58 rfl ?_
    exact hR _ _ _ dX3_readNumber_59 h
  refine g_locals (lv' := [(0, .ref (ad o))]) rfl ?_
  refine g_iconst C dX3_readNumber_0 ?_
  refine g_istore_n C dX3_readNumber_1 (by decide) rfl ?_
  refine g_locals (lv' := [(0, .ref (ad o)), (1, iv 0)]) rfl ?_
  refine g_iconst C dX3_readNumber_2 ?_
  refine g_istore_n C dX3_readNumber_3 (by decide) rfl ?_
  refine g_locals (lv' := [(0, .ref (ad o)), (1, iv 0), (2, iv 0)]) rfl ?_
  refine g_locals (lv' := [(0, .ref (ad o)), (1, iv 0), (2, iv 0)]) rfl ?_
  obtain ⟨n, h⟩ := h
  refine pL4 _ ?_ n _ _ _ h
  · intro u1_4 M4 hN
    replace h := hN
    clear hN
    refine g_locals (lv' := [(0, .ref (ad o)), (1, iv u1_4)]) rfl ?_
    exact pB48 _ _ h
def wB_X3_nameOf_39 (o : Nat) (a1 : Int) (k : Int → gSt → Prop) (r2 : Int → gSt → Prop) (X2_37 : Int → gSt → Prop) (X2_45 : gSt → Prop) (v2 : Int) (M : gSt) : Prop :=
r2 (v2 + 1) M
def wC_X3_nameOf_2 (o : Nat) (a1 : Int) (k : Int → gSt → Prop) (r2 : Int → gSt → Prop) (X2_37 : Int → gSt → Prop) (X2_45 : gSt → Prop) (v2 : Int) (M : gSt) : Prop :=

  (3 ≤ wrap v2 →
    X2_45  M) ∧
  (wrap v2 < 3 →
    ∀ x3_15 : Int, x3_15 = ((M o 2) * 3) + v2 → (
    (wrap x3_15 < 0 →
      wB_X3_nameOf_39 o a1 k r2 X2_37 X2_45 v2 M) ∧
    (0 ≤ wrap x3_15 →

      (6 ≤ wrap x3_15 →
        wB_X3_nameOf_39 o a1 k r2 X2_37 X2_45 v2 M) ∧
      (wrap x3_15 < 6 →
        (0 ≤ x3_15 ∧ x3_15 < 6) ∧ (
        (¬ wrap (tb_NAMES x3_15) = wrap a1 →
          wB_X3_nameOf_39 o a1 k r2 X2_37 X2_45 v2 M) ∧
        (wrap (tb_NAMES x3_15) = wrap a1 →
          X2_37 v2 M))))))
def wL_X3_nameOf_2 (o : Nat) (a1 : Int) (k : Int → gSt → Prop)  (X2_37 : Int → gSt → Prop) (X2_45 : gSt → Prop) : Nat → Int → gSt → Prop
  | 0 => fun _ _ => False
  | n + 1 => fun v2 M => wC_X3_nameOf_2 o a1 k  (wL_X3_nameOf_2 o a1 k  X2_37 X2_45 n) X2_37 X2_45 v2 M
def w_X3_nameOf (o : Nat) (a1 : Int) (M : gSt) (k : Int → gSt → Prop) : Prop :=
  (isReader o) ∧ (∃ n, wL_X3_nameOf_2 o a1 k  (fun u2_2 M2 =>
    k u2_2 M2) (fun  M2 =>
    k (-1) M2) n 0 M)
set_option maxHeartbeats 4000000 in
set_option maxRecDepth 100000 in
theorem m_X3_nameOf {l : Launch} {D : va_G} {tys : List (ClassId × FieldType)} {ad : Nat → Nat} {cI cS : ClassId} {o : Nat} {a1 : Int} {M : gSt} {k : Int → gSt → Prop} (h : w_X3_nameOf o a1 M k) : MOi l yX3_nameOf cX3_nameOf 4 .int (rmR 0 0) D clC ((cI, .int) :: (cS, .object "OldBronze$Sheet") :: tys) (wC ad cI cS) tC zC [.ref (ad o), iv a1] M k := by
  refine moi_intro (by decide +kernel) (Nat.le_of_ble_eq_true rfl) wc_290 ?_
  intro p e s m args below meth c A Q C hR
  obtain ⟨⟨⟨tABOVE, hzABOVE, hTABOVE⟩, ⟨tNAMES, hzNAMES, hTNAMES⟩, ⟨tBODIES, hzBODIES, hTBODIES⟩⟩, hzn⟩ := C.2.2.2.2.2.2.2.2.1
  unfold w_X3_nameOf at h
  obtain ⟨h_o, h⟩ := h
  have pB39 : ∀ (r2 : Int → gSt → Prop) (X2_37 : Int → gSt → Prop) (X2_45 : gSt → Prop) (hr2 : ∀ (v2 : Int) (M : gSt), r2 v2 M → gG p l e (rmR 0 0) s m args below meth c Q D clC A (wC ad cI cS) 4 2 [(0, .ref (ad o)), (1, iv a1), (2, iv v2)] [] M) (hX2_37 : ∀ (v2 : Int) (M : gSt), X2_37 v2 M → gG p l e (rmR 0 0) s m args below meth c Q D clC A (wC ad cI cS) 4 37 [(2, iv v2)] [] M) (hX2_45 : ∀  (M : gSt), X2_45  M → gG p l e (rmR 0 0) s m args below meth c Q D clC A (wC ad cI cS) 4 45 [] [] M) (v2 : Int) (M : gSt), wB_X3_nameOf_39 o a1 k r2 X2_37 X2_45 v2 M → gG p l e (rmR 0 0) s m args below meth c Q D clC A (wC ad cI cS) 4 39 [(0, .ref (ad o)), (1, iv a1), (2, iv v2)] [] M := by
    intro r2 X2_37 X2_45 hr2 hX2_37 hX2_45 v2 M h
    unfold wB_X3_nameOf_39 at h
    refine g_iinc C dX3_nameOf_39 rfl (by decide) rfl ?_
    refine g_locals (lv' := [(0, .ref (ad o)), (1, iv a1), (2, iv (v2 + 1))]) rfl ?_
    refine g_goto C 2 dX3_nameOf_42 (by decide) ?_
    refine g_locals (lv' := [(0, .ref (ad o)), (1, iv a1), (2, iv (v2 + 1))]) rfl ?_
    exact hr2 _  _ h
  have pC2 : ∀ (r2 : Int → gSt → Prop) (X2_37 : Int → gSt → Prop) (X2_45 : gSt → Prop) (hr2 : ∀ (v2 : Int) (M : gSt), r2 v2 M → gG p l e (rmR 0 0) s m args below meth c Q D clC A (wC ad cI cS) 4 2 [(0, .ref (ad o)), (1, iv a1), (2, iv v2)] [] M) (hX2_37 : ∀ (v2 : Int) (M : gSt), X2_37 v2 M → gG p l e (rmR 0 0) s m args below meth c Q D clC A (wC ad cI cS) 4 37 [(2, iv v2)] [] M) (hX2_45 : ∀  (M : gSt), X2_45  M → gG p l e (rmR 0 0) s m args below meth c Q D clC A (wC ad cI cS) 4 45 [] [] M) (v2 : Int) (M : gSt), wC_X3_nameOf_2 o a1 k r2 X2_37 X2_45 v2 M → gG p l e (rmR 0 0) s m args below meth c Q D clC A (wC ad cI cS) 4 2 [(0, .ref (ad o)), (1, iv a1), (2, iv v2)] [] M := by
    intro r2 X2_37 X2_45 hr2 hX2_37 hX2_45 v2 M h
    unfold wC_X3_nameOf_2 at h
    refine g_iload_n C dX3_nameOf_2 rfl ?_
    refine g_iconst C dX3_nameOf_3 ?_
    refine g_icmp_ge C 45 dX3_nameOf_4 (by decide) (fun hc => ?_) (fun hc => ?_)
    · replace h := h.1 hc
      refine g_locals (lv' := []) rfl ?_
      exact hX2_45  _ h
    · replace h := h.2 hc
      refine g_aload_n C dX3_nameOf_7 rfl ?_
      refine cf_X3_30 C h_o dX3_nameOf_8 ?_
      refine g_iconst C dX3_nameOf_11 ?_
      refine g_imul C dX3_nameOf_12 ?_
      refine g_iload_n C dX3_nameOf_13 rfl ?_
      refine g_iadd C dX3_nameOf_14 ?_
      refine g_name (fun x3_15 hx3_15 => ?_)
      replace h := h x3_15 hx3_15
      refine g_istore_n C dX3_nameOf_15 (by decide) rfl ?_
      refine g_locals (lv' := [(0, .ref (ad o)), (1, iv a1), (2, iv v2), (3, iv x3_15)]) rfl ?_
      refine g_iload_n C dX3_nameOf_16 rfl ?_
      refine g_if_lt C 39 dX3_nameOf_17 (by decide) (fun hc => ?_) (fun hc => ?_)
      · replace h := h.1 hc
        refine g_locals (lv' := [(0, .ref (ad o)), (1, iv a1), (2, iv v2)]) rfl ?_
        exact pB39 r2 X2_37 X2_45 hr2 hX2_37 hX2_45 _ _ h
      · replace h := h.2 hc
        refine g_iload_n C dX3_nameOf_20 rfl ?_
        refine g_getsTN C hzNAMES (zn_14 _ _ C.2.2.2.2.2.2.2.2.1) rfl dX3_nameOf_21 ?_
        refine g_talen C dX3_nameOf_24 hTNAMES ?_
        refine g_top (y := 6) rfl ?_
        refine g_icmp_ge C 39 dX3_nameOf_25 (by decide) (fun hc => ?_) (fun hc => ?_)
        · replace h := h.1 hc
          refine g_locals (lv' := [(0, .ref (ad o)), (1, iv a1), (2, iv v2)]) rfl ?_
          exact pB39 r2 X2_37 X2_45 hr2 hX2_37 hX2_45 _ _ h
        · replace h := h.2 hc
          refine g_getsTN C hzNAMES (zn_14 _ _ C.2.2.2.2.2.2.2.2.1) rfl dX3_nameOf_28 ?_
          refine g_iload_n C dX3_nameOf_31 rfl ?_
          refine g_tald C dX3_nameOf_32 hTNAMES (by decide) h.1 ?_
          refine g_top (y := tb_NAMES x3_15) rfl ?_
          replace h := h.2
          refine g_iload_n C dX3_nameOf_33 rfl ?_
          refine g_icmp_ne C 39 dX3_nameOf_34 (by decide) (fun hc => ?_) (fun hc => ?_)
          · replace h := h.1 hc
            refine g_locals (lv' := [(0, .ref (ad o)), (1, iv a1), (2, iv v2)]) rfl ?_
            exact pB39 r2 X2_37 X2_45 hr2 hX2_37 hX2_45 _ _ h
          · replace h := h.2 hc
            refine g_locals (lv' := [(2, iv v2)]) rfl ?_
            exact hX2_37 _  _ h
  have pL2 : ∀  (X2_37 : Int → gSt → Prop) (X2_45 : gSt → Prop) (hX2_37 : ∀ (v2 : Int) (M : gSt), X2_37 v2 M → gG p l e (rmR 0 0) s m args below meth c Q D clC A (wC ad cI cS) 4 37 [(2, iv v2)] [] M) (hX2_45 : ∀  (M : gSt), X2_45  M → gG p l e (rmR 0 0) s m args below meth c Q D clC A (wC ad cI cS) 4 45 [] [] M) (n : Nat) (v2 : Int) (M : gSt), wL_X3_nameOf_2 o a1 k  X2_37 X2_45 n v2 M → gG p l e (rmR 0 0) s m args below meth c Q D clC A (wC ad cI cS) 4 2 [(0, .ref (ad o)), (1, iv a1), (2, iv v2)] [] M := by
    intro  X2_37 X2_45 hX2_37 hX2_45 n
    induction n with
    | zero => intro v2 M h; exact h.elim
    | succ n ih =>
      intro v2 M h
      exact pC2  (wL_X3_nameOf_2 o a1 k  X2_37 X2_45 n) X2_37 X2_45 ih hX2_37 hX2_45 v2 M h
  refine g_locals (lv' := [(0, .ref (ad o)), (1, iv a1)]) rfl ?_
  refine g_iconst C dX3_nameOf_0 ?_
  refine g_istore_n C dX3_nameOf_1 (by decide) rfl ?_
  refine g_locals (lv' := [(0, .ref (ad o)), (1, iv a1), (2, iv 0)]) rfl ?_
  refine g_locals (lv' := [(0, .ref (ad o)), (1, iv a1), (2, iv 0)]) rfl ?_
  obtain ⟨n, h⟩ := h
  refine pL2 _ _ ?_ ?_ n _ _ h
  · intro u2_2 M2 hN
    replace h := hN
    clear hN
    refine g_iload_n C dX3_nameOf_37 rfl ?_
    exact hR _ _ _ _ dX3_nameOf_38 rfl h
  · intro  M2 hN
    replace h := hN
    clear hN
    refine g_iconst C dX3_nameOf_45 ?_
    exact hR _ _ _ _ dX3_nameOf_46 rfl h
def wC_X3_readLevel_39 (rc : Nat → List Int → gSt → (Int → gSt → Prop) → Prop) (o : Nat) (a1 : Int) (a2 : Int) (k : Int → gSt → Prop) (r39 : Int → Int → gSt → Prop) (X39_83 : gSt → Prop) (X39_104 : gSt → Prop) (v3 : Int) (v4 : Int) (M : gSt) : Prop :=

  (wrap v3 ≤ wrap v4 →
    X39_104  M) ∧
  (wrap v4 < wrap v3 →
    w_X3_peek o M (fun r46c M46 => w_X3_levelOf r46c M46 (fun r49c M49 => 
    (¬ wrap r49c = wrap a1 →
      X39_104  M49) ∧
    (wrap r49c = wrap a1 →
      w_X3_peek o M49 (fun r57c M57 => ∀ M69 : gSt, M69 = wr M57 o 3 ((M57 o 3) + 1) → (rc 0 [a1 + 1, a2] M69 (fun r77c M77 => 
      (¬ wrap r77c = 0 →
        w_X4_append (o + 3) (-r57c) 0 0 M77 (fun r94c M94 => r39 v3 (v4 + 1) M94)) ∧
      (wrap r77c = 0 →
        X39_83  M77))))))))
def wL_X3_readLevel_39 (rc : Nat → List Int → gSt → (Int → gSt → Prop) → Prop) (o : Nat) (a1 : Int) (a2 : Int) (k : Int → gSt → Prop)  (X39_83 : gSt → Prop) (X39_104 : gSt → Prop) : Nat → Int → Int → gSt → Prop
  | 0 => fun _ _ _ => False
  | n + 1 => fun v3 v4 M => wC_X3_readLevel_39 rc o a1 a2 k  (wL_X3_readLevel_39 rc o a1 a2 k  X39_83 X39_104 n) X39_83 X39_104 v3 v4 M
def wB_X3_readLevel_35 (rc : Nat → List Int → gSt → (Int → gSt → Prop) → Prop) (o : Nat) (a1 : Int) (a2 : Int) (k : Int → gSt → Prop)  (s0 : Int) (M : gSt) : Prop :=
∃ n, wL_X3_readLevel_39 rc o a1 a2 k  (fun  M39 =>
    k 0 M39) (fun  M39 =>
    k 1 M39) n s0 0 M
def wb_X3_readLevel (rc : Nat → List Int → gSt → (Int → gSt → Prop) → Prop) (o : Nat) (a1 : Int) (a2 : Int) (M : gSt) (k : Int → gSt → Prop) : Prop :=
  (isReader o) ∧ (
  (wrap a1 ≤ 4 →
    rc 0 [a1 + 1, a2] M (fun r16c M16 => 
    (¬ wrap r16c = 0 →

      (¬ wrap a1 = 2 →
        wB_X3_readLevel_35 rc o a1 a2 k  60 M16) ∧
      (wrap a1 = 2 →
        wB_X3_readLevel_35 rc o a1 a2 k  1 M16)) ∧
    (wrap r16c = 0 →
      k 0 M16))) ∧
  (4 < wrap a1 →
    rc 1 [a2] M (fun r7c M7 => (r7c = 0 ∨ r7c = 1) ∧ (k r7c M7))))
set_option maxHeartbeats 4000000 in
set_option maxRecDepth 100000 in
theorem mb_X3_readLevel {l : Launch} {D : va_G} {tys : List (ClassId × FieldType)} {ad : Nat → Nat} {cI cS : ClassId} {rc : Nat → List Int → gSt → (Int → gSt → Prop) → Prop} {o : Nat} {a1 : Int} {a2 : Int} {d : Nat} (hrc0 : ∀ {a1 a2 : Int} {M : gSt} {k : Int → gSt → Prop}, rc 0 [a1, a2] M k → MOi l yX3_readLevel cX3_readLevel 6 .boolean (rmR (d + 3) (d * 25 + 68)) D clC ((cI, .int) :: (cS, .object "OldBronze$Sheet") :: tys) (wC ad cI cS) tC zC [.ref (ad o), iv a1, iv a2] M k) (hrc1 : ∀ {a1 : Int} {M : gSt} {k : Int → gSt → Prop}, rc 1 [a1] M k → MOi l yX3_readValue cX3_readValue 4 .boolean (rmR (d + 3) (d * 25 + 68)) D clC ((cI, .int) :: (cS, .object "OldBronze$Sheet") :: tys) (wC ad cI cS) tC zC [.ref (ad o), iv a1] M k) (hrc2 : ∀ {a1 a2 : Int} {M : gSt} {k : Int → gSt → Prop}, rc 2 [a1, a2] M k → MOi l yX3_readOpened cX3_readOpened 3 .boolean (rmR (d + 3) (d * 25 + 68)) D clC ((cI, .int) :: (cS, .object "OldBronze$Sheet") :: tys) (wC ad cI cS) tC zC [.ref (ad o), iv a1, iv a2] M k) {M : gSt} {k : Int → gSt → Prop} (h : wb_X3_readLevel rc o a1 a2 M k) : MOi l yX3_readLevel cX3_readLevel 6 .boolean (rmR (d + 1 + 3) ((d + 1) * 25 + 68)) D clC ((cI, .int) :: (cS, .object "OldBronze$Sheet") :: tys) (wC ad cI cS) tC zC [.ref (ad o), iv a1, iv a2] M k := by
  refine moi_intro (by decide +kernel) (Nat.le_of_ble_eq_true rfl) wc_311 ?_
  intro p e s m args below meth c A Q C hR
  unfold wb_X3_readLevel at h
  obtain ⟨h_o, h⟩ := h
  have pC39 : ∀ (r39 : Int → Int → gSt → Prop) (X39_83 : gSt → Prop) (X39_104 : gSt → Prop) (hr39 : ∀ (v3 : Int) (v4 : Int) (M : gSt), r39 v3 v4 M → gG p l e (rmR (d + 1 + 3) ((d + 1) * 25 + 68)) s m args below meth c Q D clC A (wC ad cI cS) 6 39 [(0, .ref (ad o)), (1, iv a1), (2, iv a2), (3, iv v3), (4, iv v4)] [] M) (hX39_83 : ∀  (M : gSt), X39_83  M → gG p l e (rmR (d + 1 + 3) ((d + 1) * 25 + 68)) s m args below meth c Q D clC A (wC ad cI cS) 6 83 [] [] M) (hX39_104 : ∀  (M : gSt), X39_104  M → gG p l e (rmR (d + 1 + 3) ((d + 1) * 25 + 68)) s m args below meth c Q D clC A (wC ad cI cS) 6 104 [] [] M) (v3 : Int) (v4 : Int) (M : gSt), wC_X3_readLevel_39 rc o a1 a2 k r39 X39_83 X39_104 v3 v4 M → gG p l e (rmR (d + 1 + 3) ((d + 1) * 25 + 68)) s m args below meth c Q D clC A (wC ad cI cS) 6 39 [(0, .ref (ad o)), (1, iv a1), (2, iv a2), (3, iv v3), (4, iv v4)] [] M := by
    intro r39 X39_83 X39_104 hr39 hX39_83 hX39_104 v3 v4 M h
    unfold wC_X3_readLevel_39 at h
    refine g_iload C dX3_readLevel_39 rfl ?_
    refine g_iload_n C dX3_readLevel_41 rfl ?_
    refine g_icmp_ge C 104 dX3_readLevel_42 (by decide) (fun hc => ?_) (fun hc => ?_)
    · replace h := h.1 hc
      refine g_locals (lv' := []) rfl ?_
      exact hX39_104  _ h
    · replace h := h.2 hc
      refine g_aload_n C dX3_readLevel_45 rfl ?_
      refine g_callVi C (nargs := 0) (o := o) (st := []) (m_X3_peek h) (show isReader o from h.1).1 (show isReader o from h.1).2 rfl rfl gc_X3_56 (by decide +kernel) ⟨rfl, rfl⟩ dX3_readLevel_46 ⟨by simp only [rmR]; omega, by simp only [rmR]; omega⟩ rfl rfl (Nat.le_of_ble_eq_true rfl) ?_
      intro r46c M46 hN
      replace h := hN
      clear hN
      refine g_callSi C (nargs := 1) (st := []) (m_X3_levelOf h) gc_X3_59 (by decide +kernel) ⟨rfl, rfl⟩ dX3_readLevel_49 ⟨by simp only [rmR]; omega, by simp only [rmR]; omega⟩ rfl rfl (Nat.le_of_ble_eq_true rfl) ?_
      intro r49c M49 hN
      replace h := hN
      clear hN
      refine g_iload_n C dX3_readLevel_52 rfl ?_
      refine g_icmp_ne C 104 dX3_readLevel_53 (by decide) (fun hc => ?_) (fun hc => ?_)
      · replace h := h.1 hc
        refine g_locals (lv' := []) rfl ?_
        exact hX39_104  _ h
      · replace h := h.2 hc
        refine g_aload_n C dX3_readLevel_56 rfl ?_
        refine g_callVi C (nargs := 0) (o := o) (st := []) (m_X3_peek h) (show isReader o from h.1).1 (show isReader o from h.1).2 rfl rfl gc_X3_56 (by decide +kernel) ⟨rfl, rfl⟩ dX3_readLevel_57 ⟨by simp only [rmR]; omega, by simp only [rmR]; omega⟩ rfl rfl (Nat.le_of_ble_eq_true rfl) ?_
        intro r57c M57 hN
        replace h := hN
        clear hN
        refine g_istore C dX3_readLevel_60 (by decide) rfl ?_
        refine g_locals (lv' := [(0, .ref (ad o)), (1, iv a1), (2, iv a2), (3, iv v3), (4, iv v4), (5, iv r57c)]) rfl ?_
        refine g_aload_n C dX3_readLevel_62 rfl ?_
        refine g_dup C dX3_readLevel_63 rfl ?_
        refine cf_X3_34 C h_o dX3_readLevel_64 ?_
        refine g_iconst C dX3_readLevel_67 ?_
        refine g_iadd C dX3_readLevel_68 ?_
        refine cp_X3_34 C h_o dX3_readLevel_69 ?_
        refine g_memname (fun M69 hM69 => ?_)
        replace h := h M69 hM69
        refine g_aload_n C dX3_readLevel_72 rfl ?_
        refine g_iload_n C dX3_readLevel_73 rfl ?_
        refine g_iconst C dX3_readLevel_74 ?_
        refine g_iadd C dX3_readLevel_75 ?_
        refine g_iload_n C dX3_readLevel_76 rfl ?_
        refine g_callVi C (nargs := 2) (o := o) (st := []) (hrc0 h) h_o.1 h_o.2 rfl rfl gc_X3_37 (by decide +kernel) ⟨rfl, rfl⟩ dX3_readLevel_77 ⟨by simp only [rmR]; omega, by simp only [rmR]; omega⟩ rfl rfl (Nat.le_of_ble_eq_true rfl) ?_
        intro r77c M77 hN
        replace h := hN
        clear hN
        refine g_if_ne C 85 dX3_readLevel_80 (by decide) (fun hc => ?_) (fun hc => ?_)
        · replace h := h.1 hc
          refine g_aload_n C dX3_readLevel_85 rfl ?_
          refine cf_X3_20 C h_o dX3_readLevel_86 ?_
          refine g_iload C dX3_readLevel_89 rfl ?_
          refine g_ineg C dX3_readLevel_91 ?_
          refine g_iconst C dX3_readLevel_92 ?_
          refine g_iconst C dX3_readLevel_93 ?_
          refine g_callVi C (nargs := 3) (o := (o + 3)) (st := []) (m_X4_append h) (show isRows (o + 3) from h.1).1 (show isRows (o + 3) from h.1).2.1 rfl rfl gc_X3_63 (by decide +kernel) ⟨rfl, rfl⟩ dX3_readLevel_94 ⟨by simp only [rmR]; omega, by simp only [rmR]; omega⟩ rfl rfl (Nat.le_of_ble_eq_true rfl) ?_
          intro r94c M94 hN
          replace h := hN
          clear hN
          refine g_pop C dX3_readLevel_97 rfl ?_
          refine g_iinc C dX3_readLevel_98 rfl (by decide) rfl ?_
          refine g_locals (lv' := [(0, .ref (ad o)), (1, iv a1), (2, iv a2), (3, iv v3), (4, iv (v4 + 1)), (5, iv r57c)]) rfl ?_
          refine g_goto C 39 dX3_readLevel_101 (by decide) ?_
          refine g_locals (lv' := [(0, .ref (ad o)), (1, iv a1), (2, iv a2), (3, iv v3), (4, iv (v4 + 1))]) rfl ?_
          exact hr39 _ _  _ h
        · replace h := h.2 hc
          refine g_locals (lv' := []) rfl ?_
          exact hX39_83  _ h
  have pL39 : ∀  (X39_83 : gSt → Prop) (X39_104 : gSt → Prop) (hX39_83 : ∀  (M : gSt), X39_83  M → gG p l e (rmR (d + 1 + 3) ((d + 1) * 25 + 68)) s m args below meth c Q D clC A (wC ad cI cS) 6 83 [] [] M) (hX39_104 : ∀  (M : gSt), X39_104  M → gG p l e (rmR (d + 1 + 3) ((d + 1) * 25 + 68)) s m args below meth c Q D clC A (wC ad cI cS) 6 104 [] [] M) (n : Nat) (v3 : Int) (v4 : Int) (M : gSt), wL_X3_readLevel_39 rc o a1 a2 k  X39_83 X39_104 n v3 v4 M → gG p l e (rmR (d + 1 + 3) ((d + 1) * 25 + 68)) s m args below meth c Q D clC A (wC ad cI cS) 6 39 [(0, .ref (ad o)), (1, iv a1), (2, iv a2), (3, iv v3), (4, iv v4)] [] M := by
    intro  X39_83 X39_104 hX39_83 hX39_104 n
    induction n with
    | zero => intro v3 v4 M h; exact h.elim
    | succ n ih =>
      intro v3 v4 M h
      exact pC39  (wL_X3_readLevel_39 rc o a1 a2 k  X39_83 X39_104 n) X39_83 X39_104 ih hX39_83 hX39_104 v3 v4 M h
  have pB35 : ∀   (s0 : Int) (M : gSt), wB_X3_readLevel_35 rc o a1 a2 k  s0 M → gG p l e (rmR (d + 1 + 3) ((d + 1) * 25 + 68)) s m args below meth c Q D clC A (wC ad cI cS) 6 35 [(0, .ref (ad o)), (1, iv a1), (2, iv a2)] [iv s0] M := by
    intro   s0 M h
    unfold wB_X3_readLevel_35 at h
    refine g_istore_n C dX3_readLevel_35 (by decide) rfl ?_
    refine g_locals (lv' := [(0, .ref (ad o)), (1, iv a1), (2, iv a2), (3, iv s0)]) rfl ?_
    refine g_iconst C dX3_readLevel_36 ?_
    refine g_istore C dX3_readLevel_37 (by decide) rfl ?_
    refine g_locals (lv' := [(0, .ref (ad o)), (1, iv a1), (2, iv a2), (3, iv s0), (4, iv 0)]) rfl ?_
    refine g_locals (lv' := [(0, .ref (ad o)), (1, iv a1), (2, iv a2), (3, iv s0), (4, iv 0)]) rfl ?_
    obtain ⟨n, h⟩ := h
    refine pL39 _ _ ?_ ?_ n _ _ _ h
    · intro  M39 hN
      replace h := hN
      clear hN
      refine g_iconst C dX3_readLevel_83 ?_
      exact hR _ _ _ _ dX3_readLevel_84 rfl h
    · intro  M39 hN
      replace h := hN
      clear hN
      refine g_iconst C dX3_readLevel_104 ?_
      exact hR _ _ _ _ dX3_readLevel_105 rfl h
  refine g_locals (lv' := [(0, .ref (ad o)), (1, iv a1), (2, iv a2)]) rfl ?_
  refine g_iload_n C dX3_readLevel_0 rfl ?_
  refine g_iconst C dX3_readLevel_1 ?_
  refine g_icmp_le C 11 dX3_readLevel_2 (by decide) (fun hc => ?_) (fun hc => ?_)
  · replace h := h.1 hc
    refine g_aload_n C dX3_readLevel_11 rfl ?_
    refine g_iload_n C dX3_readLevel_12 rfl ?_
    refine g_iconst C dX3_readLevel_13 ?_
    refine g_iadd C dX3_readLevel_14 ?_
    refine g_iload_n C dX3_readLevel_15 rfl ?_
    refine g_callVi C (nargs := 2) (o := o) (st := []) (hrc0 h) h_o.1 h_o.2 rfl rfl gc_X3_37 (by decide +kernel) ⟨rfl, rfl⟩ dX3_readLevel_16 ⟨by simp only [rmR]; omega, by simp only [rmR]; omega⟩ rfl rfl (Nat.le_of_ble_eq_true rfl) ?_
    intro r16c M16 hN
    replace h := hN
    clear hN
    refine g_if_ne C 24 dX3_readLevel_19 (by decide) (fun hc => ?_) (fun hc => ?_)
    · replace h := h.1 hc
      refine g_iload_n C dX3_readLevel_24 rfl ?_
      refine g_iconst C dX3_readLevel_25 ?_
      refine g_icmp_ne C 33 dX3_readLevel_26 (by decide) (fun hc => ?_) (fun hc => ?_)
      · replace h := h.1 hc
        refine g_bipush C dX3_readLevel_33 rfl ?_
        refine g_locals (lv' := [(0, .ref (ad o)), (1, iv a1), (2, iv a2)]) rfl ?_
        exact pB35 _ _ h
      · replace h := h.2 hc
        refine g_iconst C dX3_readLevel_29 ?_
        refine g_goto C 35 dX3_readLevel_30 (by decide) ?_
        refine g_locals (lv' := [(0, .ref (ad o)), (1, iv a1), (2, iv a2)]) rfl ?_
        exact pB35 _ _ h
    · replace h := h.2 hc
      refine g_iconst C dX3_readLevel_22 ?_
      exact hR _ _ _ _ dX3_readLevel_23 rfl h
  · replace h := h.2 hc
    refine g_aload_n C dX3_readLevel_5 rfl ?_
    refine g_iload_n C dX3_readLevel_6 rfl ?_
    refine g_callVi C (nargs := 1) (o := o) (st := []) (hrc1 h) h_o.1 h_o.2 rfl rfl gc_X3_53 (by decide +kernel) ⟨rfl, rfl⟩ dX3_readLevel_7 ⟨by simp only [rmR]; omega, by simp only [rmR]; omega⟩ rfl rfl (Nat.le_of_ble_eq_true rfl) ?_
    intro r7c M7 hN
    replace h := hN
    clear hN
    exact hR _ _ _ _ dX3_readLevel_10 (zn_bool h.1).1 h.2
def wB_X3_readValue_30 (rc : Nat → List Int → gSt → (Int → gSt → Prop) → Prop) (o : Nat) (a1 : Int) (k : Int → gSt → Prop)  (v2 : Int) (M : gSt) : Prop :=

  (5 ≤ wrap a1 →
    k 0 M) ∧
  (wrap a1 < 5 →
    rc 2 [v2, a1 + 1] M (fun r40c M40 => 
    (wrap r40c = 0 →
      k 0 M40) ∧
    (¬ wrap r40c = 0 →
      k 1 M40)))
def wb_X3_readValue (rc : Nat → List Int → gSt → (Int → gSt → Prop) → Prop) (o : Nat) (a1 : Int) (M : gSt) (k : Int → gSt → Prop) : Prop :=
  (isReader o) ∧ (w_X3_peek o M (fun r1c M1 => w_X3_isDigit r1c M1 (fun r6c M6 => 
  (wrap r6c = 0 →

    (wrap r1c = 33 →
      wB_X3_readValue_30 rc o a1 k  r1c M6) ∧
    (¬ wrap r1c = 33 →

      (¬ wrap r1c = 40 →
        w_X3_nameOf o r1c M6 (fun r54c M54 => 
        (0 ≤ wrap r54c →
          ∀ M71 : gSt, M71 = wr M54 o 3 ((M54 o 3) + 1) → (w_X4_append (o + 3) ((-1) - r54c) 0 0 M71 (fun r83c M83 => k 1 M83))) ∧
        (wrap r54c < 0 →
          k 0 M54))) ∧
      (wrap r1c = 40 →
        wB_X3_readValue_30 rc o a1 k  r1c M6))) ∧
  (¬ wrap r6c = 0 →
    w_X3_readNumber o M6 (fun M13 => k 1 M13)))))
set_option maxHeartbeats 4000000 in
set_option maxRecDepth 100000 in
theorem mb_X3_readValue {l : Launch} {D : va_G} {tys : List (ClassId × FieldType)} {ad : Nat → Nat} {cI cS : ClassId} {rc : Nat → List Int → gSt → (Int → gSt → Prop) → Prop} {o : Nat} {a1 : Int} {d : Nat} (hrc0 : ∀ {a1 a2 : Int} {M : gSt} {k : Int → gSt → Prop}, rc 0 [a1, a2] M k → MOi l yX3_readLevel cX3_readLevel 6 .boolean (rmR (d + 3) (d * 25 + 68)) D clC ((cI, .int) :: (cS, .object "OldBronze$Sheet") :: tys) (wC ad cI cS) tC zC [.ref (ad o), iv a1, iv a2] M k) (hrc1 : ∀ {a1 : Int} {M : gSt} {k : Int → gSt → Prop}, rc 1 [a1] M k → MOi l yX3_readValue cX3_readValue 4 .boolean (rmR (d + 3) (d * 25 + 68)) D clC ((cI, .int) :: (cS, .object "OldBronze$Sheet") :: tys) (wC ad cI cS) tC zC [.ref (ad o), iv a1] M k) (hrc2 : ∀ {a1 a2 : Int} {M : gSt} {k : Int → gSt → Prop}, rc 2 [a1, a2] M k → MOi l yX3_readOpened cX3_readOpened 3 .boolean (rmR (d + 3) (d * 25 + 68)) D clC ((cI, .int) :: (cS, .object "OldBronze$Sheet") :: tys) (wC ad cI cS) tC zC [.ref (ad o), iv a1, iv a2] M k) {M : gSt} {k : Int → gSt → Prop} (h : wb_X3_readValue rc o a1 M k) : MOi l yX3_readValue cX3_readValue 4 .boolean (rmR (d + 1 + 3) ((d + 1) * 25 + 68)) D clC ((cI, .int) :: (cS, .object "OldBronze$Sheet") :: tys) (wC ad cI cS) tC zC [.ref (ad o), iv a1] M k := by
  refine moi_intro (by decide +kernel) (Nat.le_of_ble_eq_true rfl) wc_301 ?_
  intro p e s m args below meth c A Q C hR
  unfold wb_X3_readValue at h
  obtain ⟨h_o, h⟩ := h
  have pB30 : ∀   (v2 : Int) (M : gSt), wB_X3_readValue_30 rc o a1 k  v2 M → gG p l e (rmR (d + 1 + 3) ((d + 1) * 25 + 68)) s m args below meth c Q D clC A (wC ad cI cS) 4 30 [(0, .ref (ad o)), (1, iv a1), (2, iv v2)] [] M := by
    intro   v2 M h
    unfold wB_X3_readValue_30 at h
    refine g_iload_n C dX3_readValue_30 rfl ?_
    refine g_iconst C dX3_readValue_31 ?_
    refine g_icmp_ge C 50 dX3_readValue_32 (by decide) (fun hc => ?_) (fun hc => ?_)
    · replace h := h.1 hc
      refine g_iconst C dX3_readValue_50 ?_
      exact hR _ _ _ _ dX3_readValue_51 rfl h
    · replace h := h.2 hc
      refine g_aload_n C dX3_readValue_35 rfl ?_
      refine g_iload_n C dX3_readValue_36 rfl ?_
      refine g_iload_n C dX3_readValue_37 rfl ?_
      refine g_iconst C dX3_readValue_38 ?_
      refine g_iadd C dX3_readValue_39 ?_
      refine g_callVi C (nargs := 2) (o := o) (st := []) (hrc2 h) h_o.1 h_o.2 rfl rfl gc_X3_73 (by decide +kernel) ⟨rfl, rfl⟩ dX3_readValue_40 ⟨by simp only [rmR]; omega, by simp only [rmR]; omega⟩ rfl rfl (Nat.le_of_ble_eq_true rfl) ?_
      intro r40c M40 hN
      replace h := hN
      clear hN
      refine g_if_eq C 50 dX3_readValue_43 (by decide) (fun hc => ?_) (fun hc => ?_)
      · replace h := h.1 hc
        refine g_iconst C dX3_readValue_50 ?_
        exact hR _ _ _ _ dX3_readValue_51 rfl h
      · replace h := h.2 hc
        refine g_iconst C dX3_readValue_46 ?_
        refine g_goto C 51 dX3_readValue_47 (by decide) ?_
        exact hR _ _ _ _ dX3_readValue_51 rfl h
  refine g_locals (lv' := [(0, .ref (ad o)), (1, iv a1)]) rfl ?_
  refine g_aload_n C dX3_readValue_0 rfl ?_
  refine g_callVi C (nargs := 0) (o := o) (st := []) (m_X3_peek h) (show isReader o from h.1).1 (show isReader o from h.1).2 rfl rfl gc_X3_56 (by decide +kernel) ⟨rfl, rfl⟩ dX3_readValue_1 ⟨by simp only [rmR]; omega, by simp only [rmR]; omega⟩ rfl rfl (Nat.le_of_ble_eq_true rfl) ?_
  intro r1c M1 hN
  replace h := hN
  clear hN
  refine g_istore_n C dX3_readValue_4 (by decide) rfl ?_
  refine g_locals (lv' := [(0, .ref (ad o)), (1, iv a1), (2, iv r1c)]) rfl ?_
  refine g_iload_n C dX3_readValue_5 rfl ?_
  refine g_callSi C (nargs := 1) (st := []) (m_X3_isDigit h) gc_X3_67 (by decide +kernel) ⟨rfl, rfl⟩ dX3_readValue_6 ⟨by simp only [rmR]; omega, by simp only [rmR]; omega⟩ rfl rfl (Nat.le_of_ble_eq_true rfl) ?_
  intro r6c M6 hN
  replace h := hN
  clear hN
  refine g_if_eq C 18 dX3_readValue_9 (by decide) (fun hc => ?_) (fun hc => ?_)
  · replace h := h.1 hc
    refine g_iload_n C dX3_readValue_18 rfl ?_
    refine g_bipush C dX3_readValue_19 rfl ?_
    refine g_icmp_eq C 30 dX3_readValue_21 (by decide) (fun hc => ?_) (fun hc => ?_)
    · replace h := h.1 hc
      refine g_locals (lv' := [(0, .ref (ad o)), (1, iv a1), (2, iv r1c)]) rfl ?_
      exact pB30 _ _ h
    · replace h := h.2 hc
      refine g_iload_n C dX3_readValue_24 rfl ?_
      refine g_bipush C dX3_readValue_25 rfl ?_
      refine g_icmp_ne C 52 dX3_readValue_27 (by decide) (fun hc => ?_) (fun hc => ?_)
      · replace h := h.1 hc
        refine g_aload_n C dX3_readValue_52 rfl ?_
        refine g_iload_n C dX3_readValue_53 rfl ?_
        refine g_callVi C (nargs := 1) (o := o) (st := []) (m_X3_nameOf h) (show isReader o from h.1).1 (show isReader o from h.1).2 rfl rfl gc_X3_76 (by decide +kernel) ⟨rfl, rfl⟩ dX3_readValue_54 ⟨by simp only [rmR]; omega, by simp only [rmR]; omega⟩ rfl rfl (Nat.le_of_ble_eq_true rfl) ?_
        intro r54c M54 hN
        replace h := hN
        clear hN
        refine g_istore_n C dX3_readValue_57 (by decide) rfl ?_
        refine g_locals (lv' := [(0, .ref (ad o)), (1, iv a1), (2, iv r1c), (3, iv r54c)]) rfl ?_
        refine g_iload_n C dX3_readValue_58 rfl ?_
        refine g_if_ge C 64 dX3_readValue_59 (by decide) (fun hc => ?_) (fun hc => ?_)
        · replace h := h.1 hc
          refine g_aload_n C dX3_readValue_64 rfl ?_
          refine g_dup C dX3_readValue_65 rfl ?_
          refine cf_X3_34 C h_o dX3_readValue_66 ?_
          refine g_iconst C dX3_readValue_69 ?_
          refine g_iadd C dX3_readValue_70 ?_
          refine cp_X3_34 C h_o dX3_readValue_71 ?_
          refine g_memname (fun M71 hM71 => ?_)
          replace h := h M71 hM71
          refine g_aload_n C dX3_readValue_74 rfl ?_
          refine cf_X3_20 C h_o dX3_readValue_75 ?_
          refine g_iconst C dX3_readValue_78 ?_
          refine g_iload_n C dX3_readValue_79 rfl ?_
          refine g_isub C dX3_readValue_80 ?_
          refine g_iconst C dX3_readValue_81 ?_
          refine g_iconst C dX3_readValue_82 ?_
          refine g_callVi C (nargs := 3) (o := (o + 3)) (st := []) (m_X4_append h) (show isRows (o + 3) from h.1).1 (show isRows (o + 3) from h.1).2.1 rfl rfl gc_X3_63 (by decide +kernel) ⟨rfl, rfl⟩ dX3_readValue_83 ⟨by simp only [rmR]; omega, by simp only [rmR]; omega⟩ rfl rfl (Nat.le_of_ble_eq_true rfl) ?_
          intro r83c M83 hN
          replace h := hN
          clear hN
          refine g_pop C dX3_readValue_86 rfl ?_
          refine g_iconst C dX3_readValue_87 ?_
          exact hR _ _ _ _ dX3_readValue_88 rfl h
        · replace h := h.2 hc
          refine g_iconst C dX3_readValue_62 ?_
          exact hR _ _ _ _ dX3_readValue_63 rfl h
      · replace h := h.2 hc
        refine g_locals (lv' := [(0, .ref (ad o)), (1, iv a1), (2, iv r1c)]) rfl ?_
        exact pB30 _ _ h
  · replace h := h.2 hc
    refine g_aload_n C dX3_readValue_12 rfl ?_
    refine g_callVv C (nargs := 0) (o := o) (st := []) (m_X3_readNumber h) (show isReader o from h.1).1 (show isReader o from h.1).2 rfl rfl gc_X3_70 (by decide +kernel) ⟨rfl, rfl⟩ dX3_readValue_13 ⟨by simp only [rmR]; omega, by simp only [rmR]; omega⟩ rfl rfl (Nat.le_of_ble_eq_true rfl) ?_
    intro M13 hN
    replace h := hN
    clear hN
    refine g_iconst C dX3_readValue_16 ?_
    exact hR _ _ _ _ dX3_readValue_17 rfl h
def wb_X3_readOpened (rc : Nat → List Int → gSt → (Int → gSt → Prop) → Prop) (o : Nat) (a1 : Int) (a2 : Int) (M : gSt) (k : Int → gSt → Prop) : Prop :=
  (isReader o) ∧ (∀ M7 : gSt, M7 = wr M o 3 ((M o 3) + 1) → (
  (¬ wrap a1 = 33 →
    rc 0 [0, a2] M7 (fun r43c M43 => 
    (wrap r43c = 0 →
      k 0 M43) ∧
    (¬ wrap r43c = 0 →
      w_X3_peek o M43 (fun r50c M50 => 
      (wrap r50c = 41 →
        ∀ M67 : gSt, M67 = wr M50 o 3 ((M50 o 3) + 1) → (k 1 M67)) ∧
      (¬ wrap r50c = 41 →
        k 0 M50))))) ∧
  (wrap a1 = 33 →
    rc 1 [a2] M7 (fun r18c M18 => 
    (¬ wrap r18c = 0 →
      w_X4_append (o + 3) (-a1) 0 0 M18 (fun r34c M34 => k 1 M34)) ∧
    (wrap r18c = 0 →
      k 0 M18)))))
set_option maxHeartbeats 4000000 in
set_option maxRecDepth 100000 in
theorem mb_X3_readOpened {l : Launch} {D : va_G} {tys : List (ClassId × FieldType)} {ad : Nat → Nat} {cI cS : ClassId} {rc : Nat → List Int → gSt → (Int → gSt → Prop) → Prop} {o : Nat} {a1 : Int} {a2 : Int} {d : Nat} (hrc0 : ∀ {a1 a2 : Int} {M : gSt} {k : Int → gSt → Prop}, rc 0 [a1, a2] M k → MOi l yX3_readLevel cX3_readLevel 6 .boolean (rmR (d + 3) (d * 25 + 68)) D clC ((cI, .int) :: (cS, .object "OldBronze$Sheet") :: tys) (wC ad cI cS) tC zC [.ref (ad o), iv a1, iv a2] M k) (hrc1 : ∀ {a1 : Int} {M : gSt} {k : Int → gSt → Prop}, rc 1 [a1] M k → MOi l yX3_readValue cX3_readValue 4 .boolean (rmR (d + 3) (d * 25 + 68)) D clC ((cI, .int) :: (cS, .object "OldBronze$Sheet") :: tys) (wC ad cI cS) tC zC [.ref (ad o), iv a1] M k) (hrc2 : ∀ {a1 a2 : Int} {M : gSt} {k : Int → gSt → Prop}, rc 2 [a1, a2] M k → MOi l yX3_readOpened cX3_readOpened 3 .boolean (rmR (d + 3) (d * 25 + 68)) D clC ((cI, .int) :: (cS, .object "OldBronze$Sheet") :: tys) (wC ad cI cS) tC zC [.ref (ad o), iv a1, iv a2] M k) {M : gSt} {k : Int → gSt → Prop} (h : wb_X3_readOpened rc o a1 a2 M k) : MOi l yX3_readOpened cX3_readOpened 3 .boolean (rmR (d + 1 + 3) ((d + 1) * 25 + 68)) D clC ((cI, .int) :: (cS, .object "OldBronze$Sheet") :: tys) (wC ad cI cS) tC zC [.ref (ad o), iv a1, iv a2] M k := by
  refine moi_intro (by decide +kernel) (Nat.le_of_ble_eq_true rfl) wc_300 ?_
  intro p e s m args below meth c A Q C hR
  unfold wb_X3_readOpened at h
  obtain ⟨h_o, h⟩ := h
  refine g_locals (lv' := [(0, .ref (ad o)), (1, iv a1), (2, iv a2)]) rfl ?_
  refine g_aload_n C dX3_readOpened_0 rfl ?_
  refine g_dup C dX3_readOpened_1 rfl ?_
  refine cf_X3_34 C h_o dX3_readOpened_2 ?_
  refine g_iconst C dX3_readOpened_5 ?_
  refine g_iadd C dX3_readOpened_6 ?_
  refine cp_X3_34 C h_o dX3_readOpened_7 ?_
  refine g_memname (fun M7 hM7 => ?_)
  replace h := h M7 hM7
  refine g_iload_n C dX3_readOpened_10 rfl ?_
  refine g_bipush C dX3_readOpened_11 rfl ?_
  refine g_icmp_ne C 40 dX3_readOpened_13 (by decide) (fun hc => ?_) (fun hc => ?_)
  · replace h := h.1 hc
    refine g_aload_n C dX3_readOpened_40 rfl ?_
    refine g_iconst C dX3_readOpened_41 ?_
    refine g_iload_n C dX3_readOpened_42 rfl ?_
    refine g_callVi C (nargs := 2) (o := o) (st := []) (hrc0 h) h_o.1 h_o.2 rfl rfl gc_X3_37 (by decide +kernel) ⟨rfl, rfl⟩ dX3_readOpened_43 ⟨by simp only [rmR]; omega, by simp only [rmR]; omega⟩ rfl rfl (Nat.le_of_ble_eq_true rfl) ?_
    intro r43c M43 hN
    replace h := hN
    clear hN
    refine g_if_eq C 58 dX3_readOpened_46 (by decide) (fun hc => ?_) (fun hc => ?_)
    · replace h := h.1 hc
      refine g_iconst C dX3_readOpened_58 ?_
      exact hR _ _ _ _ dX3_readOpened_59 rfl h
    · replace h := h.2 hc
      refine g_aload_n C dX3_readOpened_49 rfl ?_
      refine g_callVi C (nargs := 0) (o := o) (st := []) (m_X3_peek h) (show isReader o from h.1).1 (show isReader o from h.1).2 rfl rfl gc_X3_56 (by decide +kernel) ⟨rfl, rfl⟩ dX3_readOpened_50 ⟨by simp only [rmR]; omega, by simp only [rmR]; omega⟩ rfl rfl (Nat.le_of_ble_eq_true rfl) ?_
      intro r50c M50 hN
      replace h := hN
      clear hN
      refine g_bipush C dX3_readOpened_53 rfl ?_
      refine g_icmp_eq C 60 dX3_readOpened_55 (by decide) (fun hc => ?_) (fun hc => ?_)
      · replace h := h.1 hc
        refine g_aload_n C dX3_readOpened_60 rfl ?_
        refine g_dup C dX3_readOpened_61 rfl ?_
        refine cf_X3_34 C h_o dX3_readOpened_62 ?_
        refine g_iconst C dX3_readOpened_65 ?_
        refine g_iadd C dX3_readOpened_66 ?_
        refine cp_X3_34 C h_o dX3_readOpened_67 ?_
        refine g_memname (fun M67 hM67 => ?_)
        replace h := h M67 hM67
        refine g_iconst C dX3_readOpened_70 ?_
        exact hR _ _ _ _ dX3_readOpened_71 rfl h
      · replace h := h.2 hc
        refine g_iconst C dX3_readOpened_58 ?_
        exact hR _ _ _ _ dX3_readOpened_59 rfl h
  · replace h := h.2 hc
    refine g_aload_n C dX3_readOpened_16 rfl ?_
    refine g_iload_n C dX3_readOpened_17 rfl ?_
    refine g_callVi C (nargs := 1) (o := o) (st := []) (hrc1 h) h_o.1 h_o.2 rfl rfl gc_X3_53 (by decide +kernel) ⟨rfl, rfl⟩ dX3_readOpened_18 ⟨by simp only [rmR]; omega, by simp only [rmR]; omega⟩ rfl rfl (Nat.le_of_ble_eq_true rfl) ?_
    intro r18c M18 hN
    replace h := hN
    clear hN
    refine g_if_ne C 26 dX3_readOpened_21 (by decide) (fun hc => ?_) (fun hc => ?_)
    · replace h := h.1 hc
      refine g_aload_n C dX3_readOpened_26 rfl ?_
      refine cf_X3_20 C h_o dX3_readOpened_27 ?_
      refine g_iload_n C dX3_readOpened_30 rfl ?_
      refine g_ineg C dX3_readOpened_31 ?_
      refine g_iconst C dX3_readOpened_32 ?_
      refine g_iconst C dX3_readOpened_33 ?_
      refine g_callVi C (nargs := 3) (o := (o + 3)) (st := []) (m_X4_append h) (show isRows (o + 3) from h.1).1 (show isRows (o + 3) from h.1).2.1 rfl rfl gc_X3_63 (by decide +kernel) ⟨rfl, rfl⟩ dX3_readOpened_34 ⟨by simp only [rmR]; omega, by simp only [rmR]; omega⟩ rfl rfl (Nat.le_of_ble_eq_true rfl) ?_
      intro r34c M34 hN
      replace h := hN
      clear hN
      refine g_pop C dX3_readOpened_37 rfl ?_
      refine g_iconst C dX3_readOpened_38 ?_
      exact hR _ _ _ _ dX3_readOpened_39 rfl h
    · replace h := h.2 hc
      refine g_iconst C dX3_readOpened_24 ?_
      exact hR _ _ _ _ dX3_readOpened_25 rfl h
def wg_X3_readLevel (o : Nat) : Nat → Nat → List Int → gSt → (Int → gSt → Prop) → Prop
  | 0 => fun _ _ _ _ => False
  | d + 1 => fun i xs M k => match i, xs with
    | 0, [a1, a2] => wb_X3_readLevel (wg_X3_readLevel o d) o a1 a2 M k
    | 1, [a1] => wb_X3_readValue (wg_X3_readLevel o d) o a1 M k
    | 2, [a1, a2] => wb_X3_readOpened (wg_X3_readLevel o d) o a1 a2 M k
    | _, _ => False
theorem mg_X3_readLevel {l : Launch} {D : va_G} {tys : List (ClassId × FieldType)} {ad : Nat → Nat} {cI cS : ClassId} {o : Nat} (d : Nat) : (∀ {a1 a2 : Int} {M : gSt} {k : Int → gSt → Prop}, wg_X3_readLevel o d 0 [a1, a2] M k → MOi l yX3_readLevel cX3_readLevel 6 .boolean (rmR (d + 3) (d * 25 + 68)) D clC ((cI, .int) :: (cS, .object "OldBronze$Sheet") :: tys) (wC ad cI cS) tC zC [.ref (ad o), iv a1, iv a2] M k) ∧ (∀ {a1 : Int} {M : gSt} {k : Int → gSt → Prop}, wg_X3_readLevel o d 1 [a1] M k → MOi l yX3_readValue cX3_readValue 4 .boolean (rmR (d + 3) (d * 25 + 68)) D clC ((cI, .int) :: (cS, .object "OldBronze$Sheet") :: tys) (wC ad cI cS) tC zC [.ref (ad o), iv a1] M k) ∧ (∀ {a1 a2 : Int} {M : gSt} {k : Int → gSt → Prop}, wg_X3_readLevel o d 2 [a1, a2] M k → MOi l yX3_readOpened cX3_readOpened 3 .boolean (rmR (d + 3) (d * 25 + 68)) D clC ((cI, .int) :: (cS, .object "OldBronze$Sheet") :: tys) (wC ad cI cS) tC zC [.ref (ad o), iv a1, iv a2] M k) := by
  induction d with
  | zero => exact ⟨fun h => False.elim h, fun h => False.elim h, fun h => False.elim h⟩
  | succ d ih =>
    obtain ⟨h0, h1, h2⟩ := ih
    exact ⟨fun h => mb_X3_readLevel (rc := wg_X3_readLevel o d) h0 h1 h2 h, fun h => mb_X3_readValue (rc := wg_X3_readLevel o d) h0 h1 h2 h, fun h => mb_X3_readOpened (rc := wg_X3_readLevel o d) h0 h1 h2 h⟩
def w_X3_readLevel (o : Nat) (a1 a2 : Int) (M : gSt) (k : Int → gSt → Prop) : Prop := isReader o ∧ wg_X3_readLevel o 60 0 [a1, a2] M k
theorem m_X3_readLevel {l : Launch} {D : va_G} {tys : List (ClassId × FieldType)} {ad : Nat → Nat} {cI cS : ClassId} {o : Nat} {a1 a2 : Int} {M : gSt} {k : Int → gSt → Prop} (h : w_X3_readLevel o a1 a2 M k) : MOi l yX3_readLevel cX3_readLevel 6 .boolean (rmR 63 1568) D clC ((cI, .int) :: (cS, .object "OldBronze$Sheet") :: tys) (wC ad cI cS) tC zC [.ref (ad o), iv a1, iv a2] M k := (mg_X3_readLevel 60).1 h.2
def w_X3_readValue (o : Nat) (a1 : Int) (M : gSt) (k : Int → gSt → Prop) : Prop := isReader o ∧ wg_X3_readLevel o 60 1 [a1] M k
theorem m_X3_readValue {l : Launch} {D : va_G} {tys : List (ClassId × FieldType)} {ad : Nat → Nat} {cI cS : ClassId} {o : Nat} {a1 : Int} {M : gSt} {k : Int → gSt → Prop} (h : w_X3_readValue o a1 M k) : MOi l yX3_readValue cX3_readValue 4 .boolean (rmR 63 1568) D clC ((cI, .int) :: (cS, .object "OldBronze$Sheet") :: tys) (wC ad cI cS) tC zC [.ref (ad o), iv a1] M k := (mg_X3_readLevel 60).2.1 h.2
def w_X3_readOpened (o : Nat) (a1 a2 : Int) (M : gSt) (k : Int → gSt → Prop) : Prop := isReader o ∧ wg_X3_readLevel o 60 2 [a1, a2] M k
theorem m_X3_readOpened {l : Launch} {D : va_G} {tys : List (ClassId × FieldType)} {ad : Nat → Nat} {cI cS : ClassId} {o : Nat} {a1 a2 : Int} {M : gSt} {k : Int → gSt → Prop} (h : w_X3_readOpened o a1 a2 M k) : MOi l yX3_readOpened cX3_readOpened 3 .boolean (rmR 63 1568) D clC ((cI, .int) :: (cS, .object "OldBronze$Sheet") :: tys) (wC ad cI cS) tC zC [.ref (ad o), iv a1, iv a2] M k := (mg_X3_readLevel 60).2.2 h.2
def wB_X3_read_53 (o : Nat) (a1 : Nat) (a2 : Int) (k : Int → gSt → Prop)  (s0 : Int) (M : gSt) : Prop :=

  (wrap s0 = 0 →
    k (M o 3) M) ∧
  (¬ wrap s0 = 0 →
    k (-1) M)
def wB_X3_read_52 (o : Nat) (a1 : Nat) (a2 : Int) (k : Int → gSt → Prop)   (M : gSt) : Prop :=
wB_X3_read_53 o a1 a2 k  0 M
def w_X3_read (o : Nat) (a1 : Nat) (a2 : Int) (M : gSt) (k : Int → gSt → Prop) : Prop :=
  (isReader o) ∧ ((isRows a1) ∧ (w_X4_copyFrom (o + 1) a1 M (fun M5 => w_X4_clear (o + 3) M5 (fun M12 => ∀ M17 : gSt, M17 = wr M12 o 2 a2 → (∀ M22 : gSt, M22 = wr M17 o 3 0 → (w_X3_readLevel o 0 0 M22 (fun r28c M28 => 
  (wrap r28c = 0 →
    wB_X3_read_52 o a1 a2 k   M28) ∧
  (¬ wrap r28c = 0 →
    w_X4_size (o + 1) M28 (fun r42c M42 => 
    (¬ wrap (M28 o 3) = wrap r42c →
      wB_X3_read_52 o a1 a2 k   M42) ∧
    (wrap (M28 o 3) = wrap r42c →
      wB_X3_read_53 o a1 a2 k  1 M42))))))))))
set_option maxHeartbeats 4000000 in
set_option maxRecDepth 100000 in
theorem m_X3_read {l : Launch} {D : va_G} {tys : List (ClassId × FieldType)} {ad : Nat → Nat} {cI cS : ClassId} {o : Nat} {a1 : Nat} {a2 : Int} {M : gSt} {k : Int → gSt → Prop} (h : w_X3_read o a1 a2 M k) : MOi l yX3_read cX3_read 4 .int (rmR 64 1593) D clC ((cI, .int) :: (cS, .object "OldBronze$Sheet") :: tys) (wC ad cI cS) tC zC [.ref (ad o), .ref (ad a1), iv a2] M k := by
  refine moi_intro (by decide +kernel) (Nat.le_of_ble_eq_true rfl) wc_315 ?_
  intro p e s m args below meth c A Q C hR
  unfold w_X3_read at h
  obtain ⟨h_o, h_a1, h⟩ := h
  have pB53 : ∀   (s0 : Int) (M : gSt), wB_X3_read_53 o a1 a2 k  s0 M → gG p l e (rmR 64 1593) s m args below meth c Q D clC A (wC ad cI cS) 4 53 [(0, .ref (ad o))] [iv s0] M := by
    intro   s0 M h
    unfold wB_X3_read_53 at h
    refine g_istore_n C dX3_read_53 (by decide) rfl ?_
    refine g_locals (lv' := [(0, .ref (ad o)), (3, iv s0)]) rfl ?_
    refine g_iload_n C dX3_read_54 rfl ?_
    refine g_if_eq C 62 dX3_read_55 (by decide) (fun hc => ?_) (fun hc => ?_)
    · replace h := h.1 hc
      refine g_aload_n C dX3_read_62 rfl ?_
      refine cf_X3_34 C h_o dX3_read_63 ?_
      exact hR _ _ _ _ dX3_read_66 rfl h
    · replace h := h.2 hc
      refine g_iconst C dX3_read_58 ?_
      refine g_goto C 66 dX3_read_59 (by decide) ?_
      exact hR _ _ _ _ dX3_read_66 rfl h
  have pB52 : ∀    (M : gSt), wB_X3_read_52 o a1 a2 k   M → gG p l e (rmR 64 1593) s m args below meth c Q D clC A (wC ad cI cS) 4 52 [(0, .ref (ad o))] [] M := by
    intro    M h
    unfold wB_X3_read_52 at h
    refine g_iconst C dX3_read_52 ?_
    refine g_locals (lv' := [(0, .ref (ad o))]) rfl ?_
    exact pB53 _ _ h
  refine g_locals (lv' := [(0, .ref (ad o)), (1, .ref (ad a1)), (2, iv a2)]) rfl ?_
  refine g_aload_n C dX3_read_0 rfl ?_
  refine cf_X3_14 C h_o dX3_read_1 ?_
  refine g_aload_n C dX3_read_4 rfl ?_
  refine g_callVv C (nargs := 1) (o := (o + 1)) (st := []) (m_X4_copyFrom h) (show isRows (o + 1) from h.1).1 (show isRows (o + 1) from h.1).2.1 rfl rfl gc_X3_23 (by decide +kernel) ⟨rfl, rfl⟩ dX3_read_5 ⟨by decide, by decide⟩ rfl rfl (Nat.le_of_ble_eq_true rfl) ?_
  intro M5 hN
  replace h := hN
  clear hN
  refine g_aload_n C dX3_read_8 rfl ?_
  refine cf_X3_20 C h_o dX3_read_9 ?_
  refine g_callVv C (nargs := 0) (o := (o + 3)) (st := []) (m_X4_clear h) (show isRows (o + 3) from h.1).1 (show isRows (o + 3) from h.1).2.1 rfl rfl gc_X3_27 (by decide +kernel) ⟨rfl, rfl⟩ dX3_read_12 ⟨by decide, by decide⟩ rfl rfl (Nat.le_of_ble_eq_true rfl) ?_
  intro M12 hN
  replace h := hN
  clear hN
  refine g_aload_n C dX3_read_15 rfl ?_
  refine g_iload_n C dX3_read_16 rfl ?_
  refine cp_X3_30 C h_o dX3_read_17 ?_
  refine g_memname (fun M17 hM17 => ?_)
  replace h := h M17 hM17
  refine g_aload_n C dX3_read_20 rfl ?_
  refine g_iconst C dX3_read_21 ?_
  refine cp_X3_34 C h_o dX3_read_22 ?_
  refine g_memname (fun M22 hM22 => ?_)
  replace h := h M22 hM22
  refine g_aload_n C dX3_read_25 rfl ?_
  refine g_iconst C dX3_read_26 ?_
  refine g_iconst C dX3_read_27 ?_
  refine g_callVi C (nargs := 2) (o := o) (st := []) (m_X3_readLevel h) (show isReader o from h.1).1 (show isReader o from h.1).2 rfl rfl gc_X3_37 (by decide +kernel) ⟨rfl, rfl⟩ dX3_read_28 ⟨by decide, by decide⟩ rfl rfl (Nat.le_of_ble_eq_true rfl) ?_
  intro r28c M28 hN
  replace h := hN
  clear hN
  refine g_if_eq C 52 dX3_read_31 (by decide) (fun hc => ?_) (fun hc => ?_)
  · replace h := h.1 hc
    refine g_locals (lv' := [(0, .ref (ad o))]) rfl ?_
    exact pB52  _ h
  · replace h := h.2 hc
    refine g_aload_n C dX3_read_34 rfl ?_
    refine cf_X3_34 C h_o dX3_read_35 ?_
    refine g_aload_n C dX3_read_38 rfl ?_
    refine cf_X3_14 C h_o dX3_read_39 ?_
    refine g_callVi C (nargs := 0) (o := (o + 1)) (st := [iv (M28 o 3)]) (m_X4_size h) (show isRows (o + 1) from h.1).1 (show isRows (o + 1) from h.1).2.1 rfl rfl gc_X3_41 (by decide +kernel) ⟨rfl, rfl⟩ dX3_read_42 ⟨by decide, by decide⟩ rfl rfl (Nat.le_of_ble_eq_true rfl) ?_
    intro r42c M42 hN
    replace h := hN
    clear hN
    refine g_icmp_ne C 52 dX3_read_45 (by decide) (fun hc => ?_) (fun hc => ?_)
    · replace h := h.1 hc
      refine g_locals (lv' := [(0, .ref (ad o))]) rfl ?_
      exact pB52  _ h
    · replace h := h.2 hc
      refine g_iconst C dX3_read_48 ?_
      refine g_goto C 53 dX3_read_49 (by decide) ?_
      refine g_locals (lv' := [(0, .ref (ad o))]) rfl ?_
      exact pB53 _ _ h
