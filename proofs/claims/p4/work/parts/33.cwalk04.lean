def wB_X1_claimants_31 (o : Nat) (a1 : Int) (k : Int → gSt → Prop) (r4 : Int → Int → gSt → Prop) (X4_37 : Int → gSt → Prop) (v2 : Int) (v3 : Int) (M : gSt) : Prop :=
r4 v2 (v3 + 1) M
def wC_X1_claimants_4 (o : Nat) (a1 : Int) (k : Int → gSt → Prop) (r4 : Int → Int → gSt → Prop) (X4_37 : Int → gSt → Prop) (v2 : Int) (v3 : Int) (M : gSt) : Prop :=
w_X4_size (o + 5) M (fun r9c M9 => 
  (wrap r9c ≤ wrap v3 →
    X4_37 v2 M9) ∧
  (wrap v3 < wrap r9c →
    w_X4_at (o + 5) v3 0 M9 (fun r21c M21 => 
    (¬ wrap r21c = wrap a1 →
      wB_X1_claimants_31 o a1 k r4 X4_37 v2 v3 M21) ∧
    (wrap r21c = wrap a1 →
      wB_X1_claimants_31 o a1 k r4 X4_37 (v2 + 1) v3 M21))))
def wL_X1_claimants_4 (o : Nat) (a1 : Int) (k : Int → gSt → Prop)  (X4_37 : Int → gSt → Prop) : Nat → Int → Int → gSt → Prop
  | 0 => fun _ _ _ => False
  | n + 1 => fun v2 v3 M => wC_X1_claimants_4 o a1 k  (wL_X1_claimants_4 o a1 k  X4_37 n) X4_37 v2 v3 M
def w_X1_claimants (o : Nat) (a1 : Int) (M : gSt) (k : Int → gSt → Prop) : Prop :=
  (isForge o) ∧ (∃ n, wL_X1_claimants_4 o a1 k  (fun u2_4 M4 =>
    k u2_4 M4) n 0 0 M)
set_option maxHeartbeats 4000000 in
set_option maxRecDepth 100000 in
theorem m_X1_claimants {l : Launch} {D : va_G} {tys : List (ClassId × FieldType)} {ad : Nat → Nat} {cI cS : ClassId} {o : Nat} {a1 : Int} {M : gSt} {k : Int → gSt → Prop} (h : w_X1_claimants o a1 M k) : MOi l yX1_claimants cX1_claimants 4 .int (rmR 1 24) D clC ((cI, .int) :: (cS, .object "OldBronze$Sheet") :: tys) (wC ad cI cS) tC zC [.ref (ad o), iv a1] M k := by
  refine moi_intro (by decide +kernel) (Nat.le_of_ble_eq_true rfl) wc_175 ?_
  intro p e s m args below meth c A Q C hR
  unfold w_X1_claimants at h
  obtain ⟨h_o, h⟩ := h
  have pB31 : ∀ (r4 : Int → Int → gSt → Prop) (X4_37 : Int → gSt → Prop) (hr4 : ∀ (v2 : Int) (v3 : Int) (M : gSt), r4 v2 v3 M → gG p l e (rmR 1 24) s m args below meth c Q D clC A (wC ad cI cS) 4 4 [(0, .ref (ad o)), (1, iv a1), (2, iv v2), (3, iv v3)] [] M) (hX4_37 : ∀ (v2 : Int) (M : gSt), X4_37 v2 M → gG p l e (rmR 1 24) s m args below meth c Q D clC A (wC ad cI cS) 4 37 [(2, iv v2)] [] M) (v2 : Int) (v3 : Int) (M : gSt), wB_X1_claimants_31 o a1 k r4 X4_37 v2 v3 M → gG p l e (rmR 1 24) s m args below meth c Q D clC A (wC ad cI cS) 4 31 [(0, .ref (ad o)), (1, iv a1), (2, iv v2), (3, iv v3)] [] M := by
    intro r4 X4_37 hr4 hX4_37 v2 v3 M h
    unfold wB_X1_claimants_31 at h
    refine g_iinc C dX1_claimants_31 rfl (by decide) rfl ?_
    refine g_locals (lv' := [(0, .ref (ad o)), (1, iv a1), (2, iv v2), (3, iv (v3 + 1))]) rfl ?_
    refine g_goto C 4 dX1_claimants_34 (by decide) ?_
    refine g_locals (lv' := [(0, .ref (ad o)), (1, iv a1), (2, iv v2), (3, iv (v3 + 1))]) rfl ?_
    exact hr4 _ _  _ h
  have pC4 : ∀ (r4 : Int → Int → gSt → Prop) (X4_37 : Int → gSt → Prop) (hr4 : ∀ (v2 : Int) (v3 : Int) (M : gSt), r4 v2 v3 M → gG p l e (rmR 1 24) s m args below meth c Q D clC A (wC ad cI cS) 4 4 [(0, .ref (ad o)), (1, iv a1), (2, iv v2), (3, iv v3)] [] M) (hX4_37 : ∀ (v2 : Int) (M : gSt), X4_37 v2 M → gG p l e (rmR 1 24) s m args below meth c Q D clC A (wC ad cI cS) 4 37 [(2, iv v2)] [] M) (v2 : Int) (v3 : Int) (M : gSt), wC_X1_claimants_4 o a1 k r4 X4_37 v2 v3 M → gG p l e (rmR 1 24) s m args below meth c Q D clC A (wC ad cI cS) 4 4 [(0, .ref (ad o)), (1, iv a1), (2, iv v2), (3, iv v3)] [] M := by
    intro r4 X4_37 hr4 hX4_37 v2 v3 M h
    unfold wC_X1_claimants_4 at h
    refine g_iload_n C dX1_claimants_4 rfl ?_
    refine g_aload_n C dX1_claimants_5 rfl ?_
    refine cf_X1_27 C h_o dX1_claimants_6 ?_
    refine g_callVi C (nargs := 0) (o := (o + 5)) (st := [iv v3]) (m_X4_size h) (show isRows (o + 5) from h.1).1 (show isRows (o + 5) from h.1).2.1 rfl rfl gc_X1_77 (by decide +kernel) ⟨rfl, rfl⟩ dX1_claimants_9 ⟨by decide, by decide⟩ rfl rfl (Nat.le_of_ble_eq_true rfl) ?_
    intro r9c M9 hN
    replace h := hN
    clear hN
    refine g_icmp_ge C 37 dX1_claimants_12 (by decide) (fun hc => ?_) (fun hc => ?_)
    · replace h := h.1 hc
      refine g_locals (lv' := [(2, iv v2)]) rfl ?_
      exact hX4_37 _  _ h
    · replace h := h.2 hc
      refine g_aload_n C dX1_claimants_15 rfl ?_
      refine cf_X1_27 C h_o dX1_claimants_16 ?_
      refine g_iload_n C dX1_claimants_19 rfl ?_
      refine g_iconst C dX1_claimants_20 ?_
      refine g_callVi C (nargs := 2) (o := (o + 5)) (st := []) (m_X4_at h) (show isRows (o + 5) from h.1).1 (show isRows (o + 5) from h.1).2.1 rfl rfl gc_X1_96 (by decide +kernel) ⟨rfl, rfl⟩ dX1_claimants_21 ⟨by decide, by decide⟩ rfl rfl (Nat.le_of_ble_eq_true rfl) ?_
      intro r21c M21 hN
      replace h := hN
      clear hN
      refine g_iload_n C dX1_claimants_24 rfl ?_
      refine g_icmp_ne C 31 dX1_claimants_25 (by decide) (fun hc => ?_) (fun hc => ?_)
      · replace h := h.1 hc
        refine g_locals (lv' := [(0, .ref (ad o)), (1, iv a1), (2, iv v2), (3, iv v3)]) rfl ?_
        exact pB31 r4 X4_37 hr4 hX4_37 _ _ _ h
      · replace h := h.2 hc
        refine g_iinc C dX1_claimants_28 rfl (by decide) rfl ?_
        refine g_locals (lv' := [(0, .ref (ad o)), (1, iv a1), (2, iv (v2 + 1)), (3, iv v3)]) rfl ?_
        refine g_locals (lv' := [(0, .ref (ad o)), (1, iv a1), (2, iv (v2 + 1)), (3, iv v3)]) rfl ?_
        exact pB31 r4 X4_37 hr4 hX4_37 _ _ _ h
  have pL4 : ∀  (X4_37 : Int → gSt → Prop) (hX4_37 : ∀ (v2 : Int) (M : gSt), X4_37 v2 M → gG p l e (rmR 1 24) s m args below meth c Q D clC A (wC ad cI cS) 4 37 [(2, iv v2)] [] M) (n : Nat) (v2 : Int) (v3 : Int) (M : gSt), wL_X1_claimants_4 o a1 k  X4_37 n v2 v3 M → gG p l e (rmR 1 24) s m args below meth c Q D clC A (wC ad cI cS) 4 4 [(0, .ref (ad o)), (1, iv a1), (2, iv v2), (3, iv v3)] [] M := by
    intro  X4_37 hX4_37 n
    induction n with
    | zero => intro v2 v3 M h; exact h.elim
    | succ n ih =>
      intro v2 v3 M h
      exact pC4  (wL_X1_claimants_4 o a1 k  X4_37 n) X4_37 ih hX4_37 v2 v3 M h
  refine g_locals (lv' := [(0, .ref (ad o)), (1, iv a1)]) rfl ?_
  refine g_iconst C dX1_claimants_0 ?_
  refine g_istore_n C dX1_claimants_1 (by decide) rfl ?_
  refine g_locals (lv' := [(0, .ref (ad o)), (1, iv a1), (2, iv 0)]) rfl ?_
  refine g_iconst C dX1_claimants_2 ?_
  refine g_istore_n C dX1_claimants_3 (by decide) rfl ?_
  refine g_locals (lv' := [(0, .ref (ad o)), (1, iv a1), (2, iv 0), (3, iv 0)]) rfl ?_
  refine g_locals (lv' := [(0, .ref (ad o)), (1, iv a1), (2, iv 0), (3, iv 0)]) rfl ?_
  obtain ⟨n, h⟩ := h
  refine pL4 _ ?_ n _ _ _ h
  · intro u2_4 M4 hN
    replace h := hN
    clear hN
    refine g_iload_n C dX1_claimants_37 rfl ?_
    exact hR _ _ _ _ dX1_claimants_38 rfl h
def w_X1_counted (o : Nat) (a1 : Int) (M : gSt) (k : Int → gSt → Prop) : Prop :=
  (isForge o) ∧ (w_X4_at (o + 5) a1 1 M (fun r6c M6 => w_X4_size (o + 15) M6 (fun r14c M14 => 
  (¬ wrap r14c = 0 →
    w_X4_at (o + 5) a1 0 M14 (fun r28c M28 => w_X0_number (o + 1) r28c 2 M28 (fun r38c M38 => w_X1_claimants o r28c M38 (fun r56c M56 => w_X7_value (o + 17) (o + 15) r6c r38c r56c M56 (fun r59c M59 => w_X1_held r59c r6c M59 (fun r63c M63 => k r63c M63)))))) ∧
  (wrap r14c = 0 →
    k r6c M14))))
set_option maxHeartbeats 4000000 in
set_option maxRecDepth 100000 in
theorem m_X1_counted {l : Launch} {D : va_G} {tys : List (ClassId × FieldType)} {ad : Nat → Nat} {cI cS : ClassId} {o : Nat} {a1 : Int} {M : gSt} {k : Int → gSt → Prop} (h : w_X1_counted o a1 M k) : MOi l yX1_counted cX1_counted 5 .int (rmR 2 61) D clC ((cI, .int) :: (cS, .object "OldBronze$Sheet") :: tys) (wC ad cI cS) tC zC [.ref (ad o), iv a1] M k := by
  refine moi_intro (by decide +kernel) (Nat.le_of_ble_eq_true rfl) wc_180 ?_
  intro p e s m args below meth c A Q C hR
  unfold w_X1_counted at h
  obtain ⟨h_o, h⟩ := h
  refine g_locals (lv' := [(0, .ref (ad o)), (1, iv a1)]) rfl ?_
  refine g_aload_n C dX1_counted_0 rfl ?_
  refine cf_X1_27 C h_o dX1_counted_1 ?_
  refine g_iload_n C dX1_counted_4 rfl ?_
  refine g_iconst C dX1_counted_5 ?_
  refine g_callVi C (nargs := 2) (o := (o + 5)) (st := []) (m_X4_at h) (show isRows (o + 5) from h.1).1 (show isRows (o + 5) from h.1).2.1 rfl rfl gc_X1_96 (by decide +kernel) ⟨rfl, rfl⟩ dX1_counted_6 ⟨by decide, by decide⟩ rfl rfl (Nat.le_of_ble_eq_true rfl) ?_
  intro r6c M6 hN
  replace h := hN
  clear hN
  refine g_istore_n C dX1_counted_9 (by decide) rfl ?_
  refine g_locals (lv' := [(0, .ref (ad o)), (1, iv a1), (2, iv r6c)]) rfl ?_
  refine g_aload_n C dX1_counted_10 rfl ?_
  refine cf_X1_42 C h_o dX1_counted_11 ?_
  refine g_callVi C (nargs := 0) (o := (o + 15)) (st := []) (m_X4_size h) (show isRows (o + 15) from h.1).1 (show isRows (o + 15) from h.1).2.1 rfl rfl gc_X1_77 (by decide +kernel) ⟨rfl, rfl⟩ dX1_counted_14 ⟨by decide, by decide⟩ rfl rfl (Nat.le_of_ble_eq_true rfl) ?_
  intro r14c M14 hN
  replace h := hN
  clear hN
  refine g_if_ne C 22 dX1_counted_17 (by decide) (fun hc => ?_) (fun hc => ?_)
  · replace h := h.1 hc
    refine g_aload_n C dX1_counted_22 rfl ?_
    refine cf_X1_27 C h_o dX1_counted_23 ?_
    refine g_iload_n C dX1_counted_26 rfl ?_
    refine g_iconst C dX1_counted_27 ?_
    refine g_callVi C (nargs := 2) (o := (o + 5)) (st := []) (m_X4_at h) (show isRows (o + 5) from h.1).1 (show isRows (o + 5) from h.1).2.1 rfl rfl gc_X1_96 (by decide +kernel) ⟨rfl, rfl⟩ dX1_counted_28 ⟨by decide, by decide⟩ rfl rfl (Nat.le_of_ble_eq_true rfl) ?_
    intro r28c M28 hN
    replace h := hN
    clear hN
    refine g_istore_n C dX1_counted_31 (by decide) rfl ?_
    refine g_locals (lv' := [(0, .ref (ad o)), (1, iv a1), (2, iv r6c), (3, iv r28c)]) rfl ?_
    refine g_aload_n C dX1_counted_32 rfl ?_
    refine cf_X1_12 C h_o dX1_counted_33 ?_
    refine g_iload_n C dX1_counted_36 rfl ?_
    refine g_iconst C dX1_counted_37 ?_
    refine g_callVi C (nargs := 2) (o := (o + 1)) (st := []) (m_X0_number h) (show isBronze (o + 1) from h.1).1 (show isBronze (o + 1) from h.1).2.1 rfl rfl gc_X1_63 (by decide +kernel) ⟨rfl, rfl⟩ dX1_counted_38 ⟨by decide, by decide⟩ rfl rfl (Nat.le_of_ble_eq_true rfl) ?_
    intro r38c M38 hN
    replace h := hN
    clear hN
    refine g_istore C dX1_counted_41 (by decide) rfl ?_
    refine g_locals (lv' := [(0, .ref (ad o)), (1, iv a1), (2, iv r6c), (3, iv r28c), (4, iv r38c)]) rfl ?_
    refine g_aload_n C dX1_counted_43 rfl ?_
    refine cf_X1_48 C h_o dX1_counted_44 ?_
    refine g_aload_n C dX1_counted_47 rfl ?_
    refine cf_X1_42 C h_o dX1_counted_48 ?_
    refine g_iload_n C dX1_counted_51 rfl ?_
    refine g_iload C dX1_counted_52 rfl ?_
    refine g_aload_n C dX1_counted_54 rfl ?_
    refine g_iload_n C dX1_counted_55 rfl ?_
    refine g_callVi C (nargs := 1) (o := o) (st := [iv r38c, iv r6c, .ref (ad (o + 15)), .ref (ad (o + 17))]) (m_X1_claimants h) (show isForge o from h.1).1 (show isForge o from h.1).2 rfl rfl gc_X1_99 (by decide +kernel) ⟨rfl, rfl⟩ dX1_counted_56 ⟨by decide, by decide⟩ rfl rfl (Nat.le_of_ble_eq_true rfl) ?_
    intro r56c M56 hN
    replace h := hN
    clear hN
    refine g_callVi C (nargs := 4) (o := (o + 17)) (st := []) (m_X7_value h) (show isWorker (o + 17) from h.1).1 (show isWorker (o + 17) from h.1).2.1 rfl rfl gc_X1_81 (by decide +kernel) ⟨rfl, rfl⟩ dX1_counted_59 ⟨by decide, by decide⟩ rfl rfl (Nat.le_of_ble_eq_true rfl) ?_
    intro r59c M59 hN
    replace h := hN
    clear hN
    refine g_iload_n C dX1_counted_62 rfl ?_
    refine g_callSi C (nargs := 2) (st := []) (m_X1_held h) gc_X1_85 (by decide +kernel) ⟨rfl, rfl⟩ dX1_counted_63 ⟨by decide, by decide⟩ rfl rfl (Nat.le_of_ble_eq_true rfl) ?_
    intro r63c M63 hN
    replace h := hN
    clear hN
    exact hR _ _ _ _ dX1_counted_66 rfl h
  · replace h := h.2 hc
    refine g_iload_n C dX1_counted_20 rfl ?_
    exact hR _ _ _ _ dX1_counted_21 rfl h
def wB_X1_countedBelow_46 (o : Nat) (a1 : Int) (a2 : Int) (k : Int → gSt → Prop) (r5 : Int → Int → gSt → Prop) (X5_52 : Int → gSt → Prop) (v3 : Int) (v4 : Int) (M : gSt) : Prop :=
r5 v3 (v4 + 1) M
def wC_X1_countedBelow_5 (o : Nat) (a1 : Int) (a2 : Int) (k : Int → gSt → Prop) (r5 : Int → Int → gSt → Prop) (X5_52 : Int → gSt → Prop) (v3 : Int) (v4 : Int) (M : gSt) : Prop :=

  (wrap a2 ≤ wrap v4 →
    X5_52 v3 M) ∧
  (wrap v4 < wrap a2 →
    w_X4_size (o + 5) M (fun r17c M17 => 
    (wrap r17c ≤ wrap v4 →
      X5_52 v3 M17) ∧
    (wrap v4 < wrap r17c →
      w_X4_at (o + 5) v4 0 M17 (fun r30c M30 => 
      (¬ wrap r30c = wrap a1 →
        wB_X1_countedBelow_46 o a1 a2 k r5 X5_52 v3 v4 M30) ∧
      (wrap r30c = wrap a1 →
        w_X1_counted o v4 M30 (fun r41c M41 => ∀ x3_45 : Int, x3_45 = v3 + r41c → (wB_X1_countedBelow_46 o a1 a2 k r5 X5_52 x3_45 v4 M41)))))))
def wL_X1_countedBelow_5 (o : Nat) (a1 : Int) (a2 : Int) (k : Int → gSt → Prop)  (X5_52 : Int → gSt → Prop) : Nat → Int → Int → gSt → Prop
  | 0 => fun _ _ _ => False
  | n + 1 => fun v3 v4 M => wC_X1_countedBelow_5 o a1 a2 k  (wL_X1_countedBelow_5 o a1 a2 k  X5_52 n) X5_52 v3 v4 M
def w_X1_countedBelow (o : Nat) (a1 : Int) (a2 : Int) (M : gSt) (k : Int → gSt → Prop) : Prop :=
  (isForge o) ∧ (∃ n, wL_X1_countedBelow_5 o a1 a2 k  (fun u3_5 M5 =>
    k u3_5 M5) n 0 0 M)
set_option maxHeartbeats 4000000 in
set_option maxRecDepth 100000 in
theorem m_X1_countedBelow {l : Launch} {D : va_G} {tys : List (ClassId × FieldType)} {ad : Nat → Nat} {cI cS : ClassId} {o : Nat} {a1 : Int} {a2 : Int} {M : gSt} {k : Int → gSt → Prop} (h : w_X1_countedBelow o a1 a2 M k) : MOi l yX1_countedBelow cX1_countedBelow 5 .int (rmR 3 85) D clC ((cI, .int) :: (cS, .object "OldBronze$Sheet") :: tys) (wC ad cI cS) tC zC [.ref (ad o), iv a1, iv a2] M k := by
  refine moi_intro (by decide +kernel) (Nat.le_of_ble_eq_true rfl) wc_184 ?_
  intro p e s m args below meth c A Q C hR
  unfold w_X1_countedBelow at h
  obtain ⟨h_o, h⟩ := h
  have pB46 : ∀ (r5 : Int → Int → gSt → Prop) (X5_52 : Int → gSt → Prop) (hr5 : ∀ (v3 : Int) (v4 : Int) (M : gSt), r5 v3 v4 M → gG p l e (rmR 3 85) s m args below meth c Q D clC A (wC ad cI cS) 5 5 [(0, .ref (ad o)), (1, iv a1), (2, iv a2), (3, iv v3), (4, iv v4)] [] M) (hX5_52 : ∀ (v3 : Int) (M : gSt), X5_52 v3 M → gG p l e (rmR 3 85) s m args below meth c Q D clC A (wC ad cI cS) 5 52 [(3, iv v3)] [] M) (v3 : Int) (v4 : Int) (M : gSt), wB_X1_countedBelow_46 o a1 a2 k r5 X5_52 v3 v4 M → gG p l e (rmR 3 85) s m args below meth c Q D clC A (wC ad cI cS) 5 46 [(0, .ref (ad o)), (1, iv a1), (2, iv a2), (3, iv v3), (4, iv v4)] [] M := by
    intro r5 X5_52 hr5 hX5_52 v3 v4 M h
    unfold wB_X1_countedBelow_46 at h
    refine g_iinc C dX1_countedBelow_46 rfl (by decide) rfl ?_
    refine g_locals (lv' := [(0, .ref (ad o)), (1, iv a1), (2, iv a2), (3, iv v3), (4, iv (v4 + 1))]) rfl ?_
    refine g_goto C 5 dX1_countedBelow_49 (by decide) ?_
    refine g_locals (lv' := [(0, .ref (ad o)), (1, iv a1), (2, iv a2), (3, iv v3), (4, iv (v4 + 1))]) rfl ?_
    exact hr5 _ _  _ h
  have pC5 : ∀ (r5 : Int → Int → gSt → Prop) (X5_52 : Int → gSt → Prop) (hr5 : ∀ (v3 : Int) (v4 : Int) (M : gSt), r5 v3 v4 M → gG p l e (rmR 3 85) s m args below meth c Q D clC A (wC ad cI cS) 5 5 [(0, .ref (ad o)), (1, iv a1), (2, iv a2), (3, iv v3), (4, iv v4)] [] M) (hX5_52 : ∀ (v3 : Int) (M : gSt), X5_52 v3 M → gG p l e (rmR 3 85) s m args below meth c Q D clC A (wC ad cI cS) 5 52 [(3, iv v3)] [] M) (v3 : Int) (v4 : Int) (M : gSt), wC_X1_countedBelow_5 o a1 a2 k r5 X5_52 v3 v4 M → gG p l e (rmR 3 85) s m args below meth c Q D clC A (wC ad cI cS) 5 5 [(0, .ref (ad o)), (1, iv a1), (2, iv a2), (3, iv v3), (4, iv v4)] [] M := by
    intro r5 X5_52 hr5 hX5_52 v3 v4 M h
    unfold wC_X1_countedBelow_5 at h
    refine g_iload C dX1_countedBelow_5 rfl ?_
    refine g_iload_n C dX1_countedBelow_7 rfl ?_
    refine g_icmp_ge C 52 dX1_countedBelow_8 (by decide) (fun hc => ?_) (fun hc => ?_)
    · replace h := h.1 hc
      refine g_locals (lv' := [(3, iv v3)]) rfl ?_
      exact hX5_52 _  _ h
    · replace h := h.2 hc
      refine g_iload C dX1_countedBelow_11 rfl ?_
      refine g_aload_n C dX1_countedBelow_13 rfl ?_
      refine cf_X1_27 C h_o dX1_countedBelow_14 ?_
      refine g_callVi C (nargs := 0) (o := (o + 5)) (st := [iv v4]) (m_X4_size h) (show isRows (o + 5) from h.1).1 (show isRows (o + 5) from h.1).2.1 rfl rfl gc_X1_77 (by decide +kernel) ⟨rfl, rfl⟩ dX1_countedBelow_17 ⟨by decide, by decide⟩ rfl rfl (Nat.le_of_ble_eq_true rfl) ?_
      intro r17c M17 hN
      replace h := hN
      clear hN
      refine g_icmp_ge C 52 dX1_countedBelow_20 (by decide) (fun hc => ?_) (fun hc => ?_)
      · replace h := h.1 hc
        refine g_locals (lv' := [(3, iv v3)]) rfl ?_
        exact hX5_52 _  _ h
      · replace h := h.2 hc
        refine g_aload_n C dX1_countedBelow_23 rfl ?_
        refine cf_X1_27 C h_o dX1_countedBelow_24 ?_
        refine g_iload C dX1_countedBelow_27 rfl ?_
        refine g_iconst C dX1_countedBelow_29 ?_
        refine g_callVi C (nargs := 2) (o := (o + 5)) (st := []) (m_X4_at h) (show isRows (o + 5) from h.1).1 (show isRows (o + 5) from h.1).2.1 rfl rfl gc_X1_96 (by decide +kernel) ⟨rfl, rfl⟩ dX1_countedBelow_30 ⟨by decide, by decide⟩ rfl rfl (Nat.le_of_ble_eq_true rfl) ?_
        intro r30c M30 hN
        replace h := hN
        clear hN
        refine g_iload_n C dX1_countedBelow_33 rfl ?_
        refine g_icmp_ne C 46 dX1_countedBelow_34 (by decide) (fun hc => ?_) (fun hc => ?_)
        · replace h := h.1 hc
          refine g_locals (lv' := [(0, .ref (ad o)), (1, iv a1), (2, iv a2), (3, iv v3), (4, iv v4)]) rfl ?_
          exact pB46 r5 X5_52 hr5 hX5_52 _ _ _ h
        · replace h := h.2 hc
          refine g_iload_n C dX1_countedBelow_37 rfl ?_
          refine g_aload_n C dX1_countedBelow_38 rfl ?_
          refine g_iload C dX1_countedBelow_39 rfl ?_
          refine g_callVi C (nargs := 1) (o := o) (st := [iv v3]) (m_X1_counted h) (show isForge o from h.1).1 (show isForge o from h.1).2 rfl rfl gc_X1_103 (by decide +kernel) ⟨rfl, rfl⟩ dX1_countedBelow_41 ⟨by decide, by decide⟩ rfl rfl (Nat.le_of_ble_eq_true rfl) ?_
          intro r41c M41 hN
          replace h := hN
          clear hN
          refine g_iadd C dX1_countedBelow_44 ?_
          refine g_name (fun x3_45 hx3_45 => ?_)
          replace h := h x3_45 hx3_45
          refine g_istore_n C dX1_countedBelow_45 (by decide) rfl ?_
          refine g_locals (lv' := [(0, .ref (ad o)), (1, iv a1), (2, iv a2), (3, iv x3_45), (4, iv v4)]) rfl ?_
          refine g_locals (lv' := [(0, .ref (ad o)), (1, iv a1), (2, iv a2), (3, iv x3_45), (4, iv v4)]) rfl ?_
          exact pB46 r5 X5_52 hr5 hX5_52 _ _ _ h
  have pL5 : ∀  (X5_52 : Int → gSt → Prop) (hX5_52 : ∀ (v3 : Int) (M : gSt), X5_52 v3 M → gG p l e (rmR 3 85) s m args below meth c Q D clC A (wC ad cI cS) 5 52 [(3, iv v3)] [] M) (n : Nat) (v3 : Int) (v4 : Int) (M : gSt), wL_X1_countedBelow_5 o a1 a2 k  X5_52 n v3 v4 M → gG p l e (rmR 3 85) s m args below meth c Q D clC A (wC ad cI cS) 5 5 [(0, .ref (ad o)), (1, iv a1), (2, iv a2), (3, iv v3), (4, iv v4)] [] M := by
    intro  X5_52 hX5_52 n
    induction n with
    | zero => intro v3 v4 M h; exact h.elim
    | succ n ih =>
      intro v3 v4 M h
      exact pC5  (wL_X1_countedBelow_5 o a1 a2 k  X5_52 n) X5_52 ih hX5_52 v3 v4 M h
  refine g_locals (lv' := [(0, .ref (ad o)), (1, iv a1), (2, iv a2)]) rfl ?_
  refine g_iconst C dX1_countedBelow_0 ?_
  refine g_istore_n C dX1_countedBelow_1 (by decide) rfl ?_
  refine g_locals (lv' := [(0, .ref (ad o)), (1, iv a1), (2, iv a2), (3, iv 0)]) rfl ?_
  refine g_iconst C dX1_countedBelow_2 ?_
  refine g_istore C dX1_countedBelow_3 (by decide) rfl ?_
  refine g_locals (lv' := [(0, .ref (ad o)), (1, iv a1), (2, iv a2), (3, iv 0), (4, iv 0)]) rfl ?_
  refine g_locals (lv' := [(0, .ref (ad o)), (1, iv a1), (2, iv a2), (3, iv 0), (4, iv 0)]) rfl ?_
  obtain ⟨n, h⟩ := h
  refine pL5 _ ?_ n _ _ _ h
  · intro u3_5 M5 hN
    replace h := hN
    clear hN
    refine g_iload_n C dX1_countedBelow_52 rfl ?_
    exact hR _ _ _ _ dX1_countedBelow_53 rfl h
def w_X1_shareOf (o : Nat) (a1 : Int) (a2 : Int) (M : gSt) (k : Int → gSt → Prop) : Prop :=
  (isForge o) ∧ (w_X4_at (o + 5) a1 0 M (fun r6c M6 => w_X0_number (o + 1) r6c 2 M6 (fun r16c M16 => w_X1_counted o a1 M16 (fun r23c M23 => 
  (¬ wrap a2 = 0 →

    (¬ wrap a2 = 1 →
      w_X1_countedBelow o r6c a1 M23 (fun r100c M100 => w_X1_held (r16c - r100c) r23c M100 (fun r106c M106 => k r106c M106))) ∧
    (wrap a2 = 1 →
      w_X4_size (o + 5) M23 (fun r61c M61 => w_X1_countedBelow o r6c r61c M61 (fun r64c M64 => 
      (wrap r16c < wrap r64c →
        w_X8_quotient ((wrap r16c) * (wrap r23c)) (wrap r64c) M64 (fun r91c M91 => k r91c M91)) ∧
      (wrap r64c ≤ wrap r16c →
        k r23c M64))))) ∧
  (wrap a2 = 0 →
    w_X1_claimants o r6c M23 (fun r39c M39 => w_X8_quotient (wrap r16c) (wrap r39c) M39 (fun r43c M43 => k (xmin r23c r43c) M43)))))))
set_option maxHeartbeats 4000000 in
set_option maxRecDepth 100000 in
theorem m_X1_shareOf {l : Launch} {D : va_G} {tys : List (ClassId × FieldType)} {ad : Nat → Nat} {cI cS : ClassId} {o : Nat} {a1 : Int} {a2 : Int} {M : gSt} {k : Int → gSt → Prop} (h : w_X1_shareOf o a1 a2 M k) : MOi l yX1_shareOf cX1_shareOf 7 .int (rmR 4 109) D clC ((cI, .int) :: (cS, .object "OldBronze$Sheet") :: tys) (wC ad cI cS) tC zC [.ref (ad o), iv a1, iv a2] M k := by
  refine moi_intro (by decide +kernel) (Nat.le_of_ble_eq_true rfl) wc_188 ?_
  intro p e s m args below meth c A Q C hR
  unfold w_X1_shareOf at h
  obtain ⟨h_o, h⟩ := h
  refine g_locals (lv' := [(0, .ref (ad o)), (1, iv a1), (2, iv a2)]) rfl ?_
  refine g_aload_n C dX1_shareOf_0 rfl ?_
  refine cf_X1_27 C h_o dX1_shareOf_1 ?_
  refine g_iload_n C dX1_shareOf_4 rfl ?_
  refine g_iconst C dX1_shareOf_5 ?_
  refine g_callVi C (nargs := 2) (o := (o + 5)) (st := []) (m_X4_at h) (show isRows (o + 5) from h.1).1 (show isRows (o + 5) from h.1).2.1 rfl rfl gc_X1_96 (by decide +kernel) ⟨rfl, rfl⟩ dX1_shareOf_6 ⟨by decide, by decide⟩ rfl rfl (Nat.le_of_ble_eq_true rfl) ?_
  intro r6c M6 hN
  replace h := hN
  clear hN
  refine g_istore_n C dX1_shareOf_9 (by decide) rfl ?_
  refine g_locals (lv' := [(0, .ref (ad o)), (1, iv a1), (2, iv a2), (3, iv r6c)]) rfl ?_
  refine g_aload_n C dX1_shareOf_10 rfl ?_
  refine cf_X1_12 C h_o dX1_shareOf_11 ?_
  refine g_iload_n C dX1_shareOf_14 rfl ?_
  refine g_iconst C dX1_shareOf_15 ?_
  refine g_callVi C (nargs := 2) (o := (o + 1)) (st := []) (m_X0_number h) (show isBronze (o + 1) from h.1).1 (show isBronze (o + 1) from h.1).2.1 rfl rfl gc_X1_63 (by decide +kernel) ⟨rfl, rfl⟩ dX1_shareOf_16 ⟨by decide, by decide⟩ rfl rfl (Nat.le_of_ble_eq_true rfl) ?_
  intro r16c M16 hN
  replace h := hN
  clear hN
  refine g_istore C dX1_shareOf_19 (by decide) rfl ?_
  refine g_locals (lv' := [(0, .ref (ad o)), (1, iv a1), (2, iv a2), (3, iv r6c), (4, iv r16c)]) rfl ?_
  refine g_aload_n C dX1_shareOf_21 rfl ?_
  refine g_iload_n C dX1_shareOf_22 rfl ?_
  refine g_callVi C (nargs := 1) (o := o) (st := []) (m_X1_counted h) (show isForge o from h.1).1 (show isForge o from h.1).2 rfl rfl gc_X1_103 (by decide +kernel) ⟨rfl, rfl⟩ dX1_shareOf_23 ⟨by decide, by decide⟩ rfl rfl (Nat.le_of_ble_eq_true rfl) ?_
  intro r23c M23 hN
  replace h := hN
  clear hN
  refine g_istore C dX1_shareOf_26 (by decide) rfl ?_
  refine g_locals (lv' := [(0, .ref (ad o)), (1, iv a1), (2, iv a2), (3, iv r6c), (4, iv r16c), (5, iv r23c)]) rfl ?_
  refine g_iload_n C dX1_shareOf_28 rfl ?_
  refine g_if_ne C 50 dX1_shareOf_29 (by decide) (fun hc => ?_) (fun hc => ?_)
  · replace h := h.1 hc
    refine g_iload_n C dX1_shareOf_50 rfl ?_
    refine g_iconst C dX1_shareOf_51 ?_
    refine g_icmp_ne C 95 dX1_shareOf_52 (by decide) (fun hc => ?_) (fun hc => ?_)
    · replace h := h.1 hc
      refine g_iload C dX1_shareOf_95 rfl ?_
      refine g_aload_n C dX1_shareOf_97 rfl ?_
      refine g_iload_n C dX1_shareOf_98 rfl ?_
      refine g_iload_n C dX1_shareOf_99 rfl ?_
      refine g_callVi C (nargs := 2) (o := o) (st := [iv r16c]) (m_X1_countedBelow h) (show isForge o from h.1).1 (show isForge o from h.1).2 rfl rfl gc_X1_106 (by decide +kernel) ⟨rfl, rfl⟩ dX1_shareOf_100 ⟨by decide, by decide⟩ rfl rfl (Nat.le_of_ble_eq_true rfl) ?_
      intro r100c M100 hN
      replace h := hN
      clear hN
      refine g_isub C dX1_shareOf_103 ?_
      refine g_iload C dX1_shareOf_104 rfl ?_
      refine g_callSi C (nargs := 2) (st := []) (m_X1_held h) gc_X1_85 (by decide +kernel) ⟨rfl, rfl⟩ dX1_shareOf_106 ⟨by decide, by decide⟩ rfl rfl (Nat.le_of_ble_eq_true rfl) ?_
      intro r106c M106 hN
      replace h := hN
      clear hN
      exact hR _ _ _ _ dX1_shareOf_109 rfl h
    · replace h := h.2 hc
      refine g_aload_n C dX1_shareOf_55 rfl ?_
      refine g_iload_n C dX1_shareOf_56 rfl ?_
      refine g_aload_n C dX1_shareOf_57 rfl ?_
      refine cf_X1_27 C h_o dX1_shareOf_58 ?_
      refine g_callVi C (nargs := 0) (o := (o + 5)) (st := [iv r6c, .ref (ad o)]) (m_X4_size h) (show isRows (o + 5) from h.1).1 (show isRows (o + 5) from h.1).2.1 rfl rfl gc_X1_77 (by decide +kernel) ⟨rfl, rfl⟩ dX1_shareOf_61 ⟨by decide, by decide⟩ rfl rfl (Nat.le_of_ble_eq_true rfl) ?_
      intro r61c M61 hN
      replace h := hN
      clear hN
      refine g_callVi C (nargs := 2) (o := o) (st := []) (m_X1_countedBelow h) (show isForge o from h.1).1 (show isForge o from h.1).2 rfl rfl gc_X1_106 (by decide +kernel) ⟨rfl, rfl⟩ dX1_shareOf_64 ⟨by decide, by decide⟩ rfl rfl (Nat.le_of_ble_eq_true rfl) ?_
      intro r64c M64 hN
      replace h := hN
      clear hN
      refine g_istore C dX1_shareOf_67 (by decide) rfl ?_
      refine g_locals (lv' := [(0, .ref (ad o)), (1, iv a1), (2, iv a2), (3, iv r6c), (4, iv r16c), (5, iv r23c), (6, iv r64c)]) rfl ?_
      refine g_iload C dX1_shareOf_69 rfl ?_
      refine g_iload C dX1_shareOf_71 rfl ?_
      refine g_icmp_gt C 81 dX1_shareOf_73 (by decide) (fun hc => ?_) (fun hc => ?_)
      · replace h := h.1 hc
        refine g_iload C dX1_shareOf_81 rfl ?_
        refine g_i2l C dX1_shareOf_83 ?_
        refine g_iload C dX1_shareOf_84 rfl ?_
        refine g_i2l C dX1_shareOf_86 ?_
        refine g_lmul C dX1_shareOf_87 ?_
        refine g_iload C dX1_shareOf_88 rfl ?_
        refine g_i2l C dX1_shareOf_90 ?_
        refine g_callNSi C (nargs := 2) (st := []) (m_X8_quotient h) zn_4 (gc_code wc_52) wc_26 wc_54 (by decide +kernel) ⟨rfl, rfl⟩ dX1_shareOf_91 ⟨by decide, by decide⟩ rfl rfl (Nat.le_of_ble_eq_true rfl) ?_
        intro r91c M91 hN
        replace h := hN
        clear hN
        exact hR _ _ _ _ dX1_shareOf_94 rfl h
      · replace h := h.2 hc
        refine g_iload C dX1_shareOf_76 rfl ?_
        refine g_goto C 94 dX1_shareOf_78 (by decide) ?_
        exact hR _ _ _ _ dX1_shareOf_94 rfl h
  · replace h := h.2 hc
    refine g_iload C dX1_shareOf_32 rfl ?_
    refine g_iload C dX1_shareOf_34 rfl ?_
    refine g_i2l C dX1_shareOf_36 ?_
    refine g_aload_n C dX1_shareOf_37 rfl ?_
    refine g_iload_n C dX1_shareOf_38 rfl ?_
    refine g_callVi C (nargs := 1) (o := o) (st := [jv (wrap r16c), iv r23c]) (m_X1_claimants h) (show isForge o from h.1).1 (show isForge o from h.1).2 rfl rfl gc_X1_99 (by decide +kernel) ⟨rfl, rfl⟩ dX1_shareOf_39 ⟨by decide, by decide⟩ rfl rfl (Nat.le_of_ble_eq_true rfl) ?_
    intro r39c M39 hN
    replace h := hN
    clear hN
    refine g_i2l C dX1_shareOf_42 ?_
    refine g_callNSi C (nargs := 2) (st := [iv r23c]) (m_X8_quotient h) zn_4 (gc_code wc_52) wc_26 wc_54 (by decide +kernel) ⟨rfl, rfl⟩ dX1_shareOf_43 ⟨by decide, by decide⟩ rfl rfl (Nat.le_of_ble_eq_true rfl) ?_
    intro r43c M43 hN
    replace h := hN
    clear hN
    refine g_mmin C (st := []) dX1_shareOf_46 wc_155 wc_61 wc_62 wc_63 (by decide) (Nat.le_of_ble_eq_true rfl) ?_
    exact hR _ _ _ _ dX1_shareOf_49 rfl h
def wB_X1_leftOf_49 (o : Nat) (a1 : Int) (a2 : Int) (k : Int → gSt → Prop) (r13 : Int → Int → gSt → Prop) (X13_55 : Int → gSt → Prop) (v3 : Int) (v4 : Int) (M : gSt) : Prop :=
r13 v3 (v4 + 1) M
def wC_X1_leftOf_13 (o : Nat) (a1 : Int) (a2 : Int) (k : Int → gSt → Prop) (r13 : Int → Int → gSt → Prop) (X13_55 : Int → gSt → Prop) (v3 : Int) (v4 : Int) (M : gSt) : Prop :=
w_X4_size (o + 5) M (fun r19c M19 => 
  (wrap r19c ≤ wrap v4 →
    X13_55 v3 M19) ∧
  (wrap v4 < wrap r19c →
    w_X4_at (o + 5) v4 0 M19 (fun r32c M32 => 
    (¬ wrap r32c = wrap a1 →
      wB_X1_leftOf_49 o a1 a2 k r13 X13_55 v3 v4 M32) ∧
    (wrap r32c = wrap a1 →
      w_X1_shareOf o v4 a2 M32 (fun r44c M44 => ∀ x3_48 : Int, x3_48 = v3 - r44c → (wB_X1_leftOf_49 o a1 a2 k r13 X13_55 x3_48 v4 M44))))))
def wL_X1_leftOf_13 (o : Nat) (a1 : Int) (a2 : Int) (k : Int → gSt → Prop)  (X13_55 : Int → gSt → Prop) : Nat → Int → Int → gSt → Prop
  | 0 => fun _ _ _ => False
  | n + 1 => fun v3 v4 M => wC_X1_leftOf_13 o a1 a2 k  (wL_X1_leftOf_13 o a1 a2 k  X13_55 n) X13_55 v3 v4 M
def w_X1_leftOf (o : Nat) (a1 : Int) (a2 : Int) (M : gSt) (k : Int → gSt → Prop) : Prop :=
  (isForge o) ∧ (w_X0_number (o + 1) a1 2 M (fun r6c M6 => ∃ n, wL_X1_leftOf_13 o a1 a2 k  (fun u3_13 M13 =>
    k u3_13 M13) n r6c 0 M6))
set_option maxHeartbeats 4000000 in
set_option maxRecDepth 100000 in
theorem m_X1_leftOf {l : Launch} {D : va_G} {tys : List (ClassId × FieldType)} {ad : Nat → Nat} {cI cS : ClassId} {o : Nat} {a1 : Int} {a2 : Int} {M : gSt} {k : Int → gSt → Prop} (h : w_X1_leftOf o a1 a2 M k) : MOi l yX1_leftOf cX1_leftOf 5 .int (rmR 5 135) D clC ((cI, .int) :: (cS, .object "OldBronze$Sheet") :: tys) (wC ad cI cS) tC zC [.ref (ad o), iv a1, iv a2] M k := by
  refine moi_intro (by decide +kernel) (Nat.le_of_ble_eq_true rfl) wc_192 ?_
  intro p e s m args below meth c A Q C hR
  unfold w_X1_leftOf at h
  obtain ⟨h_o, h⟩ := h
  have pB49 : ∀ (r13 : Int → Int → gSt → Prop) (X13_55 : Int → gSt → Prop) (hr13 : ∀ (v3 : Int) (v4 : Int) (M : gSt), r13 v3 v4 M → gG p l e (rmR 5 135) s m args below meth c Q D clC A (wC ad cI cS) 5 13 [(0, .ref (ad o)), (1, iv a1), (2, iv a2), (3, iv v3), (4, iv v4)] [] M) (hX13_55 : ∀ (v3 : Int) (M : gSt), X13_55 v3 M → gG p l e (rmR 5 135) s m args below meth c Q D clC A (wC ad cI cS) 5 55 [(3, iv v3)] [] M) (v3 : Int) (v4 : Int) (M : gSt), wB_X1_leftOf_49 o a1 a2 k r13 X13_55 v3 v4 M → gG p l e (rmR 5 135) s m args below meth c Q D clC A (wC ad cI cS) 5 49 [(0, .ref (ad o)), (1, iv a1), (2, iv a2), (3, iv v3), (4, iv v4)] [] M := by
    intro r13 X13_55 hr13 hX13_55 v3 v4 M h
    unfold wB_X1_leftOf_49 at h
    refine g_iinc C dX1_leftOf_49 rfl (by decide) rfl ?_
    refine g_locals (lv' := [(0, .ref (ad o)), (1, iv a1), (2, iv a2), (3, iv v3), (4, iv (v4 + 1))]) rfl ?_
    refine g_goto C 13 dX1_leftOf_52 (by decide) ?_
    refine g_locals (lv' := [(0, .ref (ad o)), (1, iv a1), (2, iv a2), (3, iv v3), (4, iv (v4 + 1))]) rfl ?_
    exact hr13 _ _  _ h
  have pC13 : ∀ (r13 : Int → Int → gSt → Prop) (X13_55 : Int → gSt → Prop) (hr13 : ∀ (v3 : Int) (v4 : Int) (M : gSt), r13 v3 v4 M → gG p l e (rmR 5 135) s m args below meth c Q D clC A (wC ad cI cS) 5 13 [(0, .ref (ad o)), (1, iv a1), (2, iv a2), (3, iv v3), (4, iv v4)] [] M) (hX13_55 : ∀ (v3 : Int) (M : gSt), X13_55 v3 M → gG p l e (rmR 5 135) s m args below meth c Q D clC A (wC ad cI cS) 5 55 [(3, iv v3)] [] M) (v3 : Int) (v4 : Int) (M : gSt), wC_X1_leftOf_13 o a1 a2 k r13 X13_55 v3 v4 M → gG p l e (rmR 5 135) s m args below meth c Q D clC A (wC ad cI cS) 5 13 [(0, .ref (ad o)), (1, iv a1), (2, iv a2), (3, iv v3), (4, iv v4)] [] M := by
    intro r13 X13_55 hr13 hX13_55 v3 v4 M h
    unfold wC_X1_leftOf_13 at h
    refine g_iload C dX1_leftOf_13 rfl ?_
    refine g_aload_n C dX1_leftOf_15 rfl ?_
    refine cf_X1_27 C h_o dX1_leftOf_16 ?_
    refine g_callVi C (nargs := 0) (o := (o + 5)) (st := [iv v4]) (m_X4_size h) (show isRows (o + 5) from h.1).1 (show isRows (o + 5) from h.1).2.1 rfl rfl gc_X1_77 (by decide +kernel) ⟨rfl, rfl⟩ dX1_leftOf_19 ⟨by decide, by decide⟩ rfl rfl (Nat.le_of_ble_eq_true rfl) ?_
    intro r19c M19 hN
    replace h := hN
    clear hN
    refine g_icmp_ge C 55 dX1_leftOf_22 (by decide) (fun hc => ?_) (fun hc => ?_)
    · replace h := h.1 hc
      refine g_locals (lv' := [(3, iv v3)]) rfl ?_
      exact hX13_55 _  _ h
    · replace h := h.2 hc
      refine g_aload_n C dX1_leftOf_25 rfl ?_
      refine cf_X1_27 C h_o dX1_leftOf_26 ?_
      refine g_iload C dX1_leftOf_29 rfl ?_
      refine g_iconst C dX1_leftOf_31 ?_
      refine g_callVi C (nargs := 2) (o := (o + 5)) (st := []) (m_X4_at h) (show isRows (o + 5) from h.1).1 (show isRows (o + 5) from h.1).2.1 rfl rfl gc_X1_96 (by decide +kernel) ⟨rfl, rfl⟩ dX1_leftOf_32 ⟨by decide, by decide⟩ rfl rfl (Nat.le_of_ble_eq_true rfl) ?_
      intro r32c M32 hN
      replace h := hN
      clear hN
      refine g_iload_n C dX1_leftOf_35 rfl ?_
      refine g_icmp_ne C 49 dX1_leftOf_36 (by decide) (fun hc => ?_) (fun hc => ?_)
      · replace h := h.1 hc
        refine g_locals (lv' := [(0, .ref (ad o)), (1, iv a1), (2, iv a2), (3, iv v3), (4, iv v4)]) rfl ?_
        exact pB49 r13 X13_55 hr13 hX13_55 _ _ _ h
      · replace h := h.2 hc
        refine g_iload_n C dX1_leftOf_39 rfl ?_
        refine g_aload_n C dX1_leftOf_40 rfl ?_
        refine g_iload C dX1_leftOf_41 rfl ?_
        refine g_iload_n C dX1_leftOf_43 rfl ?_
        refine g_callVi C (nargs := 2) (o := o) (st := [iv v3]) (m_X1_shareOf h) (show isForge o from h.1).1 (show isForge o from h.1).2 rfl rfl gc_X1_109 (by decide +kernel) ⟨rfl, rfl⟩ dX1_leftOf_44 ⟨by decide, by decide⟩ rfl rfl (Nat.le_of_ble_eq_true rfl) ?_
        intro r44c M44 hN
        replace h := hN
        clear hN
        refine g_isub C dX1_leftOf_47 ?_
        refine g_name (fun x3_48 hx3_48 => ?_)
        replace h := h x3_48 hx3_48
        refine g_istore_n C dX1_leftOf_48 (by decide) rfl ?_
        refine g_locals (lv' := [(0, .ref (ad o)), (1, iv a1), (2, iv a2), (3, iv x3_48), (4, iv v4)]) rfl ?_
        refine g_locals (lv' := [(0, .ref (ad o)), (1, iv a1), (2, iv a2), (3, iv x3_48), (4, iv v4)]) rfl ?_
        exact pB49 r13 X13_55 hr13 hX13_55 _ _ _ h
  have pL13 : ∀  (X13_55 : Int → gSt → Prop) (hX13_55 : ∀ (v3 : Int) (M : gSt), X13_55 v3 M → gG p l e (rmR 5 135) s m args below meth c Q D clC A (wC ad cI cS) 5 55 [(3, iv v3)] [] M) (n : Nat) (v3 : Int) (v4 : Int) (M : gSt), wL_X1_leftOf_13 o a1 a2 k  X13_55 n v3 v4 M → gG p l e (rmR 5 135) s m args below meth c Q D clC A (wC ad cI cS) 5 13 [(0, .ref (ad o)), (1, iv a1), (2, iv a2), (3, iv v3), (4, iv v4)] [] M := by
    intro  X13_55 hX13_55 n
    induction n with
    | zero => intro v3 v4 M h; exact h.elim
    | succ n ih =>
      intro v3 v4 M h
      exact pC13  (wL_X1_leftOf_13 o a1 a2 k  X13_55 n) X13_55 ih hX13_55 v3 v4 M h
  refine g_locals (lv' := [(0, .ref (ad o)), (1, iv a1), (2, iv a2)]) rfl ?_
  refine g_aload_n C dX1_leftOf_0 rfl ?_
  refine cf_X1_12 C h_o dX1_leftOf_1 ?_
  refine g_iload_n C dX1_leftOf_4 rfl ?_
  refine g_iconst C dX1_leftOf_5 ?_
  refine g_callVi C (nargs := 2) (o := (o + 1)) (st := []) (m_X0_number h) (show isBronze (o + 1) from h.1).1 (show isBronze (o + 1) from h.1).2.1 rfl rfl gc_X1_63 (by decide +kernel) ⟨rfl, rfl⟩ dX1_leftOf_6 ⟨by decide, by decide⟩ rfl rfl (Nat.le_of_ble_eq_true rfl) ?_
  intro r6c M6 hN
  replace h := hN
  clear hN
  refine g_istore_n C dX1_leftOf_9 (by decide) rfl ?_
  refine g_locals (lv' := [(0, .ref (ad o)), (1, iv a1), (2, iv a2), (3, iv r6c)]) rfl ?_
  refine g_iconst C dX1_leftOf_10 ?_
  refine g_istore C dX1_leftOf_11 (by decide) rfl ?_
  refine g_locals (lv' := [(0, .ref (ad o)), (1, iv a1), (2, iv a2), (3, iv r6c), (4, iv 0)]) rfl ?_
  refine g_locals (lv' := [(0, .ref (ad o)), (1, iv a1), (2, iv a2), (3, iv r6c), (4, iv 0)]) rfl ?_
  obtain ⟨n, h⟩ := h
  refine pL13 _ ?_ n _ _ _ h
  · intro u3_13 M13 hN
    replace h := hN
    clear hN
    refine g_iload_n C dX1_leftOf_55 rfl ?_
    exact hR _ _ _ _ dX1_leftOf_56 rfl h
def wB_X2_follow_66 (o : Nat) (a1 : Nat) (a2 : Int) (k : gSt → Prop) (r19 : Nat → Int → gSt → Prop) (X19_72 : gSt → Prop) (v3 : Nat) (v4 : Int) (M : gSt) : Prop :=
r19 v3 (v4 + 1) M
def wC_X2_follow_19 (o : Nat) (a1 : Nat) (a2 : Int) (k : gSt → Prop) (r19 : Nat → Int → gSt → Prop) (X19_72 : gSt → Prop) (v3 : Nat) (v4 : Int) (M : gSt) : Prop :=
w_X4_size v3 M (fun r22c M22 => 
  (wrap r22c ≤ wrap v4 →
    X19_72  M22) ∧
  (wrap v4 < wrap r22c →

    (¬ wrap (xand (xshr a2 v4) 1) = 1 →
      wB_X2_follow_66 o a1 a2 k r19 X19_72 v3 v4 M22) ∧
    (wrap (xand (xshr a2 v4) 1) = 1 →
      w_X4_at v3 v4 0 M22 (fun r46c M46 => w_X4_at v3 v4 1 M46 (fun r53c M53 => w_X4_at v3 v4 2 M53 (fun r60c M60 => w_X0_pour (o + 1) r46c r53c r60c M60 (fun M63 => wB_X2_follow_66 o a1 a2 k r19 X19_72 v3 v4 M63)))))))
def wL_X2_follow_19 (o : Nat) (a1 : Nat) (a2 : Int) (k : gSt → Prop)  (X19_72 : gSt → Prop) : Nat → Nat → Int → gSt → Prop
  | 0 => fun _ _ _ => False
  | n + 1 => fun v3 v4 M => wC_X2_follow_19 o a1 a2 k  (wL_X2_follow_19 o a1 a2 k  X19_72 n) X19_72 v3 v4 M
def w_X2_follow (o : Nat) (a1 : Nat) (a2 : Int) (M : gSt) (k : gSt → Prop) : Prop :=
  (isHistories o) ∧ ((isForge a1) ∧ (w_X0_copyFrom (o + 1) (a1 + 1) M (fun M8 => ∃ n, wL_X2_follow_19 o a1 a2 k  (fun  M19 =>
    k M19) n (a1 + 7) 0 M8)))
set_option maxHeartbeats 4000000 in
set_option maxRecDepth 100000 in
theorem m_X2_follow {l : Launch} {D : va_G} {tys : List (ClassId × FieldType)} {ad : Nat → Nat} {cI cS : ClassId} {o : Nat} {a1 : Nat} {a2 : Int} {M : gSt} {k : gSt → Prop} (h : w_X2_follow o a1 a2 M k) : MOv l yX2_follow cX2_follow 5 (rmR 5 123) D clC ((cI, .int) :: (cS, .object "OldBronze$Sheet") :: tys) (wC ad cI cS) tC zC [.ref (ad o), .ref (ad a1), iv a2] M k := by
  refine mov_intro (by decide +kernel) (Nat.le_of_ble_eq_true rfl) wc_209 ?_
  intro p e s m args below meth c A Q C hR
  unfold w_X2_follow at h
  obtain ⟨h_o, h_a1, h⟩ := h
  have pB66 : ∀ (r19 : Nat → Int → gSt → Prop) (X19_72 : gSt → Prop) (hr19 : ∀ (v3 : Nat) (v4 : Int) (M : gSt), r19 v3 v4 M → gG p l e (rmR 5 123) s m args below meth c Q D clC A (wC ad cI cS) 5 19 [(0, .ref (ad o)), (2, iv a2), (3, .ref (ad v3)), (4, iv v4)] [] M) (hX19_72 : ∀  (M : gSt), X19_72  M → gG p l e (rmR 5 123) s m args below meth c Q D clC A (wC ad cI cS) 5 72 [] [] M) (v3 : Nat) (v4 : Int) (M : gSt), wB_X2_follow_66 o a1 a2 k r19 X19_72 v3 v4 M → gG p l e (rmR 5 123) s m args below meth c Q D clC A (wC ad cI cS) 5 66 [(0, .ref (ad o)), (2, iv a2), (3, .ref (ad v3)), (4, iv v4)] [] M := by
    intro r19 X19_72 hr19 hX19_72 v3 v4 M h
    unfold wB_X2_follow_66 at h
    refine g_iinc C dX2_follow_66 rfl (by decide) rfl ?_
    refine g_locals (lv' := [(0, .ref (ad o)), (2, iv a2), (3, .ref (ad v3)), (4, iv (v4 + 1))]) rfl ?_
    refine g_goto C 19 dX2_follow_69 (by decide) ?_
    refine g_locals (lv' := [(0, .ref (ad o)), (2, iv a2), (3, .ref (ad v3)), (4, iv (v4 + 1))]) rfl ?_
    exact hr19 _ _  _ h
  have pC19 : ∀ (r19 : Nat → Int → gSt → Prop) (X19_72 : gSt → Prop) (hr19 : ∀ (v3 : Nat) (v4 : Int) (M : gSt), r19 v3 v4 M → gG p l e (rmR 5 123) s m args below meth c Q D clC A (wC ad cI cS) 5 19 [(0, .ref (ad o)), (2, iv a2), (3, .ref (ad v3)), (4, iv v4)] [] M) (hX19_72 : ∀  (M : gSt), X19_72  M → gG p l e (rmR 5 123) s m args below meth c Q D clC A (wC ad cI cS) 5 72 [] [] M) (v3 : Nat) (v4 : Int) (M : gSt), wC_X2_follow_19 o a1 a2 k r19 X19_72 v3 v4 M → gG p l e (rmR 5 123) s m args below meth c Q D clC A (wC ad cI cS) 5 19 [(0, .ref (ad o)), (2, iv a2), (3, .ref (ad v3)), (4, iv v4)] [] M := by
    intro r19 X19_72 hr19 hX19_72 v3 v4 M h
    unfold wC_X2_follow_19 at h
    refine g_iload C dX2_follow_19 rfl ?_
    refine g_aload_n C dX2_follow_21 rfl ?_
    refine g_callVi C (nargs := 0) (o := v3) (st := [iv v4]) (m_X4_size h) (show isRows v3 from h.1).1 (show isRows v3 from h.1).2.1 rfl rfl gc_X2_43 (by decide +kernel) ⟨rfl, rfl⟩ dX2_follow_22 ⟨by decide, by decide⟩ rfl rfl (Nat.le_of_ble_eq_true rfl) ?_
    intro r22c M22 hN
    replace h := hN
    clear hN
    refine g_icmp_ge C 72 dX2_follow_25 (by decide) (fun hc => ?_) (fun hc => ?_)
    · replace h := h.1 hc
      refine g_locals (lv' := []) rfl ?_
      exact hX19_72  _ h
    · replace h := h.2 hc
      refine g_iload_n C dX2_follow_28 rfl ?_
      refine g_iload C dX2_follow_29 rfl ?_
      refine g_ishr C dX2_follow_31 ?_
      refine g_iconst C dX2_follow_32 ?_
      refine g_iand C dX2_follow_33 ?_
      refine g_iconst C dX2_follow_34 ?_
      refine g_icmp_ne C 66 dX2_follow_35 (by decide) (fun hc => ?_) (fun hc => ?_)
      · replace h := h.1 hc
        refine g_locals (lv' := [(0, .ref (ad o)), (2, iv a2), (3, .ref (ad v3)), (4, iv v4)]) rfl ?_
        exact pB66 r19 X19_72 hr19 hX19_72 _ _ _ h
      · replace h := h.2 hc
        refine g_aload_n C dX2_follow_38 rfl ?_
        refine cf_X2_12 C h_o dX2_follow_39 ?_
        refine g_aload_n C dX2_follow_42 rfl ?_
        refine g_iload C dX2_follow_43 rfl ?_
        refine g_iconst C dX2_follow_45 ?_
        refine g_callVi C (nargs := 2) (o := v3) (st := [.ref (ad (o + 1))]) (m_X4_at h) (show isRows v3 from h.1).1 (show isRows v3 from h.1).2.1 rfl rfl gc_X2_47 (by decide +kernel) ⟨rfl, rfl⟩ dX2_follow_46 ⟨by decide, by decide⟩ rfl rfl (Nat.le_of_ble_eq_true rfl) ?_
        intro r46c M46 hN
        replace h := hN
        clear hN
        refine g_aload_n C dX2_follow_49 rfl ?_
        refine g_iload C dX2_follow_50 rfl ?_
        refine g_iconst C dX2_follow_52 ?_
        refine g_callVi C (nargs := 2) (o := v3) (st := [iv r46c, .ref (ad (o + 1))]) (m_X4_at h) (show isRows v3 from h.1).1 (show isRows v3 from h.1).2.1 rfl rfl gc_X2_47 (by decide +kernel) ⟨rfl, rfl⟩ dX2_follow_53 ⟨by decide, by decide⟩ rfl rfl (Nat.le_of_ble_eq_true rfl) ?_
        intro r53c M53 hN
        replace h := hN
        clear hN
        refine g_aload_n C dX2_follow_56 rfl ?_
        refine g_iload C dX2_follow_57 rfl ?_
        refine g_iconst C dX2_follow_59 ?_
        refine g_callVi C (nargs := 2) (o := v3) (st := [iv r53c, iv r46c, .ref (ad (o + 1))]) (m_X4_at h) (show isRows v3 from h.1).1 (show isRows v3 from h.1).2.1 rfl rfl gc_X2_47 (by decide +kernel) ⟨rfl, rfl⟩ dX2_follow_60 ⟨by decide, by decide⟩ rfl rfl (Nat.le_of_ble_eq_true rfl) ?_
        intro r60c M60 hN
        replace h := hN
        clear hN
        refine g_callVv C (nargs := 3) (o := (o + 1)) (st := []) (m_X0_pour h) (show isBronze (o + 1) from h.1).1 (show isBronze (o + 1) from h.1).2.1 rfl rfl gc_X2_51 (by decide +kernel) ⟨rfl, rfl⟩ dX2_follow_63 ⟨by decide, by decide⟩ rfl rfl (Nat.le_of_ble_eq_true rfl) ?_
        intro M63 hN
        replace h := hN
        clear hN
        refine g_locals (lv' := [(0, .ref (ad o)), (2, iv a2), (3, .ref (ad v3)), (4, iv v4)]) rfl ?_
        exact pB66 r19 X19_72 hr19 hX19_72 _ _ _ h
  have pL19 : ∀  (X19_72 : gSt → Prop) (hX19_72 : ∀  (M : gSt), X19_72  M → gG p l e (rmR 5 123) s m args below meth c Q D clC A (wC ad cI cS) 5 72 [] [] M) (n : Nat) (v3 : Nat) (v4 : Int) (M : gSt), wL_X2_follow_19 o a1 a2 k  X19_72 n v3 v4 M → gG p l e (rmR 5 123) s m args below meth c Q D clC A (wC ad cI cS) 5 19 [(0, .ref (ad o)), (2, iv a2), (3, .ref (ad v3)), (4, iv v4)] [] M := by
    intro  X19_72 hX19_72 n
    induction n with
    | zero => intro v3 v4 M h; exact h.elim
    | succ n ih =>
      intro v3 v4 M h
      exact pC19  (wL_X2_follow_19 o a1 a2 k  X19_72 n) X19_72 ih hX19_72 v3 v4 M h
  refine g_locals (lv' := [(0, .ref (ad o)), (1, .ref (ad a1)), (2, iv a2)]) rfl ?_
  refine g_aload_n C dX2_follow_0 rfl ?_
  refine cf_X2_12 C h_o dX2_follow_1 ?_
  refine g_aload_n C dX2_follow_4 rfl ?_
  refine cf_X2_31 C h_a1 dX2_follow_5 ?_
  refine g_callVv C (nargs := 1) (o := (o + 1)) (st := []) (m_X0_copyFrom h) (show isBronze (o + 1) from h.1).1 (show isBronze (o + 1) from h.1).2.1 rfl rfl gc_X2_36 (by decide +kernel) ⟨rfl, rfl⟩ dX2_follow_8 ⟨by decide, by decide⟩ rfl rfl (Nat.le_of_ble_eq_true rfl) ?_
  intro M8 hN
  replace h := hN
  clear hN
  refine g_aload_n C dX2_follow_11 rfl ?_
  refine cf_X2_40 C h_a1 dX2_follow_12 ?_
  refine g_astore_n C dX2_follow_15 (by decide) rfl ?_
  refine g_locals (lv' := [(0, .ref (ad o)), (1, .ref (ad a1)), (2, iv a2), (3, .ref (ad (a1 + 7)))]) rfl ?_
  refine g_iconst C dX2_follow_16 ?_
  refine g_istore C dX2_follow_17 (by decide) rfl ?_
  refine g_locals (lv' := [(0, .ref (ad o)), (1, .ref (ad a1)), (2, iv a2), (3, .ref (ad (a1 + 7))), (4, iv 0)]) rfl ?_
  refine g_locals (lv' := [(0, .ref (ad o)), (2, iv a2), (3, .ref (ad (a1 + 7))), (4, iv 0)]) rfl ?_
  obtain ⟨n, h⟩ := h
  refine pL19 _ ?_ n _ _ _ h
  · intro  M19 hN
    replace h := hN
    clear hN
    exact hR _ _ _ dX2_follow_72 h
def w_X2_numberBehind (o : Nat) (a1 : Int) (a2 : Int) (M : gSt) (k : Int → gSt → Prop) : Prop :=
  (isHistories o) ∧ (w_X0_number (o + 1) a1 a2 M (fun r6c M6 => k r6c M6))
set_option maxHeartbeats 4000000 in
set_option maxRecDepth 100000 in
theorem m_X2_numberBehind {l : Launch} {D : va_G} {tys : List (ClassId × FieldType)} {ad : Nat → Nat} {cI cS : ClassId} {o : Nat} {a1 : Int} {a2 : Int} {M : gSt} {k : Int → gSt → Prop} (h : w_X2_numberBehind o a1 a2 M k) : MOi l yX2_numberBehind cX2_numberBehind 3 .int (rmR 2 45) D clC ((cI, .int) :: (cS, .object "OldBronze$Sheet") :: tys) (wC ad cI cS) tC zC [.ref (ad o), iv a1, iv a2] M k := by
  refine moi_intro (by decide +kernel) (Nat.le_of_ble_eq_true rfl) wc_210 ?_
  intro p e s m args below meth c A Q C hR
  unfold w_X2_numberBehind at h
  obtain ⟨h_o, h⟩ := h
  refine g_locals (lv' := [(0, .ref (ad o)), (1, iv a1), (2, iv a2)]) rfl ?_
  refine g_aload_n C dX2_numberBehind_0 rfl ?_
  refine cf_X2_12 C h_o dX2_numberBehind_1 ?_
  refine g_iload_n C dX2_numberBehind_4 rfl ?_
  refine g_iload_n C dX2_numberBehind_5 rfl ?_
  refine g_callVi C (nargs := 2) (o := (o + 1)) (st := []) (m_X0_number h) (show isBronze (o + 1) from h.1).1 (show isBronze (o + 1) from h.1).2.1 rfl rfl gc_X2_55 (by decide +kernel) ⟨rfl, rfl⟩ dX2_numberBehind_6 ⟨by decide, by decide⟩ rfl rfl (Nat.le_of_ble_eq_true rfl) ?_
  intro r6c M6 hN
  replace h := hN
  clear hN
  exact hR _ _ _ _ dX2_numberBehind_9 rfl h
def w_X4_clear (o : Nat) (M : gSt) (k : gSt → Prop) : Prop :=
  (isRows o) ∧ (∀ M2 : gSt, M2 = wr M o 3 0 → (k M2))
set_option maxHeartbeats 4000000 in
set_option maxRecDepth 100000 in
theorem m_X4_clear {l : Launch} {D : va_G} {tys : List (ClassId × FieldType)} {ad : Nat → Nat} {cI cS : ClassId} {o : Nat} {M : gSt} {k : gSt → Prop} (h : w_X4_clear o M k) : MOv l yX4_clear cX4_clear 1 (rmR 0 0) D clC ((cI, .int) :: (cS, .object "OldBronze$Sheet") :: tys) (wC ad cI cS) tC zC [.ref (ad o)] M k := by
  refine mov_intro (by decide +kernel) (Nat.le_of_ble_eq_true rfl) wc_212 ?_
  intro p e s m args below meth c A Q C hR
  unfold w_X4_clear at h
  obtain ⟨h_o, h⟩ := h
  refine g_locals (lv' := [(0, .ref (ad o))]) rfl ?_
  refine g_aload_n C dX4_clear_0 rfl ?_
  refine g_iconst C dX4_clear_1 ?_
  refine cp_X4_26 C h_o dX4_clear_2 ?_
  refine g_memname (fun M2 hM2 => ?_)
  replace h := h M2 hM2
  exact hR _ _ _ dX4_clear_5 h
def wC_X2_isSo_2 (o : Nat) (a1 : Nat) (k : Int → gSt → Prop) (r2 : Int → gSt → Prop) (X2_45 : gSt → Prop) (X2_53 : gSt → Prop) (v2 : Int) (M : gSt) : Prop :=
w_X4_size a1 M (fun r4c M4 => 
  (wrap r4c ≤ wrap v2 →
    X2_53  M4) ∧
  (wrap v2 < wrap r4c →
    w_X4_at a1 v2 0 M4 (fun r17c M17 => w_X0_number (o + 1) r17c 2 M17 (fun r21c M21 => w_X4_at a1 v2 1 M21 (fun r27c M27 => ∀ x3_31 : Int, x3_31 = r21c - r27c → (w_X4_at a1 v2 2 M27 (fun r39c M39 => 
    (wrap (xabs x3_31) ≤ wrap r39c →
      r2 (v2 + 1) M39) ∧
    (wrap r39c < wrap (xabs x3_31) →
      X2_45  M39))))))))
def wL_X2_isSo_2 (o : Nat) (a1 : Nat) (k : Int → gSt → Prop)  (X2_45 : gSt → Prop) (X2_53 : gSt → Prop) : Nat → Int → gSt → Prop
  | 0 => fun _ _ => False
  | n + 1 => fun v2 M => wC_X2_isSo_2 o a1 k  (wL_X2_isSo_2 o a1 k  X2_45 X2_53 n) X2_45 X2_53 v2 M
def w_X2_isSo (o : Nat) (a1 : Nat) (M : gSt) (k : Int → gSt → Prop) : Prop :=
  (isHistories o) ∧ ((isRows a1) ∧ (∃ n, wL_X2_isSo_2 o a1 k  (fun  M2 =>
    k 0 M2) (fun  M2 =>
    k 1 M2) n 0 M))
set_option maxHeartbeats 4000000 in
set_option maxRecDepth 100000 in
theorem m_X2_isSo {l : Launch} {D : va_G} {tys : List (ClassId × FieldType)} {ad : Nat → Nat} {cI cS : ClassId} {o : Nat} {a1 : Nat} {M : gSt} {k : Int → gSt → Prop} (h : w_X2_isSo o a1 M k) : MOi l yX2_isSo cX2_isSo 4 .boolean (rmR 2 45) D clC ((cI, .int) :: (cS, .object "OldBronze$Sheet") :: tys) (wC ad cI cS) tC zC [.ref (ad o), .ref (ad a1)] M k := by
  refine moi_intro (by decide +kernel) (Nat.le_of_ble_eq_true rfl) wc_216 ?_
  intro p e s m args below meth c A Q C hR
  unfold w_X2_isSo at h
  obtain ⟨h_o, h_a1, h⟩ := h
  have pC2 : ∀ (r2 : Int → gSt → Prop) (X2_45 : gSt → Prop) (X2_53 : gSt → Prop) (hr2 : ∀ (v2 : Int) (M : gSt), r2 v2 M → gG p l e (rmR 2 45) s m args below meth c Q D clC A (wC ad cI cS) 4 2 [(0, .ref (ad o)), (1, .ref (ad a1)), (2, iv v2)] [] M) (hX2_45 : ∀  (M : gSt), X2_45  M → gG p l e (rmR 2 45) s m args below meth c Q D clC A (wC ad cI cS) 4 45 [] [] M) (hX2_53 : ∀  (M : gSt), X2_53  M → gG p l e (rmR 2 45) s m args below meth c Q D clC A (wC ad cI cS) 4 53 [] [] M) (v2 : Int) (M : gSt), wC_X2_isSo_2 o a1 k r2 X2_45 X2_53 v2 M → gG p l e (rmR 2 45) s m args below meth c Q D clC A (wC ad cI cS) 4 2 [(0, .ref (ad o)), (1, .ref (ad a1)), (2, iv v2)] [] M := by
    intro r2 X2_45 X2_53 hr2 hX2_45 hX2_53 v2 M h
    unfold wC_X2_isSo_2 at h
    refine g_iload_n C dX2_isSo_2 rfl ?_
    refine g_aload_n C dX2_isSo_3 rfl ?_
    refine g_callVi C (nargs := 0) (o := a1) (st := [iv v2]) (m_X4_size h) (show isRows a1 from h.1).1 (show isRows a1 from h.1).2.1 rfl rfl gc_X2_43 (by decide +kernel) ⟨rfl, rfl⟩ dX2_isSo_4 ⟨by decide, by decide⟩ rfl rfl (Nat.le_of_ble_eq_true rfl) ?_
    intro r4c M4 hN
    replace h := hN
    clear hN
    refine g_icmp_ge C 53 dX2_isSo_7 (by decide) (fun hc => ?_) (fun hc => ?_)
    · replace h := h.1 hc
      refine g_locals (lv' := []) rfl ?_
      exact hX2_53  _ h
    · replace h := h.2 hc
      refine g_aload_n C dX2_isSo_10 rfl ?_
      refine cf_X2_12 C h_o dX2_isSo_11 ?_
      refine g_aload_n C dX2_isSo_14 rfl ?_
      refine g_iload_n C dX2_isSo_15 rfl ?_
      refine g_iconst C dX2_isSo_16 ?_
      refine g_callVi C (nargs := 2) (o := a1) (st := [.ref (ad (o + 1))]) (m_X4_at h) (show isRows a1 from h.1).1 (show isRows a1 from h.1).2.1 rfl rfl gc_X2_47 (by decide +kernel) ⟨rfl, rfl⟩ dX2_isSo_17 ⟨by decide, by decide⟩ rfl rfl (Nat.le_of_ble_eq_true rfl) ?_
      intro r17c M17 hN
      replace h := hN
      clear hN
      refine g_iconst C dX2_isSo_20 ?_
      refine g_callVi C (nargs := 2) (o := (o + 1)) (st := []) (m_X0_number h) (show isBronze (o + 1) from h.1).1 (show isBronze (o + 1) from h.1).2.1 rfl rfl gc_X2_55 (by decide +kernel) ⟨rfl, rfl⟩ dX2_isSo_21 ⟨by decide, by decide⟩ rfl rfl (Nat.le_of_ble_eq_true rfl) ?_
      intro r21c M21 hN
      replace h := hN
      clear hN
      refine g_aload_n C dX2_isSo_24 rfl ?_
      refine g_iload_n C dX2_isSo_25 rfl ?_
      refine g_iconst C dX2_isSo_26 ?_
      refine g_callVi C (nargs := 2) (o := a1) (st := [iv r21c]) (m_X4_at h) (show isRows a1 from h.1).1 (show isRows a1 from h.1).2.1 rfl rfl gc_X2_47 (by decide +kernel) ⟨rfl, rfl⟩ dX2_isSo_27 ⟨by decide, by decide⟩ rfl rfl (Nat.le_of_ble_eq_true rfl) ?_
      intro r27c M27 hN
      replace h := hN
      clear hN
      refine g_isub C dX2_isSo_30 ?_
      refine g_name (fun x3_31 hx3_31 => ?_)
      replace h := h x3_31 hx3_31
      refine g_istore_n C dX2_isSo_31 (by decide) rfl ?_
      refine g_locals (lv' := [(0, .ref (ad o)), (1, .ref (ad a1)), (2, iv v2), (3, iv x3_31)]) rfl ?_
      refine g_iload_n C dX2_isSo_32 rfl ?_
      refine g_mabs C (st := []) dX2_isSo_33 wc_213 wc_214 wc_62 wc_215 (by decide) (Nat.le_of_ble_eq_true rfl) ?_
      refine g_aload_n C dX2_isSo_36 rfl ?_
      refine g_iload_n C dX2_isSo_37 rfl ?_
      refine g_iconst C dX2_isSo_38 ?_
      refine g_callVi C (nargs := 2) (o := a1) (st := [iv (xabs x3_31)]) (m_X4_at h) (show isRows a1 from h.1).1 (show isRows a1 from h.1).2.1 rfl rfl gc_X2_47 (by decide +kernel) ⟨rfl, rfl⟩ dX2_isSo_39 ⟨by decide, by decide⟩ rfl rfl (Nat.le_of_ble_eq_true rfl) ?_
      intro r39c M39 hN
      replace h := hN
      clear hN
      refine g_icmp_le C 47 dX2_isSo_42 (by decide) (fun hc => ?_) (fun hc => ?_)
      · replace h := h.1 hc
        refine g_iinc C dX2_isSo_47 rfl (by decide) rfl ?_
        refine g_locals (lv' := [(0, .ref (ad o)), (1, .ref (ad a1)), (2, iv (v2 + 1)), (3, iv x3_31)]) rfl ?_
        refine g_goto C 2 dX2_isSo_50 (by decide) ?_
        refine g_locals (lv' := [(0, .ref (ad o)), (1, .ref (ad a1)), (2, iv (v2 + 1))]) rfl ?_
        exact hr2 _  _ h
      · replace h := h.2 hc
        refine g_locals (lv' := []) rfl ?_
        exact hX2_45  _ h
  have pL2 : ∀  (X2_45 : gSt → Prop) (X2_53 : gSt → Prop) (hX2_45 : ∀  (M : gSt), X2_45  M → gG p l e (rmR 2 45) s m args below meth c Q D clC A (wC ad cI cS) 4 45 [] [] M) (hX2_53 : ∀  (M : gSt), X2_53  M → gG p l e (rmR 2 45) s m args below meth c Q D clC A (wC ad cI cS) 4 53 [] [] M) (n : Nat) (v2 : Int) (M : gSt), wL_X2_isSo_2 o a1 k  X2_45 X2_53 n v2 M → gG p l e (rmR 2 45) s m args below meth c Q D clC A (wC ad cI cS) 4 2 [(0, .ref (ad o)), (1, .ref (ad a1)), (2, iv v2)] [] M := by
    intro  X2_45 X2_53 hX2_45 hX2_53 n
    induction n with
    | zero => intro v2 M h; exact h.elim
    | succ n ih =>
      intro v2 M h
      exact pC2  (wL_X2_isSo_2 o a1 k  X2_45 X2_53 n) X2_45 X2_53 ih hX2_45 hX2_53 v2 M h
  refine g_locals (lv' := [(0, .ref (ad o)), (1, .ref (ad a1))]) rfl ?_
  refine g_iconst C dX2_isSo_0 ?_
  refine g_istore_n C dX2_isSo_1 (by decide) rfl ?_
  refine g_locals (lv' := [(0, .ref (ad o)), (1, .ref (ad a1)), (2, iv 0)]) rfl ?_
  refine g_locals (lv' := [(0, .ref (ad o)), (1, .ref (ad a1)), (2, iv 0)]) rfl ?_
  obtain ⟨n, h⟩ := h
  refine pL2 _ _ ?_ ?_ n _ _ h
  · intro  M2 hN
    replace h := hN
    clear hN
    refine g_iconst C dX2_isSo_45 ?_
    exact hR _ _ _ _ dX2_isSo_46 rfl h
  · intro  M2 hN
    replace h := hN
    clear hN
    refine g_iconst C dX2_isSo_53 ?_
    exact hR _ _ _ _ dX2_isSo_54 rfl h
def w_X4_room (o : Nat) (M : gSt) (k : Int → gSt → Prop) : Prop :=
  (isRows o) ∧ (k ((M o 2) - (M o 3)) M)
set_option maxHeartbeats 4000000 in
set_option maxRecDepth 100000 in
theorem m_X4_room {l : Launch} {D : va_G} {tys : List (ClassId × FieldType)} {ad : Nat → Nat} {cI cS : ClassId} {o : Nat} {M : gSt} {k : Int → gSt → Prop} (h : w_X4_room o M k) : MOi l yX4_room cX4_room 1 .int (rmR 0 0) D clC ((cI, .int) :: (cS, .object "OldBronze$Sheet") :: tys) (wC ad cI cS) tC zC [.ref (ad o)] M k := by
  refine moi_intro (by decide +kernel) (Nat.le_of_ble_eq_true rfl) wc_217 ?_
  intro p e s m args below meth c A Q C hR
  unfold w_X4_room at h
  obtain ⟨h_o, h⟩ := h
  refine g_locals (lv' := [(0, .ref (ad o))]) rfl ?_
  refine g_aload_n C dX4_room_0 rfl ?_
  refine cf_X4_13 C h_o dX4_room_1 ?_
  refine g_aload_n C dX4_room_4 rfl ?_
  refine cf_X4_26 C h_o dX4_room_5 ?_
  refine g_isub C dX4_room_8 ?_
  exact hR _ _ _ _ dX4_room_9 rfl h
def w_X4_write (o : Nat) (a1 : Int) (a2 : Int) (M : gSt) (k : gSt → Prop) : Prop :=
  (isRows o) ∧ (∀ x3_11 : Int, x3_11 = ((M o 3) * (M o 0)) + a1 → (
  (wrap (M o 0) ≤ wrap a1 →
    k M) ∧
  (wrap a1 < wrap (M o 0) →

    (wrap x3_11 < 0 →
      k M) ∧
    (0 ≤ wrap x3_11 →

      (wrap (lenC (o + 1) : Int) ≤ wrap x3_11 →
        k M) ∧
      (wrap x3_11 < wrap (lenC (o + 1) : Int) →
        ((0 : Int) ≤ x3_11 ∧ x3_11 < lenC (o + 1)) ∧ (∀ M39 : gSt, M39 = wr M (o + 1) x3_11 a2 → (k M39)))))))
set_option maxHeartbeats 4000000 in
set_option maxRecDepth 100000 in
theorem m_X4_write {l : Launch} {D : va_G} {tys : List (ClassId × FieldType)} {ad : Nat → Nat} {cI cS : ClassId} {o : Nat} {a1 : Int} {a2 : Int} {M : gSt} {k : gSt → Prop} (h : w_X4_write o a1 a2 M k) : MOv l yX4_write cX4_write 4 (rmR 0 0) D clC ((cI, .int) :: (cS, .object "OldBronze$Sheet") :: tys) (wC ad cI cS) tC zC [.ref (ad o), iv a1, iv a2] M k := by
  refine mov_intro (by decide +kernel) (Nat.le_of_ble_eq_true rfl) wc_218 ?_
  intro p e s m args below meth c A Q C hR
  unfold w_X4_write at h
  obtain ⟨h_o, h⟩ := h
  refine g_locals (lv' := [(0, .ref (ad o)), (1, iv a1), (2, iv a2)]) rfl ?_
  refine g_aload_n C dX4_write_0 rfl ?_
  refine cf_X4_26 C h_o dX4_write_1 ?_
  refine g_aload_n C dX4_write_4 rfl ?_
  refine cf_X4_19 C h_o dX4_write_5 ?_
  refine g_imul C dX4_write_8 ?_
  refine g_iload_n C dX4_write_9 rfl ?_
  refine g_iadd C dX4_write_10 ?_
  refine g_name (fun x3_11 hx3_11 => ?_)
  replace h := h x3_11 hx3_11
  refine g_istore_n C dX4_write_11 (by decide) rfl ?_
  refine g_locals (lv' := [(0, .ref (ad o)), (1, iv a1), (2, iv a2), (3, iv x3_11)]) rfl ?_
  refine g_iload_n C dX4_write_12 rfl ?_
  refine g_aload_n C dX4_write_13 rfl ?_
  refine cf_X4_19 C h_o dX4_write_14 ?_
  refine g_icmp_ge C 40 dX4_write_17 (by decide) (fun hc => ?_) (fun hc => ?_)
  · replace h := h.1 hc
    exact hR _ _ _ dX4_write_40 h
  · replace h := h.2 hc
    refine g_iload_n C dX4_write_20 rfl ?_
    refine g_if_lt C 40 dX4_write_21 (by decide) (fun hc => ?_) (fun hc => ?_)
    · replace h := h.1 hc
      exact hR _ _ _ dX4_write_40 h
    · replace h := h.2 hc
      refine g_iload_n C dX4_write_24 rfl ?_
      refine g_aload_n C dX4_write_25 rfl ?_
      refine cf_X4_22 C h_o dX4_write_26 ?_
      refine g_alen C dX4_write_29 h_o.2.2.1 h_o.2.2.2.1 ?_
      refine g_icmp_ge C 40 dX4_write_30 (by decide) (fun hc => ?_) (fun hc => ?_)
      · replace h := h.1 hc
        exact hR _ _ _ dX4_write_40 h
      · replace h := h.2 hc
        refine g_aload_n C dX4_write_33 rfl ?_
        refine cf_X4_22 C h_o dX4_write_34 ?_
        refine g_iload_n C dX4_write_37 rfl ?_
        refine g_iload_n C dX4_write_38 rfl ?_
        refine g_iast C dX4_write_39 h_o.2.2.1 h_o.2.2.2 h.1 ?_
        replace h := h.2
        refine g_memname (fun M39 hM39 => ?_)
        replace h := h M39 hM39
        exact hR _ _ _ dX4_write_40 h
def w_X4_append (o : Nat) (a1 : Int) (a2 : Int) (a3 : Int) (M : gSt) (k : Int → gSt → Prop) : Prop :=
  (isRows o) ∧ (w_X4_room o M (fun r1c M1 => 
  (1 ≤ wrap r1c →
    w_X4_write o 0 a1 M1 (fun M13 => w_X4_write o 1 a2 M13 (fun M19 => w_X4_write o 2 a3 M19 (fun M25 => ∀ M35 : gSt, M35 = wr M25 o 3 ((M25 o 3) + 1) → (k ((M35 o 3) - 1) M35))))) ∧
  (wrap r1c < 1 →
    k (-1) M1)))
set_option maxHeartbeats 4000000 in
set_option maxRecDepth 100000 in
theorem m_X4_append {l : Launch} {D : va_G} {tys : List (ClassId × FieldType)} {ad : Nat → Nat} {cI cS : ClassId} {o : Nat} {a1 : Int} {a2 : Int} {a3 : Int} {M : gSt} {k : Int → gSt → Prop} (h : w_X4_append o a1 a2 a3 M k) : MOi l yX4_append cX4_append 4 .int (rmR 1 23) D clC ((cI, .int) :: (cS, .object "OldBronze$Sheet") :: tys) (wC ad cI cS) tC zC [.ref (ad o), iv a1, iv a2, iv a3] M k := by
  refine moi_intro (by decide +kernel) (Nat.le_of_ble_eq_true rfl) wc_219 ?_
  intro p e s m args below meth c A Q C hR
  unfold w_X4_append at h
  obtain ⟨h_o, h⟩ := h
  refine g_locals (lv' := [(0, .ref (ad o)), (1, iv a1), (2, iv a2), (3, iv a3)]) rfl ?_
  refine g_aload_n C dX4_append_0 rfl ?_
  refine g_callVi C (nargs := 0) (o := o) (st := []) (m_X4_room h) (show isRows o from h.1).1 (show isRows o from h.1).2.1 rfl rfl gc_X4_29 (by decide +kernel) ⟨rfl, rfl⟩ dX4_append_1 ⟨by decide, by decide⟩ rfl rfl (Nat.le_of_ble_eq_true rfl) ?_
  intro r1c M1 hN
  replace h := hN
  clear hN
  refine g_iconst C dX4_append_4 ?_
  refine g_icmp_ge C 10 dX4_append_5 (by decide) (fun hc => ?_) (fun hc => ?_)
  · replace h := h.1 hc
    refine g_aload_n C dX4_append_10 rfl ?_
    refine g_iconst C dX4_append_11 ?_
    refine g_iload_n C dX4_append_12 rfl ?_
    refine g_callVv C (nargs := 2) (o := o) (st := []) (m_X4_write h) (show isRows o from h.1).1 (show isRows o from h.1).2.1 rfl rfl gc_X4_33 (by decide +kernel) ⟨rfl, rfl⟩ dX4_append_13 ⟨by decide, by decide⟩ rfl rfl (Nat.le_of_ble_eq_true rfl) ?_
    intro M13 hN
    replace h := hN
    clear hN
    refine g_aload_n C dX4_append_16 rfl ?_
    refine g_iconst C dX4_append_17 ?_
    refine g_iload_n C dX4_append_18 rfl ?_
    refine g_callVv C (nargs := 2) (o := o) (st := []) (m_X4_write h) (show isRows o from h.1).1 (show isRows o from h.1).2.1 rfl rfl gc_X4_33 (by decide +kernel) ⟨rfl, rfl⟩ dX4_append_19 ⟨by decide, by decide⟩ rfl rfl (Nat.le_of_ble_eq_true rfl) ?_
    intro M19 hN
    replace h := hN
    clear hN
    refine g_aload_n C dX4_append_22 rfl ?_
    refine g_iconst C dX4_append_23 ?_
    refine g_iload_n C dX4_append_24 rfl ?_
    refine g_callVv C (nargs := 2) (o := o) (st := []) (m_X4_write h) (show isRows o from h.1).1 (show isRows o from h.1).2.1 rfl rfl gc_X4_33 (by decide +kernel) ⟨rfl, rfl⟩ dX4_append_25 ⟨by decide, by decide⟩ rfl rfl (Nat.le_of_ble_eq_true rfl) ?_
    intro M25 hN
    replace h := hN
    clear hN
    refine g_aload_n C dX4_append_28 rfl ?_
    refine g_dup C dX4_append_29 rfl ?_
    refine cf_X4_26 C h_o dX4_append_30 ?_
    refine g_iconst C dX4_append_33 ?_
    refine g_iadd C dX4_append_34 ?_
    refine cp_X4_26 C h_o dX4_append_35 ?_
    refine g_memname (fun M35 hM35 => ?_)
    replace h := h M35 hM35
    refine g_aload_n C dX4_append_38 rfl ?_
    refine cf_X4_26 C h_o dX4_append_39 ?_
    refine g_iconst C dX4_append_42 ?_
    refine g_isub C dX4_append_43 ?_
    exact hR _ _ _ _ dX4_append_44 rfl h
  · replace h := h.2 hc
    refine g_iconst C dX4_append_8 ?_
    exact hR _ _ _ _ dX4_append_9 rfl h
def wB_X2_noteGrams_43 (o : Nat) (a1 : Int) (k : gSt → Prop) (r2 : Int → gSt → Prop) (X2_49 : gSt → Prop) (v2 : Int) (M : gSt) : Prop :=
r2 (v2 + 1) M
def wC_X2_noteGrams_2 (o : Nat) (a1 : Int) (k : gSt → Prop) (r2 : Int → gSt → Prop) (X2_49 : gSt → Prop) (v2 : Int) (M : gSt) : Prop :=

  (12 ≤ wrap v2 →
    X2_49  M) ∧
  (wrap v2 < 12 →
    ∀ x3_14 : Int, x3_14 = (a1 * 12) + v2 → (
    (wrap x3_14 < 0 →
      wB_X2_noteGrams_43 o a1 k r2 X2_49 v2 M) ∧
    (0 ≤ wrap x3_14 →

      (wrap (lenC (o + 5) : Int) ≤ wrap x3_14 →
        wB_X2_noteGrams_43 o a1 k r2 X2_49 v2 M) ∧
      (wrap x3_14 < wrap (lenC (o + 5) : Int) →
        w_X0_number (o + 1) v2 2 M (fun r39c M39 => ((0 : Int) ≤ x3_14 ∧ x3_14 < lenC (o + 5)) ∧ (∀ M42 : gSt, M42 = wr M39 (o + 5) x3_14 r39c → (wB_X2_noteGrams_43 o a1 k r2 X2_49 v2 M42)))))))
def wL_X2_noteGrams_2 (o : Nat) (a1 : Int) (k : gSt → Prop)  (X2_49 : gSt → Prop) : Nat → Int → gSt → Prop
  | 0 => fun _ _ => False
  | n + 1 => fun v2 M => wC_X2_noteGrams_2 o a1 k  (wL_X2_noteGrams_2 o a1 k  X2_49 n) X2_49 v2 M
def w_X2_noteGrams (o : Nat) (a1 : Int) (M : gSt) (k : gSt → Prop) : Prop :=
  (isHistories o) ∧ (∃ n, wL_X2_noteGrams_2 o a1 k  (fun  M2 =>
    k M2) n 0 M)
set_option maxHeartbeats 4000000 in
set_option maxRecDepth 100000 in
theorem m_X2_noteGrams {l : Launch} {D : va_G} {tys : List (ClassId × FieldType)} {ad : Nat → Nat} {cI cS : ClassId} {o : Nat} {a1 : Int} {M : gSt} {k : gSt → Prop} (h : w_X2_noteGrams o a1 M k) : MOv l yX2_noteGrams cX2_noteGrams 4 (rmR 2 45) D clC ((cI, .int) :: (cS, .object "OldBronze$Sheet") :: tys) (wC ad cI cS) tC zC [.ref (ad o), iv a1] M k := by
  refine mov_intro (by decide +kernel) (Nat.le_of_ble_eq_true rfl) wc_226 ?_
  intro p e s m args below meth c A Q C hR
  unfold w_X2_noteGrams at h
  obtain ⟨h_o, h⟩ := h
  have pB43 : ∀ (r2 : Int → gSt → Prop) (X2_49 : gSt → Prop) (hr2 : ∀ (v2 : Int) (M : gSt), r2 v2 M → gG p l e (rmR 2 45) s m args below meth c Q D clC A (wC ad cI cS) 4 2 [(0, .ref (ad o)), (1, iv a1), (2, iv v2)] [] M) (hX2_49 : ∀  (M : gSt), X2_49  M → gG p l e (rmR 2 45) s m args below meth c Q D clC A (wC ad cI cS) 4 49 [] [] M) (v2 : Int) (M : gSt), wB_X2_noteGrams_43 o a1 k r2 X2_49 v2 M → gG p l e (rmR 2 45) s m args below meth c Q D clC A (wC ad cI cS) 4 43 [(0, .ref (ad o)), (1, iv a1), (2, iv v2)] [] M := by
    intro r2 X2_49 hr2 hX2_49 v2 M h
    unfold wB_X2_noteGrams_43 at h
    refine g_iinc C dX2_noteGrams_43 rfl (by decide) rfl ?_
    refine g_locals (lv' := [(0, .ref (ad o)), (1, iv a1), (2, iv (v2 + 1))]) rfl ?_
    refine g_goto C 2 dX2_noteGrams_46 (by decide) ?_
    refine g_locals (lv' := [(0, .ref (ad o)), (1, iv a1), (2, iv (v2 + 1))]) rfl ?_
    exact hr2 _  _ h
  have pC2 : ∀ (r2 : Int → gSt → Prop) (X2_49 : gSt → Prop) (hr2 : ∀ (v2 : Int) (M : gSt), r2 v2 M → gG p l e (rmR 2 45) s m args below meth c Q D clC A (wC ad cI cS) 4 2 [(0, .ref (ad o)), (1, iv a1), (2, iv v2)] [] M) (hX2_49 : ∀  (M : gSt), X2_49  M → gG p l e (rmR 2 45) s m args below meth c Q D clC A (wC ad cI cS) 4 49 [] [] M) (v2 : Int) (M : gSt), wC_X2_noteGrams_2 o a1 k r2 X2_49 v2 M → gG p l e (rmR 2 45) s m args below meth c Q D clC A (wC ad cI cS) 4 2 [(0, .ref (ad o)), (1, iv a1), (2, iv v2)] [] M := by
    intro r2 X2_49 hr2 hX2_49 v2 M h
    unfold wC_X2_noteGrams_2 at h
    refine g_iload_n C dX2_noteGrams_2 rfl ?_
    refine g_bipush C dX2_noteGrams_3 rfl ?_
    refine g_icmp_ge C 49 dX2_noteGrams_5 (by decide) (fun hc => ?_) (fun hc => ?_)
    · replace h := h.1 hc
      refine g_locals (lv' := []) rfl ?_
      exact hX2_49  _ h
    · replace h := h.2 hc
      refine g_iload_n C dX2_noteGrams_8 rfl ?_
      refine g_bipush C dX2_noteGrams_9 rfl ?_
      refine g_imul C dX2_noteGrams_11 ?_
      refine g_iload_n C dX2_noteGrams_12 rfl ?_
      refine g_iadd C dX2_noteGrams_13 ?_
      refine g_name (fun x3_14 hx3_14 => ?_)
      replace h := h x3_14 hx3_14
      refine g_istore_n C dX2_noteGrams_14 (by decide) rfl ?_
      refine g_locals (lv' := [(0, .ref (ad o)), (1, iv a1), (2, iv v2), (3, iv x3_14)]) rfl ?_
      refine g_iload_n C dX2_noteGrams_15 rfl ?_
      refine g_if_lt C 43 dX2_noteGrams_16 (by decide) (fun hc => ?_) (fun hc => ?_)
      · replace h := h.1 hc
        refine g_locals (lv' := [(0, .ref (ad o)), (1, iv a1), (2, iv v2)]) rfl ?_
        exact pB43 r2 X2_49 hr2 hX2_49 _ _ h
      · replace h := h.2 hc
        refine g_iload_n C dX2_noteGrams_19 rfl ?_
        refine g_aload_n C dX2_noteGrams_20 rfl ?_
        refine cf_X2_27 C h_o dX2_noteGrams_21 ?_
        refine g_alen C dX2_noteGrams_24 h_o.2.2.1 h_o.2.2.2.1 ?_
        refine g_icmp_ge C 43 dX2_noteGrams_25 (by decide) (fun hc => ?_) (fun hc => ?_)
        · replace h := h.1 hc
          refine g_locals (lv' := [(0, .ref (ad o)), (1, iv a1), (2, iv v2)]) rfl ?_
          exact pB43 r2 X2_49 hr2 hX2_49 _ _ h
        · replace h := h.2 hc
          refine g_aload_n C dX2_noteGrams_28 rfl ?_
          refine cf_X2_27 C h_o dX2_noteGrams_29 ?_
          refine g_iload_n C dX2_noteGrams_32 rfl ?_
          refine g_aload_n C dX2_noteGrams_33 rfl ?_
          refine cf_X2_12 C h_o dX2_noteGrams_34 ?_
          refine g_iload_n C dX2_noteGrams_37 rfl ?_
          refine g_iconst C dX2_noteGrams_38 ?_
          refine g_callVi C (nargs := 2) (o := (o + 1)) (st := [iv x3_14, .ref (ad (o + 5))]) (m_X0_number h) (show isBronze (o + 1) from h.1).1 (show isBronze (o + 1) from h.1).2.1 rfl rfl gc_X2_55 (by decide +kernel) ⟨rfl, rfl⟩ dX2_noteGrams_39 ⟨by decide, by decide⟩ rfl rfl (Nat.le_of_ble_eq_true rfl) ?_
          intro r39c M39 hN
          replace h := hN
          clear hN
          refine g_iast C dX2_noteGrams_42 h_o.2.2.1 h_o.2.2.2 h.1 ?_
          replace h := h.2
          refine g_memname (fun M42 hM42 => ?_)
          replace h := h M42 hM42
          refine g_locals (lv' := [(0, .ref (ad o)), (1, iv a1), (2, iv v2)]) rfl ?_
          exact pB43 r2 X2_49 hr2 hX2_49 _ _ h
  have pL2 : ∀  (X2_49 : gSt → Prop) (hX2_49 : ∀  (M : gSt), X2_49  M → gG p l e (rmR 2 45) s m args below meth c Q D clC A (wC ad cI cS) 4 49 [] [] M) (n : Nat) (v2 : Int) (M : gSt), wL_X2_noteGrams_2 o a1 k  X2_49 n v2 M → gG p l e (rmR 2 45) s m args below meth c Q D clC A (wC ad cI cS) 4 2 [(0, .ref (ad o)), (1, iv a1), (2, iv v2)] [] M := by
    intro  X2_49 hX2_49 n
    induction n with
    | zero => intro v2 M h; exact h.elim
    | succ n ih =>
      intro v2 M h
      exact pC2  (wL_X2_noteGrams_2 o a1 k  X2_49 n) X2_49 ih hX2_49 v2 M h
  refine g_locals (lv' := [(0, .ref (ad o)), (1, iv a1)]) rfl ?_
  refine g_iconst C dX2_noteGrams_0 ?_
  refine g_istore_n C dX2_noteGrams_1 (by decide) rfl ?_
  refine g_locals (lv' := [(0, .ref (ad o)), (1, iv a1), (2, iv 0)]) rfl ?_
  refine g_locals (lv' := [(0, .ref (ad o)), (1, iv a1), (2, iv 0)]) rfl ?_
  obtain ⟨n, h⟩ := h
  refine pL2 _ ?_ n _ _ h
  · intro  M2 hN
    replace h := hN
    clear hN
    exact hR _ _ _ dX2_noteGrams_49 h
