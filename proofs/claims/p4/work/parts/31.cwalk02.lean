def wC_X0_addTin_49 (o : Nat) (a1 : Int) (k : gSt → Prop) (r49 : Int → Int → Int → gSt → Prop) (X49_91 : gSt → Prop) (v2 : Int) (v3 : Int) (v4 : Int) (M : gSt) : Prop :=

  (10 ≤ wrap v4 →
    X49_91  M) ∧
  (wrap v4 < 10 →
    w_X0_number o 12 v4 M (fun r61c M61 => ∀ x5_68 : Int, x5_68 = (wrap r61c) * (wrap v2) → (w_X8_quotient x5_68 (wrap v3) M61 (fun r79c M79 => w_X0_become o 12 v4 r79c M79 (fun M82 => r49 v2 v3 (v4 + 1) M82)))))
def wL_X0_addTin_49 (o : Nat) (a1 : Int) (k : gSt → Prop)  (X49_91 : gSt → Prop) : Nat → Int → Int → Int → gSt → Prop
  | 0 => fun _ _ _ _ => False
  | n + 1 => fun v2 v3 v4 M => wC_X0_addTin_49 o a1 k  (wL_X0_addTin_49 o a1 k  X49_91 n) X49_91 v2 v3 v4 M
def w_X0_addTin (o : Nat) (a1 : Int) (M : gSt) (k : gSt → Prop) : Prop :=
  (isBronze o) ∧ (w_X0_number o 12 2 M (fun r4c M4 => ∀ x3_16 : Int, x3_16 = xmin 9999999 (r4c + a1) → (w_X0_become o 12 2 x3_16 M4 (fun M22 => w_X0_number o 12 3 M22 (fun r34c M34 => w_X0_become o 12 3 (xmin x3_16 (r34c + a1)) M34 (fun M42 => ∃ n, wL_X0_addTin_49 o a1 k  (fun  M49 =>
    k M49) n r4c x3_16 6 M42))))))
set_option maxHeartbeats 4000000 in
set_option maxRecDepth 100000 in
theorem m_X0_addTin {l : Launch} {D : va_G} {tys : List (ClassId × FieldType)} {ad : Nat → Nat} {cI cS : ClassId} {o : Nat} {a1 : Int} {M : gSt} {k : gSt → Prop} (h : w_X0_addTin o a1 M k) : MOv l yX0_addTin cX0_addTin 7 (rmR 2 46) D clC ((cI, .int) :: (cS, .object "OldBronze$Sheet") :: tys) (wC ad cI cS) tC zC [.ref (ad o), iv a1] M k := by
  refine mov_intro (by decide +kernel) (Nat.le_of_ble_eq_true rfl) wc_68 ?_
  intro p e s m args below meth c A Q C hR
  unfold w_X0_addTin at h
  obtain ⟨h_o, h⟩ := h
  have pC49 : ∀ (r49 : Int → Int → Int → gSt → Prop) (X49_91 : gSt → Prop) (hr49 : ∀ (v2 : Int) (v3 : Int) (v4 : Int) (M : gSt), r49 v2 v3 v4 M → gG p l e (rmR 2 46) s m args below meth c Q D clC A (wC ad cI cS) 7 49 [(0, .ref (ad o)), (2, iv v2), (3, iv v3), (4, iv v4)] [] M) (hX49_91 : ∀  (M : gSt), X49_91  M → gG p l e (rmR 2 46) s m args below meth c Q D clC A (wC ad cI cS) 7 91 [] [] M) (v2 : Int) (v3 : Int) (v4 : Int) (M : gSt), wC_X0_addTin_49 o a1 k r49 X49_91 v2 v3 v4 M → gG p l e (rmR 2 46) s m args below meth c Q D clC A (wC ad cI cS) 7 49 [(0, .ref (ad o)), (2, iv v2), (3, iv v3), (4, iv v4)] [] M := by
    intro r49 X49_91 hr49 hX49_91 v2 v3 v4 M h
    unfold wC_X0_addTin_49 at h
    refine g_iload C dX0_addTin_49 rfl ?_
    refine g_bipush C dX0_addTin_51 rfl ?_
    refine g_icmp_ge C 91 dX0_addTin_53 (by decide) (fun hc => ?_) (fun hc => ?_)
    · replace h := h.1 hc
      refine g_locals (lv' := []) rfl ?_
      exact hX49_91  _ h
    · replace h := h.2 hc
      refine g_aload_n C dX0_addTin_56 rfl ?_
      refine g_bipush C dX0_addTin_57 rfl ?_
      refine g_iload C dX0_addTin_59 rfl ?_
      refine g_callVi C (nargs := 2) (o := o) (st := []) (m_X0_number h) (show isBronze o from h.1).1 (show isBronze o from h.1).2.1 rfl rfl gc_X0_36 (by decide +kernel) ⟨rfl, rfl⟩ dX0_addTin_61 ⟨by decide, by decide⟩ rfl rfl (Nat.le_of_ble_eq_true rfl) ?_
      intro r61c M61 hN
      replace h := hN
      clear hN
      refine g_i2l C dX0_addTin_64 ?_
      refine g_iload_n C dX0_addTin_65 rfl ?_
      refine g_i2l C dX0_addTin_66 ?_
      refine g_lmul C dX0_addTin_67 ?_
      refine g_nameL (fun x5_68 hx5_68 => ?_)
      replace h := h x5_68 hx5_68
      refine g_lstore C dX0_addTin_68 (by decide) rfl ?_
      refine g_locals (lv' := [(0, .ref (ad o)), (2, iv v2), (3, iv v3), (4, iv v4), (5, jv x5_68)]) rfl ?_
      refine g_aload_n C dX0_addTin_70 rfl ?_
      refine g_bipush C dX0_addTin_71 rfl ?_
      refine g_iload C dX0_addTin_73 rfl ?_
      refine g_lload C dX0_addTin_75 rfl ?_
      refine g_iload_n C dX0_addTin_77 rfl ?_
      refine g_i2l C dX0_addTin_78 ?_
      refine g_callNSi C (nargs := 2) (st := [iv v4, iv 12, .ref (ad o)]) (m_X8_quotient h) zn_1 (gc_code wc_52) wc_26 wc_54 (by decide +kernel) ⟨rfl, rfl⟩ dX0_addTin_79 ⟨by decide, by decide⟩ rfl rfl (Nat.le_of_ble_eq_true rfl) ?_
      intro r79c M79 hN
      replace h := hN
      clear hN
      refine g_callVv C (nargs := 3) (o := o) (st := []) (m_X0_become h) (show isBronze o from h.1).1 (show isBronze o from h.1).2.1 rfl rfl gc_X0_53 (by decide +kernel) ⟨rfl, rfl⟩ dX0_addTin_82 ⟨by decide, by decide⟩ rfl rfl (Nat.le_of_ble_eq_true rfl) ?_
      intro M82 hN
      replace h := hN
      clear hN
      refine g_iinc C dX0_addTin_85 rfl (by decide) rfl ?_
      refine g_locals (lv' := [(0, .ref (ad o)), (2, iv v2), (3, iv v3), (4, iv (v4 + 1)), (5, jv x5_68)]) rfl ?_
      refine g_goto C 49 dX0_addTin_88 (by decide) ?_
      refine g_locals (lv' := [(0, .ref (ad o)), (2, iv v2), (3, iv v3), (4, iv (v4 + 1))]) rfl ?_
      exact hr49 _ _ _  _ h
  have pL49 : ∀  (X49_91 : gSt → Prop) (hX49_91 : ∀  (M : gSt), X49_91  M → gG p l e (rmR 2 46) s m args below meth c Q D clC A (wC ad cI cS) 7 91 [] [] M) (n : Nat) (v2 : Int) (v3 : Int) (v4 : Int) (M : gSt), wL_X0_addTin_49 o a1 k  X49_91 n v2 v3 v4 M → gG p l e (rmR 2 46) s m args below meth c Q D clC A (wC ad cI cS) 7 49 [(0, .ref (ad o)), (2, iv v2), (3, iv v3), (4, iv v4)] [] M := by
    intro  X49_91 hX49_91 n
    induction n with
    | zero => intro v2 v3 v4 M h; exact h.elim
    | succ n ih =>
      intro v2 v3 v4 M h
      exact pC49  (wL_X0_addTin_49 o a1 k  X49_91 n) X49_91 ih hX49_91 v2 v3 v4 M h
  refine g_locals (lv' := [(0, .ref (ad o)), (1, iv a1)]) rfl ?_
  refine g_aload_n C dX0_addTin_0 rfl ?_
  refine g_bipush C dX0_addTin_1 rfl ?_
  refine g_iconst C dX0_addTin_3 ?_
  refine g_callVi C (nargs := 2) (o := o) (st := []) (m_X0_number h) (show isBronze o from h.1).1 (show isBronze o from h.1).2.1 rfl rfl gc_X0_36 (by decide +kernel) ⟨rfl, rfl⟩ dX0_addTin_4 ⟨by decide, by decide⟩ rfl rfl (Nat.le_of_ble_eq_true rfl) ?_
  intro r4c M4 hN
  replace h := hN
  clear hN
  refine g_istore_n C dX0_addTin_7 (by decide) rfl ?_
  refine g_locals (lv' := [(0, .ref (ad o)), (1, iv a1), (2, iv r4c)]) rfl ?_
  refine g_ldc C 9999999 wc_59 rfl dX0_addTin_8 ?_
  refine g_iload_n C dX0_addTin_10 rfl ?_
  refine g_iload_n C dX0_addTin_11 rfl ?_
  refine g_iadd C dX0_addTin_12 ?_
  refine g_mmin C (st := []) dX0_addTin_13 wc_60 wc_61 wc_62 wc_63 (by decide) (Nat.le_of_ble_eq_true rfl) ?_
  refine g_name (fun x3_16 hx3_16 => ?_)
  replace h := h x3_16 hx3_16
  refine g_istore_n C dX0_addTin_16 (by decide) rfl ?_
  refine g_locals (lv' := [(0, .ref (ad o)), (1, iv a1), (2, iv r4c), (3, iv x3_16)]) rfl ?_
  refine g_aload_n C dX0_addTin_17 rfl ?_
  refine g_bipush C dX0_addTin_18 rfl ?_
  refine g_iconst C dX0_addTin_20 ?_
  refine g_iload_n C dX0_addTin_21 rfl ?_
  refine g_callVv C (nargs := 3) (o := o) (st := []) (m_X0_become h) (show isBronze o from h.1).1 (show isBronze o from h.1).2.1 rfl rfl gc_X0_53 (by decide +kernel) ⟨rfl, rfl⟩ dX0_addTin_22 ⟨by decide, by decide⟩ rfl rfl (Nat.le_of_ble_eq_true rfl) ?_
  intro M22 hN
  replace h := hN
  clear hN
  refine g_aload_n C dX0_addTin_25 rfl ?_
  refine g_bipush C dX0_addTin_26 rfl ?_
  refine g_iconst C dX0_addTin_28 ?_
  refine g_iload_n C dX0_addTin_29 rfl ?_
  refine g_aload_n C dX0_addTin_30 rfl ?_
  refine g_bipush C dX0_addTin_31 rfl ?_
  refine g_iconst C dX0_addTin_33 ?_
  refine g_callVi C (nargs := 2) (o := o) (st := [iv x3_16, iv 3, iv 12, .ref (ad o)]) (m_X0_number h) (show isBronze o from h.1).1 (show isBronze o from h.1).2.1 rfl rfl gc_X0_36 (by decide +kernel) ⟨rfl, rfl⟩ dX0_addTin_34 ⟨by decide, by decide⟩ rfl rfl (Nat.le_of_ble_eq_true rfl) ?_
  intro r34c M34 hN
  replace h := hN
  clear hN
  refine g_iload_n C dX0_addTin_37 rfl ?_
  refine g_iadd C dX0_addTin_38 ?_
  refine g_mmin C (st := [iv 3, iv 12, .ref (ad o)]) dX0_addTin_39 wc_60 wc_61 wc_62 wc_63 (by decide) (Nat.le_of_ble_eq_true rfl) ?_
  refine g_callVv C (nargs := 3) (o := o) (st := []) (m_X0_become h) (show isBronze o from h.1).1 (show isBronze o from h.1).2.1 rfl rfl gc_X0_53 (by decide +kernel) ⟨rfl, rfl⟩ dX0_addTin_42 ⟨by decide, by decide⟩ rfl rfl (Nat.le_of_ble_eq_true rfl) ?_
  intro M42 hN
  replace h := hN
  clear hN
  refine g_bipush C dX0_addTin_45 rfl ?_
  refine g_istore C dX0_addTin_47 (by decide) rfl ?_
  refine g_locals (lv' := [(0, .ref (ad o)), (1, iv a1), (2, iv r4c), (3, iv x3_16), (4, iv 6)]) rfl ?_
  refine g_locals (lv' := [(0, .ref (ad o)), (2, iv r4c), (3, iv x3_16), (4, iv 6)]) rfl ?_
  obtain ⟨n, h⟩ := h
  refine pL49 _ ?_ n _ _ _ _ h
  · intro  M49 hN
    replace h := hN
    clear hN
    exact hR _ _ _ dX0_addTin_91 h
def wB_X0_addCast_99 (o : Nat) (a1 : Int) (a2 : Int) (k : Int → gSt → Prop) (r26 : Int → Int → Int → gSt → Prop) (X26_118 : Int → gSt → Prop) (v3 : Int) (v4 : Int) (v5 : Int) (v8 : Int) (s0 : Int) (s1 : Int) (s2 : Int) (M : gSt) : Prop :=
w_X0_become o s2 s1 s0 M (fun M99 => w_X0_become o v4 v5 v8 M99 (fun M109 => r26 v3 v4 (v5 + 1) M109))
def wB_X0_addCast_78 (o : Nat) (a1 : Int) (a2 : Int) (k : Int → gSt → Prop) (r26 : Int → Int → Int → gSt → Prop) (X26_118 : Int → gSt → Prop) (v3 : Int) (v4 : Int) (v5 : Int) (v6 : Int) (v7 : Int) (s0 : Int) (M : gSt) : Prop :=

  (wrap v6 = 0 →
    wB_X0_addCast_99 o a1 a2 k r26 X26_118 v3 v4 v5 s0 (v7 - s0) v5 v3 M) ∧
  (¬ wrap v6 = 0 →
    wB_X0_addCast_99 o a1 a2 k r26 X26_118 v3 v4 v5 s0 v7 v5 v3 M)
def wB_X0_addCast_45 (o : Nat) (a1 : Int) (a2 : Int) (k : Int → gSt → Prop) (r26 : Int → Int → Int → gSt → Prop) (X26_118 : Int → gSt → Prop) (v3 : Int) (v4 : Int) (v5 : Int) (s0 : Int) (M : gSt) : Prop :=
w_X0_number o 12 v5 M (fun r52c M52 => 
  (wrap s0 = 0 →
    w_X0_partOf o 12 v5 a2 10 M52 (fun r75c M75 => wB_X0_addCast_78 o a1 a2 k r26 X26_118 v3 v4 v5 s0 r52c r75c M75)) ∧
  (¬ wrap s0 = 0 →
    wB_X0_addCast_78 o a1 a2 k r26 X26_118 v3 v4 v5 s0 r52c r52c M52))
def wC_X0_addCast_26 (o : Nat) (a1 : Int) (a2 : Int) (k : Int → gSt → Prop) (r26 : Int → Int → Int → gSt → Prop) (X26_118 : Int → gSt → Prop) (v3 : Int) (v4 : Int) (v5 : Int) (M : gSt) : Prop :=

  (10 ≤ wrap v5 →
    X26_118 v3 M) ∧
  (wrap v5 < 10 →

    (wrap v5 < 6 →
      wB_X0_addCast_45 o a1 a2 k r26 X26_118 v3 v4 v5 0 M) ∧
    (6 ≤ wrap v5 →
      wB_X0_addCast_45 o a1 a2 k r26 X26_118 v3 v4 v5 1 M))
def wL_X0_addCast_26 (o : Nat) (a1 : Int) (a2 : Int) (k : Int → gSt → Prop)  (X26_118 : Int → gSt → Prop) : Nat → Int → Int → Int → gSt → Prop
  | 0 => fun _ _ _ _ => False
  | n + 1 => fun v3 v4 v5 M => wC_X0_addCast_26 o a1 a2 k  (wL_X0_addCast_26 o a1 a2 k  X26_118 n) X26_118 v3 v4 v5 M
def wB_X0_addCast_21 (o : Nat) (a1 : Int) (a2 : Int) (k : Int → gSt → Prop)  (v3 : Int) (s0 : Int) (M : gSt) : Prop :=
∃ n, wL_X0_addCast_26 o a1 a2 k  (fun u3_26 M26 =>
    w_X0_fill o 12 0 M26 (fun M122 => k u3_26 M122)) n v3 s0 2 M
def w_X0_addCast (o : Nat) (a1 : Int) (a2 : Int) (M : gSt) (k : Int → gSt → Prop) : Prop :=
  (isBronze o) ∧ (w_X0_add o a1 M (fun r2c M2 => 
  (wrap a2 ≤ 0 →
    wB_X0_addCast_21 o a1 a2 k  r2c (-1) M2) ∧
  (0 < wrap a2 →
    w_X0_add o 600 M2 (fun r14c M14 => wB_X0_addCast_21 o a1 a2 k  r2c r14c M14))))
set_option maxHeartbeats 4000000 in
set_option maxRecDepth 100000 in
theorem m_X0_addCast {l : Launch} {D : va_G} {tys : List (ClassId × FieldType)} {ad : Nat → Nat} {cI cS : ClassId} {o : Nat} {a1 : Int} {a2 : Int} {M : gSt} {k : Int → gSt → Prop} (h : w_X0_addCast o a1 a2 M k) : MOi l yX0_addCast cX0_addCast 9 .int (rmR 4 91) D clC ((cI, .int) :: (cS, .object "OldBronze$Sheet") :: tys) (wC ad cI cS) tC zC [.ref (ad o), iv a1, iv a2] M k := by
  refine moi_intro (by decide +kernel) (Nat.le_of_ble_eq_true rfl) wc_69 ?_
  intro p e s m args below meth c A Q C hR
  unfold w_X0_addCast at h
  obtain ⟨h_o, h⟩ := h
  have pB99 : ∀ (r26 : Int → Int → Int → gSt → Prop) (X26_118 : Int → gSt → Prop) (hr26 : ∀ (v3 : Int) (v4 : Int) (v5 : Int) (M : gSt), r26 v3 v4 v5 M → gG p l e (rmR 4 91) s m args below meth c Q D clC A (wC ad cI cS) 9 26 [(0, .ref (ad o)), (2, iv a2), (3, iv v3), (4, iv v4), (5, iv v5)] [] M) (hX26_118 : ∀ (v3 : Int) (M : gSt), X26_118 v3 M → gG p l e (rmR 4 91) s m args below meth c Q D clC A (wC ad cI cS) 9 118 [(0, .ref (ad o)), (3, iv v3)] [] M) (v3 : Int) (v4 : Int) (v5 : Int) (v8 : Int) (s0 : Int) (s1 : Int) (s2 : Int) (M : gSt), wB_X0_addCast_99 o a1 a2 k r26 X26_118 v3 v4 v5 v8 s0 s1 s2 M → gG p l e (rmR 4 91) s m args below meth c Q D clC A (wC ad cI cS) 9 99 [(0, .ref (ad o)), (2, iv a2), (3, iv v3), (4, iv v4), (5, iv v5), (8, iv v8)] [iv s0, iv s1, iv s2, .ref (ad o)] M := by
    intro r26 X26_118 hr26 hX26_118 v3 v4 v5 v8 s0 s1 s2 M h
    unfold wB_X0_addCast_99 at h
    refine g_callVv C (nargs := 3) (o := o) (st := []) (m_X0_become h) (show isBronze o from h.1).1 (show isBronze o from h.1).2.1 rfl rfl gc_X0_53 (by decide +kernel) ⟨rfl, rfl⟩ dX0_addCast_99 ⟨by decide, by decide⟩ rfl rfl (Nat.le_of_ble_eq_true rfl) ?_
    intro M99 hN
    replace h := hN
    clear hN
    refine g_aload_n C dX0_addCast_102 rfl ?_
    refine g_iload C dX0_addCast_103 rfl ?_
    refine g_iload C dX0_addCast_105 rfl ?_
    refine g_iload C dX0_addCast_107 rfl ?_
    refine g_callVv C (nargs := 3) (o := o) (st := []) (m_X0_become h) (show isBronze o from h.1).1 (show isBronze o from h.1).2.1 rfl rfl gc_X0_53 (by decide +kernel) ⟨rfl, rfl⟩ dX0_addCast_109 ⟨by decide, by decide⟩ rfl rfl (Nat.le_of_ble_eq_true rfl) ?_
    intro M109 hN
    replace h := hN
    clear hN
    refine g_iinc C dX0_addCast_112 rfl (by decide) rfl ?_
    refine g_locals (lv' := [(0, .ref (ad o)), (2, iv a2), (3, iv v3), (4, iv v4), (5, iv (v5 + 1)), (8, iv v8)]) rfl ?_
    refine g_goto C 26 dX0_addCast_115 (by decide) ?_
    refine g_locals (lv' := [(0, .ref (ad o)), (2, iv a2), (3, iv v3), (4, iv v4), (5, iv (v5 + 1))]) rfl ?_
    exact hr26 _ _ _  _ h
  have pB78 : ∀ (r26 : Int → Int → Int → gSt → Prop) (X26_118 : Int → gSt → Prop) (hr26 : ∀ (v3 : Int) (v4 : Int) (v5 : Int) (M : gSt), r26 v3 v4 v5 M → gG p l e (rmR 4 91) s m args below meth c Q D clC A (wC ad cI cS) 9 26 [(0, .ref (ad o)), (2, iv a2), (3, iv v3), (4, iv v4), (5, iv v5)] [] M) (hX26_118 : ∀ (v3 : Int) (M : gSt), X26_118 v3 M → gG p l e (rmR 4 91) s m args below meth c Q D clC A (wC ad cI cS) 9 118 [(0, .ref (ad o)), (3, iv v3)] [] M) (v3 : Int) (v4 : Int) (v5 : Int) (v6 : Int) (v7 : Int) (s0 : Int) (M : gSt), wB_X0_addCast_78 o a1 a2 k r26 X26_118 v3 v4 v5 v6 v7 s0 M → gG p l e (rmR 4 91) s m args below meth c Q D clC A (wC ad cI cS) 9 78 [(0, .ref (ad o)), (2, iv a2), (3, iv v3), (4, iv v4), (5, iv v5), (6, iv v6), (7, iv v7)] [iv s0] M := by
    intro r26 X26_118 hr26 hX26_118 v3 v4 v5 v6 v7 s0 M h
    unfold wB_X0_addCast_78 at h
    refine g_istore C dX0_addCast_78 (by decide) rfl ?_
    refine g_locals (lv' := [(0, .ref (ad o)), (2, iv a2), (3, iv v3), (4, iv v4), (5, iv v5), (6, iv v6), (7, iv v7), (8, iv s0)]) rfl ?_
    refine g_aload_n C dX0_addCast_80 rfl ?_
    refine g_iload_n C dX0_addCast_81 rfl ?_
    refine g_iload C dX0_addCast_82 rfl ?_
    refine g_iload C dX0_addCast_84 rfl ?_
    refine g_if_eq C 94 dX0_addCast_86 (by decide) (fun hc => ?_) (fun hc => ?_)
    · replace h := h.1 hc
      refine g_iload C dX0_addCast_94 rfl ?_
      refine g_iload C dX0_addCast_96 rfl ?_
      refine g_isub C dX0_addCast_98 ?_
      refine g_locals (lv' := [(0, .ref (ad o)), (2, iv a2), (3, iv v3), (4, iv v4), (5, iv v5), (8, iv s0)]) rfl ?_
      exact pB99 r26 X26_118 hr26 hX26_118 _ _ _ _ _ _ _ _ h
    · replace h := h.2 hc
      refine g_iload C dX0_addCast_89 rfl ?_
      refine g_goto C 99 dX0_addCast_91 (by decide) ?_
      refine g_locals (lv' := [(0, .ref (ad o)), (2, iv a2), (3, iv v3), (4, iv v4), (5, iv v5), (8, iv s0)]) rfl ?_
      exact pB99 r26 X26_118 hr26 hX26_118 _ _ _ _ _ _ _ _ h
  have pB45 : ∀ (r26 : Int → Int → Int → gSt → Prop) (X26_118 : Int → gSt → Prop) (hr26 : ∀ (v3 : Int) (v4 : Int) (v5 : Int) (M : gSt), r26 v3 v4 v5 M → gG p l e (rmR 4 91) s m args below meth c Q D clC A (wC ad cI cS) 9 26 [(0, .ref (ad o)), (2, iv a2), (3, iv v3), (4, iv v4), (5, iv v5)] [] M) (hX26_118 : ∀ (v3 : Int) (M : gSt), X26_118 v3 M → gG p l e (rmR 4 91) s m args below meth c Q D clC A (wC ad cI cS) 9 118 [(0, .ref (ad o)), (3, iv v3)] [] M) (v3 : Int) (v4 : Int) (v5 : Int) (s0 : Int) (M : gSt), wB_X0_addCast_45 o a1 a2 k r26 X26_118 v3 v4 v5 s0 M → gG p l e (rmR 4 91) s m args below meth c Q D clC A (wC ad cI cS) 9 45 [(0, .ref (ad o)), (2, iv a2), (3, iv v3), (4, iv v4), (5, iv v5)] [iv s0] M := by
    intro r26 X26_118 hr26 hX26_118 v3 v4 v5 s0 M h
    unfold wB_X0_addCast_45 at h
    refine g_istore C dX0_addCast_45 (by decide) rfl ?_
    refine g_locals (lv' := [(0, .ref (ad o)), (2, iv a2), (3, iv v3), (4, iv v4), (5, iv v5), (6, iv s0)]) rfl ?_
    refine g_aload_n C dX0_addCast_47 rfl ?_
    refine g_bipush C dX0_addCast_48 rfl ?_
    refine g_iload C dX0_addCast_50 rfl ?_
    refine g_callVi C (nargs := 2) (o := o) (st := []) (m_X0_number h) (show isBronze o from h.1).1 (show isBronze o from h.1).2.1 rfl rfl gc_X0_36 (by decide +kernel) ⟨rfl, rfl⟩ dX0_addCast_52 ⟨by decide, by decide⟩ rfl rfl (Nat.le_of_ble_eq_true rfl) ?_
    intro r52c M52 hN
    replace h := hN
    clear hN
    refine g_istore C dX0_addCast_55 (by decide) rfl ?_
    refine g_locals (lv' := [(0, .ref (ad o)), (2, iv a2), (3, iv v3), (4, iv v4), (5, iv v5), (6, iv s0), (7, iv r52c)]) rfl ?_
    refine g_iload C dX0_addCast_57 rfl ?_
    refine g_if_eq C 67 dX0_addCast_59 (by decide) (fun hc => ?_) (fun hc => ?_)
    · replace h := h.1 hc
      refine g_aload_n C dX0_addCast_67 rfl ?_
      refine g_bipush C dX0_addCast_68 rfl ?_
      refine g_iload C dX0_addCast_70 rfl ?_
      refine g_iload_n C dX0_addCast_72 rfl ?_
      refine g_bipush C dX0_addCast_73 rfl ?_
      refine g_callVi C (nargs := 4) (o := o) (st := []) (m_X0_partOf h) (show isBronze o from h.1).1 (show isBronze o from h.1).2.1 rfl rfl gc_X0_62 (by decide +kernel) ⟨rfl, rfl⟩ dX0_addCast_75 ⟨by decide, by decide⟩ rfl rfl (Nat.le_of_ble_eq_true rfl) ?_
      intro r75c M75 hN
      replace h := hN
      clear hN
      refine g_locals (lv' := [(0, .ref (ad o)), (2, iv a2), (3, iv v3), (4, iv v4), (5, iv v5), (6, iv s0), (7, iv r52c)]) rfl ?_
      exact pB78 r26 X26_118 hr26 hX26_118 _ _ _ _ _ _ _ h
    · replace h := h.2 hc
      refine g_iload C dX0_addCast_62 rfl ?_
      refine g_goto C 78 dX0_addCast_64 (by decide) ?_
      refine g_locals (lv' := [(0, .ref (ad o)), (2, iv a2), (3, iv v3), (4, iv v4), (5, iv v5), (6, iv s0), (7, iv r52c)]) rfl ?_
      exact pB78 r26 X26_118 hr26 hX26_118 _ _ _ _ _ _ _ h
  have pC26 : ∀ (r26 : Int → Int → Int → gSt → Prop) (X26_118 : Int → gSt → Prop) (hr26 : ∀ (v3 : Int) (v4 : Int) (v5 : Int) (M : gSt), r26 v3 v4 v5 M → gG p l e (rmR 4 91) s m args below meth c Q D clC A (wC ad cI cS) 9 26 [(0, .ref (ad o)), (2, iv a2), (3, iv v3), (4, iv v4), (5, iv v5)] [] M) (hX26_118 : ∀ (v3 : Int) (M : gSt), X26_118 v3 M → gG p l e (rmR 4 91) s m args below meth c Q D clC A (wC ad cI cS) 9 118 [(0, .ref (ad o)), (3, iv v3)] [] M) (v3 : Int) (v4 : Int) (v5 : Int) (M : gSt), wC_X0_addCast_26 o a1 a2 k r26 X26_118 v3 v4 v5 M → gG p l e (rmR 4 91) s m args below meth c Q D clC A (wC ad cI cS) 9 26 [(0, .ref (ad o)), (2, iv a2), (3, iv v3), (4, iv v4), (5, iv v5)] [] M := by
    intro r26 X26_118 hr26 hX26_118 v3 v4 v5 M h
    unfold wC_X0_addCast_26 at h
    refine g_iload C dX0_addCast_26 rfl ?_
    refine g_bipush C dX0_addCast_28 rfl ?_
    refine g_icmp_ge C 118 dX0_addCast_30 (by decide) (fun hc => ?_) (fun hc => ?_)
    · replace h := h.1 hc
      refine g_locals (lv' := [(0, .ref (ad o)), (3, iv v3)]) rfl ?_
      exact hX26_118 _  _ h
    · replace h := h.2 hc
      refine g_iload C dX0_addCast_33 rfl ?_
      refine g_bipush C dX0_addCast_35 rfl ?_
      refine g_icmp_lt C 44 dX0_addCast_37 (by decide) (fun hc => ?_) (fun hc => ?_)
      · replace h := h.1 hc
        refine g_iconst C dX0_addCast_44 ?_
        refine g_locals (lv' := [(0, .ref (ad o)), (2, iv a2), (3, iv v3), (4, iv v4), (5, iv v5)]) rfl ?_
        exact pB45 r26 X26_118 hr26 hX26_118 _ _ _ _ _ h
      · replace h := h.2 hc
        refine g_iconst C dX0_addCast_40 ?_
        refine g_goto C 45 dX0_addCast_41 (by decide) ?_
        refine g_locals (lv' := [(0, .ref (ad o)), (2, iv a2), (3, iv v3), (4, iv v4), (5, iv v5)]) rfl ?_
        exact pB45 r26 X26_118 hr26 hX26_118 _ _ _ _ _ h
  have pL26 : ∀  (X26_118 : Int → gSt → Prop) (hX26_118 : ∀ (v3 : Int) (M : gSt), X26_118 v3 M → gG p l e (rmR 4 91) s m args below meth c Q D clC A (wC ad cI cS) 9 118 [(0, .ref (ad o)), (3, iv v3)] [] M) (n : Nat) (v3 : Int) (v4 : Int) (v5 : Int) (M : gSt), wL_X0_addCast_26 o a1 a2 k  X26_118 n v3 v4 v5 M → gG p l e (rmR 4 91) s m args below meth c Q D clC A (wC ad cI cS) 9 26 [(0, .ref (ad o)), (2, iv a2), (3, iv v3), (4, iv v4), (5, iv v5)] [] M := by
    intro  X26_118 hX26_118 n
    induction n with
    | zero => intro v3 v4 v5 M h; exact h.elim
    | succ n ih =>
      intro v3 v4 v5 M h
      exact pC26  (wL_X0_addCast_26 o a1 a2 k  X26_118 n) X26_118 ih hX26_118 v3 v4 v5 M h
  have pB21 : ∀   (v3 : Int) (s0 : Int) (M : gSt), wB_X0_addCast_21 o a1 a2 k  v3 s0 M → gG p l e (rmR 4 91) s m args below meth c Q D clC A (wC ad cI cS) 9 21 [(0, .ref (ad o)), (2, iv a2), (3, iv v3)] [iv s0] M := by
    intro   v3 s0 M h
    unfold wB_X0_addCast_21 at h
    refine g_istore C dX0_addCast_21 (by decide) rfl ?_
    refine g_locals (lv' := [(0, .ref (ad o)), (2, iv a2), (3, iv v3), (4, iv s0)]) rfl ?_
    refine g_iconst C dX0_addCast_23 ?_
    refine g_istore C dX0_addCast_24 (by decide) rfl ?_
    refine g_locals (lv' := [(0, .ref (ad o)), (2, iv a2), (3, iv v3), (4, iv s0), (5, iv 2)]) rfl ?_
    refine g_locals (lv' := [(0, .ref (ad o)), (2, iv a2), (3, iv v3), (4, iv s0), (5, iv 2)]) rfl ?_
    obtain ⟨n, h⟩ := h
    refine pL26 _ ?_ n _ _ _ _ h
    · intro u3_26 M26 hN
      replace h := hN
      clear hN
      refine g_aload_n C dX0_addCast_118 rfl ?_
      refine g_bipush C dX0_addCast_119 rfl ?_
      refine g_iconst C dX0_addCast_121 ?_
      refine g_callVv C (nargs := 2) (o := o) (st := []) (m_X0_fill h) (show isBronze o from h.1).1 (show isBronze o from h.1).2.1 rfl rfl gc_X0_49 (by decide +kernel) ⟨rfl, rfl⟩ dX0_addCast_122 ⟨by decide, by decide⟩ rfl rfl (Nat.le_of_ble_eq_true rfl) ?_
      intro M122 hN
      replace h := hN
      clear hN
      refine g_iload_n C dX0_addCast_125 rfl ?_
      exact hR _ _ _ _ dX0_addCast_126 rfl h
  refine g_locals (lv' := [(0, .ref (ad o)), (1, iv a1), (2, iv a2)]) rfl ?_
  refine g_aload_n C dX0_addCast_0 rfl ?_
  refine g_iload_n C dX0_addCast_1 rfl ?_
  refine g_callVi C (nargs := 1) (o := o) (st := []) (m_X0_add h) (show isBronze o from h.1).1 (show isBronze o from h.1).2.1 rfl rfl gc_X0_57 (by decide +kernel) ⟨rfl, rfl⟩ dX0_addCast_2 ⟨by decide, by decide⟩ rfl rfl (Nat.le_of_ble_eq_true rfl) ?_
  intro r2c M2 hN
  replace h := hN
  clear hN
  refine g_istore_n C dX0_addCast_5 (by decide) rfl ?_
  refine g_locals (lv' := [(0, .ref (ad o)), (1, iv a1), (2, iv a2), (3, iv r2c)]) rfl ?_
  refine g_iload_n C dX0_addCast_6 rfl ?_
  refine g_if_le C 20 dX0_addCast_7 (by decide) (fun hc => ?_) (fun hc => ?_)
  · replace h := h.1 hc
    refine g_iconst C dX0_addCast_20 ?_
    refine g_locals (lv' := [(0, .ref (ad o)), (2, iv a2), (3, iv r2c)]) rfl ?_
    exact pB21 _ _ _ h
  · replace h := h.2 hc
    refine g_aload_n C dX0_addCast_10 rfl ?_
    refine g_sipush C dX0_addCast_11 rfl ?_
    refine g_callVi C (nargs := 1) (o := o) (st := []) (m_X0_add h) (show isBronze o from h.1).1 (show isBronze o from h.1).2.1 rfl rfl gc_X0_57 (by decide +kernel) ⟨rfl, rfl⟩ dX0_addCast_14 ⟨by decide, by decide⟩ rfl rfl (Nat.le_of_ble_eq_true rfl) ?_
    intro r14c M14 hN
    replace h := hN
    clear hN
    refine g_goto C 21 dX0_addCast_17 (by decide) ?_
    refine g_locals (lv' := [(0, .ref (ad o)), (2, iv a2), (3, iv r2c)]) rfl ?_
    exact pB21 _ _ _ h
def wB_X0_passYear_62 (o : Nat) (k : gSt → Prop) (r12 : Int → gSt → Prop) (X12_68 : gSt → Prop) (v1 : Int) (M : gSt) : Prop :=
r12 (v1 + 1) M
def wC_X0_passYear_12 (o : Nat) (k : gSt → Prop) (r12 : Int → gSt → Prop) (X12_68 : gSt → Prop) (v1 : Int) (M : gSt) : Prop :=

  (wrap (M o 1) ≤ wrap v1 →
    X12_68  M) ∧
  (wrap v1 < wrap (M o 1) →
    ∀ M32 : gSt, M32 = wr M o 4 (((M o 4) * 1103515245) + 12345) → (w_X0_number o v1 1 M32 (fun r48c M48 => 
    (wrap r48c ≤ wrap (Int.tmod (wrap (xushr (M32 o 4) 8)) 100) →
      wB_X0_passYear_62 o k r12 X12_68 v1 M48) ∧
    (wrap (Int.tmod (wrap (xushr (M32 o 4) 8)) 100) < wrap r48c →
      w_X0_lose o v1 1 100 M48 (fun M59 => wB_X0_passYear_62 o k r12 X12_68 v1 M59)))))
def wL_X0_passYear_12 (o : Nat) (k : gSt → Prop)  (X12_68 : gSt → Prop) : Nat → Int → gSt → Prop
  | 0 => fun _ _ => False
  | n + 1 => fun v1 M => wC_X0_passYear_12 o k  (wL_X0_passYear_12 o k  X12_68 n) X12_68 v1 M
def w_X0_passYear (o : Nat) (M : gSt) (k : gSt → Prop) : Prop :=
  (isBronze o) ∧ (∀ M7 : gSt, M7 = wr M o 3 ((M o 3) + 1) → (∃ n, wL_X0_passYear_12 o k  (fun  M12 =>
    k M12) n 0 M7))
set_option maxHeartbeats 4000000 in
set_option maxRecDepth 100000 in
theorem m_X0_passYear {l : Launch} {D : va_G} {tys : List (ClassId × FieldType)} {ad : Nat → Nat} {cI cS : ClassId} {o : Nat} {M : gSt} {k : gSt → Prop} (h : w_X0_passYear o M k) : MOv l yX0_passYear cX0_passYear 2 (rmR 4 93) D clC ((cI, .int) :: (cS, .object "OldBronze$Sheet") :: tys) (wC ad cI cS) tC zC [.ref (ad o)] M k := by
  refine mov_intro (by decide +kernel) (Nat.le_of_ble_eq_true rfl) wc_71 ?_
  intro p e s m args below meth c A Q C hR
  unfold w_X0_passYear at h
  obtain ⟨h_o, h⟩ := h
  have pB62 : ∀ (r12 : Int → gSt → Prop) (X12_68 : gSt → Prop) (hr12 : ∀ (v1 : Int) (M : gSt), r12 v1 M → gG p l e (rmR 4 93) s m args below meth c Q D clC A (wC ad cI cS) 2 12 [(0, .ref (ad o)), (1, iv v1)] [] M) (hX12_68 : ∀  (M : gSt), X12_68  M → gG p l e (rmR 4 93) s m args below meth c Q D clC A (wC ad cI cS) 2 68 [] [] M) (v1 : Int) (M : gSt), wB_X0_passYear_62 o k r12 X12_68 v1 M → gG p l e (rmR 4 93) s m args below meth c Q D clC A (wC ad cI cS) 2 62 [(0, .ref (ad o)), (1, iv v1)] [] M := by
    intro r12 X12_68 hr12 hX12_68 v1 M h
    unfold wB_X0_passYear_62 at h
    refine g_iinc C dX0_passYear_62 rfl (by decide) rfl ?_
    refine g_locals (lv' := [(0, .ref (ad o)), (1, iv (v1 + 1))]) rfl ?_
    refine g_goto C 12 dX0_passYear_65 (by decide) ?_
    refine g_locals (lv' := [(0, .ref (ad o)), (1, iv (v1 + 1))]) rfl ?_
    exact hr12 _  _ h
  have pC12 : ∀ (r12 : Int → gSt → Prop) (X12_68 : gSt → Prop) (hr12 : ∀ (v1 : Int) (M : gSt), r12 v1 M → gG p l e (rmR 4 93) s m args below meth c Q D clC A (wC ad cI cS) 2 12 [(0, .ref (ad o)), (1, iv v1)] [] M) (hX12_68 : ∀  (M : gSt), X12_68  M → gG p l e (rmR 4 93) s m args below meth c Q D clC A (wC ad cI cS) 2 68 [] [] M) (v1 : Int) (M : gSt), wC_X0_passYear_12 o k r12 X12_68 v1 M → gG p l e (rmR 4 93) s m args below meth c Q D clC A (wC ad cI cS) 2 12 [(0, .ref (ad o)), (1, iv v1)] [] M := by
    intro r12 X12_68 hr12 hX12_68 v1 M h
    unfold wC_X0_passYear_12 at h
    refine g_iload_n C dX0_passYear_12 rfl ?_
    refine g_aload_n C dX0_passYear_13 rfl ?_
    refine cf_X0_19 C h_o dX0_passYear_14 ?_
    refine g_icmp_ge C 68 dX0_passYear_17 (by decide) (fun hc => ?_) (fun hc => ?_)
    · replace h := h.1 hc
      refine g_locals (lv' := []) rfl ?_
      exact hX12_68  _ h
    · replace h := h.2 hc
      refine g_aload_n C dX0_passYear_20 rfl ?_
      refine g_aload_n C dX0_passYear_21 rfl ?_
      refine cf_X0_15 C h_o dX0_passYear_22 ?_
      refine g_ldc C 1103515245 wc_70 rfl dX0_passYear_25 ?_
      refine g_imul C dX0_passYear_27 ?_
      refine g_sipush C dX0_passYear_28 rfl ?_
      refine g_iadd C dX0_passYear_31 ?_
      refine cp_X0_15 C h_o dX0_passYear_32 ?_
      refine g_memname (fun M32 hM32 => ?_)
      replace h := h M32 hM32
      refine g_aload_n C dX0_passYear_35 rfl ?_
      refine cf_X0_15 C h_o dX0_passYear_36 ?_
      refine g_bipush C dX0_passYear_39 rfl ?_
      refine g_iushr C dX0_passYear_41 ?_
      refine g_bipush C dX0_passYear_42 rfl ?_
      refine g_irem C dX0_passYear_44 (by decide) ?_
      refine g_top (y := Int.tmod (wrap (xushr (M32 o 4) 8)) 100) rfl ?_
      refine g_aload_n C dX0_passYear_45 rfl ?_
      refine g_iload_n C dX0_passYear_46 rfl ?_
      refine g_iconst C dX0_passYear_47 ?_
      refine g_callVi C (nargs := 2) (o := o) (st := [iv (Int.tmod (wrap (xushr (M32 o 4) 8)) 100)]) (m_X0_number h) (show isBronze o from h.1).1 (show isBronze o from h.1).2.1 rfl rfl gc_X0_36 (by decide +kernel) ⟨rfl, rfl⟩ dX0_passYear_48 ⟨by decide, by decide⟩ rfl rfl (Nat.le_of_ble_eq_true rfl) ?_
      intro r48c M48 hN
      replace h := hN
      clear hN
      refine g_icmp_ge C 62 dX0_passYear_51 (by decide) (fun hc => ?_) (fun hc => ?_)
      · replace h := h.1 hc
        refine g_locals (lv' := [(0, .ref (ad o)), (1, iv v1)]) rfl ?_
        exact pB62 r12 X12_68 hr12 hX12_68 _ _ h
      · replace h := h.2 hc
        refine g_aload_n C dX0_passYear_54 rfl ?_
        refine g_iload_n C dX0_passYear_55 rfl ?_
        refine g_iconst C dX0_passYear_56 ?_
        refine g_bipush C dX0_passYear_57 rfl ?_
        refine g_callVv C (nargs := 3) (o := o) (st := []) (m_X0_lose h) (show isBronze o from h.1).1 (show isBronze o from h.1).2.1 rfl rfl gc_X0_76 (by decide +kernel) ⟨rfl, rfl⟩ dX0_passYear_59 ⟨by decide, by decide⟩ rfl rfl (Nat.le_of_ble_eq_true rfl) ?_
        intro M59 hN
        replace h := hN
        clear hN
        refine g_locals (lv' := [(0, .ref (ad o)), (1, iv v1)]) rfl ?_
        exact pB62 r12 X12_68 hr12 hX12_68 _ _ h
  have pL12 : ∀  (X12_68 : gSt → Prop) (hX12_68 : ∀  (M : gSt), X12_68  M → gG p l e (rmR 4 93) s m args below meth c Q D clC A (wC ad cI cS) 2 68 [] [] M) (n : Nat) (v1 : Int) (M : gSt), wL_X0_passYear_12 o k  X12_68 n v1 M → gG p l e (rmR 4 93) s m args below meth c Q D clC A (wC ad cI cS) 2 12 [(0, .ref (ad o)), (1, iv v1)] [] M := by
    intro  X12_68 hX12_68 n
    induction n with
    | zero => intro v1 M h; exact h.elim
    | succ n ih =>
      intro v1 M h
      exact pC12  (wL_X0_passYear_12 o k  X12_68 n) X12_68 ih hX12_68 v1 M h
  refine g_locals (lv' := [(0, .ref (ad o))]) rfl ?_
  refine g_aload_n C dX0_passYear_0 rfl ?_
  refine g_dup C dX0_passYear_1 rfl ?_
  refine cf_X0_25 C h_o dX0_passYear_2 ?_
  refine g_iconst C dX0_passYear_5 ?_
  refine g_iadd C dX0_passYear_6 ?_
  refine cp_X0_25 C h_o dX0_passYear_7 ?_
  refine g_memname (fun M7 hM7 => ?_)
  replace h := h M7 hM7
  refine g_iconst C dX0_passYear_10 ?_
  refine g_istore_n C dX0_passYear_11 (by decide) rfl ?_
  refine g_locals (lv' := [(0, .ref (ad o)), (1, iv 0)]) rfl ?_
  refine g_locals (lv' := [(0, .ref (ad o)), (1, iv 0)]) rfl ?_
  obtain ⟨n, h⟩ := h
  refine pL12 _ ?_ n _ _ h
  · intro  M12 hN
    replace h := hN
    clear hN
    exact hR _ _ _ dX0_passYear_68 h
def wC_X0_passYears_2 (o : Nat) (a1 : Int) (k : gSt → Prop) (r2 : Int → gSt → Prop) (X2_17 : gSt → Prop) (v2 : Int) (M : gSt) : Prop :=

  (wrap a1 ≤ wrap v2 →
    X2_17  M) ∧
  (wrap v2 < wrap a1 →
    w_X0_passYear o M (fun M8 => r2 (v2 + 1) M8))
def wL_X0_passYears_2 (o : Nat) (a1 : Int) (k : gSt → Prop)  (X2_17 : gSt → Prop) : Nat → Int → gSt → Prop
  | 0 => fun _ _ => False
  | n + 1 => fun v2 M => wC_X0_passYears_2 o a1 k  (wL_X0_passYears_2 o a1 k  X2_17 n) X2_17 v2 M
def w_X0_passYears (o : Nat) (a1 : Int) (M : gSt) (k : gSt → Prop) : Prop :=
  (isBronze o) ∧ (∃ n, wL_X0_passYears_2 o a1 k  (fun  M2 =>
    k M2) n 0 M)
set_option maxHeartbeats 4000000 in
set_option maxRecDepth 100000 in
theorem m_X0_passYears {l : Launch} {D : va_G} {tys : List (ClassId × FieldType)} {ad : Nat → Nat} {cI cS : ClassId} {o : Nat} {a1 : Int} {M : gSt} {k : gSt → Prop} (h : w_X0_passYears o a1 M k) : MOv l yX0_passYears cX0_passYears 3 (rmR 5 114) D clC ((cI, .int) :: (cS, .object "OldBronze$Sheet") :: tys) (wC ad cI cS) tC zC [.ref (ad o), iv a1] M k := by
  refine mov_intro (by decide +kernel) (Nat.le_of_ble_eq_true rfl) wc_75 ?_
  intro p e s m args below meth c A Q C hR
  unfold w_X0_passYears at h
  obtain ⟨h_o, h⟩ := h
  have pC2 : ∀ (r2 : Int → gSt → Prop) (X2_17 : gSt → Prop) (hr2 : ∀ (v2 : Int) (M : gSt), r2 v2 M → gG p l e (rmR 5 114) s m args below meth c Q D clC A (wC ad cI cS) 3 2 [(0, .ref (ad o)), (1, iv a1), (2, iv v2)] [] M) (hX2_17 : ∀  (M : gSt), X2_17  M → gG p l e (rmR 5 114) s m args below meth c Q D clC A (wC ad cI cS) 3 17 [] [] M) (v2 : Int) (M : gSt), wC_X0_passYears_2 o a1 k r2 X2_17 v2 M → gG p l e (rmR 5 114) s m args below meth c Q D clC A (wC ad cI cS) 3 2 [(0, .ref (ad o)), (1, iv a1), (2, iv v2)] [] M := by
    intro r2 X2_17 hr2 hX2_17 v2 M h
    unfold wC_X0_passYears_2 at h
    refine g_iload_n C dX0_passYears_2 rfl ?_
    refine g_iload_n C dX0_passYears_3 rfl ?_
    refine g_icmp_ge C 17 dX0_passYears_4 (by decide) (fun hc => ?_) (fun hc => ?_)
    · replace h := h.1 hc
      refine g_locals (lv' := []) rfl ?_
      exact hX2_17  _ h
    · replace h := h.2 hc
      refine g_aload_n C dX0_passYears_7 rfl ?_
      refine g_callVv C (nargs := 0) (o := o) (st := []) (m_X0_passYear h) (show isBronze o from h.1).1 (show isBronze o from h.1).2.1 rfl rfl gc_X0_79 (by decide +kernel) ⟨rfl, rfl⟩ dX0_passYears_8 ⟨by decide, by decide⟩ rfl rfl (Nat.le_of_ble_eq_true rfl) ?_
      intro M8 hN
      replace h := hN
      clear hN
      refine g_iinc C dX0_passYears_11 rfl (by decide) rfl ?_
      refine g_locals (lv' := [(0, .ref (ad o)), (1, iv a1), (2, iv (v2 + 1))]) rfl ?_
      refine g_goto C 2 dX0_passYears_14 (by decide) ?_
      refine g_locals (lv' := [(0, .ref (ad o)), (1, iv a1), (2, iv (v2 + 1))]) rfl ?_
      exact hr2 _  _ h
  have pL2 : ∀  (X2_17 : gSt → Prop) (hX2_17 : ∀  (M : gSt), X2_17  M → gG p l e (rmR 5 114) s m args below meth c Q D clC A (wC ad cI cS) 3 17 [] [] M) (n : Nat) (v2 : Int) (M : gSt), wL_X0_passYears_2 o a1 k  X2_17 n v2 M → gG p l e (rmR 5 114) s m args below meth c Q D clC A (wC ad cI cS) 3 2 [(0, .ref (ad o)), (1, iv a1), (2, iv v2)] [] M := by
    intro  X2_17 hX2_17 n
    induction n with
    | zero => intro v2 M h; exact h.elim
    | succ n ih =>
      intro v2 M h
      exact pC2  (wL_X0_passYears_2 o a1 k  X2_17 n) X2_17 ih hX2_17 v2 M h
  refine g_locals (lv' := [(0, .ref (ad o)), (1, iv a1)]) rfl ?_
  refine g_iconst C dX0_passYears_0 ?_
  refine g_istore_n C dX0_passYears_1 (by decide) rfl ?_
  refine g_locals (lv' := [(0, .ref (ad o)), (1, iv a1), (2, iv 0)]) rfl ?_
  refine g_locals (lv' := [(0, .ref (ad o)), (1, iv a1), (2, iv 0)]) rfl ?_
  obtain ⟨n, h⟩ := h
  refine pL2 _ ?_ n _ _ h
  · intro  M2 hN
    replace h := hN
    clear hN
    exact hR _ _ _ dX0_passYears_17 h
def w_J6_bitCount_0f7a4 (a1 : Int) (M : gSt) (k : Int → gSt → Prop) : Prop :=
  ∀ x0_9 : Int, x0_9 = a1 - (xand (xushr a1 1) 1431655765) → (∀ x0_23 : Int, x0_23 = (xand x0_9 858993459) + (xand (xushr x0_9 2) 858993459) → (∀ x0_33 : Int, x0_33 = xand (x0_23 + (xushr x0_23 4)) 252645135 → (∀ x0_40 : Int, x0_40 = x0_33 + (xushr x0_33 8) → (∀ x0_47 : Int, x0_47 = x0_40 + (xushr x0_40 16) → (k (xand x0_47 63) M)))))
set_option maxHeartbeats 4000000 in
set_option maxRecDepth 100000 in
theorem m_J6_bitCount_0f7a4 {l : Launch} {D : va_G} {tys : List (ClassId × FieldType)} {ad : Nat → Nat} {cI cS : ClassId} {a1 : Int} {M : gSt} {k : Int → gSt → Prop} (h : w_J6_bitCount_0f7a4 a1 M k) : MOi l yJ6_bitCount_0f7a4 cJ6_bitCount_0f7a4 1 .int (rmR 0 0) D clC ((cI, .int) :: (cS, .object "OldBronze$Sheet") :: tys) (wC ad cI cS) tC zC [iv a1] M k := by
  refine moi_intro (by decide +kernel) (Nat.le_of_ble_eq_true rfl) wc_76 ?_
  intro p e s m args below meth c A Q C hR
  unfold w_J6_bitCount_0f7a4 at h
  refine g_locals (lv' := [(0, iv a1)]) rfl ?_
  refine g_iload_n C dJ6_bitCount_0f7a4_0 rfl ?_
  refine g_iload_n C dJ6_bitCount_0f7a4_1 rfl ?_
  refine g_iconst C dJ6_bitCount_0f7a4_2 ?_
  refine g_iushr C dJ6_bitCount_0f7a4_3 ?_
  refine g_ldcw C 1431655765 wc_77 rfl dJ6_bitCount_0f7a4_4 ?_
  refine g_iand C dJ6_bitCount_0f7a4_7 ?_
  refine g_isub C dJ6_bitCount_0f7a4_8 ?_
  refine g_name (fun x0_9 hx0_9 => ?_)
  replace h := h x0_9 hx0_9
  refine g_istore_n C dJ6_bitCount_0f7a4_9 (by decide) rfl ?_
  refine g_locals (lv' := [(0, iv x0_9)]) rfl ?_
  refine g_iload_n C dJ6_bitCount_0f7a4_10 rfl ?_
  refine g_ldcw C 858993459 wc_78 rfl dJ6_bitCount_0f7a4_11 ?_
  refine g_iand C dJ6_bitCount_0f7a4_14 ?_
  refine g_iload_n C dJ6_bitCount_0f7a4_15 rfl ?_
  refine g_iconst C dJ6_bitCount_0f7a4_16 ?_
  refine g_iushr C dJ6_bitCount_0f7a4_17 ?_
  refine g_ldcw C 858993459 wc_78 rfl dJ6_bitCount_0f7a4_18 ?_
  refine g_iand C dJ6_bitCount_0f7a4_21 ?_
  refine g_iadd C dJ6_bitCount_0f7a4_22 ?_
  refine g_name (fun x0_23 hx0_23 => ?_)
  replace h := h x0_23 hx0_23
  refine g_istore_n C dJ6_bitCount_0f7a4_23 (by decide) rfl ?_
  refine g_locals (lv' := [(0, iv x0_23)]) rfl ?_
  refine g_iload_n C dJ6_bitCount_0f7a4_24 rfl ?_
  refine g_iload_n C dJ6_bitCount_0f7a4_25 rfl ?_
  refine g_iconst C dJ6_bitCount_0f7a4_26 ?_
  refine g_iushr C dJ6_bitCount_0f7a4_27 ?_
  refine g_iadd C dJ6_bitCount_0f7a4_28 ?_
  refine g_ldcw C 252645135 wc_79 rfl dJ6_bitCount_0f7a4_29 ?_
  refine g_iand C dJ6_bitCount_0f7a4_32 ?_
  refine g_name (fun x0_33 hx0_33 => ?_)
  replace h := h x0_33 hx0_33
  refine g_istore_n C dJ6_bitCount_0f7a4_33 (by decide) rfl ?_
  refine g_locals (lv' := [(0, iv x0_33)]) rfl ?_
  refine g_iload_n C dJ6_bitCount_0f7a4_34 rfl ?_
  refine g_iload_n C dJ6_bitCount_0f7a4_35 rfl ?_
  refine g_bipush C dJ6_bitCount_0f7a4_36 rfl ?_
  refine g_iushr C dJ6_bitCount_0f7a4_38 ?_
  refine g_iadd C dJ6_bitCount_0f7a4_39 ?_
  refine g_name (fun x0_40 hx0_40 => ?_)
  replace h := h x0_40 hx0_40
  refine g_istore_n C dJ6_bitCount_0f7a4_40 (by decide) rfl ?_
  refine g_locals (lv' := [(0, iv x0_40)]) rfl ?_
  refine g_iload_n C dJ6_bitCount_0f7a4_41 rfl ?_
  refine g_iload_n C dJ6_bitCount_0f7a4_42 rfl ?_
  refine g_bipush C dJ6_bitCount_0f7a4_43 rfl ?_
  refine g_iushr C dJ6_bitCount_0f7a4_45 ?_
  refine g_iadd C dJ6_bitCount_0f7a4_46 ?_
  refine g_name (fun x0_47 hx0_47 => ?_)
  replace h := h x0_47 hx0_47
  refine g_istore_n C dJ6_bitCount_0f7a4_47 (by decide) rfl ?_
  refine g_locals (lv' := [(0, iv x0_47)]) rfl ?_
  refine g_iload_n C dJ6_bitCount_0f7a4_48 rfl ?_
  refine g_bipush C dJ6_bitCount_0f7a4_49 rfl ?_
  refine g_iand C dJ6_bitCount_0f7a4_51 ?_
  exact hR _ _ _ _ dJ6_bitCount_0f7a4_52 rfl h
def wB_X0_together_66 (o : Nat) (a1 : Int) (a2 : Int) (k : Int → gSt → Prop) (r8 : Int → Int → Int → gSt → Prop) (X8_41 : gSt → Prop) (X8_72 : Int → Int → gSt → Prop) (v3 : Int) (v5 : Int) (v7 : Int) (M : gSt) : Prop :=
r8 v3 v5 (v7 + 1) M
def wC_X0_together_8 (o : Nat) (a1 : Int) (a2 : Int) (k : Int → gSt → Prop) (r8 : Int → Int → Int → gSt → Prop) (X8_41 : gSt → Prop) (X8_72 : Int → Int → gSt → Prop) (v3 : Int) (v5 : Int) (v7 : Int) (M : gSt) : Prop :=

  (wrap (M o 1) ≤ wrap v7 →
    X8_72 v3 v5 M) ∧
  (wrap v7 < wrap (M o 1) →
    w_X0_number o v7 2 M (fun r21c M21 => 
    (¬ wrap (xand (xshr a1 v7) 1) = 1 →
      wB_X0_together_66 o a1 a2 k r8 X8_41 X8_72 v3 v5 v7 M21) ∧
    (wrap (xand (xshr a1 v7) 1) = 1 →

      (¬ wrap r21c = 0 →
        w_X0_number o v7 a2 M21 (fun r51c M51 => ∀ x3_57 : Int, x3_57 = v3 + ((wrap r21c) * (wrap r51c)) → (∀ x5_64 : Int, x5_64 = v5 + (wrap r21c) → (wB_X0_together_66 o a1 a2 k r8 X8_41 X8_72 x3_57 x5_64 v7 M51)))) ∧
      (wrap r21c = 0 →
        X8_41  M21))))
def wL_X0_together_8 (o : Nat) (a1 : Int) (a2 : Int) (k : Int → gSt → Prop)  (X8_41 : gSt → Prop) (X8_72 : Int → Int → gSt → Prop) : Nat → Int → Int → Int → gSt → Prop
  | 0 => fun _ _ _ _ => False
  | n + 1 => fun v3 v5 v7 M => wC_X0_together_8 o a1 a2 k  (wL_X0_together_8 o a1 a2 k  X8_41 X8_72 n) X8_41 X8_72 v3 v5 v7 M
def w_X0_together (o : Nat) (a1 : Int) (a2 : Int) (M : gSt) (k : Int → gSt → Prop) : Prop :=
  (isBronze o) ∧ (∃ n, wL_X0_together_8 o a1 a2 k  (fun  M8 =>
    k (-1) M8) (fun u3_8 u5_8 M8 =>

    (¬ wrap (ycmp u5_8 0) = 0 →
      w_X8_quotient u3_8 u5_8 M8 (fun r86c M86 => k r86c M86)) ∧
    (wrap (ycmp u5_8 0) = 0 →
      k (-1) M8)) n 0 0 0 M)
set_option maxHeartbeats 4000000 in
set_option maxRecDepth 100000 in
theorem m_X0_together {l : Launch} {D : va_G} {tys : List (ClassId × FieldType)} {ad : Nat → Nat} {cI cS : ClassId} {o : Nat} {a1 : Int} {a2 : Int} {M : gSt} {k : Int → gSt → Prop} (h : w_X0_together o a1 a2 M k) : MOi l yX0_together cX0_together 9 .int (rmR 2 45) D clC ((cI, .int) :: (cS, .object "OldBronze$Sheet") :: tys) (wC ad cI cS) tC zC [.ref (ad o), iv a1, iv a2] M k := by
  refine moi_intro (by decide +kernel) (Nat.le_of_ble_eq_true rfl) wc_80 ?_
  intro p e s m args below meth c A Q C hR
  unfold w_X0_together at h
  obtain ⟨h_o, h⟩ := h
  have pB66 : ∀ (r8 : Int → Int → Int → gSt → Prop) (X8_41 : gSt → Prop) (X8_72 : Int → Int → gSt → Prop) (hr8 : ∀ (v3 : Int) (v5 : Int) (v7 : Int) (M : gSt), r8 v3 v5 v7 M → gG p l e (rmR 2 45) s m args below meth c Q D clC A (wC ad cI cS) 9 8 [(0, .ref (ad o)), (1, iv a1), (2, iv a2), (3, jv v3), (5, jv v5), (7, iv v7)] [] M) (hX8_41 : ∀  (M : gSt), X8_41  M → gG p l e (rmR 2 45) s m args below meth c Q D clC A (wC ad cI cS) 9 41 [] [] M) (hX8_72 : ∀ (v3 : Int) (v5 : Int) (M : gSt), X8_72 v3 v5 M → gG p l e (rmR 2 45) s m args below meth c Q D clC A (wC ad cI cS) 9 72 [(3, jv v3), (5, jv v5)] [] M) (v3 : Int) (v5 : Int) (v7 : Int) (M : gSt), wB_X0_together_66 o a1 a2 k r8 X8_41 X8_72 v3 v5 v7 M → gG p l e (rmR 2 45) s m args below meth c Q D clC A (wC ad cI cS) 9 66 [(0, .ref (ad o)), (1, iv a1), (2, iv a2), (3, jv v3), (5, jv v5), (7, iv v7)] [] M := by
    intro r8 X8_41 X8_72 hr8 hX8_41 hX8_72 v3 v5 v7 M h
    unfold wB_X0_together_66 at h
    refine g_iinc C dX0_together_66 rfl (by decide) rfl ?_
    refine g_locals (lv' := [(0, .ref (ad o)), (1, iv a1), (2, iv a2), (3, jv v3), (5, jv v5), (7, iv (v7 + 1))]) rfl ?_
    refine g_goto C 8 dX0_together_69 (by decide) ?_
    refine g_locals (lv' := [(0, .ref (ad o)), (1, iv a1), (2, iv a2), (3, jv v3), (5, jv v5), (7, iv (v7 + 1))]) rfl ?_
    exact hr8 _ _ _  _ h
  have pC8 : ∀ (r8 : Int → Int → Int → gSt → Prop) (X8_41 : gSt → Prop) (X8_72 : Int → Int → gSt → Prop) (hr8 : ∀ (v3 : Int) (v5 : Int) (v7 : Int) (M : gSt), r8 v3 v5 v7 M → gG p l e (rmR 2 45) s m args below meth c Q D clC A (wC ad cI cS) 9 8 [(0, .ref (ad o)), (1, iv a1), (2, iv a2), (3, jv v3), (5, jv v5), (7, iv v7)] [] M) (hX8_41 : ∀  (M : gSt), X8_41  M → gG p l e (rmR 2 45) s m args below meth c Q D clC A (wC ad cI cS) 9 41 [] [] M) (hX8_72 : ∀ (v3 : Int) (v5 : Int) (M : gSt), X8_72 v3 v5 M → gG p l e (rmR 2 45) s m args below meth c Q D clC A (wC ad cI cS) 9 72 [(3, jv v3), (5, jv v5)] [] M) (v3 : Int) (v5 : Int) (v7 : Int) (M : gSt), wC_X0_together_8 o a1 a2 k r8 X8_41 X8_72 v3 v5 v7 M → gG p l e (rmR 2 45) s m args below meth c Q D clC A (wC ad cI cS) 9 8 [(0, .ref (ad o)), (1, iv a1), (2, iv a2), (3, jv v3), (5, jv v5), (7, iv v7)] [] M := by
    intro r8 X8_41 X8_72 hr8 hX8_41 hX8_72 v3 v5 v7 M h
    unfold wC_X0_together_8 at h
    refine g_iload C dX0_together_8 rfl ?_
    refine g_aload_n C dX0_together_10 rfl ?_
    refine cf_X0_19 C h_o dX0_together_11 ?_
    refine g_icmp_ge C 72 dX0_together_14 (by decide) (fun hc => ?_) (fun hc => ?_)
    · replace h := h.1 hc
      refine g_locals (lv' := [(3, jv v3), (5, jv v5)]) rfl ?_
      exact hX8_72 _ _  _ h
    · replace h := h.2 hc
      refine g_aload_n C dX0_together_17 rfl ?_
      refine g_iload C dX0_together_18 rfl ?_
      refine g_iconst C dX0_together_20 ?_
      refine g_callVi C (nargs := 2) (o := o) (st := []) (m_X0_number h) (show isBronze o from h.1).1 (show isBronze o from h.1).2.1 rfl rfl gc_X0_36 (by decide +kernel) ⟨rfl, rfl⟩ dX0_together_21 ⟨by decide, by decide⟩ rfl rfl (Nat.le_of_ble_eq_true rfl) ?_
      intro r21c M21 hN
      replace h := hN
      clear hN
      refine g_istore C dX0_together_24 (by decide) rfl ?_
      refine g_locals (lv' := [(0, .ref (ad o)), (1, iv a1), (2, iv a2), (3, jv v3), (5, jv v5), (7, iv v7), (8, iv r21c)]) rfl ?_
      refine g_iload_n C dX0_together_26 rfl ?_
      refine g_iload C dX0_together_27 rfl ?_
      refine g_ishr C dX0_together_29 ?_
      refine g_iconst C dX0_together_30 ?_
      refine g_iand C dX0_together_31 ?_
      refine g_iconst C dX0_together_32 ?_
      refine g_icmp_ne C 66 dX0_together_33 (by decide) (fun hc => ?_) (fun hc => ?_)
      · replace h := h.1 hc
        refine g_locals (lv' := [(0, .ref (ad o)), (1, iv a1), (2, iv a2), (3, jv v3), (5, jv v5), (7, iv v7)]) rfl ?_
        exact pB66 r8 X8_41 X8_72 hr8 hX8_41 hX8_72 _ _ _ _ h
      · replace h := h.2 hc
        refine g_iload C dX0_together_36 rfl ?_
        refine g_if_ne C 43 dX0_together_38 (by decide) (fun hc => ?_) (fun hc => ?_)
        · replace h := h.1 hc
          refine g_lload_n C dX0_together_43 rfl ?_
          refine g_iload C dX0_together_44 rfl ?_
          refine g_i2l C dX0_together_46 ?_
          refine g_aload_n C dX0_together_47 rfl ?_
          refine g_iload C dX0_together_48 rfl ?_
          refine g_iload_n C dX0_together_50 rfl ?_
          refine g_callVi C (nargs := 2) (o := o) (st := [jv (wrap r21c), jv v3]) (m_X0_number h) (show isBronze o from h.1).1 (show isBronze o from h.1).2.1 rfl rfl gc_X0_36 (by decide +kernel) ⟨rfl, rfl⟩ dX0_together_51 ⟨by decide, by decide⟩ rfl rfl (Nat.le_of_ble_eq_true rfl) ?_
          intro r51c M51 hN
          replace h := hN
          clear hN
          refine g_i2l C dX0_together_54 ?_
          refine g_lmul C dX0_together_55 ?_
          refine g_ladd C dX0_together_56 ?_
          refine g_nameL (fun x3_57 hx3_57 => ?_)
          replace h := h x3_57 hx3_57
          refine g_lstore_n C dX0_together_57 (by decide) rfl ?_
          refine g_locals (lv' := [(0, .ref (ad o)), (1, iv a1), (2, iv a2), (3, jv x3_57), (5, jv v5), (7, iv v7), (8, iv r21c)]) rfl ?_
          refine g_lload C dX0_together_58 rfl ?_
          refine g_iload C dX0_together_60 rfl ?_
          refine g_i2l C dX0_together_62 ?_
          refine g_ladd C dX0_together_63 ?_
          refine g_nameL (fun x5_64 hx5_64 => ?_)
          replace h := h x5_64 hx5_64
          refine g_lstore C dX0_together_64 (by decide) rfl ?_
          refine g_locals (lv' := [(0, .ref (ad o)), (1, iv a1), (2, iv a2), (3, jv x3_57), (5, jv x5_64), (7, iv v7), (8, iv r21c)]) rfl ?_
          refine g_locals (lv' := [(0, .ref (ad o)), (1, iv a1), (2, iv a2), (3, jv x3_57), (5, jv x5_64), (7, iv v7)]) rfl ?_
          exact pB66 r8 X8_41 X8_72 hr8 hX8_41 hX8_72 _ _ _ _ h
        · replace h := h.2 hc
          refine g_locals (lv' := []) rfl ?_
          exact hX8_41  _ h
  have pL8 : ∀  (X8_41 : gSt → Prop) (X8_72 : Int → Int → gSt → Prop) (hX8_41 : ∀  (M : gSt), X8_41  M → gG p l e (rmR 2 45) s m args below meth c Q D clC A (wC ad cI cS) 9 41 [] [] M) (hX8_72 : ∀ (v3 : Int) (v5 : Int) (M : gSt), X8_72 v3 v5 M → gG p l e (rmR 2 45) s m args below meth c Q D clC A (wC ad cI cS) 9 72 [(3, jv v3), (5, jv v5)] [] M) (n : Nat) (v3 : Int) (v5 : Int) (v7 : Int) (M : gSt), wL_X0_together_8 o a1 a2 k  X8_41 X8_72 n v3 v5 v7 M → gG p l e (rmR 2 45) s m args below meth c Q D clC A (wC ad cI cS) 9 8 [(0, .ref (ad o)), (1, iv a1), (2, iv a2), (3, jv v3), (5, jv v5), (7, iv v7)] [] M := by
    intro  X8_41 X8_72 hX8_41 hX8_72 n
    induction n with
    | zero => intro v3 v5 v7 M h; exact h.elim
    | succ n ih =>
      intro v3 v5 v7 M h
      exact pC8  (wL_X0_together_8 o a1 a2 k  X8_41 X8_72 n) X8_41 X8_72 ih hX8_41 hX8_72 v3 v5 v7 M h
  refine g_locals (lv' := [(0, .ref (ad o)), (1, iv a1), (2, iv a2)]) rfl ?_
  refine g_lconst C 0 rfl dX0_together_0 ?_
  refine g_lstore_n C dX0_together_1 (by decide) rfl ?_
  refine g_locals (lv' := [(0, .ref (ad o)), (1, iv a1), (2, iv a2), (3, jv 0)]) rfl ?_
  refine g_lconst C 0 rfl dX0_together_2 ?_
  refine g_lstore C dX0_together_3 (by decide) rfl ?_
  refine g_locals (lv' := [(0, .ref (ad o)), (1, iv a1), (2, iv a2), (3, jv 0), (5, jv 0)]) rfl ?_
  refine g_iconst C dX0_together_5 ?_
  refine g_istore C dX0_together_6 (by decide) rfl ?_
  refine g_locals (lv' := [(0, .ref (ad o)), (1, iv a1), (2, iv a2), (3, jv 0), (5, jv 0), (7, iv 0)]) rfl ?_
  refine g_locals (lv' := [(0, .ref (ad o)), (1, iv a1), (2, iv a2), (3, jv 0), (5, jv 0), (7, iv 0)]) rfl ?_
  obtain ⟨n, h⟩ := h
  refine pL8 _ _ ?_ ?_ n _ _ _ _ h
  · intro  M8 hN
    replace h := hN
    clear hN
    refine g_iconst C dX0_together_41 ?_
    exact hR _ _ _ _ dX0_together_42 rfl h
  · intro u3_8 u5_8 M8 hN
    replace h := hN
    clear hN
    refine g_lload C dX0_together_72 rfl ?_
    refine g_lconst C 0 rfl dX0_together_74 ?_
    refine g_lcmp C dX0_together_75 ?_
    refine g_if_ne C 83 dX0_together_76 (by decide) (fun hc => ?_) (fun hc => ?_)
    · replace h := h.1 hc
      refine g_lload_n C dX0_together_83 rfl ?_
      refine g_lload C dX0_together_84 rfl ?_
      refine g_callNSi C (nargs := 2) (st := []) (m_X8_quotient h) zn_1 (gc_code wc_52) wc_26 wc_54 (by decide +kernel) ⟨rfl, rfl⟩ dX0_together_86 ⟨by decide, by decide⟩ rfl rfl (Nat.le_of_ble_eq_true rfl) ?_
      intro r86c M86 hN
      replace h := hN
      clear hN
      exact hR _ _ _ _ dX0_together_89 rfl h
    · replace h := h.2 hc
      refine g_iconst C dX0_together_79 ?_
      refine g_goto C 89 dX0_together_80 (by decide) ?_
      exact hR _ _ _ _ dX0_together_89 rfl h
def wB_X0_mostOf_75 (o : Nat) (a1 : Int) (a2 : Int) (k : Int → gSt → Prop) (r8 : Int → Int → Int → gSt → Prop) (X8_81 : Int → gSt → Prop) (v3 : Int) (v4 : Int) (v5 : Int) (M : gSt) : Prop :=
r8 v3 v4 (v5 + 1) M
def wB_X0_mostOf_68 (o : Nat) (a1 : Int) (a2 : Int) (k : Int → gSt → Prop) (r8 : Int → Int → Int → gSt → Prop) (X8_81 : Int → gSt → Prop) (v5 : Int) (v7 : Int) (M : gSt) : Prop :=
wB_X0_mostOf_75 o a1 a2 k r8 X8_81 v5 v7 v5 M
def wB_X0_mostOf_43 (o : Nat) (a1 : Int) (a2 : Int) (k : Int → gSt → Prop) (r8 : Int → Int → Int → gSt → Prop) (X8_81 : Int → gSt → Prop) (v3 : Int) (v4 : Int) (v5 : Int) (v6 : Int) (s0 : Int) (M : gSt) : Prop :=

  (wrap v4 < wrap s0 →
    wB_X0_mostOf_68 o a1 a2 k r8 X8_81 v5 s0 M) ∧
  (wrap s0 ≤ wrap v4 →

    (¬ wrap s0 = wrap v4 →
      wB_X0_mostOf_75 o a1 a2 k r8 X8_81 v3 v4 v5 M) ∧
    (wrap s0 = wrap v4 →
      w_J6_bitCount_0f7a4 v3 M (fun r62c M62 => 
      (wrap r62c ≤ wrap v6 →
        wB_X0_mostOf_75 o a1 a2 k r8 X8_81 v3 v4 v5 M62) ∧
      (wrap v6 < wrap r62c →
        wB_X0_mostOf_68 o a1 a2 k r8 X8_81 v5 s0 M62))))
def wC_X0_mostOf_8 (o : Nat) (a1 : Int) (a2 : Int) (k : Int → gSt → Prop) (r8 : Int → Int → Int → gSt → Prop) (X8_81 : Int → gSt → Prop) (v3 : Int) (v4 : Int) (v5 : Int) (M : gSt) : Prop :=

  (wrap (xshl 1 (M o 1)) ≤ wrap v5 →
    X8_81 v3 M) ∧
  (wrap v5 < wrap (xshl 1 (M o 1)) →
    w_J6_bitCount_0f7a4 v5 M (fun r21c M21 => 
    (wrap a2 < wrap r21c →
      wB_X0_mostOf_43 o a1 a2 k r8 X8_81 v3 v4 v5 r21c (-1) M21) ∧
    (wrap r21c ≤ wrap a2 →
      w_X0_together o v5 a1 M21 (fun r36c M36 => wB_X0_mostOf_43 o a1 a2 k r8 X8_81 v3 v4 v5 r21c r36c M36))))
def wL_X0_mostOf_8 (o : Nat) (a1 : Int) (a2 : Int) (k : Int → gSt → Prop)  (X8_81 : Int → gSt → Prop) : Nat → Int → Int → Int → gSt → Prop
  | 0 => fun _ _ _ _ => False
  | n + 1 => fun v3 v4 v5 M => wC_X0_mostOf_8 o a1 a2 k  (wL_X0_mostOf_8 o a1 a2 k  X8_81 n) X8_81 v3 v4 v5 M
def w_X0_mostOf (o : Nat) (a1 : Int) (a2 : Int) (M : gSt) (k : Int → gSt → Prop) : Prop :=
  (isBronze o) ∧ (∃ n, wL_X0_mostOf_8 o a1 a2 k  (fun u3_8 M8 =>
    k u3_8 M8) n 0 0 1 M)
set_option maxHeartbeats 4000000 in
set_option maxRecDepth 100000 in
theorem m_X0_mostOf {l : Launch} {D : va_G} {tys : List (ClassId × FieldType)} {ad : Nat → Nat} {cI cS : ClassId} {o : Nat} {a1 : Int} {a2 : Int} {M : gSt} {k : Int → gSt → Prop} (h : w_X0_mostOf o a1 a2 M k) : MOi l yX0_mostOf cX0_mostOf 8 .int (rmR 3 73) D clC ((cI, .int) :: (cS, .object "OldBronze$Sheet") :: tys) (wC ad cI cS) tC zC [.ref (ad o), iv a1, iv a2] M k := by
  refine moi_intro (by decide +kernel) (Nat.le_of_ble_eq_true rfl) wc_81 ?_
  intro p e s m args below meth c A Q C hR
  unfold w_X0_mostOf at h
  obtain ⟨h_o, h⟩ := h
  have pB75 : ∀ (r8 : Int → Int → Int → gSt → Prop) (X8_81 : Int → gSt → Prop) (hr8 : ∀ (v3 : Int) (v4 : Int) (v5 : Int) (M : gSt), r8 v3 v4 v5 M → gG p l e (rmR 3 73) s m args below meth c Q D clC A (wC ad cI cS) 8 8 [(0, .ref (ad o)), (1, iv a1), (2, iv a2), (3, iv v3), (4, iv v4), (5, iv v5)] [] M) (hX8_81 : ∀ (v3 : Int) (M : gSt), X8_81 v3 M → gG p l e (rmR 3 73) s m args below meth c Q D clC A (wC ad cI cS) 8 81 [(3, iv v3)] [] M) (v3 : Int) (v4 : Int) (v5 : Int) (M : gSt), wB_X0_mostOf_75 o a1 a2 k r8 X8_81 v3 v4 v5 M → gG p l e (rmR 3 73) s m args below meth c Q D clC A (wC ad cI cS) 8 75 [(0, .ref (ad o)), (1, iv a1), (2, iv a2), (3, iv v3), (4, iv v4), (5, iv v5)] [] M := by
    intro r8 X8_81 hr8 hX8_81 v3 v4 v5 M h
    unfold wB_X0_mostOf_75 at h
    refine g_iinc C dX0_mostOf_75 rfl (by decide) rfl ?_
    refine g_locals (lv' := [(0, .ref (ad o)), (1, iv a1), (2, iv a2), (3, iv v3), (4, iv v4), (5, iv (v5 + 1))]) rfl ?_
    refine g_goto C 8 dX0_mostOf_78 (by decide) ?_
    refine g_locals (lv' := [(0, .ref (ad o)), (1, iv a1), (2, iv a2), (3, iv v3), (4, iv v4), (5, iv (v5 + 1))]) rfl ?_
    exact hr8 _ _ _  _ h
  have pB68 : ∀ (r8 : Int → Int → Int → gSt → Prop) (X8_81 : Int → gSt → Prop) (hr8 : ∀ (v3 : Int) (v4 : Int) (v5 : Int) (M : gSt), r8 v3 v4 v5 M → gG p l e (rmR 3 73) s m args below meth c Q D clC A (wC ad cI cS) 8 8 [(0, .ref (ad o)), (1, iv a1), (2, iv a2), (3, iv v3), (4, iv v4), (5, iv v5)] [] M) (hX8_81 : ∀ (v3 : Int) (M : gSt), X8_81 v3 M → gG p l e (rmR 3 73) s m args below meth c Q D clC A (wC ad cI cS) 8 81 [(3, iv v3)] [] M) (v5 : Int) (v7 : Int) (M : gSt), wB_X0_mostOf_68 o a1 a2 k r8 X8_81 v5 v7 M → gG p l e (rmR 3 73) s m args below meth c Q D clC A (wC ad cI cS) 8 68 [(0, .ref (ad o)), (1, iv a1), (2, iv a2), (5, iv v5), (7, iv v7)] [] M := by
    intro r8 X8_81 hr8 hX8_81 v5 v7 M h
    unfold wB_X0_mostOf_68 at h
    refine g_iload C dX0_mostOf_68 rfl ?_
    refine g_istore_n C dX0_mostOf_70 (by decide) rfl ?_
    refine g_locals (lv' := [(0, .ref (ad o)), (1, iv a1), (2, iv a2), (3, iv v5), (5, iv v5), (7, iv v7)]) rfl ?_
    refine g_iload C dX0_mostOf_71 rfl ?_
    refine g_istore C dX0_mostOf_73 (by decide) rfl ?_
    refine g_locals (lv' := [(0, .ref (ad o)), (1, iv a1), (2, iv a2), (3, iv v5), (4, iv v7), (5, iv v5), (7, iv v7)]) rfl ?_
    refine g_locals (lv' := [(0, .ref (ad o)), (1, iv a1), (2, iv a2), (3, iv v5), (4, iv v7), (5, iv v5)]) rfl ?_
    exact pB75 r8 X8_81 hr8 hX8_81 _ _ _ _ h
  have pB43 : ∀ (r8 : Int → Int → Int → gSt → Prop) (X8_81 : Int → gSt → Prop) (hr8 : ∀ (v3 : Int) (v4 : Int) (v5 : Int) (M : gSt), r8 v3 v4 v5 M → gG p l e (rmR 3 73) s m args below meth c Q D clC A (wC ad cI cS) 8 8 [(0, .ref (ad o)), (1, iv a1), (2, iv a2), (3, iv v3), (4, iv v4), (5, iv v5)] [] M) (hX8_81 : ∀ (v3 : Int) (M : gSt), X8_81 v3 M → gG p l e (rmR 3 73) s m args below meth c Q D clC A (wC ad cI cS) 8 81 [(3, iv v3)] [] M) (v3 : Int) (v4 : Int) (v5 : Int) (v6 : Int) (s0 : Int) (M : gSt), wB_X0_mostOf_43 o a1 a2 k r8 X8_81 v3 v4 v5 v6 s0 M → gG p l e (rmR 3 73) s m args below meth c Q D clC A (wC ad cI cS) 8 43 [(0, .ref (ad o)), (1, iv a1), (2, iv a2), (3, iv v3), (4, iv v4), (5, iv v5), (6, iv v6)] [iv s0] M := by
    intro r8 X8_81 hr8 hX8_81 v3 v4 v5 v6 s0 M h
    unfold wB_X0_mostOf_43 at h
    refine g_istore C dX0_mostOf_43 (by decide) rfl ?_
    refine g_locals (lv' := [(0, .ref (ad o)), (1, iv a1), (2, iv a2), (3, iv v3), (4, iv v4), (5, iv v5), (6, iv v6), (7, iv s0)]) rfl ?_
    refine g_iload C dX0_mostOf_45 rfl ?_
    refine g_iload C dX0_mostOf_47 rfl ?_
    refine g_icmp_gt C 68 dX0_mostOf_49 (by decide) (fun hc => ?_) (fun hc => ?_)
    · replace h := h.1 hc
      refine g_locals (lv' := [(0, .ref (ad o)), (1, iv a1), (2, iv a2), (5, iv v5), (7, iv s0)]) rfl ?_
      exact pB68 r8 X8_81 hr8 hX8_81 _ _ _ h
    · replace h := h.2 hc
      refine g_iload C dX0_mostOf_52 rfl ?_
      refine g_iload C dX0_mostOf_54 rfl ?_
      refine g_icmp_ne C 75 dX0_mostOf_56 (by decide) (fun hc => ?_) (fun hc => ?_)
      · replace h := h.1 hc
        refine g_locals (lv' := [(0, .ref (ad o)), (1, iv a1), (2, iv a2), (3, iv v3), (4, iv v4), (5, iv v5)]) rfl ?_
        exact pB75 r8 X8_81 hr8 hX8_81 _ _ _ _ h
      · replace h := h.2 hc
        refine g_iload C dX0_mostOf_59 rfl ?_
        refine g_iload_n C dX0_mostOf_61 rfl ?_
        refine g_callSi C (nargs := 1) (st := [iv v6]) (m_J6_bitCount_0f7a4 h) gc_X0_83 (by decide +kernel) ⟨rfl, rfl⟩ dX0_mostOf_62 ⟨by decide, by decide⟩ rfl rfl (Nat.le_of_ble_eq_true rfl) ?_
        intro r62c M62 hN
        replace h := hN
        clear hN
        refine g_icmp_ge C 75 dX0_mostOf_65 (by decide) (fun hc => ?_) (fun hc => ?_)
        · replace h := h.1 hc
          refine g_locals (lv' := [(0, .ref (ad o)), (1, iv a1), (2, iv a2), (3, iv v3), (4, iv v4), (5, iv v5)]) rfl ?_
          exact pB75 r8 X8_81 hr8 hX8_81 _ _ _ _ h
        · replace h := h.2 hc
          refine g_locals (lv' := [(0, .ref (ad o)), (1, iv a1), (2, iv a2), (5, iv v5), (7, iv s0)]) rfl ?_
          exact pB68 r8 X8_81 hr8 hX8_81 _ _ _ h
  have pC8 : ∀ (r8 : Int → Int → Int → gSt → Prop) (X8_81 : Int → gSt → Prop) (hr8 : ∀ (v3 : Int) (v4 : Int) (v5 : Int) (M : gSt), r8 v3 v4 v5 M → gG p l e (rmR 3 73) s m args below meth c Q D clC A (wC ad cI cS) 8 8 [(0, .ref (ad o)), (1, iv a1), (2, iv a2), (3, iv v3), (4, iv v4), (5, iv v5)] [] M) (hX8_81 : ∀ (v3 : Int) (M : gSt), X8_81 v3 M → gG p l e (rmR 3 73) s m args below meth c Q D clC A (wC ad cI cS) 8 81 [(3, iv v3)] [] M) (v3 : Int) (v4 : Int) (v5 : Int) (M : gSt), wC_X0_mostOf_8 o a1 a2 k r8 X8_81 v3 v4 v5 M → gG p l e (rmR 3 73) s m args below meth c Q D clC A (wC ad cI cS) 8 8 [(0, .ref (ad o)), (1, iv a1), (2, iv a2), (3, iv v3), (4, iv v4), (5, iv v5)] [] M := by
    intro r8 X8_81 hr8 hX8_81 v3 v4 v5 M h
    unfold wC_X0_mostOf_8 at h
    refine g_iload C dX0_mostOf_8 rfl ?_
    refine g_iconst C dX0_mostOf_10 ?_
    refine g_aload_n C dX0_mostOf_11 rfl ?_
    refine cf_X0_19 C h_o dX0_mostOf_12 ?_
    refine g_ishl C dX0_mostOf_15 ?_
    refine g_icmp_ge C 81 dX0_mostOf_16 (by decide) (fun hc => ?_) (fun hc => ?_)
    · replace h := h.1 hc
      refine g_locals (lv' := [(3, iv v3)]) rfl ?_
      exact hX8_81 _  _ h
    · replace h := h.2 hc
      refine g_iload C dX0_mostOf_19 rfl ?_
      refine g_callSi C (nargs := 1) (st := []) (m_J6_bitCount_0f7a4 h) gc_X0_83 (by decide +kernel) ⟨rfl, rfl⟩ dX0_mostOf_21 ⟨by decide, by decide⟩ rfl rfl (Nat.le_of_ble_eq_true rfl) ?_
      intro r21c M21 hN
      replace h := hN
      clear hN
      refine g_istore C dX0_mostOf_24 (by decide) rfl ?_
      refine g_locals (lv' := [(0, .ref (ad o)), (1, iv a1), (2, iv a2), (3, iv v3), (4, iv v4), (5, iv v5), (6, iv r21c)]) rfl ?_
      refine g_iload C dX0_mostOf_26 rfl ?_
      refine g_iload_n C dX0_mostOf_28 rfl ?_
      refine g_icmp_gt C 42 dX0_mostOf_29 (by decide) (fun hc => ?_) (fun hc => ?_)
      · replace h := h.1 hc
        refine g_iconst C dX0_mostOf_42 ?_
        refine g_locals (lv' := [(0, .ref (ad o)), (1, iv a1), (2, iv a2), (3, iv v3), (4, iv v4), (5, iv v5), (6, iv r21c)]) rfl ?_
        exact pB43 r8 X8_81 hr8 hX8_81 _ _ _ _ _ _ h
      · replace h := h.2 hc
        refine g_aload_n C dX0_mostOf_32 rfl ?_
        refine g_iload C dX0_mostOf_33 rfl ?_
        refine g_iload_n C dX0_mostOf_35 rfl ?_
        refine g_callVi C (nargs := 2) (o := o) (st := []) (m_X0_together h) (show isBronze o from h.1).1 (show isBronze o from h.1).2.1 rfl rfl gc_X0_88 (by decide +kernel) ⟨rfl, rfl⟩ dX0_mostOf_36 ⟨by decide, by decide⟩ rfl rfl (Nat.le_of_ble_eq_true rfl) ?_
        intro r36c M36 hN
        replace h := hN
        clear hN
        refine g_goto C 43 dX0_mostOf_39 (by decide) ?_
        refine g_locals (lv' := [(0, .ref (ad o)), (1, iv a1), (2, iv a2), (3, iv v3), (4, iv v4), (5, iv v5), (6, iv r21c)]) rfl ?_
        exact pB43 r8 X8_81 hr8 hX8_81 _ _ _ _ _ _ h
  have pL8 : ∀  (X8_81 : Int → gSt → Prop) (hX8_81 : ∀ (v3 : Int) (M : gSt), X8_81 v3 M → gG p l e (rmR 3 73) s m args below meth c Q D clC A (wC ad cI cS) 8 81 [(3, iv v3)] [] M) (n : Nat) (v3 : Int) (v4 : Int) (v5 : Int) (M : gSt), wL_X0_mostOf_8 o a1 a2 k  X8_81 n v3 v4 v5 M → gG p l e (rmR 3 73) s m args below meth c Q D clC A (wC ad cI cS) 8 8 [(0, .ref (ad o)), (1, iv a1), (2, iv a2), (3, iv v3), (4, iv v4), (5, iv v5)] [] M := by
    intro  X8_81 hX8_81 n
    induction n with
    | zero => intro v3 v4 v5 M h; exact h.elim
    | succ n ih =>
      intro v3 v4 v5 M h
      exact pC8  (wL_X0_mostOf_8 o a1 a2 k  X8_81 n) X8_81 ih hX8_81 v3 v4 v5 M h
  refine g_locals (lv' := [(0, .ref (ad o)), (1, iv a1), (2, iv a2)]) rfl ?_
  refine g_iconst C dX0_mostOf_0 ?_
  refine g_istore_n C dX0_mostOf_1 (by decide) rfl ?_
  refine g_locals (lv' := [(0, .ref (ad o)), (1, iv a1), (2, iv a2), (3, iv 0)]) rfl ?_
  refine g_iconst C dX0_mostOf_2 ?_
  refine g_istore C dX0_mostOf_3 (by decide) rfl ?_
  refine g_locals (lv' := [(0, .ref (ad o)), (1, iv a1), (2, iv a2), (3, iv 0), (4, iv 0)]) rfl ?_
  refine g_iconst C dX0_mostOf_5 ?_
  refine g_istore C dX0_mostOf_6 (by decide) rfl ?_
  refine g_locals (lv' := [(0, .ref (ad o)), (1, iv a1), (2, iv a2), (3, iv 0), (4, iv 0), (5, iv 1)]) rfl ?_
  refine g_locals (lv' := [(0, .ref (ad o)), (1, iv a1), (2, iv a2), (3, iv 0), (4, iv 0), (5, iv 1)]) rfl ?_
  obtain ⟨n, h⟩ := h
  refine pL8 _ ?_ n _ _ _ _ h
  · intro u3_8 M8 hN
    replace h := hN
    clear hN
    refine g_iload_n C dX0_mostOf_81 rfl ?_
    exact hR _ _ _ _ dX0_mostOf_82 rfl h
def w_X4_copyFrom (o : Nat) (a1 : Nat) (M : gSt) (k : gSt → Prop) : Prop :=
  (isRows o) ∧ ((isRows a1) ∧ (
  (wrap (lenC (a1 + 1) : Int) = wrap (lenC (o + 1) : Int) →
    ((0 : Int) ≤ 0 ∧ (0 : Int) ≤ 0 ∧ (0 : Int) ≤ (lenC (o + 1) : Int) ∧ 0 + (lenC (o + 1) : Int) ≤ lenC (a1 + 1) ∧ 0 + (lenC (o + 1) : Int) ≤ lenC (o + 1)) ∧ (∀ M29 : gSt, M29 = cpy M (a1 + 1) 0 (o + 1) 0 (lenC (o + 1) : Int) → (∀ M37 : gSt, M37 = wr M29 o 3 (M29 a1 3) → (k M37)))) ∧
  (¬ wrap (lenC (a1 + 1) : Int) = wrap (lenC (o + 1) : Int) →
    k M)))
set_option maxHeartbeats 4000000 in
set_option maxRecDepth 100000 in
theorem m_X4_copyFrom {l : Launch} {D : va_G} {tys : List (ClassId × FieldType)} {ad : Nat → Nat} {cI cS : ClassId} {o : Nat} {a1 : Nat} {M : gSt} {k : gSt → Prop} (h : w_X4_copyFrom o a1 M k) : MOv l yX4_copyFrom cX4_copyFrom 2 (rmR 1 40) D clC ((cI, .int) :: (cS, .object "OldBronze$Sheet") :: tys) (wC ad cI cS) tC zC [.ref (ad o), .ref (ad a1)] M k := by
  refine mov_intro (by decide +kernel) (Nat.le_of_ble_eq_true rfl) wc_122 ?_
  intro p e s m args below meth c A Q C hR
  unfold w_X4_copyFrom at h
  obtain ⟨h_o, h_a1, h⟩ := h
  refine g_locals (lv' := [(0, .ref (ad o)), (1, .ref (ad a1))]) rfl ?_
  refine g_aload_n C dX4_copyFrom_0 rfl ?_
  refine cf_X4_22 C h_a1 dX4_copyFrom_1 ?_
  refine g_alen C dX4_copyFrom_4 h_a1.2.2.1 h_a1.2.2.2.1 ?_
  refine g_aload_n C dX4_copyFrom_5 rfl ?_
  refine cf_X4_22 C h_o dX4_copyFrom_6 ?_
  refine g_alen C dX4_copyFrom_9 h_o.2.2.1 h_o.2.2.2.1 ?_
  refine g_icmp_eq C 14 dX4_copyFrom_10 (by decide) (fun hc => ?_) (fun hc => ?_)
  · replace h := h.1 hc
    refine g_aload_n C dX4_copyFrom_14 rfl ?_
    refine cf_X4_22 C h_a1 dX4_copyFrom_15 ?_
    refine g_iconst C dX4_copyFrom_18 ?_
    refine g_aload_n C dX4_copyFrom_19 rfl ?_
    refine cf_X4_22 C h_o dX4_copyFrom_20 ?_
    refine g_iconst C dX4_copyFrom_23 ?_
    refine g_aload_n C dX4_copyFrom_24 rfl ?_
    refine cf_X4_22 C h_o dX4_copyFrom_25 ?_
    refine g_alen C dX4_copyFrom_28 h_o.2.2.1 h_o.2.2.2.1 ?_
    refine g_copy C (st := []) dX4_copyFrom_29 h_a1.2.2.1 h_o.2.2.1 ⟨h_a1.2.2.2.1, h_o.2.2.2.1, h_a1.2.2.2.2, h_o.2.2.2.2⟩ h.1 wc_123 wc_33 wc_34 wc_35 (by decide) (Nat.le_of_ble_eq_true rfl) ?_
    replace h := h.2
    refine g_memname (fun M29 hM29 => ?_)
    replace h := h M29 hM29
    refine g_aload_n C dX4_copyFrom_32 rfl ?_
    refine g_aload_n C dX4_copyFrom_33 rfl ?_
    refine cf_X4_26 C h_a1 dX4_copyFrom_34 ?_
    refine cp_X4_26 C h_o dX4_copyFrom_37 ?_
    refine g_memname (fun M37 hM37 => ?_)
    replace h := h M37 hM37
    exact hR _ _ _ dX4_copyFrom_40 h
  · replace h := h.2 hc
    exact hR _ _ _ dX4_copyFrom_13 h
def w_X1_copyFrom (o : Nat) (a1 : Nat) (M : gSt) (k : gSt → Prop) : Prop :=
  (isForge o) ∧ ((isForge a1) ∧ (w_X0_copyFrom (o + 1) (a1 + 1) M (fun M8 => w_X4_copyFrom (o + 3) (a1 + 3) M8 (fun M19 => w_X4_copyFrom (o + 5) (a1 + 5) M19 (fun M30 => w_X4_copyFrom (o + 7) (a1 + 7) M30 (fun M41 => w_X4_copyFrom (o + 9) (a1 + 9) M41 (fun M52 => w_X4_copyFrom (o + 11) (a1 + 11) M52 (fun M63 => w_X4_copyFrom (o + 13) (a1 + 13) M63 (fun M74 => w_X4_copyFrom (o + 15) (a1 + 15) M74 (fun M85 => k M85))))))))))
set_option maxHeartbeats 4000000 in
set_option maxRecDepth 100000 in
theorem m_X1_copyFrom {l : Launch} {D : va_G} {tys : List (ClassId × FieldType)} {ad : Nat → Nat} {cI cS : ClassId} {o : Nat} {a1 : Nat} {M : gSt} {k : gSt → Prop} (h : w_X1_copyFrom o a1 M k) : MOv l yX1_copyFrom cX1_copyFrom 2 (rmR 2 61) D clC ((cI, .int) :: (cS, .object "OldBronze$Sheet") :: tys) (wC ad cI cS) tC zC [.ref (ad o), .ref (ad a1)] M k := by
  refine mov_intro (by decide +kernel) (Nat.le_of_ble_eq_true rfl) wc_131 ?_
  intro p e s m args below meth c A Q C hR
  unfold w_X1_copyFrom at h
  obtain ⟨h_o, h_a1, h⟩ := h
  refine g_locals (lv' := [(0, .ref (ad o)), (1, .ref (ad a1))]) rfl ?_
  refine g_aload_n C dX1_copyFrom_0 rfl ?_
  refine cf_X1_12 C h_o dX1_copyFrom_1 ?_
  refine g_aload_n C dX1_copyFrom_4 rfl ?_
  refine cf_X1_12 C h_a1 dX1_copyFrom_5 ?_
  refine g_callVv C (nargs := 1) (o := (o + 1)) (st := []) (m_X0_copyFrom h) (show isBronze (o + 1) from h.1).1 (show isBronze (o + 1) from h.1).2.1 rfl rfl gc_X1_52 (by decide +kernel) ⟨rfl, rfl⟩ dX1_copyFrom_8 ⟨by decide, by decide⟩ rfl rfl (Nat.le_of_ble_eq_true rfl) ?_
  intro M8 hN
  replace h := hN
  clear hN
  refine g_aload_n C dX1_copyFrom_11 rfl ?_
  refine cf_X1_23 C h_o dX1_copyFrom_12 ?_
  refine g_aload_n C dX1_copyFrom_15 rfl ?_
  refine cf_X1_23 C h_a1 dX1_copyFrom_16 ?_
  refine g_callVv C (nargs := 1) (o := (o + 3)) (st := []) (m_X4_copyFrom h) (show isRows (o + 3) from h.1).1 (show isRows (o + 3) from h.1).2.1 rfl rfl gc_X1_56 (by decide +kernel) ⟨rfl, rfl⟩ dX1_copyFrom_19 ⟨by decide, by decide⟩ rfl rfl (Nat.le_of_ble_eq_true rfl) ?_
  intro M19 hN
  replace h := hN
  clear hN
  refine g_aload_n C dX1_copyFrom_22 rfl ?_
  refine cf_X1_27 C h_o dX1_copyFrom_23 ?_
  refine g_aload_n C dX1_copyFrom_26 rfl ?_
  refine cf_X1_27 C h_a1 dX1_copyFrom_27 ?_
  refine g_callVv C (nargs := 1) (o := (o + 5)) (st := []) (m_X4_copyFrom h) (show isRows (o + 5) from h.1).1 (show isRows (o + 5) from h.1).2.1 rfl rfl gc_X1_56 (by decide +kernel) ⟨rfl, rfl⟩ dX1_copyFrom_30 ⟨by decide, by decide⟩ rfl rfl (Nat.le_of_ble_eq_true rfl) ?_
  intro M30 hN
  replace h := hN
  clear hN
  refine g_aload_n C dX1_copyFrom_33 rfl ?_
  refine cf_X1_30 C h_o dX1_copyFrom_34 ?_
  refine g_aload_n C dX1_copyFrom_37 rfl ?_
  refine cf_X1_30 C h_a1 dX1_copyFrom_38 ?_
  refine g_callVv C (nargs := 1) (o := (o + 7)) (st := []) (m_X4_copyFrom h) (show isRows (o + 7) from h.1).1 (show isRows (o + 7) from h.1).2.1 rfl rfl gc_X1_56 (by decide +kernel) ⟨rfl, rfl⟩ dX1_copyFrom_41 ⟨by decide, by decide⟩ rfl rfl (Nat.le_of_ble_eq_true rfl) ?_
  intro M41 hN
  replace h := hN
  clear hN
  refine g_aload_n C dX1_copyFrom_44 rfl ?_
  refine cf_X1_33 C h_o dX1_copyFrom_45 ?_
  refine g_aload_n C dX1_copyFrom_48 rfl ?_
  refine cf_X1_33 C h_a1 dX1_copyFrom_49 ?_
  refine g_callVv C (nargs := 1) (o := (o + 9)) (st := []) (m_X4_copyFrom h) (show isRows (o + 9) from h.1).1 (show isRows (o + 9) from h.1).2.1 rfl rfl gc_X1_56 (by decide +kernel) ⟨rfl, rfl⟩ dX1_copyFrom_52 ⟨by decide, by decide⟩ rfl rfl (Nat.le_of_ble_eq_true rfl) ?_
  intro M52 hN
  replace h := hN
  clear hN
  refine g_aload_n C dX1_copyFrom_55 rfl ?_
  refine cf_X1_36 C h_o dX1_copyFrom_56 ?_
  refine g_aload_n C dX1_copyFrom_59 rfl ?_
  refine cf_X1_36 C h_a1 dX1_copyFrom_60 ?_
  refine g_callVv C (nargs := 1) (o := (o + 11)) (st := []) (m_X4_copyFrom h) (show isRows (o + 11) from h.1).1 (show isRows (o + 11) from h.1).2.1 rfl rfl gc_X1_56 (by decide +kernel) ⟨rfl, rfl⟩ dX1_copyFrom_63 ⟨by decide, by decide⟩ rfl rfl (Nat.le_of_ble_eq_true rfl) ?_
  intro M63 hN
  replace h := hN
  clear hN
  refine g_aload_n C dX1_copyFrom_66 rfl ?_
  refine cf_X1_39 C h_o dX1_copyFrom_67 ?_
  refine g_aload_n C dX1_copyFrom_70 rfl ?_
  refine cf_X1_39 C h_a1 dX1_copyFrom_71 ?_
  refine g_callVv C (nargs := 1) (o := (o + 13)) (st := []) (m_X4_copyFrom h) (show isRows (o + 13) from h.1).1 (show isRows (o + 13) from h.1).2.1 rfl rfl gc_X1_56 (by decide +kernel) ⟨rfl, rfl⟩ dX1_copyFrom_74 ⟨by decide, by decide⟩ rfl rfl (Nat.le_of_ble_eq_true rfl) ?_
  intro M74 hN
  replace h := hN
  clear hN
  refine g_aload_n C dX1_copyFrom_77 rfl ?_
  refine cf_X1_42 C h_o dX1_copyFrom_78 ?_
  refine g_aload_n C dX1_copyFrom_81 rfl ?_
  refine cf_X1_42 C h_a1 dX1_copyFrom_82 ?_
  refine g_callVv C (nargs := 1) (o := (o + 15)) (st := []) (m_X4_copyFrom h) (show isRows (o + 15) from h.1).1 (show isRows (o + 15) from h.1).2.1 rfl rfl gc_X1_56 (by decide +kernel) ⟨rfl, rfl⟩ dX1_copyFrom_85 ⟨by decide, by decide⟩ rfl rfl (Nat.le_of_ble_eq_true rfl) ?_
  intro M85 hN
  replace h := hN
  clear hN
  exact hR _ _ _ dX1_copyFrom_88 h
