def w_Ryears (a1 : Int) (M : gSt) (k : Int → gSt → Prop) : Prop :=
w_Rin a1 1 60 M (fun r4c M4 => 
  (¬ wrap r4c = 0 →

    (wrap ((M4 1 5) + a1) ≤ 9999 →
      w_Rgo a1 M4 (fun M38 => w_RallGrams  M38 (fun r42c M42 => k r42c M42))) ∧
    (9999 < wrap ((M4 1 5) + a1) →
      w_Rerror 3 M4 (fun r32c M32 => k r32c M32))) ∧
  (wrap r4c = 0 →
    w_Rerror 1 M4 (fun r12c M12 => k r12c M12)))
set_option maxHeartbeats 4000000 in
set_option maxRecDepth 100000 in
theorem m_Ryears {l : Launch} {D : va_G} {cl : List vw_C} {tys : List (ClassId × FieldType)} {ad : Nat → Nat} {cI : ClassId} {ci : Nat} {Z : (Nat → Prop) → State → Prop} (hci : cl[ci]? = some (RX9, TX9, 23)) {a1 : Int} {M : gSt} {k : Int → gSt → Prop} (h : w_Ryears a1 M k) : MOi l yX9_years cX9_years 2 .int (rmR 3 67) D cl ((cI, .int) :: tys) (wR ad cI ci) tR Z [.ref (ad 0), iv a1] M k := by
  refine moi_intro (by decide +kernel) (Nat.le_of_ble_eq_true rfl) wi_113 ?_
  intro p e s m args below meth c A Q C hR
  refine g_locals (lv' := [(0, .ref (ad 0)), (1, iv a1)]) rfl ?_
  unfold w_Ryears at h
  refine g_iload_n C dR_years_0 rfl ?_
  refine g_iconst C dR_years_1 ?_
  refine g_bipush C dR_years_2 rfl ?_
  refine g_callSi C (nargs := 3) (st := []) (m_Rin hci h) gd_in (by decide +kernel) ⟨rfl, rfl⟩ dR_years_4 ⟨by decide, by decide⟩ rfl rfl (Nat.le_of_ble_eq_true rfl) ?_
  intro r4c M4 hN
  replace h := hN
  clear hN
  refine g_if_ne C 16 dR_years_7 (by decide) (fun hc => ?_) (fun hc => ?_)
  · replace h := h.1 hc
    refine g_aload_n C dR_years_16 rfl ?_
    refine rf_s C hci dR_years_17 ?_
    refine g_iconst C dR_years_20 ?_
    refine g_iald C (n := 536) dR_years_21 rfl (by decide) ⟨by decide, by decide⟩ ?_
    refine g_iload_n C dR_years_22 rfl ?_
    refine g_iadd C dR_years_23 ?_
    refine g_sipush C dR_years_24 rfl ?_
    refine g_icmp_le C 36 dR_years_27 (by decide) (fun hc => ?_) (fun hc => ?_)
    · replace h := h.1 hc
      refine g_aload_n C dR_years_36 rfl ?_
      refine g_iload_n C dR_years_37 rfl ?_
      refine g_callVv C (nargs := 1) (o := 0) (st := []) (m_Rgo hci h) rfl (by decide) hci rfl gd_go (by decide +kernel) ⟨rfl, rfl⟩ dR_years_38 ⟨by decide, by decide⟩ rfl rfl (Nat.le_of_ble_eq_true rfl) ?_
      intro M38 hN
      replace h := hN
      clear hN
      refine g_aload_n C dR_years_41 rfl ?_
      refine g_callVi C (nargs := 0) (o := 0) (st := []) (m_RallGrams hci h) rfl (by decide) hci rfl gd_allGrams (by decide +kernel) ⟨rfl, rfl⟩ dR_years_42 ⟨by decide, by decide⟩ rfl rfl (Nat.le_of_ble_eq_true rfl) ?_
      intro r42c M42 hN
      replace h := hN
      clear hN
      exact hR _ _ _ _ dR_years_45 rfl h
    · replace h := h.2 hc
      refine g_aload_n C dR_years_30 rfl ?_
      refine g_iconst C dR_years_31 ?_
      refine g_callVi C (nargs := 1) (o := 0) (st := []) (m_Rerror hci h) rfl (by decide) hci rfl gd_error (by decide +kernel) ⟨rfl, rfl⟩ dR_years_32 ⟨by decide, by decide⟩ rfl rfl (Nat.le_of_ble_eq_true rfl) ?_
      intro r32c M32 hN
      replace h := hN
      clear hN
      exact hR _ _ _ _ dR_years_35 rfl h
  · replace h := h.2 hc
    refine g_aload_n C dR_years_10 rfl ?_
    refine g_iconst C dR_years_11 ?_
    refine g_callVi C (nargs := 1) (o := 0) (st := []) (m_Rerror hci h) rfl (by decide) hci rfl gd_error (by decide +kernel) ⟨rfl, rfl⟩ dR_years_12 ⟨by decide, by decide⟩ rfl rfl (Nat.le_of_ble_eq_true rfl) ?_
    intro r12c M12 hN
    replace h := hN
    clear hN
    exact hR _ _ _ _ dR_years_15 rfl h
def wB_Rthen_28 (a1 : Int) (a2 : Int) (a3 : Int) (k : Int → gSt → Prop)   (M : gSt) : Prop :=
w_Rerror 1 M (fun r30c M30 => k r30c M30)
def w_Rthen (a1 : Int) (a2 : Int) (a3 : Int) (M : gSt) (k : Int → gSt → Prop) : Prop :=
w_Rin a1 0 60 M (fun r4c M4 => 
  (wrap r4c = 0 →
    wB_Rthen_28 a1 a2 a3 k   M4) ∧
  (¬ wrap r4c = 0 →
    w_RisThing a2 M4 (fun r12c M12 => 
    (wrap r12c = 0 →
      wB_Rthen_28 a1 a2 a3 k   M12) ∧
    (¬ wrap r12c = 0 →
      w_Rin a3 0 10 M12 (fun r22c M22 => 
      (¬ wrap r22c = 0 →
        w_Rcarry 1 3 M22 (fun M42 => w_Rgo a1 M42 (fun M47 => w_Rtold1 a2 a3 M47 (fun r53c M53 => w_Rcarry 3 1 M53 (fun M66 => k r53c M66))))) ∧
      (wrap r22c = 0 →
        wB_Rthen_28 a1 a2 a3 k   M22))))))
set_option maxHeartbeats 4000000 in
set_option maxRecDepth 100000 in
theorem m_Rthen {l : Launch} {D : va_G} {cl : List vw_C} {tys : List (ClassId × FieldType)} {ad : Nat → Nat} {cI : ClassId} {ci : Nat} {Z : (Nat → Prop) → State → Prop} (hci : cl[ci]? = some (RX9, TX9, 23)) {a1 : Int} {a2 : Int} {a3 : Int} {M : gSt} {k : Int → gSt → Prop} (h : w_Rthen a1 a2 a3 M k) : MOi l yX9_then cX9_then 5 .int (rmR 5 115) D cl ((cI, .int) :: tys) (wR ad cI ci) tR Z [.ref (ad 0), iv a1, iv a2, iv a3] M k := by
  refine moi_intro (by decide +kernel) (Nat.le_of_ble_eq_true rfl) wi_116 ?_
  intro p e s m args below meth c A Q C hR
  have pB28 : ∀    (M : gSt), wB_Rthen_28 a1 a2 a3 k   M → gG p l e (rmR 5 115) s m args below meth c Q D cl A (wR ad cI ci) 5 28 [(0, .ref (ad 0))] [] M := by
    intro    M h
    unfold wB_Rthen_28 at h
    refine g_aload_n C dR_then_28 rfl ?_
    refine g_iconst C dR_then_29 ?_
    refine g_callVi C (nargs := 1) (o := 0) (st := []) (m_Rerror hci h) rfl (by decide) hci rfl gd_error (by decide +kernel) ⟨rfl, rfl⟩ dR_then_30 ⟨by decide, by decide⟩ rfl rfl (Nat.le_of_ble_eq_true rfl) ?_
    intro r30c M30 hN
    replace h := hN
    clear hN
    exact hR _ _ _ _ dR_then_33 rfl h
  refine g_locals (lv' := [(0, .ref (ad 0)), (1, iv a1), (2, iv a2), (3, iv a3)]) rfl ?_
  unfold w_Rthen at h
  refine g_iload_n C dR_then_0 rfl ?_
  refine g_iconst C dR_then_1 ?_
  refine g_bipush C dR_then_2 rfl ?_
  refine g_callSi C (nargs := 3) (st := []) (m_Rin hci h) gd_in (by decide +kernel) ⟨rfl, rfl⟩ dR_then_4 ⟨by decide, by decide⟩ rfl rfl (Nat.le_of_ble_eq_true rfl) ?_
  intro r4c M4 hN
  replace h := hN
  clear hN
  refine g_if_eq C 28 dR_then_7 (by decide) (fun hc => ?_) (fun hc => ?_)
  · replace h := h.1 hc
    refine g_locals (lv' := [(0, .ref (ad 0))]) rfl ?_
    exact pB28  _ h
  · replace h := h.2 hc
    refine g_aload_n C dR_then_10 rfl ?_
    refine g_iload_n C dR_then_11 rfl ?_
    refine g_callVi C (nargs := 1) (o := 0) (st := []) (m_RisThing hci h) rfl (by decide) hci rfl gd_isThing (by decide +kernel) ⟨rfl, rfl⟩ dR_then_12 ⟨by decide, by decide⟩ rfl rfl (Nat.le_of_ble_eq_true rfl) ?_
    intro r12c M12 hN
    replace h := hN
    clear hN
    refine g_if_eq C 28 dR_then_15 (by decide) (fun hc => ?_) (fun hc => ?_)
    · replace h := h.1 hc
      refine g_locals (lv' := [(0, .ref (ad 0))]) rfl ?_
      exact pB28  _ h
    · replace h := h.2 hc
      refine g_iload_n C dR_then_18 rfl ?_
      refine g_iconst C dR_then_19 ?_
      refine g_bipush C dR_then_20 rfl ?_
      refine g_callSi C (nargs := 3) (st := []) (m_Rin hci h) gd_in (by decide +kernel) ⟨rfl, rfl⟩ dR_then_22 ⟨by decide, by decide⟩ rfl rfl (Nat.le_of_ble_eq_true rfl) ?_
      intro r22c M22 hN
      replace h := hN
      clear hN
      refine g_if_ne C 34 dR_then_25 (by decide) (fun hc => ?_) (fun hc => ?_)
      · replace h := h.1 hc
        refine g_aload_n C dR_then_34 rfl ?_
        refine rf_s C hci dR_then_35 ?_
        refine g_aload_n C dR_then_38 rfl ?_
        refine rf_put C hci dR_then_39 ?_
        refine g_callSv C (nargs := 2) (st := []) (m_Rcarry hci h) gd_carry (by decide +kernel) ⟨rfl, rfl⟩ dR_then_42 ⟨by decide, by decide⟩ rfl rfl (Nat.le_of_ble_eq_true rfl) ?_
        intro M42 hN
        replace h := hN
        clear hN
        refine g_aload_n C dR_then_45 rfl ?_
        refine g_iload_n C dR_then_46 rfl ?_
        refine g_callVv C (nargs := 1) (o := 0) (st := []) (m_Rgo hci h) rfl (by decide) hci rfl gd_go (by decide +kernel) ⟨rfl, rfl⟩ dR_then_47 ⟨by decide, by decide⟩ rfl rfl (Nat.le_of_ble_eq_true rfl) ?_
        intro M47 hN
        replace h := hN
        clear hN
        refine g_aload_n C dR_then_50 rfl ?_
        refine g_iload_n C dR_then_51 rfl ?_
        refine g_iload_n C dR_then_52 rfl ?_
        refine g_callVi C (nargs := 2) (o := 0) (st := []) (m_Rtold1 hci h) rfl (by decide) hci rfl gd_told1 (by decide +kernel) ⟨rfl, rfl⟩ dR_then_53 ⟨by decide, by decide⟩ rfl rfl (Nat.le_of_ble_eq_true rfl) ?_
        intro r53c M53 hN
        replace h := hN
        clear hN
        refine g_istore C dR_then_56 (by decide) rfl ?_
        refine g_locals (lv' := [(0, .ref (ad 0)), (1, iv a1), (2, iv a2), (3, iv a3), (4, iv r53c)]) rfl ?_
        refine g_aload_n C dR_then_58 rfl ?_
        refine rf_put C hci dR_then_59 ?_
        refine g_aload_n C dR_then_62 rfl ?_
        refine rf_s C hci dR_then_63 ?_
        refine g_callSv C (nargs := 2) (st := []) (m_Rcarry hci h) gd_carry (by decide +kernel) ⟨rfl, rfl⟩ dR_then_66 ⟨by decide, by decide⟩ rfl rfl (Nat.le_of_ble_eq_true rfl) ?_
        intro M66 hN
        replace h := hN
        clear hN
        refine g_iload C dR_then_69 rfl ?_
        exact hR _ _ _ _ dR_then_71 rfl h
      · replace h := h.2 hc
        refine g_locals (lv' := [(0, .ref (ad 0))]) rfl ?_
        exact pB28  _ h
def w_Rseed (a1 : Int) (M : gSt) (k : Int → gSt → Prop) : Prop :=
∀ x2_7 : Int, x2_7 = M 1 8 → (∀ M15 : gSt, M15 = wr M 1 8 a1 → (k x2_7 M15))
set_option maxHeartbeats 4000000 in
set_option maxRecDepth 100000 in
theorem m_Rseed {l : Launch} {D : va_G} {cl : List vw_C} {tys : List (ClassId × FieldType)} {ad : Nat → Nat} {cI : ClassId} {ci : Nat} {Z : (Nat → Prop) → State → Prop} (hci : cl[ci]? = some (RX9, TX9, 23)) {a1 : Int} {M : gSt} {k : Int → gSt → Prop} (h : w_Rseed a1 M k) : MOi l yX9_seed cX9_seed 3 .int (rmR 0 0) D cl ((cI, .int) :: tys) (wR ad cI ci) tR Z [.ref (ad 0), iv a1] M k := by
  refine moi_intro (by decide +kernel) (Nat.le_of_ble_eq_true rfl) wi_117 ?_
  intro p e s m args below meth c A Q C hR
  refine g_locals (lv' := [(0, .ref (ad 0)), (1, iv a1)]) rfl ?_
  unfold w_Rseed at h
  refine g_aload_n C dR_seed_0 rfl ?_
  refine rf_s C hci dR_seed_1 ?_
  refine g_bipush C dR_seed_4 rfl ?_
  refine g_iald C (n := 536) dR_seed_6 rfl (by decide) ⟨by decide, by decide⟩ ?_
  refine g_name (fun x2_7 hx2_7 => ?_)
  replace h := h x2_7 hx2_7
  refine g_istore_n C dR_seed_7 (by decide) rfl ?_
  refine g_locals (lv' := [(0, .ref (ad 0)), (1, iv a1), (2, iv x2_7)]) rfl ?_
  refine g_aload_n C dR_seed_8 rfl ?_
  refine rf_s C hci dR_seed_9 ?_
  refine g_bipush C dR_seed_12 rfl ?_
  refine g_iload_n C dR_seed_14 rfl ?_
  refine g_iast C (n := 536) dR_seed_15 rfl (by decide) ⟨by decide, by decide⟩ ?_
  refine g_memname (fun M15 hM15 => ?_)
  replace h := h M15 hM15
  refine g_iload_n C dR_seed_16 rfl ?_
  exact hR _ _ _ _ dR_seed_17 rfl h
def wC_Rfeed_39 (a1 : Int) (a2 : Int) (k : Int → gSt → Prop) (r39 : Int → gSt → Prop) (X39_90 : gSt → Prop) (v4 : Int) (M : gSt) : Prop :=

  (wrap a2 ≤ wrap v4 →
    X39_90  M) ∧
  (wrap v4 < wrap a2 →
    (0 ≤ 452 + (M 1 6) ∧ 452 + (M 1 6) < 536) ∧ (∀ M72 : gSt, M72 = wr M 1 (452 + (M 1 6)) (yand (yshr a1 (8 * v4)) 255) → (∀ M83 : gSt, M83 = wr M72 1 6 ((M72 1 6) + 1) → (r39 (v4 + 1) M83))))
def wL_Rfeed_39 (a1 : Int) (a2 : Int) (k : Int → gSt → Prop)  (X39_90 : gSt → Prop) : Nat → Int → gSt → Prop
  | 0 => fun _ _ => False
  | n + 1 => fun v4 M => wC_Rfeed_39 a1 a2 k  (wL_Rfeed_39 a1 a2 k  X39_90 n) X39_90 v4 M
def w_Rfeed (a1 : Int) (a2 : Int) (M : gSt) (k : Int → gSt → Prop) : Prop :=
w_Rin a2 1 8 M (fun r4c M4 => 
  (¬ wrap r4c = 0 →

    (wrap ((M4 1 6) + a2) ≤ 60 →
      ∃ n, wL_Rfeed_39 a1 a2 k  (fun  M39 =>
        k (M39 1 6) M39) n 0 M4) ∧
    (60 < wrap ((M4 1 6) + a2) →
      w_Rerror 4 M4 (fun r32c M32 => k r32c M32))) ∧
  (wrap r4c = 0 →
    w_Rerror 1 M4 (fun r12c M12 => k r12c M12)))
set_option maxHeartbeats 4000000 in
set_option maxRecDepth 100000 in
theorem m_Rfeed {l : Launch} {D : va_G} {cl : List vw_C} {tys : List (ClassId × FieldType)} {ad : Nat → Nat} {cI : ClassId} {ci : Nat} {Z : (Nat → Prop) → State → Prop} (hci : cl[ci]? = some (RX9, TX9, 23)) {a1 : Int} {a2 : Int} {M : gSt} {k : Int → gSt → Prop} (h : w_Rfeed a1 a2 M k) : MOi l yX9_feed cX9_feed 5 .int (rmR 1 22) D cl ((cI, .int) :: tys) (wR ad cI ci) tR Z [.ref (ad 0), jv a1, iv a2] M k := by
  refine moi_intro (by decide +kernel) (Nat.le_of_ble_eq_true rfl) wi_119 ?_
  intro p e s m args below meth c A Q C hR
  have pC39 : ∀ (r39 : Int → gSt → Prop) (X39_90 : gSt → Prop) (hr39 : ∀ (v4 : Int) (M : gSt), r39 v4 M → gG p l e (rmR 1 22) s m args below meth c Q D cl A (wR ad cI ci) 5 39 [(0, .ref (ad 0)), (1, jv a1), (3, iv a2), (4, iv v4)] [] M) (hX39_90 : ∀  (M : gSt), X39_90  M → gG p l e (rmR 1 22) s m args below meth c Q D cl A (wR ad cI ci) 5 90 [(0, .ref (ad 0))] [] M) (v4 : Int) (M : gSt), wC_Rfeed_39 a1 a2 k r39 X39_90 v4 M → gG p l e (rmR 1 22) s m args below meth c Q D cl A (wR ad cI ci) 5 39 [(0, .ref (ad 0)), (1, jv a1), (3, iv a2), (4, iv v4)] [] M := by
    intro r39 X39_90 hr39 hX39_90 v4 M h
    unfold wC_Rfeed_39 at h
    refine g_iload C dR_feed_39 rfl ?_
    refine g_iload_n C dR_feed_41 rfl ?_
    refine g_icmp_ge C 90 dR_feed_42 (by decide) (fun hc => ?_) (fun hc => ?_)
    · replace h := h.1 hc
      refine g_locals (lv' := [(0, .ref (ad 0))]) rfl ?_
      exact hX39_90  _ h
    · replace h := h.2 hc
      refine g_aload_n C dR_feed_45 rfl ?_
      refine rf_s C hci dR_feed_46 ?_
      refine g_sipush C dR_feed_49 rfl ?_
      refine g_aload_n C dR_feed_52 rfl ?_
      refine rf_s C hci dR_feed_53 ?_
      refine g_bipush C dR_feed_56 rfl ?_
      refine g_iald C (n := 536) dR_feed_58 rfl (by decide) ⟨by decide, by decide⟩ ?_
      refine g_iadd C dR_feed_59 ?_
      refine g_lload_n C dR_feed_60 rfl ?_
      refine g_bipush C dR_feed_61 rfl ?_
      refine g_iload C dR_feed_63 rfl ?_
      refine g_imul C dR_feed_65 ?_
      refine g_lshr C dR_feed_66 ?_
      refine g_ldc2 C 255 wi_118 rfl dR_feed_67 ?_
      refine g_land C dR_feed_70 ?_
      refine g_l2i C dR_feed_71 ?_
      refine g_iast C (n := 536) dR_feed_72 rfl (by decide) h.1 ?_
      replace h := h.2
      refine g_memname (fun M72 hM72 => ?_)
      replace h := h M72 hM72
      refine g_aload_n C dR_feed_73 rfl ?_
      refine rf_s C hci dR_feed_74 ?_
      refine g_bipush C dR_feed_77 rfl ?_
      refine g_dup2 C dR_feed_79 rfl rfl ?_
      refine g_iald C (n := 536) dR_feed_80 rfl (by decide) ⟨by decide, by decide⟩ ?_
      refine g_iconst C dR_feed_81 ?_
      refine g_iadd C dR_feed_82 ?_
      refine g_iast C (n := 536) dR_feed_83 rfl (by decide) ⟨by decide, by decide⟩ ?_
      refine g_memname (fun M83 hM83 => ?_)
      replace h := h M83 hM83
      refine g_iinc C dR_feed_84 rfl (by decide) rfl ?_
      refine g_locals (lv' := [(0, .ref (ad 0)), (1, jv a1), (3, iv a2), (4, iv (v4 + 1))]) rfl ?_
      refine g_goto C 39 dR_feed_87 (by decide) ?_
      refine g_locals (lv' := [(0, .ref (ad 0)), (1, jv a1), (3, iv a2), (4, iv (v4 + 1))]) rfl ?_
      exact hr39 _  _ h
  have pL39 : ∀  (X39_90 : gSt → Prop) (hX39_90 : ∀  (M : gSt), X39_90  M → gG p l e (rmR 1 22) s m args below meth c Q D cl A (wR ad cI ci) 5 90 [(0, .ref (ad 0))] [] M) (n : Nat) (v4 : Int) (M : gSt), wL_Rfeed_39 a1 a2 k  X39_90 n v4 M → gG p l e (rmR 1 22) s m args below meth c Q D cl A (wR ad cI ci) 5 39 [(0, .ref (ad 0)), (1, jv a1), (3, iv a2), (4, iv v4)] [] M := by
    intro  X39_90 hX39_90 n
    induction n with
    | zero => intro v4 M h; exact h.elim
    | succ n ih =>
      intro v4 M h
      exact pC39  (wL_Rfeed_39 a1 a2 k  X39_90 n) X39_90 ih hX39_90 v4 M h
  refine g_locals (lv' := [(0, .ref (ad 0)), (1, jv a1), (3, iv a2)]) rfl ?_
  unfold w_Rfeed at h
  refine g_iload_n C dR_feed_0 rfl ?_
  refine g_iconst C dR_feed_1 ?_
  refine g_bipush C dR_feed_2 rfl ?_
  refine g_callSi C (nargs := 3) (st := []) (m_Rin hci h) gd_in (by decide +kernel) ⟨rfl, rfl⟩ dR_feed_4 ⟨by decide, by decide⟩ rfl rfl (Nat.le_of_ble_eq_true rfl) ?_
  intro r4c M4 hN
  replace h := hN
  clear hN
  refine g_if_ne C 16 dR_feed_7 (by decide) (fun hc => ?_) (fun hc => ?_)
  · replace h := h.1 hc
    refine g_aload_n C dR_feed_16 rfl ?_
    refine rf_s C hci dR_feed_17 ?_
    refine g_bipush C dR_feed_20 rfl ?_
    refine g_iald C (n := 536) dR_feed_22 rfl (by decide) ⟨by decide, by decide⟩ ?_
    refine g_iload_n C dR_feed_23 rfl ?_
    refine g_iadd C dR_feed_24 ?_
    refine g_bipush C dR_feed_25 rfl ?_
    refine g_icmp_le C 36 dR_feed_27 (by decide) (fun hc => ?_) (fun hc => ?_)
    · replace h := h.1 hc
      refine g_iconst C dR_feed_36 ?_
      refine g_istore C dR_feed_37 (by decide) rfl ?_
      refine g_locals (lv' := [(0, .ref (ad 0)), (1, jv a1), (3, iv a2), (4, iv 0)]) rfl ?_
      refine g_locals (lv' := [(0, .ref (ad 0)), (1, jv a1), (3, iv a2), (4, iv 0)]) rfl ?_
      obtain ⟨n, h⟩ := h
      refine pL39 _ ?_ n _ _ h
      · intro  M39 hN
        replace h := hN
        clear hN
        refine g_aload_n C dR_feed_90 rfl ?_
        refine rf_s C hci dR_feed_91 ?_
        refine g_bipush C dR_feed_94 rfl ?_
        refine g_iald C (n := 536) dR_feed_96 rfl (by decide) ⟨by decide, by decide⟩ ?_
        exact hR _ _ _ _ dR_feed_97 rfl h
    · replace h := h.2 hc
      refine g_aload_n C dR_feed_30 rfl ?_
      refine g_iconst C dR_feed_31 ?_
      refine g_callVi C (nargs := 1) (o := 0) (st := []) (m_Rerror hci h) rfl (by decide) hci rfl gd_error (by decide +kernel) ⟨rfl, rfl⟩ dR_feed_32 ⟨by decide, by decide⟩ rfl rfl (Nat.le_of_ble_eq_true rfl) ?_
      intro r32c M32 hN
      replace h := hN
      clear hN
      exact hR _ _ _ _ dR_feed_35 rfl h
  · replace h := h.2 hc
    refine g_aload_n C dR_feed_10 rfl ?_
    refine g_iconst C dR_feed_11 ?_
    refine g_callVi C (nargs := 1) (o := 0) (st := []) (m_Rerror hci h) rfl (by decide) hci rfl gd_error (by decide +kernel) ⟨rfl, rfl⟩ dR_feed_12 ⟨by decide, by decide⟩ rfl rfl (Nat.le_of_ble_eq_true rfl) ?_
    intro r12c M12 hN
    replace h := hN
    clear hN
    exact hR _ _ _ _ dR_feed_15 rfl h
def w_Rlook  (M : gSt) (k : Int → gSt → Prop) : Prop :=

  (wrap (M 1 6) ≤ wrap (M 0 5) →
    k (-1) M) ∧
  (wrap (M 0 5) < wrap (M 1 6) →
    (0 ≤ 452 + (M 0 5) ∧ 452 + (M 0 5) < 536) ∧ (k (M 1 (452 + (M 0 5))) M))
set_option maxHeartbeats 4000000 in
set_option maxRecDepth 100000 in
theorem m_Rlook {l : Launch} {D : va_G} {cl : List vw_C} {tys : List (ClassId × FieldType)} {ad : Nat → Nat} {cI : ClassId} {ci : Nat} {Z : (Nat → Prop) → State → Prop} (hci : cl[ci]? = some (RX9, TX9, 23))  {M : gSt} {k : Int → gSt → Prop} (h : w_Rlook  M k) : MOi l yX9_look cX9_look 1 .int (rmR 0 0) D cl ((cI, .int) :: tys) (wR ad cI ci) tR Z [.ref (ad 0)] M k := by
  refine moi_intro (by decide +kernel) (Nat.le_of_ble_eq_true rfl) wi_121 ?_
  intro p e s m args below meth c A Q C hR
  refine g_locals (lv' := [(0, .ref (ad 0))]) rfl ?_
  unfold w_Rlook at h
  refine g_aload_n C dR_look_0 rfl ?_
  refine rf_at C hci dR_look_1 ?_
  refine g_aload_n C dR_look_4 rfl ?_
  refine rf_s C hci dR_look_5 ?_
  refine g_bipush C dR_look_8 rfl ?_
  refine g_iald C (n := 536) dR_look_10 rfl (by decide) ⟨by decide, by decide⟩ ?_
  refine g_icmp_ge C 30 dR_look_11 (by decide) (fun hc => ?_) (fun hc => ?_)
  · replace h := h.1 hc
    refine g_iconst C dR_look_30 ?_
    exact hR _ _ _ _ dR_look_31 rfl h
  · replace h := h.2 hc
    refine g_aload_n C dR_look_14 rfl ?_
    refine rf_s C hci dR_look_15 ?_
    refine g_sipush C dR_look_18 rfl ?_
    refine g_aload_n C dR_look_21 rfl ?_
    refine rf_at C hci dR_look_22 ?_
    refine g_iadd C dR_look_25 ?_
    refine g_iald C (n := 536) dR_look_26 rfl (by decide) h.1 ?_
    replace h := h.2
    refine g_goto C 31 dR_look_27 (by decide) ?_
    exact hR _ _ _ _ dR_look_31 rfl h
def w_RisName (a1 : Int) (M : gSt) (k : Int → gSt → Prop) : Prop :=

  (¬ wrap a1 = 103 →

    (¬ wrap (M 0 8) = 0 →

      (wrap a1 = 99 →
        k 1 M) ∧
      (¬ wrap a1 = 99 →

        (¬ wrap a1 = 110 →
          k 0 M) ∧
        (wrap a1 = 110 →
          k 1 M))) ∧
    (wrap (M 0 8) = 0 →

      (wrap a1 = 115 →
        k 1 M) ∧
      (¬ wrap a1 = 115 →

        (¬ wrap a1 = 109 →
          k 0 M) ∧
        (wrap a1 = 109 →
          k 1 M)))) ∧
  (wrap a1 = 103 →
    k 1 M)
set_option maxHeartbeats 4000000 in
set_option maxRecDepth 100000 in
theorem m_RisName {l : Launch} {D : va_G} {cl : List vw_C} {tys : List (ClassId × FieldType)} {ad : Nat → Nat} {cI : ClassId} {ci : Nat} {Z : (Nat → Prop) → State → Prop} (hci : cl[ci]? = some (RX9, TX9, 23)) {a1 : Int} {M : gSt} {k : Int → gSt → Prop} (h : w_RisName a1 M k) : MOi l yX9_isName cX9_isName 2 .boolean (rmR 0 0) D cl ((cI, .int) :: tys) (wR ad cI ci) tR Z [.ref (ad 0), iv a1] M k := by
  refine moi_intro (by decide +kernel) (Nat.le_of_ble_eq_true rfl) wi_123 ?_
  intro p e s m args below meth c A Q C hR
  refine g_locals (lv' := [(0, .ref (ad 0)), (1, iv a1)]) rfl ?_
  unfold w_RisName at h
  refine g_iload_n C dR_isName_0 rfl ?_
  refine g_bipush C dR_isName_1 rfl ?_
  refine g_icmp_ne C 8 dR_isName_3 (by decide) (fun hc => ?_) (fun hc => ?_)
  · replace h := h.1 hc
    refine g_aload_n C dR_isName_8 rfl ?_
    refine rf_use C hci dR_isName_9 ?_
    refine g_if_ne C 35 dR_isName_12 (by decide) (fun hc => ?_) (fun hc => ?_)
    · replace h := h.1 hc
      refine g_iload_n C dR_isName_35 rfl ?_
      refine g_bipush C dR_isName_36 rfl ?_
      refine g_icmp_eq C 47 dR_isName_38 (by decide) (fun hc => ?_) (fun hc => ?_)
      · replace h := h.1 hc
        refine g_iconst C dR_isName_47 ?_
        refine g_goto C 52 dR_isName_48 (by decide) ?_
        exact hR _ _ _ _ dR_isName_52 rfl h
      · replace h := h.2 hc
        refine g_iload_n C dR_isName_41 rfl ?_
        refine g_bipush C dR_isName_42 rfl ?_
        refine g_icmp_ne C 51 dR_isName_44 (by decide) (fun hc => ?_) (fun hc => ?_)
        · replace h := h.1 hc
          refine g_iconst C dR_isName_51 ?_
          exact hR _ _ _ _ dR_isName_52 rfl h
        · replace h := h.2 hc
          refine g_iconst C dR_isName_47 ?_
          refine g_goto C 52 dR_isName_48 (by decide) ?_
          exact hR _ _ _ _ dR_isName_52 rfl h
    · replace h := h.2 hc
      refine g_iload_n C dR_isName_15 rfl ?_
      refine g_bipush C dR_isName_16 rfl ?_
      refine g_icmp_eq C 27 dR_isName_18 (by decide) (fun hc => ?_) (fun hc => ?_)
      · replace h := h.1 hc
        refine g_iconst C dR_isName_27 ?_
        refine g_goto C 52 dR_isName_28 (by decide) ?_
        exact hR _ _ _ _ dR_isName_52 rfl h
      · replace h := h.2 hc
        refine g_iload_n C dR_isName_21 rfl ?_
        refine g_bipush C dR_isName_22 rfl ?_
        refine g_icmp_ne C 31 dR_isName_24 (by decide) (fun hc => ?_) (fun hc => ?_)
        · replace h := h.1 hc
          refine g_iconst C dR_isName_31 ?_
          refine g_goto C 52 dR_isName_32 (by decide) ?_
          exact hR _ _ _ _ dR_isName_52 rfl h
        · replace h := h.2 hc
          refine g_iconst C dR_isName_27 ?_
          refine g_goto C 52 dR_isName_28 (by decide) ?_
          exact hR _ _ _ _ dR_isName_52 rfl h
  · replace h := h.2 hc
    refine g_iconst C dR_isName_6 ?_
    exact hR _ _ _ _ dR_isName_7 rfl h
def w_Rlays (a1 : Int) (a2 : Int) (M : gSt) (k : gSt → Prop) : Prop :=
(0 ≤ 2 * (M 0 7) ∧ 2 * (M 0 7) < 124) ∧ (∀ M11 : gSt, M11 = wr M 5 (2 * (M 0 7)) a1 → ((0 ≤ (2 * (M11 0 7)) + 1 ∧ (2 * (M11 0 7)) + 1 < 124) ∧ (∀ M25 : gSt, M25 = wr M11 5 ((2 * (M11 0 7)) + 1) a2 → (∀ M33 : gSt, M33 = wr M25 0 7 ((M25 0 7) + 1) → (k M33)))))
set_option maxHeartbeats 4000000 in
set_option maxRecDepth 100000 in
theorem m_Rlays {l : Launch} {D : va_G} {cl : List vw_C} {tys : List (ClassId × FieldType)} {ad : Nat → Nat} {cI : ClassId} {ci : Nat} {Z : (Nat → Prop) → State → Prop} (hci : cl[ci]? = some (RX9, TX9, 23)) {a1 : Int} {a2 : Int} {M : gSt} {k : gSt → Prop} (h : w_Rlays a1 a2 M k) : MOv l yX9_lays cX9_lays 3 (rmR 0 0) D cl ((cI, .int) :: tys) (wR ad cI ci) tR Z [.ref (ad 0), iv a1, iv a2] M k := by
  refine mov_intro (by decide +kernel) (Nat.le_of_ble_eq_true rfl) wi_125 ?_
  intro p e s m args below meth c A Q C hR
  refine g_locals (lv' := [(0, .ref (ad 0)), (1, iv a1), (2, iv a2)]) rfl ?_
  unfold w_Rlays at h
  refine g_aload_n C dR_lays_0 rfl ?_
  refine rf_step C hci dR_lays_1 ?_
  refine g_iconst C dR_lays_4 ?_
  refine g_aload_n C dR_lays_5 rfl ?_
  refine rf_steps C hci dR_lays_6 ?_
  refine g_imul C dR_lays_9 ?_
  refine g_iload_n C dR_lays_10 rfl ?_
  refine g_iast C (n := 124) dR_lays_11 rfl (by decide) h.1 ?_
  replace h := h.2
  refine g_memname (fun M11 hM11 => ?_)
  replace h := h M11 hM11
  refine g_aload_n C dR_lays_12 rfl ?_
  refine rf_step C hci dR_lays_13 ?_
  refine g_iconst C dR_lays_16 ?_
  refine g_aload_n C dR_lays_17 rfl ?_
  refine rf_steps C hci dR_lays_18 ?_
  refine g_imul C dR_lays_21 ?_
  refine g_iconst C dR_lays_22 ?_
  refine g_iadd C dR_lays_23 ?_
  refine g_iload_n C dR_lays_24 rfl ?_
  refine g_iast C (n := 124) dR_lays_25 rfl (by decide) h.1 ?_
  replace h := h.2
  refine g_memname (fun M25 hM25 => ?_)
  replace h := h M25 hM25
  refine g_aload_n C dR_lays_26 rfl ?_
  refine g_dup C dR_lays_27 rfl ?_
  refine rf_steps C hci dR_lays_28 ?_
  refine g_iconst C dR_lays_31 ?_
  refine g_iadd C dR_lays_32 ?_
  refine rp_steps C hci dR_lays_33 ?_
  refine g_memname (fun M33 hM33 => ?_)
  replace h := h M33 hM33
  exact hR _ _ _ dR_lays_36 h
def w_Ropens  (M : gSt) (k : Int → gSt → Prop) : Prop :=

  (¬ wrap (M 0 6) = 5 →
    ∀ M17 : gSt, M17 = wr M 0 6 ((M 0 6) + 1) → (∀ M27 : gSt, M27 = wr M17 0 5 ((M17 0 5) + 1) → (k 1 M27))) ∧
  (wrap (M 0 6) = 5 →
    k 0 M)
set_option maxHeartbeats 4000000 in
set_option maxRecDepth 100000 in
theorem m_Ropens {l : Launch} {D : va_G} {cl : List vw_C} {tys : List (ClassId × FieldType)} {ad : Nat → Nat} {cI : ClassId} {ci : Nat} {Z : (Nat → Prop) → State → Prop} (hci : cl[ci]? = some (RX9, TX9, 23))  {M : gSt} {k : Int → gSt → Prop} (h : w_Ropens  M k) : MOi l yX9_opens cX9_opens 1 .boolean (rmR 0 0) D cl ((cI, .int) :: tys) (wR ad cI ci) tR Z [.ref (ad 0)] M k := by
  refine moi_intro (by decide +kernel) (Nat.le_of_ble_eq_true rfl) wi_127 ?_
  intro p e s m args below meth c A Q C hR
  refine g_locals (lv' := [(0, .ref (ad 0))]) rfl ?_
  unfold w_Ropens at h
  refine g_aload_n C dR_opens_0 rfl ?_
  refine rf_open C hci dR_opens_1 ?_
  refine g_iconst C dR_opens_4 ?_
  refine g_icmp_ne C 10 dR_opens_5 (by decide) (fun hc => ?_) (fun hc => ?_)
  · replace h := h.1 hc
    refine g_aload_n C dR_opens_10 rfl ?_
    refine g_dup C dR_opens_11 rfl ?_
    refine rf_open C hci dR_opens_12 ?_
    refine g_iconst C dR_opens_15 ?_
    refine g_iadd C dR_opens_16 ?_
    refine rp_open C hci dR_opens_17 ?_
    refine g_memname (fun M17 hM17 => ?_)
    replace h := h M17 hM17
    refine g_aload_n C dR_opens_20 rfl ?_
    refine g_dup C dR_opens_21 rfl ?_
    refine rf_at C hci dR_opens_22 ?_
    refine g_iconst C dR_opens_25 ?_
    refine g_iadd C dR_opens_26 ?_
    refine rp_at C hci dR_opens_27 ?_
    refine g_memname (fun M27 hM27 => ?_)
    replace h := h M27 hM27
    refine g_iconst C dR_opens_30 ?_
    exact hR _ _ _ _ dR_opens_31 rfl h
  · replace h := h.2 hc
    refine g_iconst C dR_opens_8 ?_
    exact hR _ _ _ _ dR_opens_9 rfl h
def wB_Runtell_28 (a1 : Int) (k : Int → gSt → Prop)  (s0 : Int) (M : gSt) : Prop :=
(0 ≤ 202 + (125 * a1) ∧ 202 + (125 * a1) < 536) ∧ (∀ M42 : gSt, M42 = wr M 1 (202 + (125 * a1)) 0 → (k s0 M42))
def w_Runtell (a1 : Int) (M : gSt) (k : Int → gSt → Prop) : Prop :=
w_Rin a1 0 1 M (fun r3c M3 => 
  (¬ wrap r3c = 0 →
    w_RhasText a1 M3 (fun r17c M17 => 
    (wrap r17c = 0 →
      wB_Runtell_28 a1 k  0 M17) ∧
    (¬ wrap r17c = 0 →
      wB_Runtell_28 a1 k  1 M17))) ∧
  (wrap r3c = 0 →
    w_Rerror 1 M3 (fun r11c M11 => k r11c M11)))
set_option maxHeartbeats 4000000 in
set_option maxRecDepth 100000 in
theorem m_Runtell {l : Launch} {D : va_G} {cl : List vw_C} {tys : List (ClassId × FieldType)} {ad : Nat → Nat} {cI : ClassId} {ci : Nat} {Z : (Nat → Prop) → State → Prop} (hci : cl[ci]? = some (RX9, TX9, 23)) {a1 : Int} {M : gSt} {k : Int → gSt → Prop} (h : w_Runtell a1 M k) : MOi l yX9_untell cX9_untell 3 .int (rmR 1 22) D cl ((cI, .int) :: tys) (wR ad cI ci) tR Z [.ref (ad 0), iv a1] M k := by
  refine moi_intro (by decide +kernel) (Nat.le_of_ble_eq_true rfl) wi_165 ?_
  intro p e s m args below meth c A Q C hR
  have pB28 : ∀   (s0 : Int) (M : gSt), wB_Runtell_28 a1 k  s0 M → gG p l e (rmR 1 22) s m args below meth c Q D cl A (wR ad cI ci) 3 28 [(0, .ref (ad 0)), (1, iv a1)] [iv s0] M := by
    intro   s0 M h
    unfold wB_Runtell_28 at h
    refine g_istore_n C dR_untell_28 (by decide) rfl ?_
    refine g_locals (lv' := [(0, .ref (ad 0)), (1, iv a1), (2, iv s0)]) rfl ?_
    refine g_aload_n C dR_untell_29 rfl ?_
    refine rf_s C hci dR_untell_30 ?_
    refine g_sipush C dR_untell_33 rfl ?_
    refine g_bipush C dR_untell_36 rfl ?_
    refine g_iload_n C dR_untell_38 rfl ?_
    refine g_imul C dR_untell_39 ?_
    refine g_iadd C dR_untell_40 ?_
    refine g_iconst C dR_untell_41 ?_
    refine g_iast C (n := 536) dR_untell_42 rfl (by decide) h.1 ?_
    replace h := h.2
    refine g_memname (fun M42 hM42 => ?_)
    replace h := h M42 hM42
    refine g_iload_n C dR_untell_43 rfl ?_
    exact hR _ _ _ _ dR_untell_44 rfl h
  refine g_locals (lv' := [(0, .ref (ad 0)), (1, iv a1)]) rfl ?_
  unfold w_Runtell at h
  refine g_iload_n C dR_untell_0 rfl ?_
  refine g_iconst C dR_untell_1 ?_
  refine g_iconst C dR_untell_2 ?_
  refine g_callSi C (nargs := 3) (st := []) (m_Rin hci h) gd_in (by decide +kernel) ⟨rfl, rfl⟩ dR_untell_3 ⟨by decide, by decide⟩ rfl rfl (Nat.le_of_ble_eq_true rfl) ?_
  intro r3c M3 hN
  replace h := hN
  clear hN
  refine g_if_ne C 15 dR_untell_6 (by decide) (fun hc => ?_) (fun hc => ?_)
  · replace h := h.1 hc
    refine g_aload_n C dR_untell_15 rfl ?_
    refine g_iload_n C dR_untell_16 rfl ?_
    refine g_callVi C (nargs := 1) (o := 0) (st := []) (m_RhasText hci h) rfl (by decide) hci rfl gd_hasText (by decide +kernel) ⟨rfl, rfl⟩ dR_untell_17 ⟨by decide, by decide⟩ rfl rfl (Nat.le_of_ble_eq_true rfl) ?_
    intro r17c M17 hN
    replace h := hN
    clear hN
    refine g_if_eq C 27 dR_untell_20 (by decide) (fun hc => ?_) (fun hc => ?_)
    · replace h := h.1 hc
      refine g_iconst C dR_untell_27 ?_
      refine g_locals (lv' := [(0, .ref (ad 0)), (1, iv a1)]) rfl ?_
      exact pB28 _ _ h
    · replace h := h.2 hc
      refine g_iconst C dR_untell_23 ?_
      refine g_goto C 28 dR_untell_24 (by decide) ?_
      refine g_locals (lv' := [(0, .ref (ad 0)), (1, iv a1)]) rfl ?_
      exact pB28 _ _ h
  · replace h := h.2 hc
    refine g_aload_n C dR_untell_9 rfl ?_
    refine g_iconst C dR_untell_10 ?_
    refine g_callVi C (nargs := 1) (o := 0) (st := []) (m_Rerror hci h) rfl (by decide) hci rfl gd_error (by decide +kernel) ⟨rfl, rfl⟩ dR_untell_11 ⟨by decide, by decide⟩ rfl rfl (Nat.le_of_ble_eq_true rfl) ?_
    intro r11c M11 hN
    replace h := hN
    clear hN
    exact hR _ _ _ _ dR_untell_14 rfl h
def w_RisClaim (a1 : Int) (M : gSt) (k : Int → gSt → Prop) : Prop :=
w_Rin a1 0 ((M 1 2) - 1) M (fun r10c M10 => (r10c = 0 ∨ r10c = 1) ∧ (k r10c M10))
set_option maxHeartbeats 4000000 in
set_option maxRecDepth 100000 in
theorem m_RisClaim {l : Launch} {D : va_G} {cl : List vw_C} {tys : List (ClassId × FieldType)} {ad : Nat → Nat} {cI : ClassId} {ci : Nat} {Z : (Nat → Prop) → State → Prop} (hci : cl[ci]? = some (RX9, TX9, 23)) {a1 : Int} {M : gSt} {k : Int → gSt → Prop} (h : w_RisClaim a1 M k) : MOi l yX9_isClaim cX9_isClaim 2 .boolean (rmR 1 22) D cl ((cI, .int) :: tys) (wR ad cI ci) tR Z [.ref (ad 0), iv a1] M k := by
  refine moi_intro (by decide +kernel) (Nat.le_of_ble_eq_true rfl) wi_166 ?_
  intro p e s m args below meth c A Q C hR
  refine g_locals (lv' := [(0, .ref (ad 0)), (1, iv a1)]) rfl ?_
  unfold w_RisClaim at h
  refine g_iload_n C dR_isClaim_0 rfl ?_
  refine g_iconst C dR_isClaim_1 ?_
  refine g_aload_n C dR_isClaim_2 rfl ?_
  refine rf_s C hci dR_isClaim_3 ?_
  refine g_iconst C dR_isClaim_6 ?_
  refine g_iald C (n := 536) dR_isClaim_7 rfl (by decide) ⟨by decide, by decide⟩ ?_
  refine g_iconst C dR_isClaim_8 ?_
  refine g_isub C dR_isClaim_9 ?_
  refine g_callSi C (nargs := 3) (st := []) (m_Rin hci h) gd_in (by decide +kernel) ⟨rfl, rfl⟩ dR_isClaim_10 ⟨by decide, by decide⟩ rfl rfl (Nat.le_of_ble_eq_true rfl) ?_
  intro r10c M10 hN
  replace h := hN
  clear hN
  exact hR _ _ _ _ dR_isClaim_13 (zn_bool h.1).1 h.2
def w_Rof (a1 : Int) (a2 : Int) (M : gSt) (k : Int → gSt → Prop) : Prop :=
(0 ≤ (140 + (2 * a1)) + a2 ∧ (140 + (2 * a1)) + a2 < 536) ∧ (k (M 1 ((140 + (2 * a1)) + a2)) M)
set_option maxHeartbeats 4000000 in
set_option maxRecDepth 100000 in
theorem m_Rof {l : Launch} {D : va_G} {cl : List vw_C} {tys : List (ClassId × FieldType)} {ad : Nat → Nat} {cI : ClassId} {ci : Nat} {Z : (Nat → Prop) → State → Prop} (hci : cl[ci]? = some (RX9, TX9, 23)) {a1 : Int} {a2 : Int} {M : gSt} {k : Int → gSt → Prop} (h : w_Rof a1 a2 M k) : MOi l yX9_of cX9_of 3 .int (rmR 0 0) D cl ((cI, .int) :: tys) (wR ad cI ci) tR Z [.ref (ad 0), iv a1, iv a2] M k := by
  refine moi_intro (by decide +kernel) (Nat.le_of_ble_eq_true rfl) wi_167 ?_
  intro p e s m args below meth c A Q C hR
  refine g_locals (lv' := [(0, .ref (ad 0)), (1, iv a1), (2, iv a2)]) rfl ?_
  unfold w_Rof at h
  refine g_aload_n C dR_of_0 rfl ?_
  refine rf_s C hci dR_of_1 ?_
  refine g_sipush C dR_of_4 rfl ?_
  refine g_iconst C dR_of_7 ?_
  refine g_iload_n C dR_of_8 rfl ?_
  refine g_imul C dR_of_9 ?_
  refine g_iadd C dR_of_10 ?_
  refine g_iload_n C dR_of_11 rfl ?_
  refine g_iadd C dR_of_12 ?_
  refine g_iald C (n := 536) dR_of_13 rfl (by decide) h.1 ?_
  replace h := h.2
  exact hR _ _ _ _ dR_of_14 rfl h
def wB_RmanyOn_30 (a1 : Int) (k : Int → gSt → Prop) (r4 : Int → Int → gSt → Prop) (X4_38 : Int → gSt → Prop) (v3 : Int) (s0 : Int) (s1 : Int) (M : gSt) : Prop :=
∀ x2_31 : Int, x2_31 = s1 + s0 → (r4 x2_31 (v3 + 1) M)
def wC_RmanyOn_4 (a1 : Int) (k : Int → gSt → Prop) (r4 : Int → Int → gSt → Prop) (X4_38 : Int → gSt → Prop) (v2 : Int) (v3 : Int) (M : gSt) : Prop :=

  (wrap (M 1 2) ≤ wrap v3 →
    X4_38 v2 M) ∧
  (wrap v3 < wrap (M 1 2) →
    w_Rof v3 0 M (fun r18c M18 => 
    (¬ wrap r18c = wrap a1 →
      wB_RmanyOn_30 a1 k r4 X4_38 v3 0 v2 M18) ∧
    (wrap r18c = wrap a1 →
      wB_RmanyOn_30 a1 k r4 X4_38 v3 1 v2 M18)))
def wL_RmanyOn_4 (a1 : Int) (k : Int → gSt → Prop)  (X4_38 : Int → gSt → Prop) : Nat → Int → Int → gSt → Prop
  | 0 => fun _ _ _ => False
  | n + 1 => fun v2 v3 M => wC_RmanyOn_4 a1 k  (wL_RmanyOn_4 a1 k  X4_38 n) X4_38 v2 v3 M
def w_RmanyOn (a1 : Int) (M : gSt) (k : Int → gSt → Prop) : Prop :=
∃ n, wL_RmanyOn_4 a1 k  (fun u2_4 M4 =>
    k u2_4 M4) n 0 0 M
set_option maxHeartbeats 4000000 in
set_option maxRecDepth 100000 in
theorem m_RmanyOn {l : Launch} {D : va_G} {cl : List vw_C} {tys : List (ClassId × FieldType)} {ad : Nat → Nat} {cI : ClassId} {ci : Nat} {Z : (Nat → Prop) → State → Prop} (hci : cl[ci]? = some (RX9, TX9, 23)) {a1 : Int} {M : gSt} {k : Int → gSt → Prop} (h : w_RmanyOn a1 M k) : MOi l yX9_manyOn cX9_manyOn 4 .int (rmR 1 22) D cl ((cI, .int) :: tys) (wR ad cI ci) tR Z [.ref (ad 0), iv a1] M k := by
  refine moi_intro (by decide +kernel) (Nat.le_of_ble_eq_true rfl) wi_171 ?_
  intro p e s m args below meth c A Q C hR
  have pB30 : ∀ (r4 : Int → Int → gSt → Prop) (X4_38 : Int → gSt → Prop) (hr4 : ∀ (v2 : Int) (v3 : Int) (M : gSt), r4 v2 v3 M → gG p l e (rmR 1 22) s m args below meth c Q D cl A (wR ad cI ci) 4 4 [(0, .ref (ad 0)), (1, iv a1), (2, iv v2), (3, iv v3)] [] M) (hX4_38 : ∀ (v2 : Int) (M : gSt), X4_38 v2 M → gG p l e (rmR 1 22) s m args below meth c Q D cl A (wR ad cI ci) 4 38 [(2, iv v2)] [] M) (v3 : Int) (s0 : Int) (s1 : Int) (M : gSt), wB_RmanyOn_30 a1 k r4 X4_38 v3 s0 s1 M → gG p l e (rmR 1 22) s m args below meth c Q D cl A (wR ad cI ci) 4 30 [(0, .ref (ad 0)), (1, iv a1), (3, iv v3)] [iv s0, iv s1] M := by
    intro r4 X4_38 hr4 hX4_38 v3 s0 s1 M h
    unfold wB_RmanyOn_30 at h
    refine g_iadd C dR_manyOn_30 ?_
    refine g_name (fun x2_31 hx2_31 => ?_)
    replace h := h x2_31 hx2_31
    refine g_istore_n C dR_manyOn_31 (by decide) rfl ?_
    refine g_locals (lv' := [(0, .ref (ad 0)), (1, iv a1), (2, iv x2_31), (3, iv v3)]) rfl ?_
    refine g_iinc C dR_manyOn_32 rfl (by decide) rfl ?_
    refine g_locals (lv' := [(0, .ref (ad 0)), (1, iv a1), (2, iv x2_31), (3, iv (v3 + 1))]) rfl ?_
    refine g_goto C 4 dR_manyOn_35 (by decide) ?_
    refine g_locals (lv' := [(0, .ref (ad 0)), (1, iv a1), (2, iv x2_31), (3, iv (v3 + 1))]) rfl ?_
    exact hr4 _ _  _ h
  have pC4 : ∀ (r4 : Int → Int → gSt → Prop) (X4_38 : Int → gSt → Prop) (hr4 : ∀ (v2 : Int) (v3 : Int) (M : gSt), r4 v2 v3 M → gG p l e (rmR 1 22) s m args below meth c Q D cl A (wR ad cI ci) 4 4 [(0, .ref (ad 0)), (1, iv a1), (2, iv v2), (3, iv v3)] [] M) (hX4_38 : ∀ (v2 : Int) (M : gSt), X4_38 v2 M → gG p l e (rmR 1 22) s m args below meth c Q D cl A (wR ad cI ci) 4 38 [(2, iv v2)] [] M) (v2 : Int) (v3 : Int) (M : gSt), wC_RmanyOn_4 a1 k r4 X4_38 v2 v3 M → gG p l e (rmR 1 22) s m args below meth c Q D cl A (wR ad cI ci) 4 4 [(0, .ref (ad 0)), (1, iv a1), (2, iv v2), (3, iv v3)] [] M := by
    intro r4 X4_38 hr4 hX4_38 v2 v3 M h
    unfold wC_RmanyOn_4 at h
    refine g_iload_n C dR_manyOn_4 rfl ?_
    refine g_aload_n C dR_manyOn_5 rfl ?_
    refine rf_s C hci dR_manyOn_6 ?_
    refine g_iconst C dR_manyOn_9 ?_
    refine g_iald C (n := 536) dR_manyOn_10 rfl (by decide) ⟨by decide, by decide⟩ ?_
    refine g_icmp_ge C 38 dR_manyOn_11 (by decide) (fun hc => ?_) (fun hc => ?_)
    · replace h := h.1 hc
      refine g_locals (lv' := [(2, iv v2)]) rfl ?_
      exact hX4_38 _  _ h
    · replace h := h.2 hc
      refine g_iload_n C dR_manyOn_14 rfl ?_
      refine g_aload_n C dR_manyOn_15 rfl ?_
      refine g_iload_n C dR_manyOn_16 rfl ?_
      refine g_iconst C dR_manyOn_17 ?_
      refine g_callVi C (nargs := 2) (o := 0) (st := [iv v2]) (m_Rof hci h) rfl (by decide) hci rfl gd_of (by decide +kernel) ⟨rfl, rfl⟩ dR_manyOn_18 ⟨by decide, by decide⟩ rfl rfl (Nat.le_of_ble_eq_true rfl) ?_
      intro r18c M18 hN
      replace h := hN
      clear hN
      refine g_iload_n C dR_manyOn_21 rfl ?_
      refine g_icmp_ne C 29 dR_manyOn_22 (by decide) (fun hc => ?_) (fun hc => ?_)
      · replace h := h.1 hc
        refine g_iconst C dR_manyOn_29 ?_
        refine g_locals (lv' := [(0, .ref (ad 0)), (1, iv a1), (3, iv v3)]) rfl ?_
        exact pB30 r4 X4_38 hr4 hX4_38 _ _ _ _ h
      · replace h := h.2 hc
        refine g_iconst C dR_manyOn_25 ?_
        refine g_goto C 30 dR_manyOn_26 (by decide) ?_
        refine g_locals (lv' := [(0, .ref (ad 0)), (1, iv a1), (3, iv v3)]) rfl ?_
        exact pB30 r4 X4_38 hr4 hX4_38 _ _ _ _ h
  have pL4 : ∀  (X4_38 : Int → gSt → Prop) (hX4_38 : ∀ (v2 : Int) (M : gSt), X4_38 v2 M → gG p l e (rmR 1 22) s m args below meth c Q D cl A (wR ad cI ci) 4 38 [(2, iv v2)] [] M) (n : Nat) (v2 : Int) (v3 : Int) (M : gSt), wL_RmanyOn_4 a1 k  X4_38 n v2 v3 M → gG p l e (rmR 1 22) s m args below meth c Q D cl A (wR ad cI ci) 4 4 [(0, .ref (ad 0)), (1, iv a1), (2, iv v2), (3, iv v3)] [] M := by
    intro  X4_38 hX4_38 n
    induction n with
    | zero => intro v2 v3 M h; exact h.elim
    | succ n ih =>
      intro v2 v3 M h
      exact pC4  (wL_RmanyOn_4 a1 k  X4_38 n) X4_38 ih hX4_38 v2 v3 M h
  refine g_locals (lv' := [(0, .ref (ad 0)), (1, iv a1)]) rfl ?_
  unfold w_RmanyOn at h
  refine g_iconst C dR_manyOn_0 ?_
  refine g_istore_n C dR_manyOn_1 (by decide) rfl ?_
  refine g_locals (lv' := [(0, .ref (ad 0)), (1, iv a1), (2, iv 0)]) rfl ?_
  refine g_iconst C dR_manyOn_2 ?_
  refine g_istore_n C dR_manyOn_3 (by decide) rfl ?_
  refine g_locals (lv' := [(0, .ref (ad 0)), (1, iv a1), (2, iv 0), (3, iv 0)]) rfl ?_
  refine g_locals (lv' := [(0, .ref (ad 0)), (1, iv a1), (2, iv 0), (3, iv 0)]) rfl ?_
  obtain ⟨n, h⟩ := h
  refine pL4 _ ?_ n _ _ _ h
  · intro u2_4 M4 hN
    replace h := hN
    clear hN
    refine g_iload_n C dR_manyOn_38 rfl ?_
    exact hR _ _ _ _ dR_manyOn_39 rfl h
def w_Rcounts (a1 : Int) (M : gSt) (k : Int → gSt → Prop) : Prop :=
w_Rof a1 1 M (fun r3c M3 => w_RhasText 1 M3 (fun r9c M9 => 
  (¬ wrap r9c = 0 →
    ∀ M24 : gSt, M24 = wr M9 6 99 r3c → (w_Rof a1 0 M24 (fun r35c M35 => w_Rits r35c 2 M35 (fun r39c M39 => ∀ M42 : gSt, M42 = wr M39 6 103 r39c → (w_Rof a1 0 M42 (fun r53c M53 => w_RmanyOn r53c M53 (fun r56c M56 => ∀ M59 : gSt, M59 = wr M56 6 110 r56c → (w_Rworked 1 M59 (fun r62c M62 => w_Rheld r62c 0 r3c M62 (fun r67c M67 => k r67c M67)))))))))) ∧
  (wrap r9c = 0 →
    k r3c M9)))
set_option maxHeartbeats 4000000 in
set_option maxRecDepth 100000 in
theorem m_Rcounts {l : Launch} {D : va_G} {cl : List vw_C} {tys : List (ClassId × FieldType)} {ad : Nat → Nat} {cI : ClassId} {ci : Nat} {Z : (Nat → Prop) → State → Prop} (hci : cl[ci]? = some (RX9, TX9, 23)) {a1 : Int} {M : gSt} {k : Int → gSt → Prop} (h : w_Rcounts a1 M k) : MOi l yX9_counts cX9_counts 3 .int (rmR 2 48) D cl ((cI, .int) :: tys) (wR ad cI ci) tR Z [.ref (ad 0), iv a1] M k := by
  refine moi_intro (by decide +kernel) (Nat.le_of_ble_eq_true rfl) wi_175 ?_
  intro p e s m args below meth c A Q C hR
  refine g_locals (lv' := [(0, .ref (ad 0)), (1, iv a1)]) rfl ?_
  unfold w_Rcounts at h
  refine g_aload_n C dR_counts_0 rfl ?_
  refine g_iload_n C dR_counts_1 rfl ?_
  refine g_iconst C dR_counts_2 ?_
  refine g_callVi C (nargs := 2) (o := 0) (st := []) (m_Rof hci h) rfl (by decide) hci rfl gd_of (by decide +kernel) ⟨rfl, rfl⟩ dR_counts_3 ⟨by decide, by decide⟩ rfl rfl (Nat.le_of_ble_eq_true rfl) ?_
  intro r3c M3 hN
  replace h := hN
  clear hN
  refine g_istore_n C dR_counts_6 (by decide) rfl ?_
  refine g_locals (lv' := [(0, .ref (ad 0)), (1, iv a1), (2, iv r3c)]) rfl ?_
  refine g_aload_n C dR_counts_7 rfl ?_
  refine g_iconst C dR_counts_8 ?_
  refine g_callVi C (nargs := 1) (o := 0) (st := []) (m_RhasText hci h) rfl (by decide) hci rfl gd_hasText (by decide +kernel) ⟨rfl, rfl⟩ dR_counts_9 ⟨by decide, by decide⟩ rfl rfl (Nat.le_of_ble_eq_true rfl) ?_
  intro r9c M9 hN
  replace h := hN
  clear hN
  refine g_if_ne C 17 dR_counts_12 (by decide) (fun hc => ?_) (fun hc => ?_)
  · replace h := h.1 hc
    refine g_aload_n C dR_counts_17 rfl ?_
    refine rf_named C hci dR_counts_18 ?_
    refine g_bipush C dR_counts_21 rfl ?_
    refine g_iload_n C dR_counts_23 rfl ?_
    refine g_iast C (n := 128) dR_counts_24 rfl (by decide) ⟨by decide, by decide⟩ ?_
    refine g_memname (fun M24 hM24 => ?_)
    replace h := h M24 hM24
    refine g_aload_n C dR_counts_25 rfl ?_
    refine rf_named C hci dR_counts_26 ?_
    refine g_bipush C dR_counts_29 rfl ?_
    refine g_aload_n C dR_counts_31 rfl ?_
    refine g_aload_n C dR_counts_32 rfl ?_
    refine g_iload_n C dR_counts_33 rfl ?_
    refine g_iconst C dR_counts_34 ?_
    refine g_callVi C (nargs := 2) (o := 0) (st := [.ref (ad 0), iv 103, .ref (ad 6)]) (m_Rof hci h) rfl (by decide) hci rfl gd_of (by decide +kernel) ⟨rfl, rfl⟩ dR_counts_35 ⟨by decide, by decide⟩ rfl rfl (Nat.le_of_ble_eq_true rfl) ?_
    intro r35c M35 hN
    replace h := hN
    clear hN
    refine g_iconst C dR_counts_38 ?_
    refine g_callVi C (nargs := 2) (o := 0) (st := [iv 103, .ref (ad 6)]) (m_Rits hci h) rfl (by decide) hci rfl gd_its (by decide +kernel) ⟨rfl, rfl⟩ dR_counts_39 ⟨by decide, by decide⟩ rfl rfl (Nat.le_of_ble_eq_true rfl) ?_
    intro r39c M39 hN
    replace h := hN
    clear hN
    refine g_iast C (n := 128) dR_counts_42 rfl (by decide) ⟨by decide, by decide⟩ ?_
    refine g_memname (fun M42 hM42 => ?_)
    replace h := h M42 hM42
    refine g_aload_n C dR_counts_43 rfl ?_
    refine rf_named C hci dR_counts_44 ?_
    refine g_bipush C dR_counts_47 rfl ?_
    refine g_aload_n C dR_counts_49 rfl ?_
    refine g_aload_n C dR_counts_50 rfl ?_
    refine g_iload_n C dR_counts_51 rfl ?_
    refine g_iconst C dR_counts_52 ?_
    refine g_callVi C (nargs := 2) (o := 0) (st := [.ref (ad 0), iv 110, .ref (ad 6)]) (m_Rof hci h) rfl (by decide) hci rfl gd_of (by decide +kernel) ⟨rfl, rfl⟩ dR_counts_53 ⟨by decide, by decide⟩ rfl rfl (Nat.le_of_ble_eq_true rfl) ?_
    intro r53c M53 hN
    replace h := hN
    clear hN
    refine g_callVi C (nargs := 1) (o := 0) (st := [iv 110, .ref (ad 6)]) (m_RmanyOn hci h) rfl (by decide) hci rfl gd_manyOn (by decide +kernel) ⟨rfl, rfl⟩ dR_counts_56 ⟨by decide, by decide⟩ rfl rfl (Nat.le_of_ble_eq_true rfl) ?_
    intro r56c M56 hN
    replace h := hN
    clear hN
    refine g_iast C (n := 128) dR_counts_59 rfl (by decide) ⟨by decide, by decide⟩ ?_
    refine g_memname (fun M59 hM59 => ?_)
    replace h := h M59 hM59
    refine g_aload_n C dR_counts_60 rfl ?_
    refine g_iconst C dR_counts_61 ?_
    refine g_callVi C (nargs := 1) (o := 0) (st := []) (m_Rworked hci h) rfl (by decide) hci rfl gd_worked (by decide +kernel) ⟨rfl, rfl⟩ dR_counts_62 ⟨by decide, by decide⟩ rfl rfl (Nat.le_of_ble_eq_true rfl) ?_
    intro r62c M62 hN
    replace h := hN
    clear hN
    refine g_iconst C dR_counts_65 ?_
    refine g_iload_n C dR_counts_66 rfl ?_
    refine g_callSi C (nargs := 3) (st := []) (m_Rheld hci h) gd_held (by decide +kernel) ⟨rfl, rfl⟩ dR_counts_67 ⟨by decide, by decide⟩ rfl rfl (Nat.le_of_ble_eq_true rfl) ?_
    intro r67c M67 hN
    replace h := hN
    clear hN
    exact hR _ _ _ _ dR_counts_70 rfl h
  · replace h := h.2 hc
    refine g_iload_n C dR_counts_15 rfl ?_
    exact hR _ _ _ _ dR_counts_16 rfl h
def wB_Rclaim_18 (a1 : Int) (a2 : Int) (k : Int → gSt → Prop)   (M : gSt) : Prop :=
w_Rerror 1 M (fun r20c M20 => k r20c M20)
def w_Rclaim (a1 : Int) (a2 : Int) (M : gSt) (k : Int → gSt → Prop) : Prop :=
w_RisThing a1 M (fun r2c M2 => 
  (wrap r2c = 0 →
    wB_Rclaim_18 a1 a2 k   M2) ∧
  (¬ wrap r2c = 0 →
    w_Rin a2 1 99999 M2 (fun r12c M12 => 
    (¬ wrap r12c = 0 →

      (¬ wrap (M12 1 2) = 10 →
        (0 ≤ 140 + (2 * (M12 1 2)) ∧ 140 + (2 * (M12 1 2)) < 536) ∧ (∀ M58 : gSt, M58 = wr M12 1 (140 + (2 * (M12 1 2))) a1 → ((0 ≤ (140 + (2 * (M58 1 2))) + 1 ∧ (140 + (2 * (M58 1 2))) + 1 < 536) ∧ (∀ M78 : gSt, M78 = wr M58 1 ((140 + (2 * (M58 1 2))) + 1) a2 → (∀ M88 : gSt, M88 = wr M78 1 2 ((M78 1 2) + 1) → (k ((M88 1 2) - 1) M88)))))) ∧
      (wrap (M12 1 2) = 10 →
        w_Rerror 4 M12 (fun r37c M37 => k r37c M37))) ∧
    (wrap r12c = 0 →
      wB_Rclaim_18 a1 a2 k   M12))))
set_option maxHeartbeats 4000000 in
set_option maxRecDepth 100000 in
theorem m_Rclaim {l : Launch} {D : va_G} {cl : List vw_C} {tys : List (ClassId × FieldType)} {ad : Nat → Nat} {cI : ClassId} {ci : Nat} {Z : (Nat → Prop) → State → Prop} (hci : cl[ci]? = some (RX9, TX9, 23)) {a1 : Int} {a2 : Int} {M : gSt} {k : Int → gSt → Prop} (h : w_Rclaim a1 a2 M k) : MOi l yX9_claim cX9_claim 3 .int (rmR 2 43) D cl ((cI, .int) :: tys) (wR ad cI ci) tR Z [.ref (ad 0), iv a1, iv a2] M k := by
  refine moi_intro (by decide +kernel) (Nat.le_of_ble_eq_true rfl) wi_177 ?_
  intro p e s m args below meth c A Q C hR
  have pB18 : ∀    (M : gSt), wB_Rclaim_18 a1 a2 k   M → gG p l e (rmR 2 43) s m args below meth c Q D cl A (wR ad cI ci) 3 18 [(0, .ref (ad 0))] [] M := by
    intro    M h
    unfold wB_Rclaim_18 at h
    refine g_aload_n C dR_claim_18 rfl ?_
    refine g_iconst C dR_claim_19 ?_
    refine g_callVi C (nargs := 1) (o := 0) (st := []) (m_Rerror hci h) rfl (by decide) hci rfl gd_error (by decide +kernel) ⟨rfl, rfl⟩ dR_claim_20 ⟨by decide, by decide⟩ rfl rfl (Nat.le_of_ble_eq_true rfl) ?_
    intro r20c M20 hN
    replace h := hN
    clear hN
    exact hR _ _ _ _ dR_claim_23 rfl h
  refine g_locals (lv' := [(0, .ref (ad 0)), (1, iv a1), (2, iv a2)]) rfl ?_
  unfold w_Rclaim at h
  refine g_aload_n C dR_claim_0 rfl ?_
  refine g_iload_n C dR_claim_1 rfl ?_
  refine g_callVi C (nargs := 1) (o := 0) (st := []) (m_RisThing hci h) rfl (by decide) hci rfl gd_isThing (by decide +kernel) ⟨rfl, rfl⟩ dR_claim_2 ⟨by decide, by decide⟩ rfl rfl (Nat.le_of_ble_eq_true rfl) ?_
  intro r2c M2 hN
  replace h := hN
  clear hN
  refine g_if_eq C 18 dR_claim_5 (by decide) (fun hc => ?_) (fun hc => ?_)
  · replace h := h.1 hc
    refine g_locals (lv' := [(0, .ref (ad 0))]) rfl ?_
    exact pB18  _ h
  · replace h := h.2 hc
    refine g_iload_n C dR_claim_8 rfl ?_
    refine g_iconst C dR_claim_9 ?_
    refine g_ldc C 99999 wi_176 rfl dR_claim_10 ?_
    refine g_callSi C (nargs := 3) (st := []) (m_Rin hci h) gd_in (by decide +kernel) ⟨rfl, rfl⟩ dR_claim_12 ⟨by decide, by decide⟩ rfl rfl (Nat.le_of_ble_eq_true rfl) ?_
    intro r12c M12 hN
    replace h := hN
    clear hN
    refine g_if_ne C 24 dR_claim_15 (by decide) (fun hc => ?_) (fun hc => ?_)
    · replace h := h.1 hc
      refine g_aload_n C dR_claim_24 rfl ?_
      refine rf_s C hci dR_claim_25 ?_
      refine g_iconst C dR_claim_28 ?_
      refine g_iald C (n := 536) dR_claim_29 rfl (by decide) ⟨by decide, by decide⟩ ?_
      refine g_bipush C dR_claim_30 rfl ?_
      refine g_icmp_ne C 41 dR_claim_32 (by decide) (fun hc => ?_) (fun hc => ?_)
      · replace h := h.1 hc
        refine g_aload_n C dR_claim_41 rfl ?_
        refine rf_s C hci dR_claim_42 ?_
        refine g_sipush C dR_claim_45 rfl ?_
        refine g_iconst C dR_claim_48 ?_
        refine g_aload_n C dR_claim_49 rfl ?_
        refine rf_s C hci dR_claim_50 ?_
        refine g_iconst C dR_claim_53 ?_
        refine g_iald C (n := 536) dR_claim_54 rfl (by decide) ⟨by decide, by decide⟩ ?_
        refine g_imul C dR_claim_55 ?_
        refine g_iadd C dR_claim_56 ?_
        refine g_iload_n C dR_claim_57 rfl ?_
        refine g_iast C (n := 536) dR_claim_58 rfl (by decide) h.1 ?_
        replace h := h.2
        refine g_memname (fun M58 hM58 => ?_)
        replace h := h M58 hM58
        refine g_aload_n C dR_claim_59 rfl ?_
        refine rf_s C hci dR_claim_60 ?_
        refine g_sipush C dR_claim_63 rfl ?_
        refine g_iconst C dR_claim_66 ?_
        refine g_aload_n C dR_claim_67 rfl ?_
        refine rf_s C hci dR_claim_68 ?_
        refine g_iconst C dR_claim_71 ?_
        refine g_iald C (n := 536) dR_claim_72 rfl (by decide) ⟨by decide, by decide⟩ ?_
        refine g_imul C dR_claim_73 ?_
        refine g_iadd C dR_claim_74 ?_
        refine g_iconst C dR_claim_75 ?_
        refine g_iadd C dR_claim_76 ?_
        refine g_iload_n C dR_claim_77 rfl ?_
        refine g_iast C (n := 536) dR_claim_78 rfl (by decide) h.1 ?_
        replace h := h.2
        refine g_memname (fun M78 hM78 => ?_)
        replace h := h M78 hM78
        refine g_aload_n C dR_claim_79 rfl ?_
        refine rf_s C hci dR_claim_80 ?_
        refine g_iconst C dR_claim_83 ?_
        refine g_dup2 C dR_claim_84 rfl rfl ?_
        refine g_iald C (n := 536) dR_claim_85 rfl (by decide) ⟨by decide, by decide⟩ ?_
        refine g_iconst C dR_claim_86 ?_
        refine g_iadd C dR_claim_87 ?_
        refine g_iast C (n := 536) dR_claim_88 rfl (by decide) ⟨by decide, by decide⟩ ?_
        refine g_memname (fun M88 hM88 => ?_)
        replace h := h M88 hM88
        refine g_aload_n C dR_claim_89 rfl ?_
        refine rf_s C hci dR_claim_90 ?_
        refine g_iconst C dR_claim_93 ?_
        refine g_iald C (n := 536) dR_claim_94 rfl (by decide) ⟨by decide, by decide⟩ ?_
        refine g_iconst C dR_claim_95 ?_
        refine g_isub C dR_claim_96 ?_
        exact hR _ _ _ _ dR_claim_97 rfl h
      · replace h := h.2 hc
        refine g_aload_n C dR_claim_35 rfl ?_
        refine g_iconst C dR_claim_36 ?_
        refine g_callVi C (nargs := 1) (o := 0) (st := []) (m_Rerror hci h) rfl (by decide) hci rfl gd_error (by decide +kernel) ⟨rfl, rfl⟩ dR_claim_37 ⟨by decide, by decide⟩ rfl rfl (Nat.le_of_ble_eq_true rfl) ?_
        intro r37c M37 hN
        replace h := hN
        clear hN
        exact hR _ _ _ _ dR_claim_40 rfl h
    · replace h := h.2 hc
      refine g_locals (lv' := [(0, .ref (ad 0))]) rfl ?_
      exact pB18  _ h
