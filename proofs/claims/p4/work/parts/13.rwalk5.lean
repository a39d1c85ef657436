def wB_RclaimIs_17 (a1 : Int) (a2 : Int) (k : Int → gSt → Prop)   (M : gSt) : Prop :=
w_Rerror 1 M (fun r19c M19 => k r19c M19)
def w_RclaimIs (a1 : Int) (a2 : Int) (M : gSt) (k : Int → gSt → Prop) : Prop :=
w_RisClaim a1 M (fun r2c M2 => 
  (wrap r2c = 0 →
    wB_RclaimIs_17 a1 a2 k   M2) ∧
  (¬ wrap r2c = 0 →
    w_Rin a2 0 2 M2 (fun r11c M11 => 
    (¬ wrap r11c = 0 →

      (¬ wrap a2 = 2 →
        w_Rof a1 a2 M11 (fun r39c M39 => k r39c M39)) ∧
      (wrap a2 = 2 →
        w_Rcounts a1 M11 (fun r30c M30 => k r30c M30))) ∧
    (wrap r11c = 0 →
      wB_RclaimIs_17 a1 a2 k   M11))))
set_option maxHeartbeats 4000000 in
set_option maxRecDepth 100000 in
theorem m_RclaimIs {l : Launch} {D : va_G} {cl : List vw_C} {tys : List (ClassId × FieldType)} {ad : Nat → Nat} {cI : ClassId} {ci : Nat} {Z : (Nat → Prop) → State → Prop} (hci : cl[ci]? = some (RX9, TX9, 23)) {a1 : Int} {a2 : Int} {M : gSt} {k : Int → gSt → Prop} (h : w_RclaimIs a1 a2 M k) : MOi l yX9_claimIs cX9_claimIs 3 .int (rmR 3 70) D cl ((cI, .int) :: tys) (wR ad cI ci) tR Z [.ref (ad 0), iv a1, iv a2] M k := by
  refine moi_intro (by decide +kernel) (Nat.le_of_ble_eq_true rfl) wi_184 ?_
  intro p e s m args below meth c A Q C hR
  have pB17 : ∀    (M : gSt), wB_RclaimIs_17 a1 a2 k   M → gG p l e (rmR 3 70) s m args below meth c Q D cl A (wR ad cI ci) 3 17 [(0, .ref (ad 0))] [] M := by
    intro    M h
    unfold wB_RclaimIs_17 at h
    refine g_aload_n C dR_claimIs_17 rfl ?_
    refine g_iconst C dR_claimIs_18 ?_
    refine g_callVi C (nargs := 1) (o := 0) (st := []) (m_Rerror hci h) rfl (by decide) hci rfl gd_error (by decide +kernel) ⟨rfl, rfl⟩ dR_claimIs_19 ⟨by decide, by decide⟩ rfl rfl (Nat.le_of_ble_eq_true rfl) ?_
    intro r19c M19 hN
    replace h := hN
    clear hN
    exact hR _ _ _ _ dR_claimIs_22 rfl h
  refine g_locals (lv' := [(0, .ref (ad 0)), (1, iv a1), (2, iv a2)]) rfl ?_
  unfold w_RclaimIs at h
  refine g_aload_n C dR_claimIs_0 rfl ?_
  refine g_iload_n C dR_claimIs_1 rfl ?_
  refine g_callVi C (nargs := 1) (o := 0) (st := []) (m_RisClaim hci h) rfl (by decide) hci rfl gd_isClaim (by decide +kernel) ⟨rfl, rfl⟩ dR_claimIs_2 ⟨by decide, by decide⟩ rfl rfl (Nat.le_of_ble_eq_true rfl) ?_
  intro r2c M2 hN
  replace h := hN
  clear hN
  refine g_if_eq C 17 dR_claimIs_5 (by decide) (fun hc => ?_) (fun hc => ?_)
  · replace h := h.1 hc
    refine g_locals (lv' := [(0, .ref (ad 0))]) rfl ?_
    exact pB17  _ h
  · replace h := h.2 hc
    refine g_iload_n C dR_claimIs_8 rfl ?_
    refine g_iconst C dR_claimIs_9 ?_
    refine g_iconst C dR_claimIs_10 ?_
    refine g_callSi C (nargs := 3) (st := []) (m_Rin hci h) gd_in (by decide +kernel) ⟨rfl, rfl⟩ dR_claimIs_11 ⟨by decide, by decide⟩ rfl rfl (Nat.le_of_ble_eq_true rfl) ?_
    intro r11c M11 hN
    replace h := hN
    clear hN
    refine g_if_ne C 23 dR_claimIs_14 (by decide) (fun hc => ?_) (fun hc => ?_)
    · replace h := h.1 hc
      refine g_iload_n C dR_claimIs_23 rfl ?_
      refine g_iconst C dR_claimIs_24 ?_
      refine g_icmp_ne C 36 dR_claimIs_25 (by decide) (fun hc => ?_) (fun hc => ?_)
      · replace h := h.1 hc
        refine g_aload_n C dR_claimIs_36 rfl ?_
        refine g_iload_n C dR_claimIs_37 rfl ?_
        refine g_iload_n C dR_claimIs_38 rfl ?_
        refine g_callVi C (nargs := 2) (o := 0) (st := []) (m_Rof hci h) rfl (by decide) hci rfl gd_of (by decide +kernel) ⟨rfl, rfl⟩ dR_claimIs_39 ⟨by decide, by decide⟩ rfl rfl (Nat.le_of_ble_eq_true rfl) ?_
        intro r39c M39 hN
        replace h := hN
        clear hN
        exact hR _ _ _ _ dR_claimIs_42 rfl h
      · replace h := h.2 hc
        refine g_aload_n C dR_claimIs_28 rfl ?_
        refine g_iload_n C dR_claimIs_29 rfl ?_
        refine g_callVi C (nargs := 1) (o := 0) (st := []) (m_Rcounts hci h) rfl (by decide) hci rfl gd_counts (by decide +kernel) ⟨rfl, rfl⟩ dR_claimIs_30 ⟨by decide, by decide⟩ rfl rfl (Nat.le_of_ble_eq_true rfl) ?_
        intro r30c M30 hN
        replace h := hN
        clear hN
        refine g_goto C 42 dR_claimIs_33 (by decide) ?_
        exact hR _ _ _ _ dR_claimIs_42 rfl h
    · replace h := h.2 hc
      refine g_locals (lv' := [(0, .ref (ad 0))]) rfl ?_
      exact pB17  _ h
def wB_RcountsBelow_33 (a1 : Int) (a2 : Int) (k : Int → gSt → Prop) (r5 : Int → Int → gSt → Prop) (X5_41 : Int → gSt → Prop) (v4 : Int) (s0 : Int) (s1 : Int) (M : gSt) : Prop :=
∀ x3_34 : Int, x3_34 = s1 + s0 → (r5 x3_34 (v4 + 1) M)
def wC_RcountsBelow_5 (a1 : Int) (a2 : Int) (k : Int → gSt → Prop) (r5 : Int → Int → gSt → Prop) (X5_41 : Int → gSt → Prop) (v3 : Int) (v4 : Int) (M : gSt) : Prop :=

  (wrap a2 ≤ wrap v4 →
    X5_41 v3 M) ∧
  (wrap v4 < wrap a2 →
    w_Rof v4 0 M (fun r16c M16 => 
    (¬ wrap r16c = wrap a1 →
      wB_RcountsBelow_33 a1 a2 k r5 X5_41 v4 0 v3 M16) ∧
    (wrap r16c = wrap a1 →
      w_Rcounts v4 M16 (fun r26c M26 => wB_RcountsBelow_33 a1 a2 k r5 X5_41 v4 r26c v3 M26))))
def wL_RcountsBelow_5 (a1 : Int) (a2 : Int) (k : Int → gSt → Prop)  (X5_41 : Int → gSt → Prop) : Nat → Int → Int → gSt → Prop
  | 0 => fun _ _ _ => False
  | n + 1 => fun v3 v4 M => wC_RcountsBelow_5 a1 a2 k  (wL_RcountsBelow_5 a1 a2 k  X5_41 n) X5_41 v3 v4 M
def w_RcountsBelow (a1 : Int) (a2 : Int) (M : gSt) (k : Int → gSt → Prop) : Prop :=
∃ n, wL_RcountsBelow_5 a1 a2 k  (fun u3_5 M5 =>
    k u3_5 M5) n 0 0 M
set_option maxHeartbeats 4000000 in
set_option maxRecDepth 100000 in
theorem m_RcountsBelow {l : Launch} {D : va_G} {cl : List vw_C} {tys : List (ClassId × FieldType)} {ad : Nat → Nat} {cI : ClassId} {ci : Nat} {Z : (Nat → Prop) → State → Prop} (hci : cl[ci]? = some (RX9, TX9, 23)) {a1 : Int} {a2 : Int} {M : gSt} {k : Int → gSt → Prop} (h : w_RcountsBelow a1 a2 M k) : MOi l yX9_countsBelow cX9_countsBelow 5 .int (rmR 3 70) D cl ((cI, .int) :: tys) (wR ad cI ci) tR Z [.ref (ad 0), iv a1, iv a2] M k := by
  refine moi_intro (by decide +kernel) (Nat.le_of_ble_eq_true rfl) wi_185 ?_
  intro p e s m args below meth c A Q C hR
  have pB33 : ∀ (r5 : Int → Int → gSt → Prop) (X5_41 : Int → gSt → Prop) (hr5 : ∀ (v3 : Int) (v4 : Int) (M : gSt), r5 v3 v4 M → gG p l e (rmR 3 70) s m args below meth c Q D cl A (wR ad cI ci) 5 5 [(0, .ref (ad 0)), (1, iv a1), (2, iv a2), (3, iv v3), (4, iv v4)] [] M) (hX5_41 : ∀ (v3 : Int) (M : gSt), X5_41 v3 M → gG p l e (rmR 3 70) s m args below meth c Q D cl A (wR ad cI ci) 5 41 [(3, iv v3)] [] M) (v4 : Int) (s0 : Int) (s1 : Int) (M : gSt), wB_RcountsBelow_33 a1 a2 k r5 X5_41 v4 s0 s1 M → gG p l e (rmR 3 70) s m args below meth c Q D cl A (wR ad cI ci) 5 33 [(0, .ref (ad 0)), (1, iv a1), (2, iv a2), (4, iv v4)] [iv s0, iv s1] M := by
    intro r5 X5_41 hr5 hX5_41 v4 s0 s1 M h
    unfold wB_RcountsBelow_33 at h
    refine g_iadd C dR_countsBelow_33 ?_
    refine g_name (fun x3_34 hx3_34 => ?_)
    replace h := h x3_34 hx3_34
    refine g_istore_n C dR_countsBelow_34 (by decide) rfl ?_
    refine g_locals (lv' := [(0, .ref (ad 0)), (1, iv a1), (2, iv a2), (3, iv x3_34), (4, iv v4)]) rfl ?_
    refine g_iinc C dR_countsBelow_35 rfl (by decide) rfl ?_
    refine g_locals (lv' := [(0, .ref (ad 0)), (1, iv a1), (2, iv a2), (3, iv x3_34), (4, iv (v4 + 1))]) rfl ?_
    refine g_goto C 5 dR_countsBelow_38 (by decide) ?_
    refine g_locals (lv' := [(0, .ref (ad 0)), (1, iv a1), (2, iv a2), (3, iv x3_34), (4, iv (v4 + 1))]) rfl ?_
    exact hr5 _ _  _ h
  have pC5 : ∀ (r5 : Int → Int → gSt → Prop) (X5_41 : Int → gSt → Prop) (hr5 : ∀ (v3 : Int) (v4 : Int) (M : gSt), r5 v3 v4 M → gG p l e (rmR 3 70) s m args below meth c Q D cl A (wR ad cI ci) 5 5 [(0, .ref (ad 0)), (1, iv a1), (2, iv a2), (3, iv v3), (4, iv v4)] [] M) (hX5_41 : ∀ (v3 : Int) (M : gSt), X5_41 v3 M → gG p l e (rmR 3 70) s m args below meth c Q D cl A (wR ad cI ci) 5 41 [(3, iv v3)] [] M) (v3 : Int) (v4 : Int) (M : gSt), wC_RcountsBelow_5 a1 a2 k r5 X5_41 v3 v4 M → gG p l e (rmR 3 70) s m args below meth c Q D cl A (wR ad cI ci) 5 5 [(0, .ref (ad 0)), (1, iv a1), (2, iv a2), (3, iv v3), (4, iv v4)] [] M := by
    intro r5 X5_41 hr5 hX5_41 v3 v4 M h
    unfold wC_RcountsBelow_5 at h
    refine g_iload C dR_countsBelow_5 rfl ?_
    refine g_iload_n C dR_countsBelow_7 rfl ?_
    refine g_icmp_ge C 41 dR_countsBelow_8 (by decide) (fun hc => ?_) (fun hc => ?_)
    · replace h := h.1 hc
      refine g_locals (lv' := [(3, iv v3)]) rfl ?_
      exact hX5_41 _  _ h
    · replace h := h.2 hc
      refine g_iload_n C dR_countsBelow_11 rfl ?_
      refine g_aload_n C dR_countsBelow_12 rfl ?_
      refine g_iload C dR_countsBelow_13 rfl ?_
      refine g_iconst C dR_countsBelow_15 ?_
      refine g_callVi C (nargs := 2) (o := 0) (st := [iv v3]) (m_Rof hci h) rfl (by decide) hci rfl gd_of (by decide +kernel) ⟨rfl, rfl⟩ dR_countsBelow_16 ⟨by decide, by decide⟩ rfl rfl (Nat.le_of_ble_eq_true rfl) ?_
      intro r16c M16 hN
      replace h := hN
      clear hN
      refine g_iload_n C dR_countsBelow_19 rfl ?_
      refine g_icmp_ne C 32 dR_countsBelow_20 (by decide) (fun hc => ?_) (fun hc => ?_)
      · replace h := h.1 hc
        refine g_iconst C dR_countsBelow_32 ?_
        refine g_locals (lv' := [(0, .ref (ad 0)), (1, iv a1), (2, iv a2), (4, iv v4)]) rfl ?_
        exact pB33 r5 X5_41 hr5 hX5_41 _ _ _ _ h
      · replace h := h.2 hc
        refine g_aload_n C dR_countsBelow_23 rfl ?_
        refine g_iload C dR_countsBelow_24 rfl ?_
        refine g_callVi C (nargs := 1) (o := 0) (st := [iv v3]) (m_Rcounts hci h) rfl (by decide) hci rfl gd_counts (by decide +kernel) ⟨rfl, rfl⟩ dR_countsBelow_26 ⟨by decide, by decide⟩ rfl rfl (Nat.le_of_ble_eq_true rfl) ?_
        intro r26c M26 hN
        replace h := hN
        clear hN
        refine g_goto C 33 dR_countsBelow_29 (by decide) ?_
        refine g_locals (lv' := [(0, .ref (ad 0)), (1, iv a1), (2, iv a2), (4, iv v4)]) rfl ?_
        exact pB33 r5 X5_41 hr5 hX5_41 _ _ _ _ h
  have pL5 : ∀  (X5_41 : Int → gSt → Prop) (hX5_41 : ∀ (v3 : Int) (M : gSt), X5_41 v3 M → gG p l e (rmR 3 70) s m args below meth c Q D cl A (wR ad cI ci) 5 41 [(3, iv v3)] [] M) (n : Nat) (v3 : Int) (v4 : Int) (M : gSt), wL_RcountsBelow_5 a1 a2 k  X5_41 n v3 v4 M → gG p l e (rmR 3 70) s m args below meth c Q D cl A (wR ad cI ci) 5 5 [(0, .ref (ad 0)), (1, iv a1), (2, iv a2), (3, iv v3), (4, iv v4)] [] M := by
    intro  X5_41 hX5_41 n
    induction n with
    | zero => intro v3 v4 M h; exact h.elim
    | succ n ih =>
      intro v3 v4 M h
      exact pC5  (wL_RcountsBelow_5 a1 a2 k  X5_41 n) X5_41 ih hX5_41 v3 v4 M h
  refine g_locals (lv' := [(0, .ref (ad 0)), (1, iv a1), (2, iv a2)]) rfl ?_
  unfold w_RcountsBelow at h
  refine g_iconst C dR_countsBelow_0 ?_
  refine g_istore_n C dR_countsBelow_1 (by decide) rfl ?_
  refine g_locals (lv' := [(0, .ref (ad 0)), (1, iv a1), (2, iv a2), (3, iv 0)]) rfl ?_
  refine g_iconst C dR_countsBelow_2 ?_
  refine g_istore C dR_countsBelow_3 (by decide) rfl ?_
  refine g_locals (lv' := [(0, .ref (ad 0)), (1, iv a1), (2, iv a2), (3, iv 0), (4, iv 0)]) rfl ?_
  refine g_locals (lv' := [(0, .ref (ad 0)), (1, iv a1), (2, iv a2), (3, iv 0), (4, iv 0)]) rfl ?_
  obtain ⟨n, h⟩ := h
  refine pL5 _ ?_ n _ _ _ h
  · intro u3_5 M5 hN
    replace h := hN
    clear hN
    refine g_iload_n C dR_countsBelow_41 rfl ?_
    exact hR _ _ _ _ dR_countsBelow_42 rfl h
def w_RshareOf (a1 : Int) (a2 : Int) (M : gSt) (k : Int → gSt → Prop) : Prop :=
w_Rof a1 0 M (fun r3c M3 => w_Rits r3c 2 M3 (fun r10c M10 => w_Rcounts a1 M10 (fun r17c M17 => 
  (¬ wrap a2 = 0 →

    (¬ wrap a2 = 1 →
      w_RcountsBelow r3c a1 M17 (fun r89c M89 => w_Rheld (r10c - r89c) 0 9999999 M89 (fun r96c M96 => w_Rheld r17c 0 r96c M96 (fun r99c M99 => k r99c M99)))) ∧
    (wrap a2 = 1 →
      w_RcountsBelow r3c (M17 1 2) M17 (fun r54c M54 => 
      (wrap r10c < wrap r54c →
        w_RpartOf r17c r10c r54c M54 (fun r77c M77 => k r77c M77)) ∧
      (wrap r54c ≤ wrap r10c →
        k r17c M54)))) ∧
  (wrap a2 = 0 →
    w_RmanyOn r3c M17 (fun r33c M33 => (wrap r33c ≠ 0) ∧ (w_Rheld r17c 0 (Int.tdiv (wrap r10c) (wrap r33c)) M33 (fun r37c M37 => k r37c M37)))))))
set_option maxHeartbeats 4000000 in
set_option maxRecDepth 100000 in
theorem m_RshareOf {l : Launch} {D : va_G} {cl : List vw_C} {tys : List (ClassId × FieldType)} {ad : Nat → Nat} {cI : ClassId} {ci : Nat} {Z : (Nat → Prop) → State → Prop} (hci : cl[ci]? = some (RX9, TX9, 23)) {a1 : Int} {a2 : Int} {M : gSt} {k : Int → gSt → Prop} (h : w_RshareOf a1 a2 M k) : MOi l yX9_shareOf cX9_shareOf 7 .int (rmR 4 94) D cl ((cI, .int) :: tys) (wR ad cI ci) tR Z [.ref (ad 0), iv a1, iv a2] M k := by
  refine moi_intro (by decide +kernel) (Nat.le_of_ble_eq_true rfl) wi_189 ?_
  intro p e s m args below meth c A Q C hR
  refine g_locals (lv' := [(0, .ref (ad 0)), (1, iv a1), (2, iv a2)]) rfl ?_
  unfold w_RshareOf at h
  refine g_aload_n C dR_shareOf_0 rfl ?_
  refine g_iload_n C dR_shareOf_1 rfl ?_
  refine g_iconst C dR_shareOf_2 ?_
  refine g_callVi C (nargs := 2) (o := 0) (st := []) (m_Rof hci h) rfl (by decide) hci rfl gd_of (by decide +kernel) ⟨rfl, rfl⟩ dR_shareOf_3 ⟨by decide, by decide⟩ rfl rfl (Nat.le_of_ble_eq_true rfl) ?_
  intro r3c M3 hN
  replace h := hN
  clear hN
  refine g_istore_n C dR_shareOf_6 (by decide) rfl ?_
  refine g_locals (lv' := [(0, .ref (ad 0)), (1, iv a1), (2, iv a2), (3, iv r3c)]) rfl ?_
  refine g_aload_n C dR_shareOf_7 rfl ?_
  refine g_iload_n C dR_shareOf_8 rfl ?_
  refine g_iconst C dR_shareOf_9 ?_
  refine g_callVi C (nargs := 2) (o := 0) (st := []) (m_Rits hci h) rfl (by decide) hci rfl gd_its (by decide +kernel) ⟨rfl, rfl⟩ dR_shareOf_10 ⟨by decide, by decide⟩ rfl rfl (Nat.le_of_ble_eq_true rfl) ?_
  intro r10c M10 hN
  replace h := hN
  clear hN
  refine g_istore C dR_shareOf_13 (by decide) rfl ?_
  refine g_locals (lv' := [(0, .ref (ad 0)), (1, iv a1), (2, iv a2), (3, iv r3c), (4, iv r10c)]) rfl ?_
  refine g_aload_n C dR_shareOf_15 rfl ?_
  refine g_iload_n C dR_shareOf_16 rfl ?_
  refine g_callVi C (nargs := 1) (o := 0) (st := []) (m_Rcounts hci h) rfl (by decide) hci rfl gd_counts (by decide +kernel) ⟨rfl, rfl⟩ dR_shareOf_17 ⟨by decide, by decide⟩ rfl rfl (Nat.le_of_ble_eq_true rfl) ?_
  intro r17c M17 hN
  replace h := hN
  clear hN
  refine g_istore C dR_shareOf_20 (by decide) rfl ?_
  refine g_locals (lv' := [(0, .ref (ad 0)), (1, iv a1), (2, iv a2), (3, iv r3c), (4, iv r10c), (5, iv r17c)]) rfl ?_
  refine g_iload_n C dR_shareOf_22 rfl ?_
  refine g_if_ne C 41 dR_shareOf_23 (by decide) (fun hc => ?_) (fun hc => ?_)
  · replace h := h.1 hc
    refine g_iload_n C dR_shareOf_41 rfl ?_
    refine g_iconst C dR_shareOf_42 ?_
    refine g_icmp_ne C 81 dR_shareOf_43 (by decide) (fun hc => ?_) (fun hc => ?_)
    · replace h := h.1 hc
      refine g_iload C dR_shareOf_81 rfl ?_
      refine g_iconst C dR_shareOf_83 ?_
      refine g_iload C dR_shareOf_84 rfl ?_
      refine g_aload_n C dR_shareOf_86 rfl ?_
      refine g_iload_n C dR_shareOf_87 rfl ?_
      refine g_iload_n C dR_shareOf_88 rfl ?_
      refine g_callVi C (nargs := 2) (o := 0) (st := [iv r10c, iv 0, iv r17c]) (m_RcountsBelow hci h) rfl (by decide) hci rfl gd_countsBelow (by decide +kernel) ⟨rfl, rfl⟩ dR_shareOf_89 ⟨by decide, by decide⟩ rfl rfl (Nat.le_of_ble_eq_true rfl) ?_
      intro r89c M89 hN
      replace h := hN
      clear hN
      refine g_isub C dR_shareOf_92 ?_
      refine g_iconst C dR_shareOf_93 ?_
      refine g_ldc C 9999999 wi_34 rfl dR_shareOf_94 ?_
      refine g_callSi C (nargs := 3) (st := [iv 0, iv r17c]) (m_Rheld hci h) gd_held (by decide +kernel) ⟨rfl, rfl⟩ dR_shareOf_96 ⟨by decide, by decide⟩ rfl rfl (Nat.le_of_ble_eq_true rfl) ?_
      intro r96c M96 hN
      replace h := hN
      clear hN
      refine g_callSi C (nargs := 3) (st := []) (m_Rheld hci h) gd_held (by decide +kernel) ⟨rfl, rfl⟩ dR_shareOf_99 ⟨by decide, by decide⟩ rfl rfl (Nat.le_of_ble_eq_true rfl) ?_
      intro r99c M99 hN
      replace h := hN
      clear hN
      exact hR _ _ _ _ dR_shareOf_102 rfl h
    · replace h := h.2 hc
      refine g_aload_n C dR_shareOf_46 rfl ?_
      refine g_iload_n C dR_shareOf_47 rfl ?_
      refine g_aload_n C dR_shareOf_48 rfl ?_
      refine rf_s C hci dR_shareOf_49 ?_
      refine g_iconst C dR_shareOf_52 ?_
      refine g_iald C (n := 536) dR_shareOf_53 rfl (by decide) ⟨by decide, by decide⟩ ?_
      refine g_callVi C (nargs := 2) (o := 0) (st := []) (m_RcountsBelow hci h) rfl (by decide) hci rfl gd_countsBelow (by decide +kernel) ⟨rfl, rfl⟩ dR_shareOf_54 ⟨by decide, by decide⟩ rfl rfl (Nat.le_of_ble_eq_true rfl) ?_
      intro r54c M54 hN
      replace h := hN
      clear hN
      refine g_istore C dR_shareOf_57 (by decide) rfl ?_
      refine g_locals (lv' := [(0, .ref (ad 0)), (1, iv a1), (2, iv a2), (3, iv r3c), (4, iv r10c), (5, iv r17c), (6, iv r54c)]) rfl ?_
      refine g_iload C dR_shareOf_59 rfl ?_
      refine g_iload C dR_shareOf_61 rfl ?_
      refine g_icmp_gt C 71 dR_shareOf_63 (by decide) (fun hc => ?_) (fun hc => ?_)
      · replace h := h.1 hc
        refine g_iload C dR_shareOf_71 rfl ?_
        refine g_iload C dR_shareOf_73 rfl ?_
        refine g_iload C dR_shareOf_75 rfl ?_
        refine g_callSi C (nargs := 3) (st := []) (m_RpartOf hci h) gd_partOf (by decide +kernel) ⟨rfl, rfl⟩ dR_shareOf_77 ⟨by decide, by decide⟩ rfl rfl (Nat.le_of_ble_eq_true rfl) ?_
        intro r77c M77 hN
        replace h := hN
        clear hN
        exact hR _ _ _ _ dR_shareOf_80 rfl h
      · replace h := h.2 hc
        refine g_iload C dR_shareOf_66 rfl ?_
        refine g_goto C 80 dR_shareOf_68 (by decide) ?_
        exact hR _ _ _ _ dR_shareOf_80 rfl h
  · replace h := h.2 hc
    refine g_iload C dR_shareOf_26 rfl ?_
    refine g_iconst C dR_shareOf_28 ?_
    refine g_iload C dR_shareOf_29 rfl ?_
    refine g_aload_n C dR_shareOf_31 rfl ?_
    refine g_iload_n C dR_shareOf_32 rfl ?_
    refine g_callVi C (nargs := 1) (o := 0) (st := [iv r10c, iv 0, iv r17c]) (m_RmanyOn hci h) rfl (by decide) hci rfl gd_manyOn (by decide +kernel) ⟨rfl, rfl⟩ dR_shareOf_33 ⟨by decide, by decide⟩ rfl rfl (Nat.le_of_ble_eq_true rfl) ?_
    intro r33c M33 hN
    replace h := hN
    clear hN
    refine g_idiv C dR_shareOf_36 h.1 ?_
    replace h := h.2
    refine g_top (y := Int.tdiv (wrap r10c) (wrap r33c)) rfl ?_
    refine g_callSi C (nargs := 3) (st := []) (m_Rheld hci h) gd_held (by decide +kernel) ⟨rfl, rfl⟩ dR_shareOf_37 ⟨by decide, by decide⟩ rfl rfl (Nat.le_of_ble_eq_true rfl) ?_
    intro r37c M37 hN
    replace h := hN
    clear hN
    exact hR _ _ _ _ dR_shareOf_40 rfl h
def w_RisLaw (a1 : Int) (M : gSt) (k : Int → gSt → Prop) : Prop :=
w_Rin a1 0 2 M (fun r3c M3 => (r3c = 0 ∨ r3c = 1) ∧ (k r3c M3))
set_option maxHeartbeats 4000000 in
set_option maxRecDepth 100000 in
theorem m_RisLaw {l : Launch} {D : va_G} {cl : List vw_C} {tys : List (ClassId × FieldType)} {ad : Nat → Nat} {cI : ClassId} {ci : Nat} {Z : (Nat → Prop) → State → Prop} (hci : cl[ci]? = some (RX9, TX9, 23)) {a1 : Int} {M : gSt} {k : Int → gSt → Prop} (h : w_RisLaw a1 M k) : MOi l yX9_isLaw cX9_isLaw 1 .boolean (rmR 1 22) D cl ((cI, .int) :: tys) (wR ad cI ci) tR Z [iv a1] M k := by
  refine moi_intro (by decide +kernel) (Nat.le_of_ble_eq_true rfl) wi_190 ?_
  intro p e s m args below meth c A Q C hR
  refine g_locals (lv' := [(0, iv a1)]) rfl ?_
  unfold w_RisLaw at h
  refine g_iload_n C dR_isLaw_0 rfl ?_
  refine g_iconst C dR_isLaw_1 ?_
  refine g_iconst C dR_isLaw_2 ?_
  refine g_callSi C (nargs := 3) (st := []) (m_Rin hci h) gd_in (by decide +kernel) ⟨rfl, rfl⟩ dR_isLaw_3 ⟨by decide, by decide⟩ rfl rfl (Nat.le_of_ble_eq_true rfl) ?_
  intro r3c M3 hN
  replace h := hN
  clear hN
  exact hR _ _ _ _ dR_isLaw_6 (zn_bool h.1).1 h.2
def wB_Rshare_24 (a1 : Int) (a2 : Int) (k : Int → gSt → Prop)   (M : gSt) : Prop :=
w_Rerror 1 M (fun r26c M26 => k r26c M26)
def w_Rshare (a1 : Int) (a2 : Int) (M : gSt) (k : Int → gSt → Prop) : Prop :=
w_RisClaim a1 M (fun r2c M2 => 
  (wrap r2c = 0 →
    wB_Rshare_24 a1 a2 k   M2) ∧
  (¬ wrap r2c = 0 →
    w_RisLaw a2 M2 (fun r9c M9 => 
    (wrap r9c = 0 →
      wB_Rshare_24 a1 a2 k   M9) ∧
    (¬ wrap r9c = 0 →
      w_RshareOf a1 a2 M9 (fun r18c M18 => k r18c M18)))))
set_option maxHeartbeats 4000000 in
set_option maxRecDepth 100000 in
theorem m_Rshare {l : Launch} {D : va_G} {cl : List vw_C} {tys : List (ClassId × FieldType)} {ad : Nat → Nat} {cI : ClassId} {ci : Nat} {Z : (Nat → Prop) → State → Prop} (hci : cl[ci]? = some (RX9, TX9, 23)) {a1 : Int} {a2 : Int} {M : gSt} {k : Int → gSt → Prop} (h : w_Rshare a1 a2 M k) : MOi l yX9_share cX9_share 3 .int (rmR 5 120) D cl ((cI, .int) :: tys) (wR ad cI ci) tR Z [.ref (ad 0), iv a1, iv a2] M k := by
  refine moi_intro (by decide +kernel) (Nat.le_of_ble_eq_true rfl) wi_196 ?_
  intro p e s m args below meth c A Q C hR
  have pB24 : ∀    (M : gSt), wB_Rshare_24 a1 a2 k   M → gG p l e (rmR 5 120) s m args below meth c Q D cl A (wR ad cI ci) 3 24 [(0, .ref (ad 0))] [] M := by
    intro    M h
    unfold wB_Rshare_24 at h
    refine g_aload_n C dR_share_24 rfl ?_
    refine g_iconst C dR_share_25 ?_
    refine g_callVi C (nargs := 1) (o := 0) (st := []) (m_Rerror hci h) rfl (by decide) hci rfl gd_error (by decide +kernel) ⟨rfl, rfl⟩ dR_share_26 ⟨by decide, by decide⟩ rfl rfl (Nat.le_of_ble_eq_true rfl) ?_
    intro r26c M26 hN
    replace h := hN
    clear hN
    exact hR _ _ _ _ dR_share_29 rfl h
  refine g_locals (lv' := [(0, .ref (ad 0)), (1, iv a1), (2, iv a2)]) rfl ?_
  unfold w_Rshare at h
  refine g_aload_n C dR_share_0 rfl ?_
  refine g_iload_n C dR_share_1 rfl ?_
  refine g_callVi C (nargs := 1) (o := 0) (st := []) (m_RisClaim hci h) rfl (by decide) hci rfl gd_isClaim (by decide +kernel) ⟨rfl, rfl⟩ dR_share_2 ⟨by decide, by decide⟩ rfl rfl (Nat.le_of_ble_eq_true rfl) ?_
  intro r2c M2 hN
  replace h := hN
  clear hN
  refine g_if_eq C 24 dR_share_5 (by decide) (fun hc => ?_) (fun hc => ?_)
  · replace h := h.1 hc
    refine g_locals (lv' := [(0, .ref (ad 0))]) rfl ?_
    exact pB24  _ h
  · replace h := h.2 hc
    refine g_iload_n C dR_share_8 rfl ?_
    refine g_callSi C (nargs := 1) (st := []) (m_RisLaw hci h) gd_isLaw (by decide +kernel) ⟨rfl, rfl⟩ dR_share_9 ⟨by decide, by decide⟩ rfl rfl (Nat.le_of_ble_eq_true rfl) ?_
    intro r9c M9 hN
    replace h := hN
    clear hN
    refine g_if_eq C 24 dR_share_12 (by decide) (fun hc => ?_) (fun hc => ?_)
    · replace h := h.1 hc
      refine g_locals (lv' := [(0, .ref (ad 0))]) rfl ?_
      exact pB24  _ h
    · replace h := h.2 hc
      refine g_aload_n C dR_share_15 rfl ?_
      refine g_iload_n C dR_share_16 rfl ?_
      refine g_iload_n C dR_share_17 rfl ?_
      refine g_callVi C (nargs := 2) (o := 0) (st := []) (m_RshareOf hci h) rfl (by decide) hci rfl gd_shareOf (by decide +kernel) ⟨rfl, rfl⟩ dR_share_18 ⟨by decide, by decide⟩ rfl rfl (Nat.le_of_ble_eq_true rfl) ?_
      intro r18c M18 hN
      replace h := hN
      clear hN
      refine g_goto C 29 dR_share_21 (by decide) ?_
      exact hR _ _ _ _ dR_share_29 rfl h
def wB_Rleft_15 (a1 : Int) (a2 : Int) (k : Int → gSt → Prop)   (M : gSt) : Prop :=
w_Rerror 1 M (fun r17c M17 => k r17c M17)
def wB_Rleft_65 (a1 : Int) (a2 : Int) (k : Int → gSt → Prop) (r31 : Int → Int → gSt → Prop) (X31_73 : Int → gSt → Prop) (v4 : Int) (s0 : Int) (s1 : Int) (M : gSt) : Prop :=
∀ x3_66 : Int, x3_66 = s1 - s0 → (r31 x3_66 (v4 + 1) M)
def wC_Rleft_31 (a1 : Int) (a2 : Int) (k : Int → gSt → Prop) (r31 : Int → Int → gSt → Prop) (X31_73 : Int → gSt → Prop) (v3 : Int) (v4 : Int) (M : gSt) : Prop :=

  (wrap (M 1 2) ≤ wrap v4 →
    X31_73 v3 M) ∧
  (wrap v4 < wrap (M 1 2) →
    w_Rof v4 0 M (fun r47c M47 => 
    (¬ wrap r47c = wrap a1 →
      wB_Rleft_65 a1 a2 k r31 X31_73 v4 0 v3 M47) ∧
    (wrap r47c = wrap a1 →
      w_RshareOf v4 a2 M47 (fun r58c M58 => wB_Rleft_65 a1 a2 k r31 X31_73 v4 r58c v3 M58))))
def wL_Rleft_31 (a1 : Int) (a2 : Int) (k : Int → gSt → Prop)  (X31_73 : Int → gSt → Prop) : Nat → Int → Int → gSt → Prop
  | 0 => fun _ _ _ => False
  | n + 1 => fun v3 v4 M => wC_Rleft_31 a1 a2 k  (wL_Rleft_31 a1 a2 k  X31_73 n) X31_73 v3 v4 M
def w_Rleft (a1 : Int) (a2 : Int) (M : gSt) (k : Int → gSt → Prop) : Prop :=
w_RisThing a1 M (fun r2c M2 => 
  (wrap r2c = 0 →
    wB_Rleft_15 a1 a2 k   M2) ∧
  (¬ wrap r2c = 0 →
    w_RisLaw a2 M2 (fun r9c M9 => 
    (¬ wrap r9c = 0 →
      w_Rits a1 2 M9 (fun r24c M24 => ∃ n, wL_Rleft_31 a1 a2 k  (fun u3_31 M31 =>
        k u3_31 M31) n r24c 0 M24)) ∧
    (wrap r9c = 0 →
      wB_Rleft_15 a1 a2 k   M9))))
set_option maxHeartbeats 4000000 in
set_option maxRecDepth 100000 in
theorem m_Rleft {l : Launch} {D : va_G} {cl : List vw_C} {tys : List (ClassId × FieldType)} {ad : Nat → Nat} {cI : ClassId} {ci : Nat} {Z : (Nat → Prop) → State → Prop} (hci : cl[ci]? = some (RX9, TX9, 23)) {a1 : Int} {a2 : Int} {M : gSt} {k : Int → gSt → Prop} (h : w_Rleft a1 a2 M k) : MOi l yX9_left cX9_left 5 .int (rmR 5 120) D cl ((cI, .int) :: tys) (wR ad cI ci) tR Z [.ref (ad 0), iv a1, iv a2] M k := by
  refine moi_intro (by decide +kernel) (Nat.le_of_ble_eq_true rfl) wi_197 ?_
  intro p e s m args below meth c A Q C hR
  have pB15 : ∀    (M : gSt), wB_Rleft_15 a1 a2 k   M → gG p l e (rmR 5 120) s m args below meth c Q D cl A (wR ad cI ci) 5 15 [(0, .ref (ad 0))] [] M := by
    intro    M h
    unfold wB_Rleft_15 at h
    refine g_aload_n C dR_left_15 rfl ?_
    refine g_iconst C dR_left_16 ?_
    refine g_callVi C (nargs := 1) (o := 0) (st := []) (m_Rerror hci h) rfl (by decide) hci rfl gd_error (by decide +kernel) ⟨rfl, rfl⟩ dR_left_17 ⟨by decide, by decide⟩ rfl rfl (Nat.le_of_ble_eq_true rfl) ?_
    intro r17c M17 hN
    replace h := hN
    clear hN
    exact hR _ _ _ _ dR_left_20 rfl h
  have pB65 : ∀ (r31 : Int → Int → gSt → Prop) (X31_73 : Int → gSt → Prop) (hr31 : ∀ (v3 : Int) (v4 : Int) (M : gSt), r31 v3 v4 M → gG p l e (rmR 5 120) s m args below meth c Q D cl A (wR ad cI ci) 5 31 [(0, .ref (ad 0)), (1, iv a1), (2, iv a2), (3, iv v3), (4, iv v4)] [] M) (hX31_73 : ∀ (v3 : Int) (M : gSt), X31_73 v3 M → gG p l e (rmR 5 120) s m args below meth c Q D cl A (wR ad cI ci) 5 73 [(3, iv v3)] [] M) (v4 : Int) (s0 : Int) (s1 : Int) (M : gSt), wB_Rleft_65 a1 a2 k r31 X31_73 v4 s0 s1 M → gG p l e (rmR 5 120) s m args below meth c Q D cl A (wR ad cI ci) 5 65 [(0, .ref (ad 0)), (1, iv a1), (2, iv a2), (4, iv v4)] [iv s0, iv s1] M := by
    intro r31 X31_73 hr31 hX31_73 v4 s0 s1 M h
    unfold wB_Rleft_65 at h
    refine g_isub C dR_left_65 ?_
    refine g_name (fun x3_66 hx3_66 => ?_)
    replace h := h x3_66 hx3_66
    refine g_istore_n C dR_left_66 (by decide) rfl ?_
    refine g_locals (lv' := [(0, .ref (ad 0)), (1, iv a1), (2, iv a2), (3, iv x3_66), (4, iv v4)]) rfl ?_
    refine g_iinc C dR_left_67 rfl (by decide) rfl ?_
    refine g_locals (lv' := [(0, .ref (ad 0)), (1, iv a1), (2, iv a2), (3, iv x3_66), (4, iv (v4 + 1))]) rfl ?_
    refine g_goto C 31 dR_left_70 (by decide) ?_
    refine g_locals (lv' := [(0, .ref (ad 0)), (1, iv a1), (2, iv a2), (3, iv x3_66), (4, iv (v4 + 1))]) rfl ?_
    exact hr31 _ _  _ h
  have pC31 : ∀ (r31 : Int → Int → gSt → Prop) (X31_73 : Int → gSt → Prop) (hr31 : ∀ (v3 : Int) (v4 : Int) (M : gSt), r31 v3 v4 M → gG p l e (rmR 5 120) s m args below meth c Q D cl A (wR ad cI ci) 5 31 [(0, .ref (ad 0)), (1, iv a1), (2, iv a2), (3, iv v3), (4, iv v4)] [] M) (hX31_73 : ∀ (v3 : Int) (M : gSt), X31_73 v3 M → gG p l e (rmR 5 120) s m args below meth c Q D cl A (wR ad cI ci) 5 73 [(3, iv v3)] [] M) (v3 : Int) (v4 : Int) (M : gSt), wC_Rleft_31 a1 a2 k r31 X31_73 v3 v4 M → gG p l e (rmR 5 120) s m args below meth c Q D cl A (wR ad cI ci) 5 31 [(0, .ref (ad 0)), (1, iv a1), (2, iv a2), (3, iv v3), (4, iv v4)] [] M := by
    intro r31 X31_73 hr31 hX31_73 v3 v4 M h
    unfold wC_Rleft_31 at h
    refine g_iload C dR_left_31 rfl ?_
    refine g_aload_n C dR_left_33 rfl ?_
    refine rf_s C hci dR_left_34 ?_
    refine g_iconst C dR_left_37 ?_
    refine g_iald C (n := 536) dR_left_38 rfl (by decide) ⟨by decide, by decide⟩ ?_
    refine g_icmp_ge C 73 dR_left_39 (by decide) (fun hc => ?_) (fun hc => ?_)
    · replace h := h.1 hc
      refine g_locals (lv' := [(3, iv v3)]) rfl ?_
      exact hX31_73 _  _ h
    · replace h := h.2 hc
      refine g_iload_n C dR_left_42 rfl ?_
      refine g_aload_n C dR_left_43 rfl ?_
      refine g_iload C dR_left_44 rfl ?_
      refine g_iconst C dR_left_46 ?_
      refine g_callVi C (nargs := 2) (o := 0) (st := [iv v3]) (m_Rof hci h) rfl (by decide) hci rfl gd_of (by decide +kernel) ⟨rfl, rfl⟩ dR_left_47 ⟨by decide, by decide⟩ rfl rfl (Nat.le_of_ble_eq_true rfl) ?_
      intro r47c M47 hN
      replace h := hN
      clear hN
      refine g_iload_n C dR_left_50 rfl ?_
      refine g_icmp_ne C 64 dR_left_51 (by decide) (fun hc => ?_) (fun hc => ?_)
      · replace h := h.1 hc
        refine g_iconst C dR_left_64 ?_
        refine g_locals (lv' := [(0, .ref (ad 0)), (1, iv a1), (2, iv a2), (4, iv v4)]) rfl ?_
        exact pB65 r31 X31_73 hr31 hX31_73 _ _ _ _ h
      · replace h := h.2 hc
        refine g_aload_n C dR_left_54 rfl ?_
        refine g_iload C dR_left_55 rfl ?_
        refine g_iload_n C dR_left_57 rfl ?_
        refine g_callVi C (nargs := 2) (o := 0) (st := [iv v3]) (m_RshareOf hci h) rfl (by decide) hci rfl gd_shareOf (by decide +kernel) ⟨rfl, rfl⟩ dR_left_58 ⟨by decide, by decide⟩ rfl rfl (Nat.le_of_ble_eq_true rfl) ?_
        intro r58c M58 hN
        replace h := hN
        clear hN
        refine g_goto C 65 dR_left_61 (by decide) ?_
        refine g_locals (lv' := [(0, .ref (ad 0)), (1, iv a1), (2, iv a2), (4, iv v4)]) rfl ?_
        exact pB65 r31 X31_73 hr31 hX31_73 _ _ _ _ h
  have pL31 : ∀  (X31_73 : Int → gSt → Prop) (hX31_73 : ∀ (v3 : Int) (M : gSt), X31_73 v3 M → gG p l e (rmR 5 120) s m args below meth c Q D cl A (wR ad cI ci) 5 73 [(3, iv v3)] [] M) (n : Nat) (v3 : Int) (v4 : Int) (M : gSt), wL_Rleft_31 a1 a2 k  X31_73 n v3 v4 M → gG p l e (rmR 5 120) s m args below meth c Q D cl A (wR ad cI ci) 5 31 [(0, .ref (ad 0)), (1, iv a1), (2, iv a2), (3, iv v3), (4, iv v4)] [] M := by
    intro  X31_73 hX31_73 n
    induction n with
    | zero => intro v3 v4 M h; exact h.elim
    | succ n ih =>
      intro v3 v4 M h
      exact pC31  (wL_Rleft_31 a1 a2 k  X31_73 n) X31_73 ih hX31_73 v3 v4 M h
  refine g_locals (lv' := [(0, .ref (ad 0)), (1, iv a1), (2, iv a2)]) rfl ?_
  unfold w_Rleft at h
  refine g_aload_n C dR_left_0 rfl ?_
  refine g_iload_n C dR_left_1 rfl ?_
  refine g_callVi C (nargs := 1) (o := 0) (st := []) (m_RisThing hci h) rfl (by decide) hci rfl gd_isThing (by decide +kernel) ⟨rfl, rfl⟩ dR_left_2 ⟨by decide, by decide⟩ rfl rfl (Nat.le_of_ble_eq_true rfl) ?_
  intro r2c M2 hN
  replace h := hN
  clear hN
  refine g_if_eq C 15 dR_left_5 (by decide) (fun hc => ?_) (fun hc => ?_)
  · replace h := h.1 hc
    refine g_locals (lv' := [(0, .ref (ad 0))]) rfl ?_
    exact pB15  _ h
  · replace h := h.2 hc
    refine g_iload_n C dR_left_8 rfl ?_
    refine g_callSi C (nargs := 1) (st := []) (m_RisLaw hci h) gd_isLaw (by decide +kernel) ⟨rfl, rfl⟩ dR_left_9 ⟨by decide, by decide⟩ rfl rfl (Nat.le_of_ble_eq_true rfl) ?_
    intro r9c M9 hN
    replace h := hN
    clear hN
    refine g_if_ne C 21 dR_left_12 (by decide) (fun hc => ?_) (fun hc => ?_)
    · replace h := h.1 hc
      refine g_aload_n C dR_left_21 rfl ?_
      refine g_iload_n C dR_left_22 rfl ?_
      refine g_iconst C dR_left_23 ?_
      refine g_callVi C (nargs := 2) (o := 0) (st := []) (m_Rits hci h) rfl (by decide) hci rfl gd_its (by decide +kernel) ⟨rfl, rfl⟩ dR_left_24 ⟨by decide, by decide⟩ rfl rfl (Nat.le_of_ble_eq_true rfl) ?_
      intro r24c M24 hN
      replace h := hN
      clear hN
      refine g_istore_n C dR_left_27 (by decide) rfl ?_
      refine g_locals (lv' := [(0, .ref (ad 0)), (1, iv a1), (2, iv a2), (3, iv r24c)]) rfl ?_
      refine g_iconst C dR_left_28 ?_
      refine g_istore C dR_left_29 (by decide) rfl ?_
      refine g_locals (lv' := [(0, .ref (ad 0)), (1, iv a1), (2, iv a2), (3, iv r24c), (4, iv 0)]) rfl ?_
      refine g_locals (lv' := [(0, .ref (ad 0)), (1, iv a1), (2, iv a2), (3, iv r24c), (4, iv 0)]) rfl ?_
      obtain ⟨n, h⟩ := h
      refine pL31 _ ?_ n _ _ _ h
      · intro u3_31 M31 hN
        replace h := hN
        clear hN
        refine g_iload_n C dR_left_73 rfl ?_
        exact hR _ _ _ _ dR_left_74 rfl h
    · replace h := h.2 hc
      refine g_locals (lv' := [(0, .ref (ad 0))]) rfl ?_
      exact pB15  _ h
def w_RisPaper (a1 : Int) (a2 : Int) (a3 : Int) (M : gSt) (k : Int → gSt → Prop) : Prop :=
w_RisThing a1 M (fun r2c M2 => 
  (wrap r2c = 0 →
    k 0 M2) ∧
  (¬ wrap r2c = 0 →
    w_RisThing a2 M2 (fun r10c M10 => 
    (wrap r10c = 0 →
      k 0 M10) ∧
    (¬ wrap r10c = 0 →

      (wrap a1 = wrap a2 →
        k 0 M10) ∧
      (¬ wrap a1 = wrap a2 →
        w_Rin a3 1 8 M10 (fun r25c M25 => 
        (wrap r25c = 0 →
          k 0 M25) ∧
        (¬ wrap r25c = 0 →
          k 1 M25)))))))
set_option maxHeartbeats 4000000 in
set_option maxRecDepth 100000 in
theorem m_RisPaper {l : Launch} {D : va_G} {cl : List vw_C} {tys : List (ClassId × FieldType)} {ad : Nat → Nat} {cI : ClassId} {ci : Nat} {Z : (Nat → Prop) → State → Prop} (hci : cl[ci]? = some (RX9, TX9, 23)) {a1 : Int} {a2 : Int} {a3 : Int} {M : gSt} {k : Int → gSt → Prop} (h : w_RisPaper a1 a2 a3 M k) : MOi l yX9_isPaper cX9_isPaper 4 .boolean (rmR 2 43) D cl ((cI, .int) :: tys) (wR ad cI ci) tR Z [.ref (ad 0), iv a1, iv a2, iv a3] M k := by
  refine moi_intro (by decide +kernel) (Nat.le_of_ble_eq_true rfl) wi_198 ?_
  intro p e s m args below meth c A Q C hR
  refine g_locals (lv' := [(0, .ref (ad 0)), (1, iv a1), (2, iv a2), (3, iv a3)]) rfl ?_
  unfold w_RisPaper at h
  refine g_aload_n C dR_isPaper_0 rfl ?_
  refine g_iload_n C dR_isPaper_1 rfl ?_
  refine g_callVi C (nargs := 1) (o := 0) (st := []) (m_RisThing hci h) rfl (by decide) hci rfl gd_isThing (by decide +kernel) ⟨rfl, rfl⟩ dR_isPaper_2 ⟨by decide, by decide⟩ rfl rfl (Nat.le_of_ble_eq_true rfl) ?_
  intro r2c M2 hN
  replace h := hN
  clear hN
  refine g_if_eq C 35 dR_isPaper_5 (by decide) (fun hc => ?_) (fun hc => ?_)
  · replace h := h.1 hc
    refine g_iconst C dR_isPaper_35 ?_
    exact hR _ _ _ _ dR_isPaper_36 rfl h
  · replace h := h.2 hc
    refine g_aload_n C dR_isPaper_8 rfl ?_
    refine g_iload_n C dR_isPaper_9 rfl ?_
    refine g_callVi C (nargs := 1) (o := 0) (st := []) (m_RisThing hci h) rfl (by decide) hci rfl gd_isThing (by decide +kernel) ⟨rfl, rfl⟩ dR_isPaper_10 ⟨by decide, by decide⟩ rfl rfl (Nat.le_of_ble_eq_true rfl) ?_
    intro r10c M10 hN
    replace h := hN
    clear hN
    refine g_if_eq C 35 dR_isPaper_13 (by decide) (fun hc => ?_) (fun hc => ?_)
    · replace h := h.1 hc
      refine g_iconst C dR_isPaper_35 ?_
      exact hR _ _ _ _ dR_isPaper_36 rfl h
    · replace h := h.2 hc
      refine g_iload_n C dR_isPaper_16 rfl ?_
      refine g_iload_n C dR_isPaper_17 rfl ?_
      refine g_icmp_eq C 35 dR_isPaper_18 (by decide) (fun hc => ?_) (fun hc => ?_)
      · replace h := h.1 hc
        refine g_iconst C dR_isPaper_35 ?_
        exact hR _ _ _ _ dR_isPaper_36 rfl h
      · replace h := h.2 hc
        refine g_iload_n C dR_isPaper_21 rfl ?_
        refine g_iconst C dR_isPaper_22 ?_
        refine g_bipush C dR_isPaper_23 rfl ?_
        refine g_callSi C (nargs := 3) (st := []) (m_Rin hci h) gd_in (by decide +kernel) ⟨rfl, rfl⟩ dR_isPaper_25 ⟨by decide, by decide⟩ rfl rfl (Nat.le_of_ble_eq_true rfl) ?_
        intro r25c M25 hN
        replace h := hN
        clear hN
        refine g_if_eq C 35 dR_isPaper_28 (by decide) (fun hc => ?_) (fun hc => ?_)
        · replace h := h.1 hc
          refine g_iconst C dR_isPaper_35 ?_
          exact hR _ _ _ _ dR_isPaper_36 rfl h
        · replace h := h.2 hc
          refine g_iconst C dR_isPaper_31 ?_
          refine g_goto C 36 dR_isPaper_32 (by decide) ?_
          exact hR _ _ _ _ dR_isPaper_36 rfl h
def w_RaddPaper (a1 : Int) (a2 : Int) (a3 : Int) (M : gSt) (k : gSt → Prop) : Prop :=
∀ x4_12 : Int, x4_12 = 160 + (3 * (M 1 3)) → ((0 ≤ x4_12 ∧ x4_12 < 536) ∧ (∀ M21 : gSt, M21 = wr M 1 x4_12 a1 → ((0 ≤ x4_12 + 1 ∧ x4_12 + 1 < 536) ∧ (∀ M31 : gSt, M31 = wr M21 1 (x4_12 + 1) a2 → ((0 ≤ x4_12 + 2 ∧ x4_12 + 2 < 536) ∧ (∀ M41 : gSt, M41 = wr M31 1 (x4_12 + 2) a3 → (∀ M51 : gSt, M51 = wr M41 1 3 ((M41 1 3) + 1) → (k M51))))))))
set_option maxHeartbeats 4000000 in
set_option maxRecDepth 100000 in
theorem m_RaddPaper {l : Launch} {D : va_G} {cl : List vw_C} {tys : List (ClassId × FieldType)} {ad : Nat → Nat} {cI : ClassId} {ci : Nat} {Z : (Nat → Prop) → State → Prop} (hci : cl[ci]? = some (RX9, TX9, 23)) {a1 : Int} {a2 : Int} {a3 : Int} {M : gSt} {k : gSt → Prop} (h : w_RaddPaper a1 a2 a3 M k) : MOv l yX9_addPaper cX9_addPaper 5 (rmR 0 0) D cl ((cI, .int) :: tys) (wR ad cI ci) tR Z [.ref (ad 0), iv a1, iv a2, iv a3] M k := by
  refine mov_intro (by decide +kernel) (Nat.le_of_ble_eq_true rfl) wi_199 ?_
  intro p e s m args below meth c A Q C hR
  refine g_locals (lv' := [(0, .ref (ad 0)), (1, iv a1), (2, iv a2), (3, iv a3)]) rfl ?_
  unfold w_RaddPaper at h
  refine g_sipush C dR_addPaper_0 rfl ?_
  refine g_iconst C dR_addPaper_3 ?_
  refine g_aload_n C dR_addPaper_4 rfl ?_
  refine rf_s C hci dR_addPaper_5 ?_
  refine g_iconst C dR_addPaper_8 ?_
  refine g_iald C (n := 536) dR_addPaper_9 rfl (by decide) ⟨by decide, by decide⟩ ?_
  refine g_imul C dR_addPaper_10 ?_
  refine g_iadd C dR_addPaper_11 ?_
  refine g_name (fun x4_12 hx4_12 => ?_)
  replace h := h x4_12 hx4_12
  refine g_istore C dR_addPaper_12 (by decide) rfl ?_
  refine g_locals (lv' := [(0, .ref (ad 0)), (1, iv a1), (2, iv a2), (3, iv a3), (4, iv x4_12)]) rfl ?_
  refine g_aload_n C dR_addPaper_14 rfl ?_
  refine rf_s C hci dR_addPaper_15 ?_
  refine g_iload C dR_addPaper_18 rfl ?_
  refine g_iload_n C dR_addPaper_20 rfl ?_
  refine g_iast C (n := 536) dR_addPaper_21 rfl (by decide) h.1 ?_
  replace h := h.2
  refine g_memname (fun M21 hM21 => ?_)
  replace h := h M21 hM21
  refine g_aload_n C dR_addPaper_22 rfl ?_
  refine rf_s C hci dR_addPaper_23 ?_
  refine g_iload C dR_addPaper_26 rfl ?_
  refine g_iconst C dR_addPaper_28 ?_
  refine g_iadd C dR_addPaper_29 ?_
  refine g_iload_n C dR_addPaper_30 rfl ?_
  refine g_iast C (n := 536) dR_addPaper_31 rfl (by decide) h.1 ?_
  replace h := h.2
  refine g_memname (fun M31 hM31 => ?_)
  replace h := h M31 hM31
  refine g_aload_n C dR_addPaper_32 rfl ?_
  refine rf_s C hci dR_addPaper_33 ?_
  refine g_iload C dR_addPaper_36 rfl ?_
  refine g_iconst C dR_addPaper_38 ?_
  refine g_iadd C dR_addPaper_39 ?_
  refine g_iload_n C dR_addPaper_40 rfl ?_
  refine g_iast C (n := 536) dR_addPaper_41 rfl (by decide) h.1 ?_
  replace h := h.2
  refine g_memname (fun M41 hM41 => ?_)
  replace h := h M41 hM41
  refine g_aload_n C dR_addPaper_42 rfl ?_
  refine rf_s C hci dR_addPaper_43 ?_
  refine g_iconst C dR_addPaper_46 ?_
  refine g_dup2 C dR_addPaper_47 rfl rfl ?_
  refine g_iald C (n := 536) dR_addPaper_48 rfl (by decide) ⟨by decide, by decide⟩ ?_
  refine g_iconst C dR_addPaper_49 ?_
  refine g_iadd C dR_addPaper_50 ?_
  refine g_iast C (n := 536) dR_addPaper_51 rfl (by decide) ⟨by decide, by decide⟩ ?_
  refine g_memname (fun M51 hM51 => ?_)
  replace h := h M51 hM51
  exact hR _ _ _ dR_addPaper_52 h
def w_Rpaper (a1 : Int) (a2 : Int) (a3 : Int) (M : gSt) (k : Int → gSt → Prop) : Prop :=
w_RisPaper a1 a2 a3 M (fun r4c M4 => 
  (¬ wrap r4c = 0 →

    (¬ wrap (M4 1 3) = 6 →
      w_RaddPaper a1 a2 a3 M4 (fun M37 => k ((M37 1 3) - 1) M37)) ∧
    (wrap (M4 1 3) = 6 →
      w_Rerror 4 M4 (fun r29c M29 => k r29c M29))) ∧
  (wrap r4c = 0 →
    w_Rerror 1 M4 (fun r12c M12 => k r12c M12)))
set_option maxHeartbeats 4000000 in
set_option maxRecDepth 100000 in
theorem m_Rpaper {l : Launch} {D : va_G} {cl : List vw_C} {tys : List (ClassId × FieldType)} {ad : Nat → Nat} {cI : ClassId} {ci : Nat} {Z : (Nat → Prop) → State → Prop} (hci : cl[ci]? = some (RX9, TX9, 23)) {a1 : Int} {a2 : Int} {a3 : Int} {M : gSt} {k : Int → gSt → Prop} (h : w_Rpaper a1 a2 a3 M k) : MOi l yX9_paper cX9_paper 4 .int (rmR 3 66) D cl ((cI, .int) :: tys) (wR ad cI ci) tR Z [.ref (ad 0), iv a1, iv a2, iv a3] M k := by
  refine moi_intro (by decide +kernel) (Nat.le_of_ble_eq_true rfl) wi_206 ?_
  intro p e s m args below meth c A Q C hR
  refine g_locals (lv' := [(0, .ref (ad 0)), (1, iv a1), (2, iv a2), (3, iv a3)]) rfl ?_
  unfold w_Rpaper at h
  refine g_aload_n C dR_paper_0 rfl ?_
  refine g_iload_n C dR_paper_1 rfl ?_
  refine g_iload_n C dR_paper_2 rfl ?_
  refine g_iload_n C dR_paper_3 rfl ?_
  refine g_callVi C (nargs := 3) (o := 0) (st := []) (m_RisPaper hci h) rfl (by decide) hci rfl gd_isPaper (by decide +kernel) ⟨rfl, rfl⟩ dR_paper_4 ⟨by decide, by decide⟩ rfl rfl (Nat.le_of_ble_eq_true rfl) ?_
  intro r4c M4 hN
  replace h := hN
  clear hN
  refine g_if_ne C 16 dR_paper_7 (by decide) (fun hc => ?_) (fun hc => ?_)
  · replace h := h.1 hc
    refine g_aload_n C dR_paper_16 rfl ?_
    refine rf_s C hci dR_paper_17 ?_
    refine g_iconst C dR_paper_20 ?_
    refine g_iald C (n := 536) dR_paper_21 rfl (by decide) ⟨by decide, by decide⟩ ?_
    refine g_bipush C dR_paper_22 rfl ?_
    refine g_icmp_ne C 33 dR_paper_24 (by decide) (fun hc => ?_) (fun hc => ?_)
    · replace h := h.1 hc
      refine g_aload_n C dR_paper_33 rfl ?_
      refine g_iload_n C dR_paper_34 rfl ?_
      refine g_iload_n C dR_paper_35 rfl ?_
      refine g_iload_n C dR_paper_36 rfl ?_
      refine g_callVv C (nargs := 3) (o := 0) (st := []) (m_RaddPaper hci h) rfl (by decide) hci rfl gd_addPaper (by decide +kernel) ⟨rfl, rfl⟩ dR_paper_37 ⟨by decide, by decide⟩ rfl rfl (Nat.le_of_ble_eq_true rfl) ?_
      intro M37 hN
      replace h := hN
      clear hN
      refine g_aload_n C dR_paper_40 rfl ?_
      refine rf_s C hci dR_paper_41 ?_
      refine g_iconst C dR_paper_44 ?_
      refine g_iald C (n := 536) dR_paper_45 rfl (by decide) ⟨by decide, by decide⟩ ?_
      refine g_iconst C dR_paper_46 ?_
      refine g_isub C dR_paper_47 ?_
      exact hR _ _ _ _ dR_paper_48 rfl h
    · replace h := h.2 hc
      refine g_aload_n C dR_paper_27 rfl ?_
      refine g_iconst C dR_paper_28 ?_
      refine g_callVi C (nargs := 1) (o := 0) (st := []) (m_Rerror hci h) rfl (by decide) hci rfl gd_error (by decide +kernel) ⟨rfl, rfl⟩ dR_paper_29 ⟨by decide, by decide⟩ rfl rfl (Nat.le_of_ble_eq_true rfl) ?_
      intro r29c M29 hN
      replace h := hN
      clear hN
      exact hR _ _ _ _ dR_paper_32 rfl h
  · replace h := h.2 hc
    refine g_aload_n C dR_paper_10 rfl ?_
    refine g_iconst C dR_paper_11 ?_
    refine g_callVi C (nargs := 1) (o := 0) (st := []) (m_Rerror hci h) rfl (by decide) hci rfl gd_error (by decide +kernel) ⟨rfl, rfl⟩ dR_paper_12 ⟨by decide, by decide⟩ rfl rfl (Nat.le_of_ble_eq_true rfl) ?_
    intro r12c M12 hN
    replace h := hN
    clear hN
    exact hR _ _ _ _ dR_paper_15 rfl h
def wB_Rweigh_28 (a1 : Int) (a2 : Int) (a3 : Int) (k : Int → gSt → Prop)   (M : gSt) : Prop :=
w_Rerror 1 M (fun r30c M30 => k r30c M30)
def w_Rweigh (a1 : Int) (a2 : Int) (a3 : Int) (M : gSt) (k : Int → gSt → Prop) : Prop :=
w_RisThing a1 M (fun r2c M2 => 
  (wrap r2c = 0 →
    wB_Rweigh_28 a1 a2 a3 k   M2) ∧
  (¬ wrap r2c = 0 →
    w_Rin a2 0 9999999 M2 (fun r12c M12 => 
    (wrap r12c = 0 →
      wB_Rweigh_28 a1 a2 a3 k   M12) ∧
    (¬ wrap r12c = 0 →
      w_Rin a3 0 99 M12 (fun r22c M22 => 
      (¬ wrap r22c = 0 →

        (¬ wrap (M22 1 4) = 8 →
          ∀ x4_63 : Int, x4_63 = 178 + (3 * (M22 1 4)) → ((0 ≤ x4_63 ∧ x4_63 < 536) ∧ (∀ M72 : gSt, M72 = wr M22 1 x4_63 a1 → ((0 ≤ x4_63 + 1 ∧ x4_63 + 1 < 536) ∧ (∀ M82 : gSt, M82 = wr M72 1 (x4_63 + 1) a2 → ((0 ≤ x4_63 + 2 ∧ x4_63 + 2 < 536) ∧ (∀ M92 : gSt, M92 = wr M82 1 (x4_63 + 2) a3 → (∀ M102 : gSt, M102 = wr M92 1 4 ((M92 1 4) + 1) → (k ((M102 1 4) - 1) M102))))))))) ∧
        (wrap (M22 1 4) = 8 →
          w_Rerror 4 M22 (fun r47c M47 => k r47c M47))) ∧
      (wrap r22c = 0 →
        wB_Rweigh_28 a1 a2 a3 k   M22))))))
set_option maxHeartbeats 4000000 in
set_option maxRecDepth 100000 in
theorem m_Rweigh {l : Launch} {D : va_G} {cl : List vw_C} {tys : List (ClassId × FieldType)} {ad : Nat → Nat} {cI : ClassId} {ci : Nat} {Z : (Nat → Prop) → State → Prop} (hci : cl[ci]? = some (RX9, TX9, 23)) {a1 : Int} {a2 : Int} {a3 : Int} {M : gSt} {k : Int → gSt → Prop} (h : w_Rweigh a1 a2 a3 M k) : MOi l yX9_weigh cX9_weigh 5 .int (rmR 2 43) D cl ((cI, .int) :: tys) (wR ad cI ci) tR Z [.ref (ad 0), iv a1, iv a2, iv a3] M k := by
  refine moi_intro (by decide +kernel) (Nat.le_of_ble_eq_true rfl) wi_207 ?_
  intro p e s m args below meth c A Q C hR
  have pB28 : ∀    (M : gSt), wB_Rweigh_28 a1 a2 a3 k   M → gG p l e (rmR 2 43) s m args below meth c Q D cl A (wR ad cI ci) 5 28 [(0, .ref (ad 0))] [] M := by
    intro    M h
    unfold wB_Rweigh_28 at h
    refine g_aload_n C dR_weigh_28 rfl ?_
    refine g_iconst C dR_weigh_29 ?_
    refine g_callVi C (nargs := 1) (o := 0) (st := []) (m_Rerror hci h) rfl (by decide) hci rfl gd_error (by decide +kernel) ⟨rfl, rfl⟩ dR_weigh_30 ⟨by decide, by decide⟩ rfl rfl (Nat.le_of_ble_eq_true rfl) ?_
    intro r30c M30 hN
    replace h := hN
    clear hN
    exact hR _ _ _ _ dR_weigh_33 rfl h
  refine g_locals (lv' := [(0, .ref (ad 0)), (1, iv a1), (2, iv a2), (3, iv a3)]) rfl ?_
  unfold w_Rweigh at h
  refine g_aload_n C dR_weigh_0 rfl ?_
  refine g_iload_n C dR_weigh_1 rfl ?_
  refine g_callVi C (nargs := 1) (o := 0) (st := []) (m_RisThing hci h) rfl (by decide) hci rfl gd_isThing (by decide +kernel) ⟨rfl, rfl⟩ dR_weigh_2 ⟨by decide, by decide⟩ rfl rfl (Nat.le_of_ble_eq_true rfl) ?_
  intro r2c M2 hN
  replace h := hN
  clear hN
  refine g_if_eq C 28 dR_weigh_5 (by decide) (fun hc => ?_) (fun hc => ?_)
  · replace h := h.1 hc
    refine g_locals (lv' := [(0, .ref (ad 0))]) rfl ?_
    exact pB28  _ h
  · replace h := h.2 hc
    refine g_iload_n C dR_weigh_8 rfl ?_
    refine g_iconst C dR_weigh_9 ?_
    refine g_ldc C 9999999 wi_34 rfl dR_weigh_10 ?_
    refine g_callSi C (nargs := 3) (st := []) (m_Rin hci h) gd_in (by decide +kernel) ⟨rfl, rfl⟩ dR_weigh_12 ⟨by decide, by decide⟩ rfl rfl (Nat.le_of_ble_eq_true rfl) ?_
    intro r12c M12 hN
    replace h := hN
    clear hN
    refine g_if_eq C 28 dR_weigh_15 (by decide) (fun hc => ?_) (fun hc => ?_)
    · replace h := h.1 hc
      refine g_locals (lv' := [(0, .ref (ad 0))]) rfl ?_
      exact pB28  _ h
    · replace h := h.2 hc
      refine g_iload_n C dR_weigh_18 rfl ?_
      refine g_iconst C dR_weigh_19 ?_
      refine g_bipush C dR_weigh_20 rfl ?_
      refine g_callSi C (nargs := 3) (st := []) (m_Rin hci h) gd_in (by decide +kernel) ⟨rfl, rfl⟩ dR_weigh_22 ⟨by decide, by decide⟩ rfl rfl (Nat.le_of_ble_eq_true rfl) ?_
      intro r22c M22 hN
      replace h := hN
      clear hN
      refine g_if_ne C 34 dR_weigh_25 (by decide) (fun hc => ?_) (fun hc => ?_)
      · replace h := h.1 hc
        refine g_aload_n C dR_weigh_34 rfl ?_
        refine rf_s C hci dR_weigh_35 ?_
        refine g_iconst C dR_weigh_38 ?_
        refine g_iald C (n := 536) dR_weigh_39 rfl (by decide) ⟨by decide, by decide⟩ ?_
        refine g_bipush C dR_weigh_40 rfl ?_
        refine g_icmp_ne C 51 dR_weigh_42 (by decide) (fun hc => ?_) (fun hc => ?_)
        · replace h := h.1 hc
          refine g_sipush C dR_weigh_51 rfl ?_
          refine g_iconst C dR_weigh_54 ?_
          refine g_aload_n C dR_weigh_55 rfl ?_
          refine rf_s C hci dR_weigh_56 ?_
          refine g_iconst C dR_weigh_59 ?_
          refine g_iald C (n := 536) dR_weigh_60 rfl (by decide) ⟨by decide, by decide⟩ ?_
          refine g_imul C dR_weigh_61 ?_
          refine g_iadd C dR_weigh_62 ?_
          refine g_name (fun x4_63 hx4_63 => ?_)
          replace h := h x4_63 hx4_63
          refine g_istore C dR_weigh_63 (by decide) rfl ?_
          refine g_locals (lv' := [(0, .ref (ad 0)), (1, iv a1), (2, iv a2), (3, iv a3), (4, iv x4_63)]) rfl ?_
          refine g_aload_n C dR_weigh_65 rfl ?_
          refine rf_s C hci dR_weigh_66 ?_
          refine g_iload C dR_weigh_69 rfl ?_
          refine g_iload_n C dR_weigh_71 rfl ?_
          refine g_iast C (n := 536) dR_weigh_72 rfl (by decide) h.1 ?_
          replace h := h.2
          refine g_memname (fun M72 hM72 => ?_)
          replace h := h M72 hM72
          refine g_aload_n C dR_weigh_73 rfl ?_
          refine rf_s C hci dR_weigh_74 ?_
          refine g_iload C dR_weigh_77 rfl ?_
          refine g_iconst C dR_weigh_79 ?_
          refine g_iadd C dR_weigh_80 ?_
          refine g_iload_n C dR_weigh_81 rfl ?_
          refine g_iast C (n := 536) dR_weigh_82 rfl (by decide) h.1 ?_
          replace h := h.2
          refine g_memname (fun M82 hM82 => ?_)
          replace h := h M82 hM82
          refine g_aload_n C dR_weigh_83 rfl ?_
          refine rf_s C hci dR_weigh_84 ?_
          refine g_iload C dR_weigh_87 rfl ?_
          refine g_iconst C dR_weigh_89 ?_
          refine g_iadd C dR_weigh_90 ?_
          refine g_iload_n C dR_weigh_91 rfl ?_
          refine g_iast C (n := 536) dR_weigh_92 rfl (by decide) h.1 ?_
          replace h := h.2
          refine g_memname (fun M92 hM92 => ?_)
          replace h := h M92 hM92
          refine g_aload_n C dR_weigh_93 rfl ?_
          refine rf_s C hci dR_weigh_94 ?_
          refine g_iconst C dR_weigh_97 ?_
          refine g_dup2 C dR_weigh_98 rfl rfl ?_
          refine g_iald C (n := 536) dR_weigh_99 rfl (by decide) ⟨by decide, by decide⟩ ?_
          refine g_iconst C dR_weigh_100 ?_
          refine g_iadd C dR_weigh_101 ?_
          refine g_iast C (n := 536) dR_weigh_102 rfl (by decide) ⟨by decide, by decide⟩ ?_
          refine g_memname (fun M102 hM102 => ?_)
          replace h := h M102 hM102
          refine g_aload_n C dR_weigh_103 rfl ?_
          refine rf_s C hci dR_weigh_104 ?_
          refine g_iconst C dR_weigh_107 ?_
          refine g_iald C (n := 536) dR_weigh_108 rfl (by decide) ⟨by decide, by decide⟩ ?_
          refine g_iconst C dR_weigh_109 ?_
          refine g_isub C dR_weigh_110 ?_
          exact hR _ _ _ _ dR_weigh_111 rfl h
        · replace h := h.2 hc
          refine g_aload_n C dR_weigh_45 rfl ?_
          refine g_iconst C dR_weigh_46 ?_
          refine g_callVi C (nargs := 1) (o := 0) (st := []) (m_Rerror hci h) rfl (by decide) hci rfl gd_error (by decide +kernel) ⟨rfl, rfl⟩ dR_weigh_47 ⟨by decide, by decide⟩ rfl rfl (Nat.le_of_ble_eq_true rfl) ?_
          intro r47c M47 hN
          replace h := hN
          clear hN
          exact hR _ _ _ _ dR_weigh_50 rfl h
      · replace h := h.2 hc
        refine g_locals (lv' := [(0, .ref (ad 0))]) rfl ?_
        exact pB28  _ h
def w_Rforget (a1 : Int) (M : gSt) (k : Int → gSt → Prop) : Prop :=
w_Rin a1 0 1 M (fun r3c M3 => 
  (¬ wrap r3c = 0 →
    (0 ≤ 3 + a1 ∧ 3 + a1 < 536) ∧ (∀ x2_23 : Int, x2_23 = M3 1 (3 + a1) → ((0 ≤ 3 + a1 ∧ 3 + a1 < 536) ∧ (∀ M32 : gSt, M32 = wr M3 1 (3 + a1) 0 → (k x2_23 M32))))) ∧
  (wrap r3c = 0 →
    w_Rerror 1 M3 (fun r11c M11 => k r11c M11)))
set_option maxHeartbeats 4000000 in
set_option maxRecDepth 100000 in
theorem m_Rforget {l : Launch} {D : va_G} {cl : List vw_C} {tys : List (ClassId × FieldType)} {ad : Nat → Nat} {cI : ClassId} {ci : Nat} {Z : (Nat → Prop) → State → Prop} (hci : cl[ci]? = some (RX9, TX9, 23)) {a1 : Int} {M : gSt} {k : Int → gSt → Prop} (h : w_Rforget a1 M k) : MOi l yX9_forget cX9_forget 3 .int (rmR 1 22) D cl ((cI, .int) :: tys) (wR ad cI ci) tR Z [.ref (ad 0), iv a1] M k := by
  refine moi_intro (by decide +kernel) (Nat.le_of_ble_eq_true rfl) wi_208 ?_
  intro p e s m args below meth c A Q C hR
  refine g_locals (lv' := [(0, .ref (ad 0)), (1, iv a1)]) rfl ?_
  unfold w_Rforget at h
  refine g_iload_n C dR_forget_0 rfl ?_
  refine g_iconst C dR_forget_1 ?_
  refine g_iconst C dR_forget_2 ?_
  refine g_callSi C (nargs := 3) (st := []) (m_Rin hci h) gd_in (by decide +kernel) ⟨rfl, rfl⟩ dR_forget_3 ⟨by decide, by decide⟩ rfl rfl (Nat.le_of_ble_eq_true rfl) ?_
  intro r3c M3 hN
  replace h := hN
  clear hN
  refine g_if_ne C 15 dR_forget_6 (by decide) (fun hc => ?_) (fun hc => ?_)
  · replace h := h.1 hc
    refine g_aload_n C dR_forget_15 rfl ?_
    refine rf_s C hci dR_forget_16 ?_
    refine g_iconst C dR_forget_19 ?_
    refine g_iload_n C dR_forget_20 rfl ?_
    refine g_iadd C dR_forget_21 ?_
    refine g_iald C (n := 536) dR_forget_22 rfl (by decide) h.1 ?_
    replace h := h.2
    refine g_name (fun x2_23 hx2_23 => ?_)
    replace h := h x2_23 hx2_23
    refine g_istore_n C dR_forget_23 (by decide) rfl ?_
    refine g_locals (lv' := [(0, .ref (ad 0)), (1, iv a1), (2, iv x2_23)]) rfl ?_
    refine g_aload_n C dR_forget_24 rfl ?_
    refine rf_s C hci dR_forget_25 ?_
    refine g_iconst C dR_forget_28 ?_
    refine g_iload_n C dR_forget_29 rfl ?_
    refine g_iadd C dR_forget_30 ?_
    refine g_iconst C dR_forget_31 ?_
    refine g_iast C (n := 536) dR_forget_32 rfl (by decide) h.1 ?_
    replace h := h.2
    refine g_memname (fun M32 hM32 => ?_)
    replace h := h M32 hM32
    refine g_iload_n C dR_forget_33 rfl ?_
    exact hR _ _ _ _ dR_forget_34 rfl h
  · replace h := h.2 hc
    refine g_aload_n C dR_forget_9 rfl ?_
    refine g_iconst C dR_forget_10 ?_
    refine g_callVi C (nargs := 1) (o := 0) (st := []) (m_Rerror hci h) rfl (by decide) hci rfl gd_error (by decide +kernel) ⟨rfl, rfl⟩ dR_forget_11 ⟨by decide, by decide⟩ rfl rfl (Nat.le_of_ble_eq_true rfl) ?_
    intro r11c M11 hN
    replace h := hN
    clear hN
    exact hR _ _ _ _ dR_forget_14 rfl h
