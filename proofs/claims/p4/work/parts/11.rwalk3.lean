def wB_Rmelt_18 (a1 : Int) (a2 : Int) (k : Int → gSt → Prop)   (M : gSt) : Prop :=
w_Rerror 1 M (fun r20c M20 => k r20c M20)
def w_Rmelt (a1 : Int) (a2 : Int) (M : gSt) (k : Int → gSt → Prop) : Prop :=
w_RisThing a1 M (fun r2c M2 => 
  (wrap r2c = 0 →
    wB_Rmelt_18 a1 a2 k   M2) ∧
  (¬ wrap r2c = 0 →
    w_Rin a2 1 8 M2 (fun r12c M12 => 
    (¬ wrap r12c = 0 →
      w_Rits a1 2 M12 (fun r27c M27 => 
      (¬ wrap r27c = 0 →
        w_Rmoves a1 12 a2 M27 (fun M44 => w_Rits 12 2 M44 (fun r51c M51 => k r51c M51))) ∧
      (wrap r27c = 0 →
        w_Rerror 3 M27 (fun r35c M35 => k r35c M35)))) ∧
    (wrap r12c = 0 →
      wB_Rmelt_18 a1 a2 k   M12))))
set_option maxHeartbeats 4000000 in
set_option maxRecDepth 100000 in
theorem m_Rmelt {l : Launch} {D : va_G} {cl : List vw_C} {tys : List (ClassId × FieldType)} {ad : Nat → Nat} {cI : ClassId} {ci : Nat} {Z : (Nat → Prop) → State → Prop} (hci : cl[ci]? = some (RX9, TX9, 23)) {a1 : Int} {a2 : Int} {M : gSt} {k : Int → gSt → Prop} (h : w_Rmelt a1 a2 M k) : MOi l yX9_melt cX9_melt 3 .int (rmR 2 53) D cl ((cI, .int) :: tys) (wR ad cI ci) tR Z [.ref (ad 0), iv a1, iv a2] M k := by
  refine moi_intro (by decide +kernel) (Nat.le_of_ble_eq_true rfl) wi_93 ?_
  intro p e s m args below meth c A Q C hR
  have pB18 : ∀    (M : gSt), wB_Rmelt_18 a1 a2 k   M → gG p l e (rmR 2 53) s m args below meth c Q D cl A (wR ad cI ci) 3 18 [(0, .ref (ad 0))] [] M := by
    intro    M h
    unfold wB_Rmelt_18 at h
    refine g_aload_n C dR_melt_18 rfl ?_
    refine g_iconst C dR_melt_19 ?_
    refine g_callVi C (nargs := 1) (o := 0) (st := []) (m_Rerror hci h) rfl (by decide) hci rfl gd_error (by decide +kernel) ⟨rfl, rfl⟩ dR_melt_20 ⟨by decide, by decide⟩ rfl rfl (Nat.le_of_ble_eq_true rfl) ?_
    intro r20c M20 hN
    replace h := hN
    clear hN
    exact hR _ _ _ _ dR_melt_23 rfl h
  refine g_locals (lv' := [(0, .ref (ad 0)), (1, iv a1), (2, iv a2)]) rfl ?_
  unfold w_Rmelt at h
  refine g_aload_n C dR_melt_0 rfl ?_
  refine g_iload_n C dR_melt_1 rfl ?_
  refine g_callVi C (nargs := 1) (o := 0) (st := []) (m_RisThing hci h) rfl (by decide) hci rfl gd_isThing (by decide +kernel) ⟨rfl, rfl⟩ dR_melt_2 ⟨by decide, by decide⟩ rfl rfl (Nat.le_of_ble_eq_true rfl) ?_
  intro r2c M2 hN
  replace h := hN
  clear hN
  refine g_if_eq C 18 dR_melt_5 (by decide) (fun hc => ?_) (fun hc => ?_)
  · replace h := h.1 hc
    refine g_locals (lv' := [(0, .ref (ad 0))]) rfl ?_
    exact pB18  _ h
  · replace h := h.2 hc
    refine g_iload_n C dR_melt_8 rfl ?_
    refine g_iconst C dR_melt_9 ?_
    refine g_bipush C dR_melt_10 rfl ?_
    refine g_callSi C (nargs := 3) (st := []) (m_Rin hci h) gd_in (by decide +kernel) ⟨rfl, rfl⟩ dR_melt_12 ⟨by decide, by decide⟩ rfl rfl (Nat.le_of_ble_eq_true rfl) ?_
    intro r12c M12 hN
    replace h := hN
    clear hN
    refine g_if_ne C 24 dR_melt_15 (by decide) (fun hc => ?_) (fun hc => ?_)
    · replace h := h.1 hc
      refine g_aload_n C dR_melt_24 rfl ?_
      refine g_iload_n C dR_melt_25 rfl ?_
      refine g_iconst C dR_melt_26 ?_
      refine g_callVi C (nargs := 2) (o := 0) (st := []) (m_Rits hci h) rfl (by decide) hci rfl gd_its (by decide +kernel) ⟨rfl, rfl⟩ dR_melt_27 ⟨by decide, by decide⟩ rfl rfl (Nat.le_of_ble_eq_true rfl) ?_
      intro r27c M27 hN
      replace h := hN
      clear hN
      refine g_if_ne C 39 dR_melt_30 (by decide) (fun hc => ?_) (fun hc => ?_)
      · replace h := h.1 hc
        refine g_aload_n C dR_melt_39 rfl ?_
        refine g_iload_n C dR_melt_40 rfl ?_
        refine g_bipush C dR_melt_41 rfl ?_
        refine g_iload_n C dR_melt_43 rfl ?_
        refine g_callVv C (nargs := 3) (o := 0) (st := []) (m_Rmoves hci h) rfl (by decide) hci rfl gd_moves (by decide +kernel) ⟨rfl, rfl⟩ dR_melt_44 ⟨by decide, by decide⟩ rfl rfl (Nat.le_of_ble_eq_true rfl) ?_
        intro M44 hN
        replace h := hN
        clear hN
        refine g_aload_n C dR_melt_47 rfl ?_
        refine g_bipush C dR_melt_48 rfl ?_
        refine g_iconst C dR_melt_50 ?_
        refine g_callVi C (nargs := 2) (o := 0) (st := []) (m_Rits hci h) rfl (by decide) hci rfl gd_its (by decide +kernel) ⟨rfl, rfl⟩ dR_melt_51 ⟨by decide, by decide⟩ rfl rfl (Nat.le_of_ble_eq_true rfl) ?_
        intro r51c M51 hN
        replace h := hN
        clear hN
        exact hR _ _ _ _ dR_melt_54 rfl h
      · replace h := h.2 hc
        refine g_aload_n C dR_melt_33 rfl ?_
        refine g_iconst C dR_melt_34 ?_
        refine g_callVi C (nargs := 1) (o := 0) (st := []) (m_Rerror hci h) rfl (by decide) hci rfl gd_error (by decide +kernel) ⟨rfl, rfl⟩ dR_melt_35 ⟨by decide, by decide⟩ rfl rfl (Nat.le_of_ble_eq_true rfl) ?_
        intro r35c M35 hN
        replace h := hN
        clear hN
        exact hR _ _ _ _ dR_melt_38 rfl h
    · replace h := h.2 hc
      refine g_locals (lv' := [(0, .ref (ad 0))]) rfl ?_
      exact pB18  _ h
def w_Rcrucible (a1 : Int) (M : gSt) (k : Int → gSt → Prop) : Prop :=
w_Rin a1 2 9 M (fun r4c M4 => 
  (wrap r4c = 0 →
    w_Rerror 1 M4 (fun r22c M22 => k r22c M22)) ∧
  (¬ wrap r4c = 0 →
    w_Rits 12 a1 M4 (fun r14c M14 => k r14c M14)))
set_option maxHeartbeats 4000000 in
set_option maxRecDepth 100000 in
theorem m_Rcrucible {l : Launch} {D : va_G} {cl : List vw_C} {tys : List (ClassId × FieldType)} {ad : Nat → Nat} {cI : ClassId} {ci : Nat} {Z : (Nat → Prop) → State → Prop} (hci : cl[ci]? = some (RX9, TX9, 23)) {a1 : Int} {M : gSt} {k : Int → gSt → Prop} (h : w_Rcrucible a1 M k) : MOi l yX9_crucible cX9_crucible 2 .int (rmR 1 22) D cl ((cI, .int) :: tys) (wR ad cI ci) tR Z [.ref (ad 0), iv a1] M k := by
  refine moi_intro (by decide +kernel) (Nat.le_of_ble_eq_true rfl) wi_94 ?_
  intro p e s m args below meth c A Q C hR
  refine g_locals (lv' := [(0, .ref (ad 0)), (1, iv a1)]) rfl ?_
  unfold w_Rcrucible at h
  refine g_iload_n C dR_crucible_0 rfl ?_
  refine g_iconst C dR_crucible_1 ?_
  refine g_bipush C dR_crucible_2 rfl ?_
  refine g_callSi C (nargs := 3) (st := []) (m_Rin hci h) gd_in (by decide +kernel) ⟨rfl, rfl⟩ dR_crucible_4 ⟨by decide, by decide⟩ rfl rfl (Nat.le_of_ble_eq_true rfl) ?_
  intro r4c M4 hN
  replace h := hN
  clear hN
  refine g_if_eq C 20 dR_crucible_7 (by decide) (fun hc => ?_) (fun hc => ?_)
  · replace h := h.1 hc
    refine g_aload_n C dR_crucible_20 rfl ?_
    refine g_iconst C dR_crucible_21 ?_
    refine g_callVi C (nargs := 1) (o := 0) (st := []) (m_Rerror hci h) rfl (by decide) hci rfl gd_error (by decide +kernel) ⟨rfl, rfl⟩ dR_crucible_22 ⟨by decide, by decide⟩ rfl rfl (Nat.le_of_ble_eq_true rfl) ?_
    intro r22c M22 hN
    replace h := hN
    clear hN
    exact hR _ _ _ _ dR_crucible_25 rfl h
  · replace h := h.2 hc
    refine g_aload_n C dR_crucible_10 rfl ?_
    refine g_bipush C dR_crucible_11 rfl ?_
    refine g_iload_n C dR_crucible_13 rfl ?_
    refine g_callVi C (nargs := 2) (o := 0) (st := []) (m_Rits hci h) rfl (by decide) hci rfl gd_its (by decide +kernel) ⟨rfl, rfl⟩ dR_crucible_14 ⟨by decide, by decide⟩ rfl rfl (Nat.le_of_ble_eq_true rfl) ?_
    intro r14c M14 hN
    replace h := hN
    clear hN
    refine g_goto C 25 dR_crucible_17 (by decide) ?_
    exact hR _ _ _ _ dR_crucible_25 rfl h
def wC_Rcast_168 (a1 : Int) (a2 : Int) (a3 : Int) (k : Int → gSt → Prop) (r168 : Int → Int → Int → Int → Int → gSt → Prop) (X168_204 : Int → Int → gSt → Prop) (v5 : Int) (v6 : Int) (v7 : Int) (v8 : Int) (v9 : Int) (M : gSt) : Prop :=

  (10 ≤ wrap v9 →
    X168_204 v5 v6 M) ∧
  (wrap v9 < 10 →
    w_Rits 12 v9 M (fun r185c M185 => w_RpartOf r185c v7 v8 M185 (fun r192c M192 => w_Rlays1 12 v9 r192c M192 (fun M195 => r168 v5 v6 v7 v8 (v9 + 1) M195))))
def wL_Rcast_168 (a1 : Int) (a2 : Int) (a3 : Int) (k : Int → gSt → Prop)  (X168_204 : Int → Int → gSt → Prop) : Nat → Int → Int → Int → Int → Int → gSt → Prop
  | 0 => fun _ _ _ _ _ _ => False
  | n + 1 => fun v5 v6 v7 v8 v9 M => wC_Rcast_168 a1 a2 a3 k  (wL_Rcast_168 a1 a2 a3 k  X168_204 n) X168_204 v5 v6 v7 v8 v9 M
def wB_Rcast_347 (a1 : Int) (a2 : Int) (a3 : Int) (k : Int → gSt → Prop) (r232 : Int → Int → Int → Int → Int → gSt → Prop) (X232_362 : Int → gSt → Prop) (v5 : Int) (v6 : Int) (v9 : Int) (v10 : Int) (v11 : Int) (M : gSt) : Prop :=
w_Rlays1 12 v11 0 M (fun M353 => r232 v5 v6 v9 v10 (v11 + 1) M353)
def wB_Rcast_328 (a1 : Int) (a2 : Int) (a3 : Int) (k : Int → gSt → Prop) (r232 : Int → Int → Int → Int → Int → gSt → Prop) (X232_362 : Int → gSt → Prop) (v5 : Int) (v6 : Int) (v9 : Int) (v10 : Int) (v11 : Int) (v15 : Int) (s0 : Int) (s1 : Int) (s2 : Int) (M : gSt) : Prop :=
w_Rlays1 s2 s1 s0 M (fun M328 => 
  (wrap v10 = (-1) →
    wB_Rcast_347 a1 a2 a3 k r232 X232_362 v5 v6 v9 v10 v11 M328) ∧
  (¬ wrap v10 = (-1) →
    w_Rlays1 v10 v11 v15 M328 (fun M344 => wB_Rcast_347 a1 a2 a3 k r232 X232_362 v5 v6 v9 v10 v11 M344)))
def wB_Rcast_306 (a1 : Int) (a2 : Int) (a3 : Int) (k : Int → gSt → Prop) (r232 : Int → Int → Int → Int → Int → gSt → Prop) (X232_362 : Int → gSt → Prop) (v5 : Int) (v6 : Int) (v9 : Int) (v10 : Int) (v11 : Int) (v12 : Int) (v13 : Int) (v14 : Int) (s0 : Int) (M : gSt) : Prop :=

  (wrap v13 = 0 →
    wB_Rcast_328 a1 a2 a3 k r232 X232_362 v5 v6 v9 v10 v11 s0 (v14 - s0) v11 v9 M) ∧
  (¬ wrap v13 = 0 →
    wB_Rcast_328 a1 a2 a3 k r232 X232_362 v5 v6 v9 v10 v11 s0 v12 v11 v9 M)
def wB_Rcast_285 (a1 : Int) (a2 : Int) (a3 : Int) (k : Int → gSt → Prop) (r232 : Int → Int → Int → Int → Int → gSt → Prop) (X232_362 : Int → gSt → Prop) (v5 : Int) (v6 : Int) (v9 : Int) (v10 : Int) (v11 : Int) (v12 : Int) (v13 : Int) (s0 : Int) (M : gSt) : Prop :=

  (wrap v13 = 0 →
    w_RpartOf s0 v6 10 M (fun r303c M303 => wB_Rcast_306 a1 a2 a3 k r232 X232_362 v5 v6 v9 v10 v11 v12 v13 s0 r303c M303)) ∧
  (¬ wrap v13 = 0 →
    wB_Rcast_306 a1 a2 a3 k r232 X232_362 v5 v6 v9 v10 v11 v12 v13 s0 v12 M)
def wB_Rcast_261 (a1 : Int) (a2 : Int) (a3 : Int) (k : Int → gSt → Prop) (r232 : Int → Int → Int → Int → Int → gSt → Prop) (X232_362 : Int → gSt → Prop) (v5 : Int) (v6 : Int) (v9 : Int) (v10 : Int) (v11 : Int) (v12 : Int) (s0 : Int) (M : gSt) : Prop :=

  (wrap s0 = 0 →
    w_RpartOf v12 v5 100 M (fun r281c M281 => wB_Rcast_285 a1 a2 a3 k r232 X232_362 v5 v6 v9 v10 v11 v12 s0 (v12 - r281c) M281)) ∧
  (¬ wrap s0 = 0 →
    wB_Rcast_285 a1 a2 a3 k r232 X232_362 v5 v6 v9 v10 v11 v12 s0 v12 M)
def wC_Rcast_232 (a1 : Int) (a2 : Int) (a3 : Int) (k : Int → gSt → Prop) (r232 : Int → Int → Int → Int → Int → gSt → Prop) (X232_362 : Int → gSt → Prop) (v5 : Int) (v6 : Int) (v9 : Int) (v10 : Int) (v11 : Int) (M : gSt) : Prop :=

  (10 ≤ wrap v11 →
    X232_362 v9 M) ∧
  (wrap v11 < 10 →
    w_Rits 12 v11 M (fun r244c M244 => 
    (wrap v11 < 6 →
      wB_Rcast_261 a1 a2 a3 k r232 X232_362 v5 v6 v9 v10 v11 r244c 0 M244) ∧
    (6 ≤ wrap v11 →
      wB_Rcast_261 a1 a2 a3 k r232 X232_362 v5 v6 v9 v10 v11 r244c 1 M244)))
def wL_Rcast_232 (a1 : Int) (a2 : Int) (a3 : Int) (k : Int → gSt → Prop)  (X232_362 : Int → gSt → Prop) : Nat → Int → Int → Int → Int → Int → gSt → Prop
  | 0 => fun _ _ _ _ _ _ => False
  | n + 1 => fun v5 v6 v9 v10 v11 M => wC_Rcast_232 a1 a2 a3 k  (wL_Rcast_232 a1 a2 a3 k  X232_362 n) X232_362 v5 v6 v9 v10 v11 M
def wB_Rcast_227 (a1 : Int) (a2 : Int) (a3 : Int) (k : Int → gSt → Prop)  (v5 : Int) (v6 : Int) (v9 : Int) (s0 : Int) (M : gSt) : Prop :=
∃ n, wL_Rcast_232 a1 a2 a3 k  (fun u9_232 M232 =>
    k u9_232 M232) n v5 v6 v9 s0 2 M
def wB_Rcast_109 (a1 : Int) (a2 : Int) (a3 : Int) (k : Int → gSt → Prop)  (v5 : Int) (v6 : Int) (v7 : Int) (s0 : Int) (s1 : Int) (M : gSt) : Prop :=

  (wrap (s1 + s0) ≤ 12 →
    w_Rheld (v7 + a2) 0 9999999 M (fun r128c M128 => w_Rlays1 12 2 r128c M128 (fun M139 => w_Rits 12 3 M139 (fun r150c M150 => w_Rheld (r150c + a2) 0 r128c M150 (fun r158c M158 => w_Rlays1 12 3 r158c M158 (fun M161 => ∃ n, wL_Rcast_168 a1 a2 a3 k  (fun u5_168 u6_168 M168 =>
      w_RaddThing a1 M168 (fun r206c M206 => 
      (wrap u6_168 ≤ 0 →
        wB_Rcast_227 a1 a2 a3 k  u5_168 u6_168 r206c (-1) M206) ∧
      (0 < wrap u6_168 →
        w_RaddThing 600 M206 (fun r220c M220 => wB_Rcast_227 a1 a2 a3 k  u5_168 u6_168 r206c r220c M220)))) n v5 v6 v7 r128c 6 M161)))))) ∧
  (12 < wrap (s1 + s0) →
    w_Rerror 4 M (fun r117c M117 => k r117c M117))
def wB_Rcast_45 (a1 : Int) (a2 : Int) (a3 : Int) (k : Int → gSt → Prop)  (s0 : Int) (M : gSt) : Prop :=

  (¬ wrap s0 = 0 →
    ∀ x5_62 : Int, x5_62 = Int.tdiv (wrap a3) 100 → (∀ x6_71 : Int, x6_71 = Int.tmod (wrap (Int.tdiv (wrap a3) 10)) 10 → (w_Rits 12 2 M (fun r77c M77 => 
    (¬ wrap r77c = 0 →

      (wrap x6_71 ≤ 0 →
        wB_Rcast_109 a1 a2 a3 k  x5_62 x6_71 r77c 1 (M77 1 0) M77) ∧
      (0 < wrap x6_71 →
        wB_Rcast_109 a1 a2 a3 k  x5_62 x6_71 r77c 2 (M77 1 0) M77)) ∧
    (wrap r77c = 0 →
      w_Rerror 3 M77 (fun r89c M89 => k r89c M89)))))) ∧
  (wrap s0 = 0 →
    w_Rerror 1 M (fun r54c M54 => k r54c M54))
def wB_Rcast_44 (a1 : Int) (a2 : Int) (a3 : Int) (k : Int → gSt → Prop)   (M : gSt) : Prop :=
wB_Rcast_45 a1 a2 a3 k  0 M
def w_Rcast (a1 : Int) (a2 : Int) (a3 : Int) (M : gSt) (k : Int → gSt → Prop) : Prop :=
w_Rin a1 0 699 M (fun r5c M5 => 
  (wrap r5c = 0 →
    wB_Rcast_44 a1 a2 a3 k   M5) ∧
  (¬ wrap r5c = 0 →
    w_Rin a2 0 9999 M5 (fun r16c M16 => 
    (wrap r16c = 0 →
      wB_Rcast_44 a1 a2 a3 k   M16) ∧
    (¬ wrap r16c = 0 →
      w_Rin a3 0 990 M16 (fun r27c M27 => 
      (wrap r27c = 0 →
        wB_Rcast_44 a1 a2 a3 k   M27) ∧
      (¬ wrap r27c = 0 →

        (¬ wrap (Int.tmod (wrap a3) 10) = 0 →
          wB_Rcast_44 a1 a2 a3 k   M27) ∧
        (wrap (Int.tmod (wrap a3) 10) = 0 →
          wB_Rcast_45 a1 a2 a3 k  1 M27)))))))
set_option maxHeartbeats 4000000 in
set_option maxRecDepth 100000 in
theorem m_Rcast {l : Launch} {D : va_G} {cl : List vw_C} {tys : List (ClassId × FieldType)} {ad : Nat → Nat} {cI : ClassId} {ci : Nat} {Z : (Nat → Prop) → State → Prop} (hci : cl[ci]? = some (RX9, TX9, 23)) {a1 : Int} {a2 : Int} {a3 : Int} {M : gSt} {k : Int → gSt → Prop} (h : w_Rcast a1 a2 a3 M k) : MOi l yX9_cast cX9_cast 16 .int (rmR 2 46) D cl ((cI, .int) :: tys) (wR ad cI ci) tR Z [.ref (ad 0), iv a1, iv a2, iv a3] M k := by
  refine moi_intro (by decide +kernel) (Nat.le_of_ble_eq_true rfl) wi_95 ?_
  intro p e s m args below meth c A Q C hR
  have pC168 : ∀ (r168 : Int → Int → Int → Int → Int → gSt → Prop) (X168_204 : Int → Int → gSt → Prop) (hr168 : ∀ (v5 : Int) (v6 : Int) (v7 : Int) (v8 : Int) (v9 : Int) (M : gSt), r168 v5 v6 v7 v8 v9 M → gG p l e (rmR 2 46) s m args below meth c Q D cl A (wR ad cI ci) 16 168 [(0, .ref (ad 0)), (1, iv a1), (5, iv v5), (6, iv v6), (7, iv v7), (8, iv v8), (9, iv v9)] [] M) (hX168_204 : ∀ (v5 : Int) (v6 : Int) (M : gSt), X168_204 v5 v6 M → gG p l e (rmR 2 46) s m args below meth c Q D cl A (wR ad cI ci) 16 204 [(0, .ref (ad 0)), (1, iv a1), (5, iv v5), (6, iv v6)] [] M) (v5 : Int) (v6 : Int) (v7 : Int) (v8 : Int) (v9 : Int) (M : gSt), wC_Rcast_168 a1 a2 a3 k r168 X168_204 v5 v6 v7 v8 v9 M → gG p l e (rmR 2 46) s m args below meth c Q D cl A (wR ad cI ci) 16 168 [(0, .ref (ad 0)), (1, iv a1), (5, iv v5), (6, iv v6), (7, iv v7), (8, iv v8), (9, iv v9)] [] M := by
    intro r168 X168_204 hr168 hX168_204 v5 v6 v7 v8 v9 M h
    unfold wC_Rcast_168 at h
    refine g_iload C dR_cast_168 rfl ?_
    refine g_bipush C dR_cast_170 rfl ?_
    refine g_icmp_ge C 204 dR_cast_172 (by decide) (fun hc => ?_) (fun hc => ?_)
    · replace h := h.1 hc
      refine g_locals (lv' := [(0, .ref (ad 0)), (1, iv a1), (5, iv v5), (6, iv v6)]) rfl ?_
      exact hX168_204 _ _  _ h
    · replace h := h.2 hc
      refine g_aload_n C dR_cast_175 rfl ?_
      refine g_bipush C dR_cast_176 rfl ?_
      refine g_iload C dR_cast_178 rfl ?_
      refine g_aload_n C dR_cast_180 rfl ?_
      refine g_bipush C dR_cast_181 rfl ?_
      refine g_iload C dR_cast_183 rfl ?_
      refine g_callVi C (nargs := 2) (o := 0) (st := [iv v9, iv 12, .ref (ad 0)]) (m_Rits hci h) rfl (by decide) hci rfl gd_its (by decide +kernel) ⟨rfl, rfl⟩ dR_cast_185 ⟨by decide, by decide⟩ rfl rfl (Nat.le_of_ble_eq_true rfl) ?_
      intro r185c M185 hN
      replace h := hN
      clear hN
      refine g_iload C dR_cast_188 rfl ?_
      refine g_iload C dR_cast_190 rfl ?_
      refine g_callSi C (nargs := 3) (st := [iv v9, iv 12, .ref (ad 0)]) (m_RpartOf hci h) gd_partOf (by decide +kernel) ⟨rfl, rfl⟩ dR_cast_192 ⟨by decide, by decide⟩ rfl rfl (Nat.le_of_ble_eq_true rfl) ?_
      intro r192c M192 hN
      replace h := hN
      clear hN
      refine g_callVv C (nargs := 3) (o := 0) (st := []) (m_Rlays1 hci h) rfl (by decide) hci rfl gd_lays1 (by decide +kernel) ⟨rfl, rfl⟩ dR_cast_195 ⟨by decide, by decide⟩ rfl rfl (Nat.le_of_ble_eq_true rfl) ?_
      intro M195 hN
      replace h := hN
      clear hN
      refine g_iinc C dR_cast_198 rfl (by decide) rfl ?_
      refine g_locals (lv' := [(0, .ref (ad 0)), (1, iv a1), (5, iv v5), (6, iv v6), (7, iv v7), (8, iv v8), (9, iv (v9 + 1))]) rfl ?_
      refine g_goto C 168 dR_cast_201 (by decide) ?_
      refine g_locals (lv' := [(0, .ref (ad 0)), (1, iv a1), (5, iv v5), (6, iv v6), (7, iv v7), (8, iv v8), (9, iv (v9 + 1))]) rfl ?_
      exact hr168 _ _ _ _ _  _ h
  have pL168 : ∀  (X168_204 : Int → Int → gSt → Prop) (hX168_204 : ∀ (v5 : Int) (v6 : Int) (M : gSt), X168_204 v5 v6 M → gG p l e (rmR 2 46) s m args below meth c Q D cl A (wR ad cI ci) 16 204 [(0, .ref (ad 0)), (1, iv a1), (5, iv v5), (6, iv v6)] [] M) (n : Nat) (v5 : Int) (v6 : Int) (v7 : Int) (v8 : Int) (v9 : Int) (M : gSt), wL_Rcast_168 a1 a2 a3 k  X168_204 n v5 v6 v7 v8 v9 M → gG p l e (rmR 2 46) s m args below meth c Q D cl A (wR ad cI ci) 16 168 [(0, .ref (ad 0)), (1, iv a1), (5, iv v5), (6, iv v6), (7, iv v7), (8, iv v8), (9, iv v9)] [] M := by
    intro  X168_204 hX168_204 n
    induction n with
    | zero => intro v5 v6 v7 v8 v9 M h; exact h.elim
    | succ n ih =>
      intro v5 v6 v7 v8 v9 M h
      exact pC168  (wL_Rcast_168 a1 a2 a3 k  X168_204 n) X168_204 ih hX168_204 v5 v6 v7 v8 v9 M h
  have pB347 : ∀ (r232 : Int → Int → Int → Int → Int → gSt → Prop) (X232_362 : Int → gSt → Prop) (hr232 : ∀ (v5 : Int) (v6 : Int) (v9 : Int) (v10 : Int) (v11 : Int) (M : gSt), r232 v5 v6 v9 v10 v11 M → gG p l e (rmR 2 46) s m args below meth c Q D cl A (wR ad cI ci) 16 232 [(0, .ref (ad 0)), (5, iv v5), (6, iv v6), (9, iv v9), (10, iv v10), (11, iv v11)] [] M) (hX232_362 : ∀ (v9 : Int) (M : gSt), X232_362 v9 M → gG p l e (rmR 2 46) s m args below meth c Q D cl A (wR ad cI ci) 16 362 [(9, iv v9)] [] M) (v5 : Int) (v6 : Int) (v9 : Int) (v10 : Int) (v11 : Int) (M : gSt), wB_Rcast_347 a1 a2 a3 k r232 X232_362 v5 v6 v9 v10 v11 M → gG p l e (rmR 2 46) s m args below meth c Q D cl A (wR ad cI ci) 16 347 [(0, .ref (ad 0)), (5, iv v5), (6, iv v6), (9, iv v9), (10, iv v10), (11, iv v11)] [] M := by
    intro r232 X232_362 hr232 hX232_362 v5 v6 v9 v10 v11 M h
    unfold wB_Rcast_347 at h
    refine g_aload_n C dR_cast_347 rfl ?_
    refine g_bipush C dR_cast_348 rfl ?_
    refine g_iload C dR_cast_350 rfl ?_
    refine g_iconst C dR_cast_352 ?_
    refine g_callVv C (nargs := 3) (o := 0) (st := []) (m_Rlays1 hci h) rfl (by decide) hci rfl gd_lays1 (by decide +kernel) ⟨rfl, rfl⟩ dR_cast_353 ⟨by decide, by decide⟩ rfl rfl (Nat.le_of_ble_eq_true rfl) ?_
    intro M353 hN
    replace h := hN
    clear hN
    refine g_iinc C dR_cast_356 rfl (by decide) rfl ?_
    refine g_locals (lv' := [(0, .ref (ad 0)), (5, iv v5), (6, iv v6), (9, iv v9), (10, iv v10), (11, iv (v11 + 1))]) rfl ?_
    refine g_goto C 232 dR_cast_359 (by decide) ?_
    refine g_locals (lv' := [(0, .ref (ad 0)), (5, iv v5), (6, iv v6), (9, iv v9), (10, iv v10), (11, iv (v11 + 1))]) rfl ?_
    exact hr232 _ _ _ _ _  _ h
  have pB328 : ∀ (r232 : Int → Int → Int → Int → Int → gSt → Prop) (X232_362 : Int → gSt → Prop) (hr232 : ∀ (v5 : Int) (v6 : Int) (v9 : Int) (v10 : Int) (v11 : Int) (M : gSt), r232 v5 v6 v9 v10 v11 M → gG p l e (rmR 2 46) s m args below meth c Q D cl A (wR ad cI ci) 16 232 [(0, .ref (ad 0)), (5, iv v5), (6, iv v6), (9, iv v9), (10, iv v10), (11, iv v11)] [] M) (hX232_362 : ∀ (v9 : Int) (M : gSt), X232_362 v9 M → gG p l e (rmR 2 46) s m args below meth c Q D cl A (wR ad cI ci) 16 362 [(9, iv v9)] [] M) (v5 : Int) (v6 : Int) (v9 : Int) (v10 : Int) (v11 : Int) (v15 : Int) (s0 : Int) (s1 : Int) (s2 : Int) (M : gSt), wB_Rcast_328 a1 a2 a3 k r232 X232_362 v5 v6 v9 v10 v11 v15 s0 s1 s2 M → gG p l e (rmR 2 46) s m args below meth c Q D cl A (wR ad cI ci) 16 328 [(0, .ref (ad 0)), (5, iv v5), (6, iv v6), (9, iv v9), (10, iv v10), (11, iv v11), (15, iv v15)] [iv s0, iv s1, iv s2, .ref (ad 0)] M := by
    intro r232 X232_362 hr232 hX232_362 v5 v6 v9 v10 v11 v15 s0 s1 s2 M h
    unfold wB_Rcast_328 at h
    refine g_callVv C (nargs := 3) (o := 0) (st := []) (m_Rlays1 hci h) rfl (by decide) hci rfl gd_lays1 (by decide +kernel) ⟨rfl, rfl⟩ dR_cast_328 ⟨by decide, by decide⟩ rfl rfl (Nat.le_of_ble_eq_true rfl) ?_
    intro M328 hN
    replace h := hN
    clear hN
    refine g_iload C dR_cast_331 rfl ?_
    refine g_iconst C dR_cast_333 ?_
    refine g_icmp_eq C 347 dR_cast_334 (by decide) (fun hc => ?_) (fun hc => ?_)
    · replace h := h.1 hc
      refine g_locals (lv' := [(0, .ref (ad 0)), (5, iv v5), (6, iv v6), (9, iv v9), (10, iv v10), (11, iv v11)]) rfl ?_
      exact pB347 r232 X232_362 hr232 hX232_362 _ _ _ _ _ _ h
    · replace h := h.2 hc
      refine g_aload_n C dR_cast_337 rfl ?_
      refine g_iload C dR_cast_338 rfl ?_
      refine g_iload C dR_cast_340 rfl ?_
      refine g_iload C dR_cast_342 rfl ?_
      refine g_callVv C (nargs := 3) (o := 0) (st := []) (m_Rlays1 hci h) rfl (by decide) hci rfl gd_lays1 (by decide +kernel) ⟨rfl, rfl⟩ dR_cast_344 ⟨by decide, by decide⟩ rfl rfl (Nat.le_of_ble_eq_true rfl) ?_
      intro M344 hN
      replace h := hN
      clear hN
      refine g_locals (lv' := [(0, .ref (ad 0)), (5, iv v5), (6, iv v6), (9, iv v9), (10, iv v10), (11, iv v11)]) rfl ?_
      exact pB347 r232 X232_362 hr232 hX232_362 _ _ _ _ _ _ h
  have pB306 : ∀ (r232 : Int → Int → Int → Int → Int → gSt → Prop) (X232_362 : Int → gSt → Prop) (hr232 : ∀ (v5 : Int) (v6 : Int) (v9 : Int) (v10 : Int) (v11 : Int) (M : gSt), r232 v5 v6 v9 v10 v11 M → gG p l e (rmR 2 46) s m args below meth c Q D cl A (wR ad cI ci) 16 232 [(0, .ref (ad 0)), (5, iv v5), (6, iv v6), (9, iv v9), (10, iv v10), (11, iv v11)] [] M) (hX232_362 : ∀ (v9 : Int) (M : gSt), X232_362 v9 M → gG p l e (rmR 2 46) s m args below meth c Q D cl A (wR ad cI ci) 16 362 [(9, iv v9)] [] M) (v5 : Int) (v6 : Int) (v9 : Int) (v10 : Int) (v11 : Int) (v12 : Int) (v13 : Int) (v14 : Int) (s0 : Int) (M : gSt), wB_Rcast_306 a1 a2 a3 k r232 X232_362 v5 v6 v9 v10 v11 v12 v13 v14 s0 M → gG p l e (rmR 2 46) s m args below meth c Q D cl A (wR ad cI ci) 16 306 [(0, .ref (ad 0)), (5, iv v5), (6, iv v6), (9, iv v9), (10, iv v10), (11, iv v11), (12, iv v12), (13, iv v13), (14, iv v14)] [iv s0] M := by
    intro r232 X232_362 hr232 hX232_362 v5 v6 v9 v10 v11 v12 v13 v14 s0 M h
    unfold wB_Rcast_306 at h
    refine g_istore C dR_cast_306 (by decide) rfl ?_
    refine g_locals (lv' := [(0, .ref (ad 0)), (5, iv v5), (6, iv v6), (9, iv v9), (10, iv v10), (11, iv v11), (12, iv v12), (13, iv v13), (14, iv v14), (15, iv s0)]) rfl ?_
    refine g_aload_n C dR_cast_308 rfl ?_
    refine g_iload C dR_cast_309 rfl ?_
    refine g_iload C dR_cast_311 rfl ?_
    refine g_iload C dR_cast_313 rfl ?_
    refine g_if_eq C 323 dR_cast_315 (by decide) (fun hc => ?_) (fun hc => ?_)
    · replace h := h.1 hc
      refine g_iload C dR_cast_323 rfl ?_
      refine g_iload C dR_cast_325 rfl ?_
      refine g_isub C dR_cast_327 ?_
      refine g_locals (lv' := [(0, .ref (ad 0)), (5, iv v5), (6, iv v6), (9, iv v9), (10, iv v10), (11, iv v11), (15, iv s0)]) rfl ?_
      exact pB328 r232 X232_362 hr232 hX232_362 _ _ _ _ _ _ _ _ _ _ h
    · replace h := h.2 hc
      refine g_iload C dR_cast_318 rfl ?_
      refine g_goto C 328 dR_cast_320 (by decide) ?_
      refine g_locals (lv' := [(0, .ref (ad 0)), (5, iv v5), (6, iv v6), (9, iv v9), (10, iv v10), (11, iv v11), (15, iv s0)]) rfl ?_
      exact pB328 r232 X232_362 hr232 hX232_362 _ _ _ _ _ _ _ _ _ _ h
  have pB285 : ∀ (r232 : Int → Int → Int → Int → Int → gSt → Prop) (X232_362 : Int → gSt → Prop) (hr232 : ∀ (v5 : Int) (v6 : Int) (v9 : Int) (v10 : Int) (v11 : Int) (M : gSt), r232 v5 v6 v9 v10 v11 M → gG p l e (rmR 2 46) s m args below meth c Q D cl A (wR ad cI ci) 16 232 [(0, .ref (ad 0)), (5, iv v5), (6, iv v6), (9, iv v9), (10, iv v10), (11, iv v11)] [] M) (hX232_362 : ∀ (v9 : Int) (M : gSt), X232_362 v9 M → gG p l e (rmR 2 46) s m args below meth c Q D cl A (wR ad cI ci) 16 362 [(9, iv v9)] [] M) (v5 : Int) (v6 : Int) (v9 : Int) (v10 : Int) (v11 : Int) (v12 : Int) (v13 : Int) (s0 : Int) (M : gSt), wB_Rcast_285 a1 a2 a3 k r232 X232_362 v5 v6 v9 v10 v11 v12 v13 s0 M → gG p l e (rmR 2 46) s m args below meth c Q D cl A (wR ad cI ci) 16 285 [(0, .ref (ad 0)), (5, iv v5), (6, iv v6), (9, iv v9), (10, iv v10), (11, iv v11), (12, iv v12), (13, iv v13)] [iv s0] M := by
    intro r232 X232_362 hr232 hX232_362 v5 v6 v9 v10 v11 v12 v13 s0 M h
    unfold wB_Rcast_285 at h
    refine g_istore C dR_cast_285 (by decide) rfl ?_
    refine g_locals (lv' := [(0, .ref (ad 0)), (5, iv v5), (6, iv v6), (9, iv v9), (10, iv v10), (11, iv v11), (12, iv v12), (13, iv v13), (14, iv s0)]) rfl ?_
    refine g_iload C dR_cast_287 rfl ?_
    refine g_if_eq C 297 dR_cast_289 (by decide) (fun hc => ?_) (fun hc => ?_)
    · replace h := h.1 hc
      refine g_iload C dR_cast_297 rfl ?_
      refine g_iload C dR_cast_299 rfl ?_
      refine g_bipush C dR_cast_301 rfl ?_
      refine g_callSi C (nargs := 3) (st := []) (m_RpartOf hci h) gd_partOf (by decide +kernel) ⟨rfl, rfl⟩ dR_cast_303 ⟨by decide, by decide⟩ rfl rfl (Nat.le_of_ble_eq_true rfl) ?_
      intro r303c M303 hN
      replace h := hN
      clear hN
      refine g_locals (lv' := [(0, .ref (ad 0)), (5, iv v5), (6, iv v6), (9, iv v9), (10, iv v10), (11, iv v11), (12, iv v12), (13, iv v13), (14, iv s0)]) rfl ?_
      exact pB306 r232 X232_362 hr232 hX232_362 _ _ _ _ _ _ _ _ _ _ h
    · replace h := h.2 hc
      refine g_iload C dR_cast_292 rfl ?_
      refine g_goto C 306 dR_cast_294 (by decide) ?_
      refine g_locals (lv' := [(0, .ref (ad 0)), (5, iv v5), (6, iv v6), (9, iv v9), (10, iv v10), (11, iv v11), (12, iv v12), (13, iv v13), (14, iv s0)]) rfl ?_
      exact pB306 r232 X232_362 hr232 hX232_362 _ _ _ _ _ _ _ _ _ _ h
  have pB261 : ∀ (r232 : Int → Int → Int → Int → Int → gSt → Prop) (X232_362 : Int → gSt → Prop) (hr232 : ∀ (v5 : Int) (v6 : Int) (v9 : Int) (v10 : Int) (v11 : Int) (M : gSt), r232 v5 v6 v9 v10 v11 M → gG p l e (rmR 2 46) s m args below meth c Q D cl A (wR ad cI ci) 16 232 [(0, .ref (ad 0)), (5, iv v5), (6, iv v6), (9, iv v9), (10, iv v10), (11, iv v11)] [] M) (hX232_362 : ∀ (v9 : Int) (M : gSt), X232_362 v9 M → gG p l e (rmR 2 46) s m args below meth c Q D cl A (wR ad cI ci) 16 362 [(9, iv v9)] [] M) (v5 : Int) (v6 : Int) (v9 : Int) (v10 : Int) (v11 : Int) (v12 : Int) (s0 : Int) (M : gSt), wB_Rcast_261 a1 a2 a3 k r232 X232_362 v5 v6 v9 v10 v11 v12 s0 M → gG p l e (rmR 2 46) s m args below meth c Q D cl A (wR ad cI ci) 16 261 [(0, .ref (ad 0)), (5, iv v5), (6, iv v6), (9, iv v9), (10, iv v10), (11, iv v11), (12, iv v12)] [iv s0] M := by
    intro r232 X232_362 hr232 hX232_362 v5 v6 v9 v10 v11 v12 s0 M h
    unfold wB_Rcast_261 at h
    refine g_istore C dR_cast_261 (by decide) rfl ?_
    refine g_locals (lv' := [(0, .ref (ad 0)), (5, iv v5), (6, iv v6), (9, iv v9), (10, iv v10), (11, iv v11), (12, iv v12), (13, iv s0)]) rfl ?_
    refine g_iload C dR_cast_263 rfl ?_
    refine g_if_eq C 273 dR_cast_265 (by decide) (fun hc => ?_) (fun hc => ?_)
    · replace h := h.1 hc
      refine g_iload C dR_cast_273 rfl ?_
      refine g_iload C dR_cast_275 rfl ?_
      refine g_iload C dR_cast_277 rfl ?_
      refine g_bipush C dR_cast_279 rfl ?_
      refine g_callSi C (nargs := 3) (st := [iv v12]) (m_RpartOf hci h) gd_partOf (by decide +kernel) ⟨rfl, rfl⟩ dR_cast_281 ⟨by decide, by decide⟩ rfl rfl (Nat.le_of_ble_eq_true rfl) ?_
      intro r281c M281 hN
      replace h := hN
      clear hN
      refine g_isub C dR_cast_284 ?_
      refine g_locals (lv' := [(0, .ref (ad 0)), (5, iv v5), (6, iv v6), (9, iv v9), (10, iv v10), (11, iv v11), (12, iv v12), (13, iv s0)]) rfl ?_
      exact pB285 r232 X232_362 hr232 hX232_362 _ _ _ _ _ _ _ _ _ h
    · replace h := h.2 hc
      refine g_iload C dR_cast_268 rfl ?_
      refine g_goto C 285 dR_cast_270 (by decide) ?_
      refine g_locals (lv' := [(0, .ref (ad 0)), (5, iv v5), (6, iv v6), (9, iv v9), (10, iv v10), (11, iv v11), (12, iv v12), (13, iv s0)]) rfl ?_
      exact pB285 r232 X232_362 hr232 hX232_362 _ _ _ _ _ _ _ _ _ h
  have pC232 : ∀ (r232 : Int → Int → Int → Int → Int → gSt → Prop) (X232_362 : Int → gSt → Prop) (hr232 : ∀ (v5 : Int) (v6 : Int) (v9 : Int) (v10 : Int) (v11 : Int) (M : gSt), r232 v5 v6 v9 v10 v11 M → gG p l e (rmR 2 46) s m args below meth c Q D cl A (wR ad cI ci) 16 232 [(0, .ref (ad 0)), (5, iv v5), (6, iv v6), (9, iv v9), (10, iv v10), (11, iv v11)] [] M) (hX232_362 : ∀ (v9 : Int) (M : gSt), X232_362 v9 M → gG p l e (rmR 2 46) s m args below meth c Q D cl A (wR ad cI ci) 16 362 [(9, iv v9)] [] M) (v5 : Int) (v6 : Int) (v9 : Int) (v10 : Int) (v11 : Int) (M : gSt), wC_Rcast_232 a1 a2 a3 k r232 X232_362 v5 v6 v9 v10 v11 M → gG p l e (rmR 2 46) s m args below meth c Q D cl A (wR ad cI ci) 16 232 [(0, .ref (ad 0)), (5, iv v5), (6, iv v6), (9, iv v9), (10, iv v10), (11, iv v11)] [] M := by
    intro r232 X232_362 hr232 hX232_362 v5 v6 v9 v10 v11 M h
    unfold wC_Rcast_232 at h
    refine g_iload C dR_cast_232 rfl ?_
    refine g_bipush C dR_cast_234 rfl ?_
    refine g_icmp_ge C 362 dR_cast_236 (by decide) (fun hc => ?_) (fun hc => ?_)
    · replace h := h.1 hc
      refine g_locals (lv' := [(9, iv v9)]) rfl ?_
      exact hX232_362 _  _ h
    · replace h := h.2 hc
      refine g_aload_n C dR_cast_239 rfl ?_
      refine g_bipush C dR_cast_240 rfl ?_
      refine g_iload C dR_cast_242 rfl ?_
      refine g_callVi C (nargs := 2) (o := 0) (st := []) (m_Rits hci h) rfl (by decide) hci rfl gd_its (by decide +kernel) ⟨rfl, rfl⟩ dR_cast_244 ⟨by decide, by decide⟩ rfl rfl (Nat.le_of_ble_eq_true rfl) ?_
      intro r244c M244 hN
      replace h := hN
      clear hN
      refine g_istore C dR_cast_247 (by decide) rfl ?_
      refine g_locals (lv' := [(0, .ref (ad 0)), (5, iv v5), (6, iv v6), (9, iv v9), (10, iv v10), (11, iv v11), (12, iv r244c)]) rfl ?_
      refine g_iload C dR_cast_249 rfl ?_
      refine g_bipush C dR_cast_251 rfl ?_
      refine g_icmp_lt C 260 dR_cast_253 (by decide) (fun hc => ?_) (fun hc => ?_)
      · replace h := h.1 hc
        refine g_iconst C dR_cast_260 ?_
        refine g_locals (lv' := [(0, .ref (ad 0)), (5, iv v5), (6, iv v6), (9, iv v9), (10, iv v10), (11, iv v11), (12, iv r244c)]) rfl ?_
        exact pB261 r232 X232_362 hr232 hX232_362 _ _ _ _ _ _ _ _ h
      · replace h := h.2 hc
        refine g_iconst C dR_cast_256 ?_
        refine g_goto C 261 dR_cast_257 (by decide) ?_
        refine g_locals (lv' := [(0, .ref (ad 0)), (5, iv v5), (6, iv v6), (9, iv v9), (10, iv v10), (11, iv v11), (12, iv r244c)]) rfl ?_
        exact pB261 r232 X232_362 hr232 hX232_362 _ _ _ _ _ _ _ _ h
  have pL232 : ∀  (X232_362 : Int → gSt → Prop) (hX232_362 : ∀ (v9 : Int) (M : gSt), X232_362 v9 M → gG p l e (rmR 2 46) s m args below meth c Q D cl A (wR ad cI ci) 16 362 [(9, iv v9)] [] M) (n : Nat) (v5 : Int) (v6 : Int) (v9 : Int) (v10 : Int) (v11 : Int) (M : gSt), wL_Rcast_232 a1 a2 a3 k  X232_362 n v5 v6 v9 v10 v11 M → gG p l e (rmR 2 46) s m args below meth c Q D cl A (wR ad cI ci) 16 232 [(0, .ref (ad 0)), (5, iv v5), (6, iv v6), (9, iv v9), (10, iv v10), (11, iv v11)] [] M := by
    intro  X232_362 hX232_362 n
    induction n with
    | zero => intro v5 v6 v9 v10 v11 M h; exact h.elim
    | succ n ih =>
      intro v5 v6 v9 v10 v11 M h
      exact pC232  (wL_Rcast_232 a1 a2 a3 k  X232_362 n) X232_362 ih hX232_362 v5 v6 v9 v10 v11 M h
  have pB227 : ∀   (v5 : Int) (v6 : Int) (v9 : Int) (s0 : Int) (M : gSt), wB_Rcast_227 a1 a2 a3 k  v5 v6 v9 s0 M → gG p l e (rmR 2 46) s m args below meth c Q D cl A (wR ad cI ci) 16 227 [(0, .ref (ad 0)), (5, iv v5), (6, iv v6), (9, iv v9)] [iv s0] M := by
    intro   v5 v6 v9 s0 M h
    unfold wB_Rcast_227 at h
    refine g_istore C dR_cast_227 (by decide) rfl ?_
    refine g_locals (lv' := [(0, .ref (ad 0)), (5, iv v5), (6, iv v6), (9, iv v9), (10, iv s0)]) rfl ?_
    refine g_iconst C dR_cast_229 ?_
    refine g_istore C dR_cast_230 (by decide) rfl ?_
    refine g_locals (lv' := [(0, .ref (ad 0)), (5, iv v5), (6, iv v6), (9, iv v9), (10, iv s0), (11, iv 2)]) rfl ?_
    refine g_locals (lv' := [(0, .ref (ad 0)), (5, iv v5), (6, iv v6), (9, iv v9), (10, iv s0), (11, iv 2)]) rfl ?_
    obtain ⟨n, h⟩ := h
    refine pL232 _ ?_ n _ _ _ _ _ _ h
    · intro u9_232 M232 hN
      replace h := hN
      clear hN
      refine g_iload C dR_cast_362 rfl ?_
      exact hR _ _ _ _ dR_cast_364 rfl h
  have pB109 : ∀   (v5 : Int) (v6 : Int) (v7 : Int) (s0 : Int) (s1 : Int) (M : gSt), wB_Rcast_109 a1 a2 a3 k  v5 v6 v7 s0 s1 M → gG p l e (rmR 2 46) s m args below meth c Q D cl A (wR ad cI ci) 16 109 [(0, .ref (ad 0)), (1, iv a1), (2, iv a2), (5, iv v5), (6, iv v6), (7, iv v7)] [iv s0, iv s1] M := by
    intro   v5 v6 v7 s0 s1 M h
    unfold wB_Rcast_109 at h
    refine g_iadd C dR_cast_109 ?_
    refine g_bipush C dR_cast_110 rfl ?_
    refine g_icmp_le C 121 dR_cast_112 (by decide) (fun hc => ?_) (fun hc => ?_)
    · replace h := h.1 hc
      refine g_iload C dR_cast_121 rfl ?_
      refine g_iload_n C dR_cast_123 rfl ?_
      refine g_iadd C dR_cast_124 ?_
      refine g_iconst C dR_cast_125 ?_
      refine g_ldc C 9999999 wi_34 rfl dR_cast_126 ?_
      refine g_callSi C (nargs := 3) (st := []) (m_Rheld hci h) gd_held (by decide +kernel) ⟨rfl, rfl⟩ dR_cast_128 ⟨by decide, by decide⟩ rfl rfl (Nat.le_of_ble_eq_true rfl) ?_
      intro r128c M128 hN
      replace h := hN
      clear hN
      refine g_istore C dR_cast_131 (by decide) rfl ?_
      refine g_locals (lv' := [(0, .ref (ad 0)), (1, iv a1), (2, iv a2), (5, iv v5), (6, iv v6), (7, iv v7), (8, iv r128c)]) rfl ?_
      refine g_aload_n C dR_cast_133 rfl ?_
      refine g_bipush C dR_cast_134 rfl ?_
      refine g_iconst C dR_cast_136 ?_
      refine g_iload C dR_cast_137 rfl ?_
      refine g_callVv C (nargs := 3) (o := 0) (st := []) (m_Rlays1 hci h) rfl (by decide) hci rfl gd_lays1 (by decide +kernel) ⟨rfl, rfl⟩ dR_cast_139 ⟨by decide, by decide⟩ rfl rfl (Nat.le_of_ble_eq_true rfl) ?_
      intro M139 hN
      replace h := hN
      clear hN
      refine g_aload_n C dR_cast_142 rfl ?_
      refine g_bipush C dR_cast_143 rfl ?_
      refine g_iconst C dR_cast_145 ?_
      refine g_aload_n C dR_cast_146 rfl ?_
      refine g_bipush C dR_cast_147 rfl ?_
      refine g_iconst C dR_cast_149 ?_
      refine g_callVi C (nargs := 2) (o := 0) (st := [iv 3, iv 12, .ref (ad 0)]) (m_Rits hci h) rfl (by decide) hci rfl gd_its (by decide +kernel) ⟨rfl, rfl⟩ dR_cast_150 ⟨by decide, by decide⟩ rfl rfl (Nat.le_of_ble_eq_true rfl) ?_
      intro r150c M150 hN
      replace h := hN
      clear hN
      refine g_iload_n C dR_cast_153 rfl ?_
      refine g_iadd C dR_cast_154 ?_
      refine g_iconst C dR_cast_155 ?_
      refine g_iload C dR_cast_156 rfl ?_
      refine g_callSi C (nargs := 3) (st := [iv 3, iv 12, .ref (ad 0)]) (m_Rheld hci h) gd_held (by decide +kernel) ⟨rfl, rfl⟩ dR_cast_158 ⟨by decide, by decide⟩ rfl rfl (Nat.le_of_ble_eq_true rfl) ?_
      intro r158c M158 hN
      replace h := hN
      clear hN
      refine g_callVv C (nargs := 3) (o := 0) (st := []) (m_Rlays1 hci h) rfl (by decide) hci rfl gd_lays1 (by decide +kernel) ⟨rfl, rfl⟩ dR_cast_161 ⟨by decide, by decide⟩ rfl rfl (Nat.le_of_ble_eq_true rfl) ?_
      intro M161 hN
      replace h := hN
      clear hN
      refine g_bipush C dR_cast_164 rfl ?_
      refine g_istore C dR_cast_166 (by decide) rfl ?_
      refine g_locals (lv' := [(0, .ref (ad 0)), (1, iv a1), (2, iv a2), (5, iv v5), (6, iv v6), (7, iv v7), (8, iv r128c), (9, iv 6)]) rfl ?_
      refine g_locals (lv' := [(0, .ref (ad 0)), (1, iv a1), (5, iv v5), (6, iv v6), (7, iv v7), (8, iv r128c), (9, iv 6)]) rfl ?_
      obtain ⟨n, h⟩ := h
      refine pL168 _ ?_ n _ _ _ _ _ _ h
      · intro u5_168 u6_168 M168 hN
        replace h := hN
        clear hN
        refine g_aload_n C dR_cast_204 rfl ?_
        refine g_iload_n C dR_cast_205 rfl ?_
        refine g_callVi C (nargs := 1) (o := 0) (st := []) (m_RaddThing hci h) rfl (by decide) hci rfl gd_addThing (by decide +kernel) ⟨rfl, rfl⟩ dR_cast_206 ⟨by decide, by decide⟩ rfl rfl (Nat.le_of_ble_eq_true rfl) ?_
        intro r206c M206 hN
        replace h := hN
        clear hN
        refine g_istore C dR_cast_209 (by decide) rfl ?_
        refine g_locals (lv' := [(0, .ref (ad 0)), (1, iv a1), (5, iv u5_168), (6, iv u6_168), (9, iv r206c)]) rfl ?_
        refine g_iload C dR_cast_211 rfl ?_
        refine g_if_le C 226 dR_cast_213 (by decide) (fun hc => ?_) (fun hc => ?_)
        · replace h := h.1 hc
          refine g_iconst C dR_cast_226 ?_
          refine g_locals (lv' := [(0, .ref (ad 0)), (5, iv u5_168), (6, iv u6_168), (9, iv r206c)]) rfl ?_
          exact pB227 _ _ _ _ _ h
        · replace h := h.2 hc
          refine g_aload_n C dR_cast_216 rfl ?_
          refine g_sipush C dR_cast_217 rfl ?_
          refine g_callVi C (nargs := 1) (o := 0) (st := []) (m_RaddThing hci h) rfl (by decide) hci rfl gd_addThing (by decide +kernel) ⟨rfl, rfl⟩ dR_cast_220 ⟨by decide, by decide⟩ rfl rfl (Nat.le_of_ble_eq_true rfl) ?_
          intro r220c M220 hN
          replace h := hN
          clear hN
          refine g_goto C 227 dR_cast_223 (by decide) ?_
          refine g_locals (lv' := [(0, .ref (ad 0)), (5, iv u5_168), (6, iv u6_168), (9, iv r206c)]) rfl ?_
          exact pB227 _ _ _ _ _ h
    · replace h := h.2 hc
      refine g_aload_n C dR_cast_115 rfl ?_
      refine g_iconst C dR_cast_116 ?_
      refine g_callVi C (nargs := 1) (o := 0) (st := []) (m_Rerror hci h) rfl (by decide) hci rfl gd_error (by decide +kernel) ⟨rfl, rfl⟩ dR_cast_117 ⟨by decide, by decide⟩ rfl rfl (Nat.le_of_ble_eq_true rfl) ?_
      intro r117c M117 hN
      replace h := hN
      clear hN
      exact hR _ _ _ _ dR_cast_120 rfl h
  have pB45 : ∀   (s0 : Int) (M : gSt), wB_Rcast_45 a1 a2 a3 k  s0 M → gG p l e (rmR 2 46) s m args below meth c Q D cl A (wR ad cI ci) 16 45 [(0, .ref (ad 0)), (1, iv a1), (2, iv a2), (3, iv a3)] [iv s0] M := by
    intro   s0 M h
    unfold wB_Rcast_45 at h
    refine g_istore C dR_cast_45 (by decide) rfl ?_
    refine g_locals (lv' := [(0, .ref (ad 0)), (1, iv a1), (2, iv a2), (3, iv a3), (4, iv s0)]) rfl ?_
    refine g_iload C dR_cast_47 rfl ?_
    refine g_if_ne C 58 dR_cast_49 (by decide) (fun hc => ?_) (fun hc => ?_)
    · replace h := h.1 hc
      refine g_iload_n C dR_cast_58 rfl ?_
      refine g_bipush C dR_cast_59 rfl ?_
      refine g_idiv C dR_cast_61 (by decide) ?_
      refine g_top (y := Int.tdiv (wrap a3) 100) rfl ?_
      refine g_name (fun x5_62 hx5_62 => ?_)
      replace h := h x5_62 hx5_62
      refine g_istore C dR_cast_62 (by decide) rfl ?_
      refine g_locals (lv' := [(0, .ref (ad 0)), (1, iv a1), (2, iv a2), (3, iv a3), (4, iv s0), (5, iv x5_62)]) rfl ?_
      refine g_iload_n C dR_cast_64 rfl ?_
      refine g_bipush C dR_cast_65 rfl ?_
      refine g_idiv C dR_cast_67 (by decide) ?_
      refine g_top (y := Int.tdiv (wrap a3) 10) rfl ?_
      refine g_bipush C dR_cast_68 rfl ?_
      refine g_irem C dR_cast_70 (by decide) ?_
      refine g_top (y := Int.tmod (wrap (Int.tdiv (wrap a3) 10)) 10) rfl ?_
      refine g_name (fun x6_71 hx6_71 => ?_)
      replace h := h x6_71 hx6_71
      refine g_istore C dR_cast_71 (by decide) rfl ?_
      refine g_locals (lv' := [(0, .ref (ad 0)), (1, iv a1), (2, iv a2), (3, iv a3), (4, iv s0), (5, iv x5_62), (6, iv x6_71)]) rfl ?_
      refine g_aload_n C dR_cast_73 rfl ?_
      refine g_bipush C dR_cast_74 rfl ?_
      refine g_iconst C dR_cast_76 ?_
      refine g_callVi C (nargs := 2) (o := 0) (st := []) (m_Rits hci h) rfl (by decide) hci rfl gd_its (by decide +kernel) ⟨rfl, rfl⟩ dR_cast_77 ⟨by decide, by decide⟩ rfl rfl (Nat.le_of_ble_eq_true rfl) ?_
      intro r77c M77 hN
      replace h := hN
      clear hN
      refine g_istore C dR_cast_80 (by decide) rfl ?_
      refine g_locals (lv' := [(0, .ref (ad 0)), (1, iv a1), (2, iv a2), (3, iv a3), (4, iv s0), (5, iv x5_62), (6, iv x6_71), (7, iv r77c)]) rfl ?_
      refine g_iload C dR_cast_82 rfl ?_
      refine g_if_ne C 93 dR_cast_84 (by decide) (fun hc => ?_) (fun hc => ?_)
      · replace h := h.1 hc
        refine g_aload_n C dR_cast_93 rfl ?_
        refine rf_s C hci dR_cast_94 ?_
        refine g_iconst C dR_cast_97 ?_
        refine g_iald C (n := 536) dR_cast_98 rfl (by decide) ⟨by decide, by decide⟩ ?_
        refine g_iload C dR_cast_99 rfl ?_
        refine g_if_le C 108 dR_cast_101 (by decide) (fun hc => ?_) (fun hc => ?_)
        · replace h := h.1 hc
          refine g_iconst C dR_cast_108 ?_
          refine g_locals (lv' := [(0, .ref (ad 0)), (1, iv a1), (2, iv a2), (5, iv x5_62), (6, iv x6_71), (7, iv r77c)]) rfl ?_
          exact pB109 _ _ _ _ _ _ h
        · replace h := h.2 hc
          refine g_iconst C dR_cast_104 ?_
          refine g_goto C 109 dR_cast_105 (by decide) ?_
          refine g_locals (lv' := [(0, .ref (ad 0)), (1, iv a1), (2, iv a2), (5, iv x5_62), (6, iv x6_71), (7, iv r77c)]) rfl ?_
          exact pB109 _ _ _ _ _ _ h
      · replace h := h.2 hc
        refine g_aload_n C dR_cast_87 rfl ?_
        refine g_iconst C dR_cast_88 ?_
        refine g_callVi C (nargs := 1) (o := 0) (st := []) (m_Rerror hci h) rfl (by decide) hci rfl gd_error (by decide +kernel) ⟨rfl, rfl⟩ dR_cast_89 ⟨by decide, by decide⟩ rfl rfl (Nat.le_of_ble_eq_true rfl) ?_
        intro r89c M89 hN
        replace h := hN
        clear hN
        exact hR _ _ _ _ dR_cast_92 rfl h
    · replace h := h.2 hc
      refine g_aload_n C dR_cast_52 rfl ?_
      refine g_iconst C dR_cast_53 ?_
      refine g_callVi C (nargs := 1) (o := 0) (st := []) (m_Rerror hci h) rfl (by decide) hci rfl gd_error (by decide +kernel) ⟨rfl, rfl⟩ dR_cast_54 ⟨by decide, by decide⟩ rfl rfl (Nat.le_of_ble_eq_true rfl) ?_
      intro r54c M54 hN
      replace h := hN
      clear hN
      exact hR _ _ _ _ dR_cast_57 rfl h
  have pB44 : ∀    (M : gSt), wB_Rcast_44 a1 a2 a3 k   M → gG p l e (rmR 2 46) s m args below meth c Q D cl A (wR ad cI ci) 16 44 [(0, .ref (ad 0)), (1, iv a1), (2, iv a2), (3, iv a3)] [] M := by
    intro    M h
    unfold wB_Rcast_44 at h
    refine g_iconst C dR_cast_44 ?_
    refine g_locals (lv' := [(0, .ref (ad 0)), (1, iv a1), (2, iv a2), (3, iv a3)]) rfl ?_
    exact pB45 _ _ h
  refine g_locals (lv' := [(0, .ref (ad 0)), (1, iv a1), (2, iv a2), (3, iv a3)]) rfl ?_
  unfold w_Rcast at h
  refine g_iload_n C dR_cast_0 rfl ?_
  refine g_iconst C dR_cast_1 ?_
  refine g_sipush C dR_cast_2 rfl ?_
  refine g_callSi C (nargs := 3) (st := []) (m_Rin hci h) gd_in (by decide +kernel) ⟨rfl, rfl⟩ dR_cast_5 ⟨by decide, by decide⟩ rfl rfl (Nat.le_of_ble_eq_true rfl) ?_
  intro r5c M5 hN
  replace h := hN
  clear hN
  refine g_if_eq C 44 dR_cast_8 (by decide) (fun hc => ?_) (fun hc => ?_)
  · replace h := h.1 hc
    refine g_locals (lv' := [(0, .ref (ad 0)), (1, iv a1), (2, iv a2), (3, iv a3)]) rfl ?_
    exact pB44  _ h
  · replace h := h.2 hc
    refine g_iload_n C dR_cast_11 rfl ?_
    refine g_iconst C dR_cast_12 ?_
    refine g_sipush C dR_cast_13 rfl ?_
    refine g_callSi C (nargs := 3) (st := []) (m_Rin hci h) gd_in (by decide +kernel) ⟨rfl, rfl⟩ dR_cast_16 ⟨by decide, by decide⟩ rfl rfl (Nat.le_of_ble_eq_true rfl) ?_
    intro r16c M16 hN
    replace h := hN
    clear hN
    refine g_if_eq C 44 dR_cast_19 (by decide) (fun hc => ?_) (fun hc => ?_)
    · replace h := h.1 hc
      refine g_locals (lv' := [(0, .ref (ad 0)), (1, iv a1), (2, iv a2), (3, iv a3)]) rfl ?_
      exact pB44  _ h
    · replace h := h.2 hc
      refine g_iload_n C dR_cast_22 rfl ?_
      refine g_iconst C dR_cast_23 ?_
      refine g_sipush C dR_cast_24 rfl ?_
      refine g_callSi C (nargs := 3) (st := []) (m_Rin hci h) gd_in (by decide +kernel) ⟨rfl, rfl⟩ dR_cast_27 ⟨by decide, by decide⟩ rfl rfl (Nat.le_of_ble_eq_true rfl) ?_
      intro r27c M27 hN
      replace h := hN
      clear hN
      refine g_if_eq C 44 dR_cast_30 (by decide) (fun hc => ?_) (fun hc => ?_)
      · replace h := h.1 hc
        refine g_locals (lv' := [(0, .ref (ad 0)), (1, iv a1), (2, iv a2), (3, iv a3)]) rfl ?_
        exact pB44  _ h
      · replace h := h.2 hc
        refine g_iload_n C dR_cast_33 rfl ?_
        refine g_bipush C dR_cast_34 rfl ?_
        refine g_irem C dR_cast_36 (by decide) ?_
        refine g_top (y := Int.tmod (wrap a3) 10) rfl ?_
        refine g_if_ne C 44 dR_cast_37 (by decide) (fun hc => ?_) (fun hc => ?_)
        · replace h := h.1 hc
          refine g_locals (lv' := [(0, .ref (ad 0)), (1, iv a1), (2, iv a2), (3, iv a3)]) rfl ?_
          exact pB44  _ h
        · replace h := h.2 hc
          refine g_iconst C dR_cast_40 ?_
          refine g_goto C 45 dR_cast_41 (by decide) ?_
          refine g_locals (lv' := [(0, .ref (ad 0)), (1, iv a1), (2, iv a2), (3, iv a3)]) rfl ?_
          exact pB45 _ _ h
def w_Rdraw  (M : gSt) (k : Int → gSt → Prop) : Prop :=
∀ M20 : gSt, M20 = wr M 1 8 (((M 1 8) * 1103515245) + 12345) → (k (xushr (M20 1 8) 8) M20)
set_option maxHeartbeats 4000000 in
set_option maxRecDepth 100000 in
theorem m_Rdraw {l : Launch} {D : va_G} {cl : List vw_C} {tys : List (ClassId × FieldType)} {ad : Nat → Nat} {cI : ClassId} {ci : Nat} {Z : (Nat → Prop) → State → Prop} (hci : cl[ci]? = some (RX9, TX9, 23))  {M : gSt} {k : Int → gSt → Prop} (h : w_Rdraw  M k) : MOi l yX9_draw cX9_draw 1 .int (rmR 0 0) D cl ((cI, .int) :: tys) (wR ad cI ci) tR Z [.ref (ad 0)] M k := by
  refine moi_intro (by decide +kernel) (Nat.le_of_ble_eq_true rfl) wi_97 ?_
  intro p e s m args below meth c A Q C hR
  refine g_locals (lv' := [(0, .ref (ad 0))]) rfl ?_
  unfold w_Rdraw at h
  refine g_aload_n C dR_draw_0 rfl ?_
  refine rf_s C hci dR_draw_1 ?_
  refine g_bipush C dR_draw_4 rfl ?_
  refine g_aload_n C dR_draw_6 rfl ?_
  refine rf_s C hci dR_draw_7 ?_
  refine g_bipush C dR_draw_10 rfl ?_
  refine g_iald C (n := 536) dR_draw_12 rfl (by decide) ⟨by decide, by decide⟩ ?_
  refine g_ldc C 1103515245 wi_96 rfl dR_draw_13 ?_
  refine g_imul C dR_draw_15 ?_
  refine g_sipush C dR_draw_16 rfl ?_
  refine g_iadd C dR_draw_19 ?_
  refine g_iast C (n := 536) dR_draw_20 rfl (by decide) ⟨by decide, by decide⟩ ?_
  refine g_memname (fun M20 hM20 => ?_)
  replace h := h M20 hM20
  refine g_aload_n C dR_draw_21 rfl ?_
  refine rf_s C hci dR_draw_22 ?_
  refine g_bipush C dR_draw_25 rfl ?_
  refine g_iald C (n := 536) dR_draw_27 rfl (by decide) ⟨by decide, by decide⟩ ?_
  refine g_bipush C dR_draw_28 rfl ?_
  refine g_iushr C dR_draw_30 ?_
  exact hR _ _ _ _ dR_draw_31 rfl h
def wB_Ryear_63  (k : gSt → Prop) (r2 : Int → gSt → Prop) (X2_69 : gSt → Prop) (v1 : Int) (M : gSt) : Prop :=
r2 (v1 + 1) M
def wC_Ryear_30  (k : gSt → Prop) (r2 : Int → gSt → Prop) (X2_69 : gSt → Prop) (r30 : Int → Int → gSt → Prop) (X30_63 : Int → gSt → Prop) (v1 : Int) (v2 : Int) (M : gSt) : Prop :=

  (5 < wrap v2 →
    X30_63 v1 M) ∧
  (wrap v2 ≤ 5 →
    w_Rits v1 v2 M (fun r41c M41 => w_Rits v1 v2 M41 (fun r47c M47 => w_Rlays1 v1 v2 (r41c - (Int.tdiv (wrap r47c) 100)) M47 (fun M54 => r30 v1 (v2 + 1) M54))))
def wL_Ryear_30  (k : gSt → Prop) (r2 : Int → gSt → Prop) (X2_69 : gSt → Prop) (X30_63 : Int → gSt → Prop) : Nat → Int → Int → gSt → Prop
  | 0 => fun _ _ _ => False
  | n + 1 => fun v1 v2 M => wC_Ryear_30  k r2 X2_69 (wL_Ryear_30  k r2 X2_69 X30_63 n) X30_63 v1 v2 M
def wC_Ryear_2  (k : gSt → Prop) (r2 : Int → gSt → Prop) (X2_69 : gSt → Prop) (v1 : Int) (M : gSt) : Prop :=

  (wrap (M 1 0) ≤ wrap v1 →
    X2_69  M) ∧
  (wrap v1 < wrap (M 1 0) →
    w_Rdraw  M (fun r13c M13 => w_Rits v1 1 M13 (fun r22c M22 => 
    (wrap r22c ≤ wrap (Int.tmod (wrap r13c) 100) →
      wB_Ryear_63  k r2 X2_69 v1 M22) ∧
    (wrap (Int.tmod (wrap r13c) 100) < wrap r22c →
      ∃ n, wL_Ryear_30  k r2 X2_69 (fun u1_30 M30 =>
        wB_Ryear_63  k r2 X2_69 u1_30 M30) n v1 2 M22))))
def wL_Ryear_2  (k : gSt → Prop)  (X2_69 : gSt → Prop) : Nat → Int → gSt → Prop
  | 0 => fun _ _ => False
  | n + 1 => fun v1 M => wC_Ryear_2  k  (wL_Ryear_2  k  X2_69 n) X2_69 v1 M
def w_Ryear  (M : gSt) (k : gSt → Prop) : Prop :=
∃ n, wL_Ryear_2  k  (fun  M2 =>
    ∀ M78 : gSt, M78 = wr M2 1 5 ((M2 1 5) + 1) → (k M78)) n 0 M
set_option maxHeartbeats 4000000 in
set_option maxRecDepth 100000 in
theorem m_Ryear {l : Launch} {D : va_G} {cl : List vw_C} {tys : List (ClassId × FieldType)} {ad : Nat → Nat} {cI : ClassId} {ci : Nat} {Z : (Nat → Prop) → State → Prop} (hci : cl[ci]? = some (RX9, TX9, 23))  {M : gSt} {k : gSt → Prop} (h : w_Ryear  M k) : MOv l yX9_year cX9_year 3 (rmR 1 23) D cl ((cI, .int) :: tys) (wR ad cI ci) tR Z [.ref (ad 0)] M k := by
  refine mov_intro (by decide +kernel) (Nat.le_of_ble_eq_true rfl) wi_101 ?_
  intro p e s m args below meth c A Q C hR
  have pB63 : ∀ (r2 : Int → gSt → Prop) (X2_69 : gSt → Prop) (hr2 : ∀ (v1 : Int) (M : gSt), r2 v1 M → gG p l e (rmR 1 23) s m args below meth c Q D cl A (wR ad cI ci) 3 2 [(0, .ref (ad 0)), (1, iv v1)] [] M) (hX2_69 : ∀  (M : gSt), X2_69  M → gG p l e (rmR 1 23) s m args below meth c Q D cl A (wR ad cI ci) 3 69 [(0, .ref (ad 0))] [] M) (v1 : Int) (M : gSt), wB_Ryear_63  k r2 X2_69 v1 M → gG p l e (rmR 1 23) s m args below meth c Q D cl A (wR ad cI ci) 3 63 [(0, .ref (ad 0)), (1, iv v1)] [] M := by
    intro r2 X2_69 hr2 hX2_69 v1 M h
    unfold wB_Ryear_63 at h
    refine g_iinc C dR_year_63 rfl (by decide) rfl ?_
    refine g_locals (lv' := [(0, .ref (ad 0)), (1, iv (v1 + 1))]) rfl ?_
    refine g_goto C 2 dR_year_66 (by decide) ?_
    refine g_locals (lv' := [(0, .ref (ad 0)), (1, iv (v1 + 1))]) rfl ?_
    exact hr2 _  _ h
  have pC30 : ∀ (r2 : Int → gSt → Prop) (X2_69 : gSt → Prop) (r30 : Int → Int → gSt → Prop) (X30_63 : Int → gSt → Prop) (hr2 : ∀ (v1 : Int) (M : gSt), r2 v1 M → gG p l e (rmR 1 23) s m args below meth c Q D cl A (wR ad cI ci) 3 2 [(0, .ref (ad 0)), (1, iv v1)] [] M) (hX2_69 : ∀  (M : gSt), X2_69  M → gG p l e (rmR 1 23) s m args below meth c Q D cl A (wR ad cI ci) 3 69 [(0, .ref (ad 0))] [] M) (hr30 : ∀ (v1 : Int) (v2 : Int) (M : gSt), r30 v1 v2 M → gG p l e (rmR 1 23) s m args below meth c Q D cl A (wR ad cI ci) 3 30 [(0, .ref (ad 0)), (1, iv v1), (2, iv v2)] [] M) (hX30_63 : ∀ (v1 : Int) (M : gSt), X30_63 v1 M → gG p l e (rmR 1 23) s m args below meth c Q D cl A (wR ad cI ci) 3 63 [(0, .ref (ad 0)), (1, iv v1)] [] M) (v1 : Int) (v2 : Int) (M : gSt), wC_Ryear_30  k r2 X2_69 r30 X30_63 v1 v2 M → gG p l e (rmR 1 23) s m args below meth c Q D cl A (wR ad cI ci) 3 30 [(0, .ref (ad 0)), (1, iv v1), (2, iv v2)] [] M := by
    intro r2 X2_69 r30 X30_63 hr2 hX2_69 hr30 hX30_63 v1 v2 M h
    unfold wC_Ryear_30 at h
    refine g_iload_n C dR_year_30 rfl ?_
    refine g_iconst C dR_year_31 ?_
    refine g_icmp_gt C 63 dR_year_32 (by decide) (fun hc => ?_) (fun hc => ?_)
    · replace h := h.1 hc
      refine g_locals (lv' := [(0, .ref (ad 0)), (1, iv v1)]) rfl ?_
      exact hX30_63 _  _ h
    · replace h := h.2 hc
      refine g_aload_n C dR_year_35 rfl ?_
      refine g_iload_n C dR_year_36 rfl ?_
      refine g_iload_n C dR_year_37 rfl ?_
      refine g_aload_n C dR_year_38 rfl ?_
      refine g_iload_n C dR_year_39 rfl ?_
      refine g_iload_n C dR_year_40 rfl ?_
      refine g_callVi C (nargs := 2) (o := 0) (st := [iv v2, iv v1, .ref (ad 0)]) (m_Rits hci h) rfl (by decide) hci rfl gd_its (by decide +kernel) ⟨rfl, rfl⟩ dR_year_41 ⟨by decide, by decide⟩ rfl rfl (Nat.le_of_ble_eq_true rfl) ?_
      intro r41c M41 hN
      replace h := hN
      clear hN
      refine g_aload_n C dR_year_44 rfl ?_
      refine g_iload_n C dR_year_45 rfl ?_
      refine g_iload_n C dR_year_46 rfl ?_
      refine g_callVi C (nargs := 2) (o := 0) (st := [iv r41c, iv v2, iv v1, .ref (ad 0)]) (m_Rits hci h) rfl (by decide) hci rfl gd_its (by decide +kernel) ⟨rfl, rfl⟩ dR_year_47 ⟨by decide, by decide⟩ rfl rfl (Nat.le_of_ble_eq_true rfl) ?_
      intro r47c M47 hN
      replace h := hN
      clear hN
      refine g_bipush C dR_year_50 rfl ?_
      refine g_idiv C dR_year_52 (by decide) ?_
      refine g_top (y := Int.tdiv (wrap r47c) 100) rfl ?_
      refine g_isub C dR_year_53 ?_
      refine g_callVv C (nargs := 3) (o := 0) (st := []) (m_Rlays1 hci h) rfl (by decide) hci rfl gd_lays1 (by decide +kernel) ⟨rfl, rfl⟩ dR_year_54 ⟨by decide, by decide⟩ rfl rfl (Nat.le_of_ble_eq_true rfl) ?_
      intro M54 hN
      replace h := hN
      clear hN
      refine g_iinc C dR_year_57 rfl (by decide) rfl ?_
      refine g_locals (lv' := [(0, .ref (ad 0)), (1, iv v1), (2, iv (v2 + 1))]) rfl ?_
      refine g_goto C 30 dR_year_60 (by decide) ?_
      refine g_locals (lv' := [(0, .ref (ad 0)), (1, iv v1), (2, iv (v2 + 1))]) rfl ?_
      exact hr30 _ _  _ h
  have pL30 : ∀ (r2 : Int → gSt → Prop) (X2_69 : gSt → Prop) (X30_63 : Int → gSt → Prop) (hr2 : ∀ (v1 : Int) (M : gSt), r2 v1 M → gG p l e (rmR 1 23) s m args below meth c Q D cl A (wR ad cI ci) 3 2 [(0, .ref (ad 0)), (1, iv v1)] [] M) (hX2_69 : ∀  (M : gSt), X2_69  M → gG p l e (rmR 1 23) s m args below meth c Q D cl A (wR ad cI ci) 3 69 [(0, .ref (ad 0))] [] M) (hX30_63 : ∀ (v1 : Int) (M : gSt), X30_63 v1 M → gG p l e (rmR 1 23) s m args below meth c Q D cl A (wR ad cI ci) 3 63 [(0, .ref (ad 0)), (1, iv v1)] [] M) (n : Nat) (v1 : Int) (v2 : Int) (M : gSt), wL_Ryear_30  k r2 X2_69 X30_63 n v1 v2 M → gG p l e (rmR 1 23) s m args below meth c Q D cl A (wR ad cI ci) 3 30 [(0, .ref (ad 0)), (1, iv v1), (2, iv v2)] [] M := by
    intro r2 X2_69 X30_63 hr2 hX2_69 hX30_63 n
    induction n with
    | zero => intro v1 v2 M h; exact h.elim
    | succ n ih =>
      intro v1 v2 M h
      exact pC30 r2 X2_69 (wL_Ryear_30  k r2 X2_69 X30_63 n) X30_63 hr2 hX2_69 ih hX30_63 v1 v2 M h
  have pC2 : ∀ (r2 : Int → gSt → Prop) (X2_69 : gSt → Prop) (hr2 : ∀ (v1 : Int) (M : gSt), r2 v1 M → gG p l e (rmR 1 23) s m args below meth c Q D cl A (wR ad cI ci) 3 2 [(0, .ref (ad 0)), (1, iv v1)] [] M) (hX2_69 : ∀  (M : gSt), X2_69  M → gG p l e (rmR 1 23) s m args below meth c Q D cl A (wR ad cI ci) 3 69 [(0, .ref (ad 0))] [] M) (v1 : Int) (M : gSt), wC_Ryear_2  k r2 X2_69 v1 M → gG p l e (rmR 1 23) s m args below meth c Q D cl A (wR ad cI ci) 3 2 [(0, .ref (ad 0)), (1, iv v1)] [] M := by
    intro r2 X2_69 hr2 hX2_69 v1 M h
    unfold wC_Ryear_2 at h
    refine g_iload_n C dR_year_2 rfl ?_
    refine g_aload_n C dR_year_3 rfl ?_
    refine rf_s C hci dR_year_4 ?_
    refine g_iconst C dR_year_7 ?_
    refine g_iald C (n := 536) dR_year_8 rfl (by decide) ⟨by decide, by decide⟩ ?_
    refine g_icmp_ge C 69 dR_year_9 (by decide) (fun hc => ?_) (fun hc => ?_)
    · replace h := h.1 hc
      refine g_locals (lv' := [(0, .ref (ad 0))]) rfl ?_
      exact hX2_69  _ h
    · replace h := h.2 hc
      refine g_aload_n C dR_year_12 rfl ?_
      refine g_callVi C (nargs := 0) (o := 0) (st := []) (m_Rdraw hci h) rfl (by decide) hci rfl gd_draw (by decide +kernel) ⟨rfl, rfl⟩ dR_year_13 ⟨by decide, by decide⟩ rfl rfl (Nat.le_of_ble_eq_true rfl) ?_
      intro r13c M13 hN
      replace h := hN
      clear hN
      refine g_bipush C dR_year_16 rfl ?_
      refine g_irem C dR_year_18 (by decide) ?_
      refine g_top (y := Int.tmod (wrap r13c) 100) rfl ?_
      refine g_aload_n C dR_year_19 rfl ?_
      refine g_iload_n C dR_year_20 rfl ?_
      refine g_iconst C dR_year_21 ?_
      refine g_callVi C (nargs := 2) (o := 0) (st := [iv (Int.tmod (wrap r13c) 100)]) (m_Rits hci h) rfl (by decide) hci rfl gd_its (by decide +kernel) ⟨rfl, rfl⟩ dR_year_22 ⟨by decide, by decide⟩ rfl rfl (Nat.le_of_ble_eq_true rfl) ?_
      intro r22c M22 hN
      replace h := hN
      clear hN
      refine g_icmp_ge C 63 dR_year_25 (by decide) (fun hc => ?_) (fun hc => ?_)
      · replace h := h.1 hc
        refine g_locals (lv' := [(0, .ref (ad 0)), (1, iv v1)]) rfl ?_
        exact pB63 r2 X2_69 hr2 hX2_69 _ _ h
      · replace h := h.2 hc
        refine g_iconst C dR_year_28 ?_
        refine g_istore_n C dR_year_29 (by decide) rfl ?_
        refine g_locals (lv' := [(0, .ref (ad 0)), (1, iv v1), (2, iv 2)]) rfl ?_
        refine g_locals (lv' := [(0, .ref (ad 0)), (1, iv v1), (2, iv 2)]) rfl ?_
        obtain ⟨n, h⟩ := h
        refine pL30 r2 X2_69 _ hr2 hX2_69 ?_ n _ _ _ h
        · intro u1_30 M30 hN
          replace h := hN
          clear hN
          refine g_locals (lv' := [(0, .ref (ad 0)), (1, iv u1_30)]) rfl ?_
          exact pB63 r2 X2_69 hr2 hX2_69 _ _ h
  have pL2 : ∀  (X2_69 : gSt → Prop) (hX2_69 : ∀  (M : gSt), X2_69  M → gG p l e (rmR 1 23) s m args below meth c Q D cl A (wR ad cI ci) 3 69 [(0, .ref (ad 0))] [] M) (n : Nat) (v1 : Int) (M : gSt), wL_Ryear_2  k  X2_69 n v1 M → gG p l e (rmR 1 23) s m args below meth c Q D cl A (wR ad cI ci) 3 2 [(0, .ref (ad 0)), (1, iv v1)] [] M := by
    intro  X2_69 hX2_69 n
    induction n with
    | zero => intro v1 M h; exact h.elim
    | succ n ih =>
      intro v1 M h
      exact pC2  (wL_Ryear_2  k  X2_69 n) X2_69 ih hX2_69 v1 M h
  refine g_locals (lv' := [(0, .ref (ad 0))]) rfl ?_
  unfold w_Ryear at h
  refine g_iconst C dR_year_0 ?_
  refine g_istore_n C dR_year_1 (by decide) rfl ?_
  refine g_locals (lv' := [(0, .ref (ad 0)), (1, iv 0)]) rfl ?_
  refine g_locals (lv' := [(0, .ref (ad 0)), (1, iv 0)]) rfl ?_
  obtain ⟨n, h⟩ := h
  refine pL2 _ ?_ n _ _ h
  · intro  M2 hN
    replace h := hN
    clear hN
    refine g_aload_n C dR_year_69 rfl ?_
    refine rf_s C hci dR_year_70 ?_
    refine g_iconst C dR_year_73 ?_
    refine g_dup2 C dR_year_74 rfl rfl ?_
    refine g_iald C (n := 536) dR_year_75 rfl (by decide) ⟨by decide, by decide⟩ ?_
    refine g_iconst C dR_year_76 ?_
    refine g_iadd C dR_year_77 ?_
    refine g_iast C (n := 536) dR_year_78 rfl (by decide) ⟨by decide, by decide⟩ ?_
    refine g_memname (fun M78 hM78 => ?_)
    replace h := h M78 hM78
    exact hR _ _ _ dR_year_79 h
def wC_Rgo_2 (a1 : Int) (k : gSt → Prop) (r2 : Int → gSt → Prop) (X2_17 : gSt → Prop) (v2 : Int) (M : gSt) : Prop :=

  (wrap a1 ≤ wrap v2 →
    X2_17  M) ∧
  (wrap v2 < wrap a1 →
    w_Ryear  M (fun M8 => r2 (v2 + 1) M8))
def wL_Rgo_2 (a1 : Int) (k : gSt → Prop)  (X2_17 : gSt → Prop) : Nat → Int → gSt → Prop
  | 0 => fun _ _ => False
  | n + 1 => fun v2 M => wC_Rgo_2 a1 k  (wL_Rgo_2 a1 k  X2_17 n) X2_17 v2 M
def w_Rgo (a1 : Int) (M : gSt) (k : gSt → Prop) : Prop :=
∃ n, wL_Rgo_2 a1 k  (fun  M2 =>
    k M2) n 0 M
set_option maxHeartbeats 4000000 in
set_option maxRecDepth 100000 in
theorem m_Rgo {l : Launch} {D : va_G} {cl : List vw_C} {tys : List (ClassId × FieldType)} {ad : Nat → Nat} {cI : ClassId} {ci : Nat} {Z : (Nat → Prop) → State → Prop} (hci : cl[ci]? = some (RX9, TX9, 23)) {a1 : Int} {M : gSt} {k : gSt → Prop} (h : w_Rgo a1 M k) : MOv l yX9_go cX9_go 3 (rmR 2 45) D cl ((cI, .int) :: tys) (wR ad cI ci) tR Z [.ref (ad 0), iv a1] M k := by
  refine mov_intro (by decide +kernel) (Nat.le_of_ble_eq_true rfl) wi_105 ?_
  intro p e s m args below meth c A Q C hR
  have pC2 : ∀ (r2 : Int → gSt → Prop) (X2_17 : gSt → Prop) (hr2 : ∀ (v2 : Int) (M : gSt), r2 v2 M → gG p l e (rmR 2 45) s m args below meth c Q D cl A (wR ad cI ci) 3 2 [(0, .ref (ad 0)), (1, iv a1), (2, iv v2)] [] M) (hX2_17 : ∀  (M : gSt), X2_17  M → gG p l e (rmR 2 45) s m args below meth c Q D cl A (wR ad cI ci) 3 17 [] [] M) (v2 : Int) (M : gSt), wC_Rgo_2 a1 k r2 X2_17 v2 M → gG p l e (rmR 2 45) s m args below meth c Q D cl A (wR ad cI ci) 3 2 [(0, .ref (ad 0)), (1, iv a1), (2, iv v2)] [] M := by
    intro r2 X2_17 hr2 hX2_17 v2 M h
    unfold wC_Rgo_2 at h
    refine g_iload_n C dR_go_2 rfl ?_
    refine g_iload_n C dR_go_3 rfl ?_
    refine g_icmp_ge C 17 dR_go_4 (by decide) (fun hc => ?_) (fun hc => ?_)
    · replace h := h.1 hc
      refine g_locals (lv' := []) rfl ?_
      exact hX2_17  _ h
    · replace h := h.2 hc
      refine g_aload_n C dR_go_7 rfl ?_
      refine g_callVv C (nargs := 0) (o := 0) (st := []) (m_Ryear hci h) rfl (by decide) hci rfl gd_year (by decide +kernel) ⟨rfl, rfl⟩ dR_go_8 ⟨by decide, by decide⟩ rfl rfl (Nat.le_of_ble_eq_true rfl) ?_
      intro M8 hN
      replace h := hN
      clear hN
      refine g_iinc C dR_go_11 rfl (by decide) rfl ?_
      refine g_locals (lv' := [(0, .ref (ad 0)), (1, iv a1), (2, iv (v2 + 1))]) rfl ?_
      refine g_goto C 2 dR_go_14 (by decide) ?_
      refine g_locals (lv' := [(0, .ref (ad 0)), (1, iv a1), (2, iv (v2 + 1))]) rfl ?_
      exact hr2 _  _ h
  have pL2 : ∀  (X2_17 : gSt → Prop) (hX2_17 : ∀  (M : gSt), X2_17  M → gG p l e (rmR 2 45) s m args below meth c Q D cl A (wR ad cI ci) 3 17 [] [] M) (n : Nat) (v2 : Int) (M : gSt), wL_Rgo_2 a1 k  X2_17 n v2 M → gG p l e (rmR 2 45) s m args below meth c Q D cl A (wR ad cI ci) 3 2 [(0, .ref (ad 0)), (1, iv a1), (2, iv v2)] [] M := by
    intro  X2_17 hX2_17 n
    induction n with
    | zero => intro v2 M h; exact h.elim
    | succ n ih =>
      intro v2 M h
      exact pC2  (wL_Rgo_2 a1 k  X2_17 n) X2_17 ih hX2_17 v2 M h
  refine g_locals (lv' := [(0, .ref (ad 0)), (1, iv a1)]) rfl ?_
  unfold w_Rgo at h
  refine g_iconst C dR_go_0 ?_
  refine g_istore_n C dR_go_1 (by decide) rfl ?_
  refine g_locals (lv' := [(0, .ref (ad 0)), (1, iv a1), (2, iv 0)]) rfl ?_
  refine g_locals (lv' := [(0, .ref (ad 0)), (1, iv a1), (2, iv 0)]) rfl ?_
  obtain ⟨n, h⟩ := h
  refine pL2 _ ?_ n _ _ h
  · intro  M2 hN
    replace h := hN
    clear hN
    exact hR _ _ _ dR_go_17 h
def wC_RallGrams_4  (k : Int → gSt → Prop) (r4 : Int → Int → gSt → Prop) (X4_29 : Int → gSt → Prop) (v1 : Int) (v2 : Int) (M : gSt) : Prop :=

  (wrap (M 1 0) ≤ wrap v2 →
    X4_29 v1 M) ∧
  (wrap v2 < wrap (M 1 0) →
    w_Rits v2 2 M (fun r18c M18 => ∀ x1_22 : Int, x1_22 = v1 + r18c → (r4 x1_22 (v2 + 1) M18)))
def wL_RallGrams_4  (k : Int → gSt → Prop)  (X4_29 : Int → gSt → Prop) : Nat → Int → Int → gSt → Prop
  | 0 => fun _ _ _ => False
  | n + 1 => fun v1 v2 M => wC_RallGrams_4  k  (wL_RallGrams_4  k  X4_29 n) X4_29 v1 v2 M
def w_RallGrams  (M : gSt) (k : Int → gSt → Prop) : Prop :=
∃ n, wL_RallGrams_4  k  (fun u1_4 M4 =>
    k u1_4 M4) n 0 0 M
set_option maxHeartbeats 4000000 in
set_option maxRecDepth 100000 in
theorem m_RallGrams {l : Launch} {D : va_G} {cl : List vw_C} {tys : List (ClassId × FieldType)} {ad : Nat → Nat} {cI : ClassId} {ci : Nat} {Z : (Nat → Prop) → State → Prop} (hci : cl[ci]? = some (RX9, TX9, 23))  {M : gSt} {k : Int → gSt → Prop} (h : w_RallGrams  M k) : MOi l yX9_allGrams cX9_allGrams 3 .int (rmR 1 22) D cl ((cI, .int) :: tys) (wR ad cI ci) tR Z [.ref (ad 0)] M k := by
  refine moi_intro (by decide +kernel) (Nat.le_of_ble_eq_true rfl) wi_106 ?_
  intro p e s m args below meth c A Q C hR
  have pC4 : ∀ (r4 : Int → Int → gSt → Prop) (X4_29 : Int → gSt → Prop) (hr4 : ∀ (v1 : Int) (v2 : Int) (M : gSt), r4 v1 v2 M → gG p l e (rmR 1 22) s m args below meth c Q D cl A (wR ad cI ci) 3 4 [(0, .ref (ad 0)), (1, iv v1), (2, iv v2)] [] M) (hX4_29 : ∀ (v1 : Int) (M : gSt), X4_29 v1 M → gG p l e (rmR 1 22) s m args below meth c Q D cl A (wR ad cI ci) 3 29 [(1, iv v1)] [] M) (v1 : Int) (v2 : Int) (M : gSt), wC_RallGrams_4  k r4 X4_29 v1 v2 M → gG p l e (rmR 1 22) s m args below meth c Q D cl A (wR ad cI ci) 3 4 [(0, .ref (ad 0)), (1, iv v1), (2, iv v2)] [] M := by
    intro r4 X4_29 hr4 hX4_29 v1 v2 M h
    unfold wC_RallGrams_4 at h
    refine g_iload_n C dR_allGrams_4 rfl ?_
    refine g_aload_n C dR_allGrams_5 rfl ?_
    refine rf_s C hci dR_allGrams_6 ?_
    refine g_iconst C dR_allGrams_9 ?_
    refine g_iald C (n := 536) dR_allGrams_10 rfl (by decide) ⟨by decide, by decide⟩ ?_
    refine g_icmp_ge C 29 dR_allGrams_11 (by decide) (fun hc => ?_) (fun hc => ?_)
    · replace h := h.1 hc
      refine g_locals (lv' := [(1, iv v1)]) rfl ?_
      exact hX4_29 _  _ h
    · replace h := h.2 hc
      refine g_iload_n C dR_allGrams_14 rfl ?_
      refine g_aload_n C dR_allGrams_15 rfl ?_
      refine g_iload_n C dR_allGrams_16 rfl ?_
      refine g_iconst C dR_allGrams_17 ?_
      refine g_callVi C (nargs := 2) (o := 0) (st := [iv v1]) (m_Rits hci h) rfl (by decide) hci rfl gd_its (by decide +kernel) ⟨rfl, rfl⟩ dR_allGrams_18 ⟨by decide, by decide⟩ rfl rfl (Nat.le_of_ble_eq_true rfl) ?_
      intro r18c M18 hN
      replace h := hN
      clear hN
      refine g_iadd C dR_allGrams_21 ?_
      refine g_name (fun x1_22 hx1_22 => ?_)
      replace h := h x1_22 hx1_22
      refine g_istore_n C dR_allGrams_22 (by decide) rfl ?_
      refine g_locals (lv' := [(0, .ref (ad 0)), (1, iv x1_22), (2, iv v2)]) rfl ?_
      refine g_iinc C dR_allGrams_23 rfl (by decide) rfl ?_
      refine g_locals (lv' := [(0, .ref (ad 0)), (1, iv x1_22), (2, iv (v2 + 1))]) rfl ?_
      refine g_goto C 4 dR_allGrams_26 (by decide) ?_
      refine g_locals (lv' := [(0, .ref (ad 0)), (1, iv x1_22), (2, iv (v2 + 1))]) rfl ?_
      exact hr4 _ _  _ h
  have pL4 : ∀  (X4_29 : Int → gSt → Prop) (hX4_29 : ∀ (v1 : Int) (M : gSt), X4_29 v1 M → gG p l e (rmR 1 22) s m args below meth c Q D cl A (wR ad cI ci) 3 29 [(1, iv v1)] [] M) (n : Nat) (v1 : Int) (v2 : Int) (M : gSt), wL_RallGrams_4  k  X4_29 n v1 v2 M → gG p l e (rmR 1 22) s m args below meth c Q D cl A (wR ad cI ci) 3 4 [(0, .ref (ad 0)), (1, iv v1), (2, iv v2)] [] M := by
    intro  X4_29 hX4_29 n
    induction n with
    | zero => intro v1 v2 M h; exact h.elim
    | succ n ih =>
      intro v1 v2 M h
      exact pC4  (wL_RallGrams_4  k  X4_29 n) X4_29 ih hX4_29 v1 v2 M h
  refine g_locals (lv' := [(0, .ref (ad 0))]) rfl ?_
  unfold w_RallGrams at h
  refine g_iconst C dR_allGrams_0 ?_
  refine g_istore_n C dR_allGrams_1 (by decide) rfl ?_
  refine g_locals (lv' := [(0, .ref (ad 0)), (1, iv 0)]) rfl ?_
  refine g_iconst C dR_allGrams_2 ?_
  refine g_istore_n C dR_allGrams_3 (by decide) rfl ?_
  refine g_locals (lv' := [(0, .ref (ad 0)), (1, iv 0), (2, iv 0)]) rfl ?_
  refine g_locals (lv' := [(0, .ref (ad 0)), (1, iv 0), (2, iv 0)]) rfl ?_
  obtain ⟨n, h⟩ := h
  refine pL4 _ ?_ n _ _ _ h
  · intro u1_4 M4 hN
    replace h := hN
    clear hN
    refine g_iload_n C dR_allGrams_29 rfl ?_
    exact hR _ _ _ _ dR_allGrams_30 rfl h
