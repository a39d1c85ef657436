def wB_X8_told_23 (a1 : Int) (k : Int → gSt → Prop)   (M : gSt) : Prop :=
w_X8_refuse 1 M (fun r25c M25 => k r25c M25)
def w_X8_told (a1 : Int) (M : gSt) (k : Int → gSt → Prop) : Prop :=
  
  (wrap a1 < 1 →
    wB_X8_told_23 a1 k   M) ∧
  (1 ≤ wrap a1 →

    (7 ≤ wrap a1 →
      wB_X8_told_23 a1 k   M) ∧
    (wrap a1 < 7 →
      ((0 : Int) ≤ a1 ∧ a1 < 7) ∧ (k (M 64 a1) M)))
set_option maxHeartbeats 4000000 in
set_option maxRecDepth 100000 in
theorem m_X8_told {l : Launch} {D : va_G} {tys : List (ClassId × FieldType)} {ad : Nat → Nat} {cI cS : ClassId} {a1 : Int} {M : gSt} {k : Int → gSt → Prop} (h : w_X8_told a1 M k) : MOi l yX8_told cX8_told 2 .int (rmR 1 21) D clC ((cI, .int) :: (cS, .object "OldBronze$Sheet") :: tys) (wC ad cI cS) tC zC [.ref (ad 0), iv a1] M k := by
  refine moi_intro (by decide +kernel) (Nat.le_of_ble_eq_true rfl) wc_617 ?_
  intro p e s m args below meth c A Q C hR
  unfold w_X8_told at h
  have pB23 : ∀    (M : gSt), wB_X8_told_23 a1 k   M → gG p l e (rmR 1 21) s m args below meth c Q D clC A (wC ad cI cS) 2 23 [(0, .ref (ad 0))] [] M := by
    intro    M h
    unfold wB_X8_told_23 at h
    refine g_aload_n C dX8_told_23 rfl ?_
    refine g_iconst C dX8_told_24 ?_
    refine g_callVi C (nargs := 1) (o := 0) (st := []) (m_X8_refuse h) pl_0.1 pl_0.2.1 rfl rfl gc_X8_67 (by decide +kernel) ⟨rfl, rfl⟩ dX8_told_25 ⟨by decide, by decide⟩ rfl rfl (Nat.le_of_ble_eq_true rfl) ?_
    intro r25c M25 hN
    replace h := hN
    clear hN
    exact hR _ _ _ _ dX8_told_28 rfl h
  refine g_locals (lv' := [(0, .ref (ad 0)), (1, iv a1)]) rfl ?_
  refine g_iload_n C dX8_told_0 rfl ?_
  refine g_iconst C dX8_told_1 ?_
  refine g_icmp_lt C 23 dX8_told_2 (by decide) (fun hc => ?_) (fun hc => ?_)
  · replace h := h.1 hc
    refine g_locals (lv' := [(0, .ref (ad 0))]) rfl ?_
    exact pB23  _ h
  · replace h := h.2 hc
    refine g_iload_n C dX8_told_5 rfl ?_
    refine g_aload_n C dX8_told_6 rfl ?_
    refine cf_X8_53 C pl_0 dX8_told_7 ?_
    refine g_alen C (n := 7) dX8_told_10 pl_64.1 pl_64.2.1 ?_
    refine g_top (y := 7) rfl ?_
    refine g_icmp_ge C 23 dX8_told_11 (by decide) (fun hc => ?_) (fun hc => ?_)
    · replace h := h.1 hc
      refine g_locals (lv' := [(0, .ref (ad 0))]) rfl ?_
      exact pB23  _ h
    · replace h := h.2 hc
      refine g_aload_n C dX8_told_14 rfl ?_
      refine cf_X8_53 C pl_0 dX8_told_15 ?_
      refine g_iload_n C dX8_told_18 rfl ?_
      refine g_iald C (n := 7) dX8_told_19 pl_64.1 pl_64.2 h.1 ?_
      replace h := h.2
      refine g_goto C 28 dX8_told_20 (by decide) ?_
      exact hR _ _ _ _ dX8_told_28 rfl h
