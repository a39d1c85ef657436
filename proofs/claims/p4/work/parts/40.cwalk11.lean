def w_X8_put (a1 : Int) (a2 : Int) (a3 : Int) (M : gSt) (k : Int → gSt → Prop) : Prop :=
  w_X8_sheetAt a1 M (fun r2c M2 => 
  (r2c = none →
    w_X8_refuse 1 M2 (fun r14c M14 => k r14c M14)) ∧
  (∀ q9 : Nat, r2c = some q9 →
    w_X5_isMissing q9 M2 (fun r20c M20 => 
    (wrap r20c = 0 →
      w_X5_has q9 a2 M20 (fun r35c M35 => 
      (¬ wrap r35c = 0 →
        w_X5_write q9 a2 a3 M35 (fun M51 => k 1 M51)) ∧
      (wrap r35c = 0 →
        w_X8_refuse 1 M35 (fun r43c M43 => k r43c M43)))) ∧
    (¬ wrap r20c = 0 →
      w_X8_refuse 2 M20 (fun r28c M28 => k r28c M28)))))
set_option maxHeartbeats 4000000 in
set_option maxRecDepth 100000 in
theorem m_X8_put {l : Launch} {D : va_G} {tys : List (ClassId × FieldType)} {ad : Nat → Nat} {cI cS : ClassId} {a1 : Int} {a2 : Int} {a3 : Int} {M : gSt} {k : Int → gSt → Prop} (h : w_X8_put a1 a2 a3 M k) : MOi l yX8_put cX8_put 5 .int (rmR 2 43) D clC ((cI, .int) :: (cS, .object "OldBronze$Sheet") :: tys) (wC ad cI cS) tC zC [.ref (ad 0), iv a1, iv a2, iv a3] M k := by
  refine moi_intro (by decide +kernel) (Nat.le_of_ble_eq_true rfl) wc_581 ?_
  intro p e s m args below meth c A Q C hR
  unfold w_X8_put at h
  refine g_locals (lv' := [(0, .ref (ad 0)), (1, iv a1), (2, iv a2), (3, iv a3)]) rfl ?_
  refine g_aload_n C dX8_put_0 rfl ?_
  refine g_iload_n C dX8_put_1 rfl ?_
  refine g_callVr C (nargs := 1) (o := 0) (st := []) (m_X8_sheetAt h) pl_0.1 pl_0.2.1 rfl rfl gc_X8_250 (by decide +kernel) ⟨rfl, rfl⟩ dX8_put_2 ⟨by decide, by decide⟩ rfl rfl (Nat.le_of_ble_eq_true rfl) ?_
  intro r2c M2 hN
  replace h := hN
  clear hN
  refine g_astoreO' C dX8_put_5 (by decide) rfl ?_
  refine g_locals (lv' := [(0, .ref (ad 0)), (1, iv a1), (2, iv a2), (3, iv a3), (4, orv ad r2c)]) rfl ?_
  refine g_aloadO' C dX8_put_7 rfl ?_
  refine g_ifnonnull C 18 dX8_put_9 (by decide) (fun q9 hc => ?_) (fun hc => ?_)
  · replace h := h.2 q9 hc
    subst hc
    refine g_locals (lv' := [(0, .ref (ad 0)), (1, iv a1), (2, iv a2), (3, iv a3), (4, .ref (ad q9))]) rfl ?_
    refine g_aload C dX8_put_18 rfl ?_
    refine g_callVi C (nargs := 0) (o := q9) (st := []) (m_X5_isMissing h) (show isSheet q9 from h.1).1 (show isSheet q9 from h.1).2.1 rfl rfl gc_X8_257 (by decide +kernel) ⟨rfl, rfl⟩ dX8_put_20 ⟨by decide, by decide⟩ rfl rfl (Nat.le_of_ble_eq_true rfl) ?_
    intro r20c M20 hN
    replace h := hN
    clear hN
    refine g_if_eq C 32 dX8_put_23 (by decide) (fun hc => ?_) (fun hc => ?_)
    · replace h := h.1 hc
      refine g_aload C dX8_put_32 rfl ?_
      refine g_iload_n C dX8_put_34 rfl ?_
      refine g_callVi C (nargs := 1) (o := q9) (st := []) (m_X5_has h) (show isSheet q9 from h.1).1 (show isSheet q9 from h.1).2.1 rfl rfl gc_X8_260 (by decide +kernel) ⟨rfl, rfl⟩ dX8_put_35 ⟨by decide, by decide⟩ rfl rfl (Nat.le_of_ble_eq_true rfl) ?_
      intro r35c M35 hN
      replace h := hN
      clear hN
      refine g_if_ne C 47 dX8_put_38 (by decide) (fun hc => ?_) (fun hc => ?_)
      · replace h := h.1 hc
        refine g_aload C dX8_put_47 rfl ?_
        refine g_iload_n C dX8_put_49 rfl ?_
        refine g_iload_n C dX8_put_50 rfl ?_
        refine g_callVv C (nargs := 2) (o := q9) (st := []) (m_X5_write h) (show isSheet q9 from h.1).1 (show isSheet q9 from h.1).2.1 rfl rfl gc_X8_261 (by decide +kernel) ⟨rfl, rfl⟩ dX8_put_51 ⟨by decide, by decide⟩ rfl rfl (Nat.le_of_ble_eq_true rfl) ?_
        intro M51 hN
        replace h := hN
        clear hN
        refine g_iconst C dX8_put_54 ?_
        exact hR _ _ _ _ dX8_put_55 rfl h
      · replace h := h.2 hc
        refine g_aload_n C dX8_put_41 rfl ?_
        refine g_iconst C dX8_put_42 ?_
        refine g_callVi C (nargs := 1) (o := 0) (st := []) (m_X8_refuse h) pl_0.1 pl_0.2.1 rfl rfl gc_X8_67 (by decide +kernel) ⟨rfl, rfl⟩ dX8_put_43 ⟨by decide, by decide⟩ rfl rfl (Nat.le_of_ble_eq_true rfl) ?_
        intro r43c M43 hN
        replace h := hN
        clear hN
        exact hR _ _ _ _ dX8_put_46 rfl h
    · replace h := h.2 hc
      refine g_aload_n C dX8_put_26 rfl ?_
      refine g_iconst C dX8_put_27 ?_
      refine g_callVi C (nargs := 1) (o := 0) (st := []) (m_X8_refuse h) pl_0.1 pl_0.2.1 rfl rfl gc_X8_67 (by decide +kernel) ⟨rfl, rfl⟩ dX8_put_28 ⟨by decide, by decide⟩ rfl rfl (Nat.le_of_ble_eq_true rfl) ?_
      intro r28c M28 hN
      replace h := hN
      clear hN
      exact hR _ _ _ _ dX8_put_31 rfl h
  · replace h := h.1 hc
    refine g_locals (lv' := [(0, .ref (ad 0)), (1, iv a1), (2, iv a2), (3, iv a3)]) rfl ?_
    refine g_aload_n C dX8_put_12 rfl ?_
    refine g_iconst C dX8_put_13 ?_
    refine g_callVi C (nargs := 1) (o := 0) (st := []) (m_X8_refuse h) pl_0.1 pl_0.2.1 rfl rfl gc_X8_67 (by decide +kernel) ⟨rfl, rfl⟩ dX8_put_14 ⟨by decide, by decide⟩ rfl rfl (Nat.le_of_ble_eq_true rfl) ?_
    intro r14c M14 hN
    replace h := hN
    clear hN
    exact hR _ _ _ _ dX8_put_17 rfl h
def wB_X8_move_24 (a1 : Int) (a2 : Int) (a3 : Int) (a4 : Int) (a5 : Int) (k : Int → gSt → Prop)   (M : gSt) : Prop :=
w_X8_refuse 1 M (fun r26c M26 => k r26c M26)
def wB_X8_move_46 (a1 : Int) (a2 : Int) (a3 : Int) (a4 : Int) (a5 : Int) (k : Int → gSt → Prop)   (M : gSt) : Prop :=
w_X8_refuse 2 M (fun r48c M48 => k r48c M48)
def wB_X8_move_91 (a1 : Int) (a2 : Int) (a3 : Int) (a4 : Int) (a5 : Int) (k : Int → gSt → Prop)   (M : gSt) : Prop :=
w_X8_refuse 1 M (fun r93c M93 => k r93c M93)
def w_X8_move (a1 : Int) (a2 : Int) (a3 : Int) (a4 : Int) (a5 : Int) (M : gSt) (k : Int → gSt → Prop) : Prop :=
  w_X8_sheetAt a1 M (fun r2c M2 => w_X8_sheetAt a3 M2 (fun r9c M9 => 
  (r2c = none →
    wB_X8_move_24 a1 a2 a3 a4 a5 k   M9) ∧
  (∀ q16 : Nat, r2c = some q16 →

    (r9c = none →
      wB_X8_move_24 a1 a2 a3 a4 a5 k   M9) ∧
    (∀ q21 : Nat, r9c = some q21 →
      w_X5_isMissing q16 M9 (fun r32c M32 => 
      (¬ wrap r32c = 0 →
        wB_X8_move_46 a1 a2 a3 a4 a5 k   M32) ∧
      (wrap r32c = 0 →
        w_X5_isMissing q21 M32 (fun r40c M40 => 
        (wrap r40c = 0 →
          w_X5_isLike q16 q21 M40 (fun r56c M56 => 
          (¬ wrap r56c = 0 →
            w_X5_hasRange q16 a2 a5 M56 (fun r73c M73 => 
            (wrap r73c = 0 →
              wB_X8_move_91 a1 a2 a3 a4 a5 k   M73) ∧
            (¬ wrap r73c = 0 →
              w_X5_hasRange q21 a4 a5 M73 (fun r85c M85 => 
              (¬ wrap r85c = 0 →
                w_X5_copyRange q16 a2 q21 a4 a5 M85 (fun M106 => k a5 M106)) ∧
              (wrap r85c = 0 →
                wB_X8_move_91 a1 a2 a3 a4 a5 k   M85))))) ∧
          (wrap r56c = 0 →
            w_X8_refuse 5 M56 (fun r64c M64 => k r64c M64)))) ∧
        (¬ wrap r40c = 0 →
          wB_X8_move_46 a1 a2 a3 a4 a5 k   M40))))))))
set_option maxHeartbeats 4000000 in
set_option maxRecDepth 100000 in
theorem m_X8_move {l : Launch} {D : va_G} {tys : List (ClassId × FieldType)} {ad : Nat → Nat} {cI cS : ClassId} {a1 : Int} {a2 : Int} {a3 : Int} {a4 : Int} {a5 : Int} {M : gSt} {k : Int → gSt → Prop} (h : w_X8_move a1 a2 a3 a4 a5 M k) : MOi l yX8_move cX8_move 8 .int (rmR 3 87) D clC ((cI, .int) :: (cS, .object "OldBronze$Sheet") :: tys) (wC ad cI cS) tC zC [.ref (ad 0), iv a1, iv a2, iv a3, iv a4, iv a5] M k := by
  refine moi_intro (by decide +kernel) (Nat.le_of_ble_eq_true rfl) wc_589 ?_
  intro p e s m args below meth c A Q C hR
  unfold w_X8_move at h
  have pB24 : ∀    (M : gSt), wB_X8_move_24 a1 a2 a3 a4 a5 k   M → gG p l e (rmR 3 87) s m args below meth c Q D clC A (wC ad cI cS) 8 24 [(0, .ref (ad 0))] [] M := by
    intro    M h
    unfold wB_X8_move_24 at h
    refine g_aload_n C dX8_move_24 rfl ?_
    refine g_iconst C dX8_move_25 ?_
    refine g_callVi C (nargs := 1) (o := 0) (st := []) (m_X8_refuse h) pl_0.1 pl_0.2.1 rfl rfl gc_X8_67 (by decide +kernel) ⟨rfl, rfl⟩ dX8_move_26 ⟨by decide, by decide⟩ rfl rfl (Nat.le_of_ble_eq_true rfl) ?_
    intro r26c M26 hN
    replace h := hN
    clear hN
    exact hR _ _ _ _ dX8_move_29 rfl h
  have pB46 : ∀    (M : gSt), wB_X8_move_46 a1 a2 a3 a4 a5 k   M → gG p l e (rmR 3 87) s m args below meth c Q D clC A (wC ad cI cS) 8 46 [(0, .ref (ad 0))] [] M := by
    intro    M h
    unfold wB_X8_move_46 at h
    refine g_aload_n C dX8_move_46 rfl ?_
    refine g_iconst C dX8_move_47 ?_
    refine g_callVi C (nargs := 1) (o := 0) (st := []) (m_X8_refuse h) pl_0.1 pl_0.2.1 rfl rfl gc_X8_67 (by decide +kernel) ⟨rfl, rfl⟩ dX8_move_48 ⟨by decide, by decide⟩ rfl rfl (Nat.le_of_ble_eq_true rfl) ?_
    intro r48c M48 hN
    replace h := hN
    clear hN
    exact hR _ _ _ _ dX8_move_51 rfl h
  have pB91 : ∀    (M : gSt), wB_X8_move_91 a1 a2 a3 a4 a5 k   M → gG p l e (rmR 3 87) s m args below meth c Q D clC A (wC ad cI cS) 8 91 [(0, .ref (ad 0))] [] M := by
    intro    M h
    unfold wB_X8_move_91 at h
    refine g_aload_n C dX8_move_91 rfl ?_
    refine g_iconst C dX8_move_92 ?_
    refine g_callVi C (nargs := 1) (o := 0) (st := []) (m_X8_refuse h) pl_0.1 pl_0.2.1 rfl rfl gc_X8_67 (by decide +kernel) ⟨rfl, rfl⟩ dX8_move_93 ⟨by decide, by decide⟩ rfl rfl (Nat.le_of_ble_eq_true rfl) ?_
    intro r93c M93 hN
    replace h := hN
    clear hN
    exact hR _ _ _ _ dX8_move_96 rfl h
  refine g_locals (lv' := [(0, .ref (ad 0)), (1, iv a1), (2, iv a2), (3, iv a3), (4, iv a4), (5, iv a5)]) rfl ?_
  refine g_aload_n C dX8_move_0 rfl ?_
  refine g_iload_n C dX8_move_1 rfl ?_
  refine g_callVr C (nargs := 1) (o := 0) (st := []) (m_X8_sheetAt h) pl_0.1 pl_0.2.1 rfl rfl gc_X8_250 (by decide +kernel) ⟨rfl, rfl⟩ dX8_move_2 ⟨by decide, by decide⟩ rfl rfl (Nat.le_of_ble_eq_true rfl) ?_
  intro r2c M2 hN
  replace h := hN
  clear hN
  refine g_astoreO' C dX8_move_5 (by decide) rfl ?_
  refine g_locals (lv' := [(0, .ref (ad 0)), (1, iv a1), (2, iv a2), (3, iv a3), (4, iv a4), (5, iv a5), (6, orv ad r2c)]) rfl ?_
  refine g_aload_n C dX8_move_7 rfl ?_
  refine g_iload_n C dX8_move_8 rfl ?_
  refine g_callVr C (nargs := 1) (o := 0) (st := []) (m_X8_sheetAt h) pl_0.1 pl_0.2.1 rfl rfl gc_X8_250 (by decide +kernel) ⟨rfl, rfl⟩ dX8_move_9 ⟨by decide, by decide⟩ rfl rfl (Nat.le_of_ble_eq_true rfl) ?_
  intro r9c M9 hN
  replace h := hN
  clear hN
  refine g_astoreO' C dX8_move_12 (by decide) (lv' := [(7, orv ad r9c), (0, .ref (ad 0)), (1, iv a1), (2, iv a2), (3, iv a3), (4, iv a4), (5, iv a5), (6, orv ad r2c)]) (by simp [lvs, orv_cat]) ?_
  refine g_locals (lv' := [(0, .ref (ad 0)), (1, iv a1), (2, iv a2), (3, iv a3), (4, iv a4), (5, iv a5), (6, orv ad r2c), (7, orv ad r9c)]) rfl ?_
  refine g_aloadO' C dX8_move_14 rfl ?_
  refine g_ifnull C 24 dX8_move_16 (by decide) (fun hc => ?_) (fun q16 hc => ?_)
  · replace h := h.1 hc
    refine g_locals (lv' := [(0, .ref (ad 0)), (1, iv a1), (2, iv a2), (3, iv a3), (4, iv a4), (5, iv a5), (7, orv ad r9c)]) rfl ?_
    refine g_locals (lv' := [(0, .ref (ad 0))]) rfl ?_
    exact pB24  _ h
  · replace h := h.2 q16 hc
    subst hc
    refine g_locals (lv' := [(0, .ref (ad 0)), (1, iv a1), (2, iv a2), (3, iv a3), (4, iv a4), (5, iv a5), (6, .ref (ad q16)), (7, orv ad r9c)]) rfl ?_
    refine g_aloadO' C dX8_move_19 rfl ?_
    refine g_ifnonnull C 30 dX8_move_21 (by decide) (fun q21 hc => ?_) (fun hc => ?_)
    · replace h := h.2 q21 hc
      subst hc
      refine g_locals (lv' := [(0, .ref (ad 0)), (1, iv a1), (2, iv a2), (3, iv a3), (4, iv a4), (5, iv a5), (6, .ref (ad q16)), (7, .ref (ad q21))]) rfl ?_
      refine g_aload C dX8_move_30 rfl ?_
      refine g_callVi C (nargs := 0) (o := q16) (st := []) (m_X5_isMissing h) (show isSheet q16 from h.1).1 (show isSheet q16 from h.1).2.1 rfl rfl gc_X8_257 (by decide +kernel) ⟨rfl, rfl⟩ dX8_move_32 ⟨by decide, by decide⟩ rfl rfl (Nat.le_of_ble_eq_true rfl) ?_
      intro r32c M32 hN
      replace h := hN
      clear hN
      refine g_if_ne C 46 dX8_move_35 (by decide) (fun hc => ?_) (fun hc => ?_)
      · replace h := h.1 hc
        refine g_locals (lv' := [(0, .ref (ad 0))]) rfl ?_
        exact pB46  _ h
      · replace h := h.2 hc
        refine g_aload C dX8_move_38 rfl ?_
        refine g_callVi C (nargs := 0) (o := q21) (st := []) (m_X5_isMissing h) (show isSheet q21 from h.1).1 (show isSheet q21 from h.1).2.1 rfl rfl gc_X8_257 (by decide +kernel) ⟨rfl, rfl⟩ dX8_move_40 ⟨by decide, by decide⟩ rfl rfl (Nat.le_of_ble_eq_true rfl) ?_
        intro r40c M40 hN
        replace h := hN
        clear hN
        refine g_if_eq C 52 dX8_move_43 (by decide) (fun hc => ?_) (fun hc => ?_)
        · replace h := h.1 hc
          refine g_aload C dX8_move_52 rfl ?_
          refine g_aload C dX8_move_54 rfl ?_
          refine g_callVi C (nargs := 1) (o := q16) (st := []) (m_X5_isLike h) (show isSheet q16 from h.1).1 (show isSheet q16 from h.1).2.1 rfl rfl gc_X8_264 (by decide +kernel) ⟨rfl, rfl⟩ dX8_move_56 ⟨by decide, by decide⟩ rfl rfl (Nat.le_of_ble_eq_true rfl) ?_
          intro r56c M56 hN
          replace h := hN
          clear hN
          refine g_if_ne C 68 dX8_move_59 (by decide) (fun hc => ?_) (fun hc => ?_)
          · replace h := h.1 hc
            refine g_aload C dX8_move_68 rfl ?_
            refine g_iload_n C dX8_move_70 rfl ?_
            refine g_iload C dX8_move_71 rfl ?_
            refine g_callVi C (nargs := 2) (o := q16) (st := []) (m_X5_hasRange h) (show isSheet q16 from h.1).1 (show isSheet q16 from h.1).2.1 rfl rfl gc_X8_268 (by decide +kernel) ⟨rfl, rfl⟩ dX8_move_73 ⟨by decide, by decide⟩ rfl rfl (Nat.le_of_ble_eq_true rfl) ?_
            intro r73c M73 hN
            replace h := hN
            clear hN
            refine g_if_eq C 91 dX8_move_76 (by decide) (fun hc => ?_) (fun hc => ?_)
            · replace h := h.1 hc
              refine g_locals (lv' := [(0, .ref (ad 0))]) rfl ?_
              exact pB91  _ h
            · replace h := h.2 hc
              refine g_aload C dX8_move_79 rfl ?_
              refine g_iload C dX8_move_81 rfl ?_
              refine g_iload C dX8_move_83 rfl ?_
              refine g_callVi C (nargs := 2) (o := q21) (st := []) (m_X5_hasRange h) (show isSheet q21 from h.1).1 (show isSheet q21 from h.1).2.1 rfl rfl gc_X8_268 (by decide +kernel) ⟨rfl, rfl⟩ dX8_move_85 ⟨by decide, by decide⟩ rfl rfl (Nat.le_of_ble_eq_true rfl) ?_
              intro r85c M85 hN
              replace h := hN
              clear hN
              refine g_if_ne C 97 dX8_move_88 (by decide) (fun hc => ?_) (fun hc => ?_)
              · replace h := h.1 hc
                refine g_aload C dX8_move_97 rfl ?_
                refine g_iload_n C dX8_move_99 rfl ?_
                refine g_aload C dX8_move_100 rfl ?_
                refine g_iload C dX8_move_102 rfl ?_
                refine g_iload C dX8_move_104 rfl ?_
                refine g_callVv C (nargs := 4) (o := q16) (st := []) (m_X5_copyRange h) (show isSheet q16 from h.1).1 (show isSheet q16 from h.1).2.1 rfl rfl gc_X8_271 (by decide +kernel) ⟨rfl, rfl⟩ dX8_move_106 ⟨by decide, by decide⟩ rfl rfl (Nat.le_of_ble_eq_true rfl) ?_
                intro M106 hN
                replace h := hN
                clear hN
                refine g_iload C dX8_move_109 rfl ?_
                exact hR _ _ _ _ dX8_move_111 rfl h
              · replace h := h.2 hc
                refine g_locals (lv' := [(0, .ref (ad 0))]) rfl ?_
                exact pB91  _ h
          · replace h := h.2 hc
            refine g_aload_n C dX8_move_62 rfl ?_
            refine g_iconst C dX8_move_63 ?_
            refine g_callVi C (nargs := 1) (o := 0) (st := []) (m_X8_refuse h) pl_0.1 pl_0.2.1 rfl rfl gc_X8_67 (by decide +kernel) ⟨rfl, rfl⟩ dX8_move_64 ⟨by decide, by decide⟩ rfl rfl (Nat.le_of_ble_eq_true rfl) ?_
            intro r64c M64 hN
            replace h := hN
            clear hN
            exact hR _ _ _ _ dX8_move_67 rfl h
        · replace h := h.2 hc
          refine g_locals (lv' := [(0, .ref (ad 0))]) rfl ?_
          exact pB46  _ h
    · replace h := h.1 hc
      refine g_locals (lv' := [(0, .ref (ad 0)), (1, iv a1), (2, iv a2), (3, iv a3), (4, iv a4), (5, iv a5), (6, .ref (ad q16))]) rfl ?_
      refine g_locals (lv' := [(0, .ref (ad 0))]) rfl ?_
      exact pB24  _ h
def wC_X8_papers_34 (a1 : Int) (k : Int → gSt → Prop) (r34 : Nat → Int → Int → gSt → Prop) (X34_88 : Int → gSt → Prop) (X34_132 : Int → gSt → Prop) (v2 : Nat) (v3 : Int) (v4 : Int) (M : gSt) : Prop :=
w_X5_size v2 M (fun r39c M39 => 
  (wrap r39c ≤ wrap (v4 + 2) →
    X34_132 v3 M39) ∧
  (wrap (v4 + 2) < wrap r39c →
    w_X5_at v2 v4 M39 (fun r49c M49 => w_X5_at v2 (v4 + 1) M49 (fun r57c M57 => w_X5_at v2 (v4 + 2) M57 (fun r65c M65 => w_X8_isPaper r49c r57c r65c M65 (fun r68c M68 => 
    (wrap r68c = 0 →
      X34_88 v3 M68) ∧
    (¬ wrap r68c = 0 →
      w_X4_room 8 M68 (fun r81c M81 => 
      (1 ≤ wrap r81c →
        w_X5_at v2 v4 M81 (fun r100c M100 => w_X5_at v2 (v4 + 1) M100 (fun r108c M108 => w_X5_at v2 (v4 + 2) M108 (fun r116c M116 => w_X4_append 8 r100c r108c r116c M116 (fun r119c M119 => r34 v2 (v3 + 1) (v4 + 3) M119))))) ∧
      (wrap r81c < 1 →
        X34_88 v3 M81)))))))))
def wL_X8_papers_34 (a1 : Int) (k : Int → gSt → Prop)  (X34_88 : Int → gSt → Prop) (X34_132 : Int → gSt → Prop) : Nat → Nat → Int → Int → gSt → Prop
  | 0 => fun _ _ _ _ => False
  | n + 1 => fun v2 v3 v4 M => wC_X8_papers_34 a1 k  (wL_X8_papers_34 a1 k  X34_88 X34_132 n) X34_88 X34_132 v2 v3 v4 M
def w_X8_papers (a1 : Int) (M : gSt) (k : Int → gSt → Prop) : Prop :=
  w_X8_sheetAt a1 M (fun r2c M2 => 
  (r2c = none →
    w_X8_refuse 1 M2 (fun r12c M12 => k r12c M12)) ∧
  (∀ q7 : Nat, r2c = some q7 →
    w_X5_isMissing q7 M2 (fun r17c M17 => 
    (wrap r17c = 0 →
      ∃ n, wL_X8_papers_34 a1 k  (fun u3_34 M34 =>
        k u3_34 M34) (fun u3_34 M34 =>
        k u3_34 M34) n q7 0 0 M17) ∧
    (¬ wrap r17c = 0 →
      w_X8_refuse 2 M17 (fun r25c M25 => k r25c M25)))))
set_option maxHeartbeats 4000000 in
set_option maxRecDepth 100000 in
theorem m_X8_papers {l : Launch} {D : va_G} {tys : List (ClassId × FieldType)} {ad : Nat → Nat} {cI cS : ClassId} {a1 : Int} {M : gSt} {k : Int → gSt → Prop} (h : w_X8_papers a1 M k) : MOi l yX8_papers cX8_papers 5 .int (rmR 2 46) D clC ((cI, .int) :: (cS, .object "OldBronze$Sheet") :: tys) (wC ad cI cS) tC zC [.ref (ad 0), iv a1] M k := by
  refine moi_intro (by decide +kernel) (Nat.le_of_ble_eq_true rfl) wc_596 ?_
  intro p e s m args below meth c A Q C hR
  unfold w_X8_papers at h
  have pC34 : ∀ (r34 : Nat → Int → Int → gSt → Prop) (X34_88 : Int → gSt → Prop) (X34_132 : Int → gSt → Prop) (hr34 : ∀ (v2 : Nat) (v3 : Int) (v4 : Int) (M : gSt), r34 v2 v3 v4 M → gG p l e (rmR 2 46) s m args below meth c Q D clC A (wC ad cI cS) 5 34 [(0, .ref (ad 0)), (2, .ref (ad v2)), (3, iv v3), (4, iv v4)] [] M) (hX34_88 : ∀ (v3 : Int) (M : gSt), X34_88 v3 M → gG p l e (rmR 2 46) s m args below meth c Q D clC A (wC ad cI cS) 5 88 [(3, iv v3)] [] M) (hX34_132 : ∀ (v3 : Int) (M : gSt), X34_132 v3 M → gG p l e (rmR 2 46) s m args below meth c Q D clC A (wC ad cI cS) 5 132 [(3, iv v3)] [] M) (v2 : Nat) (v3 : Int) (v4 : Int) (M : gSt), wC_X8_papers_34 a1 k r34 X34_88 X34_132 v2 v3 v4 M → gG p l e (rmR 2 46) s m args below meth c Q D clC A (wC ad cI cS) 5 34 [(0, .ref (ad 0)), (2, .ref (ad v2)), (3, iv v3), (4, iv v4)] [] M := by
    intro r34 X34_88 X34_132 hr34 hX34_88 hX34_132 v2 v3 v4 M h
    unfold wC_X8_papers_34 at h
    refine g_iload C dX8_papers_34 rfl ?_
    refine g_iconst C dX8_papers_36 ?_
    refine g_iadd C dX8_papers_37 ?_
    refine g_aload_n C dX8_papers_38 rfl ?_
    refine g_callVi C (nargs := 0) (o := v2) (st := [iv (v4 + 2)]) (m_X5_size h) (show isSheet v2 from h.1).1 (show isSheet v2 from h.1).2.1 rfl rfl gc_X8_275 (by decide +kernel) ⟨rfl, rfl⟩ dX8_papers_39 ⟨by decide, by decide⟩ rfl rfl (Nat.le_of_ble_eq_true rfl) ?_
    intro r39c M39 hN
    replace h := hN
    clear hN
    refine g_icmp_ge C 132 dX8_papers_42 (by decide) (fun hc => ?_) (fun hc => ?_)
    · replace h := h.1 hc
      refine g_locals (lv' := [(3, iv v3)]) rfl ?_
      exact hX34_132 _  _ h
    · replace h := h.2 hc
      refine g_aload_n C dX8_papers_45 rfl ?_
      refine g_aload_n C dX8_papers_46 rfl ?_
      refine g_iload C dX8_papers_47 rfl ?_
      refine g_callVi C (nargs := 1) (o := v2) (st := [.ref (ad 0)]) (m_X5_at h) (show isSheet v2 from h.1).1 (show isSheet v2 from h.1).2.1 rfl rfl gc_X8_276 (by decide +kernel) ⟨rfl, rfl⟩ dX8_papers_49 ⟨by decide, by decide⟩ rfl rfl (Nat.le_of_ble_eq_true rfl) ?_
      intro r49c M49 hN
      replace h := hN
      clear hN
      refine g_aload_n C dX8_papers_52 rfl ?_
      refine g_iload C dX8_papers_53 rfl ?_
      refine g_iconst C dX8_papers_55 ?_
      refine g_iadd C dX8_papers_56 ?_
      refine g_callVi C (nargs := 1) (o := v2) (st := [iv r49c, .ref (ad 0)]) (m_X5_at h) (show isSheet v2 from h.1).1 (show isSheet v2 from h.1).2.1 rfl rfl gc_X8_276 (by decide +kernel) ⟨rfl, rfl⟩ dX8_papers_57 ⟨by decide, by decide⟩ rfl rfl (Nat.le_of_ble_eq_true rfl) ?_
      intro r57c M57 hN
      replace h := hN
      clear hN
      refine g_aload_n C dX8_papers_60 rfl ?_
      refine g_iload C dX8_papers_61 rfl ?_
      refine g_iconst C dX8_papers_63 ?_
      refine g_iadd C dX8_papers_64 ?_
      refine g_callVi C (nargs := 1) (o := v2) (st := [iv r57c, iv r49c, .ref (ad 0)]) (m_X5_at h) (show isSheet v2 from h.1).1 (show isSheet v2 from h.1).2.1 rfl rfl gc_X8_276 (by decide +kernel) ⟨rfl, rfl⟩ dX8_papers_65 ⟨by decide, by decide⟩ rfl rfl (Nat.le_of_ble_eq_true rfl) ?_
      intro r65c M65 hN
      replace h := hN
      clear hN
      refine g_callVi C (nargs := 3) (o := 0) (st := []) (m_X8_isPaper h) pl_0.1 pl_0.2.1 rfl rfl gc_X8_178 (by decide +kernel) ⟨rfl, rfl⟩ dX8_papers_68 ⟨by decide, by decide⟩ rfl rfl (Nat.le_of_ble_eq_true rfl) ?_
      intro r68c M68 hN
      replace h := hN
      clear hN
      refine g_if_eq C 88 dX8_papers_71 (by decide) (fun hc => ?_) (fun hc => ?_)
      · replace h := h.1 hc
        refine g_locals (lv' := [(3, iv v3)]) rfl ?_
        exact hX34_88 _  _ h
      · replace h := h.2 hc
        refine g_aload_n C dX8_papers_74 rfl ?_
        refine cf_X8_12 C pl_0 dX8_papers_75 ?_
        refine cf_X8_181 C pl_1 dX8_papers_78 ?_
        refine g_callVi C (nargs := 0) (o := 8) (st := []) (m_X4_room h) pl_8.1 pl_8.2.1 rfl rfl gc_X8_136 (by decide +kernel) ⟨rfl, rfl⟩ dX8_papers_81 ⟨by decide, by decide⟩ rfl rfl (Nat.le_of_ble_eq_true rfl) ?_
        intro r81c M81 hN
        replace h := hN
        clear hN
        refine g_iconst C dX8_papers_84 ?_
        refine g_icmp_ge C 90 dX8_papers_85 (by decide) (fun hc => ?_) (fun hc => ?_)
        · replace h := h.1 hc
          refine g_aload_n C dX8_papers_90 rfl ?_
          refine cf_X8_12 C pl_0 dX8_papers_91 ?_
          refine cf_X8_181 C pl_1 dX8_papers_94 ?_
          refine g_aload_n C dX8_papers_97 rfl ?_
          refine g_iload C dX8_papers_98 rfl ?_
          refine g_callVi C (nargs := 1) (o := v2) (st := [.ref (ad 8)]) (m_X5_at h) (show isSheet v2 from h.1).1 (show isSheet v2 from h.1).2.1 rfl rfl gc_X8_276 (by decide +kernel) ⟨rfl, rfl⟩ dX8_papers_100 ⟨by decide, by decide⟩ rfl rfl (Nat.le_of_ble_eq_true rfl) ?_
          intro r100c M100 hN
          replace h := hN
          clear hN
          refine g_aload_n C dX8_papers_103 rfl ?_
          refine g_iload C dX8_papers_104 rfl ?_
          refine g_iconst C dX8_papers_106 ?_
          refine g_iadd C dX8_papers_107 ?_
          refine g_callVi C (nargs := 1) (o := v2) (st := [iv r100c, .ref (ad 8)]) (m_X5_at h) (show isSheet v2 from h.1).1 (show isSheet v2 from h.1).2.1 rfl rfl gc_X8_276 (by decide +kernel) ⟨rfl, rfl⟩ dX8_papers_108 ⟨by decide, by decide⟩ rfl rfl (Nat.le_of_ble_eq_true rfl) ?_
          intro r108c M108 hN
          replace h := hN
          clear hN
          refine g_aload_n C dX8_papers_111 rfl ?_
          refine g_iload C dX8_papers_112 rfl ?_
          refine g_iconst C dX8_papers_114 ?_
          refine g_iadd C dX8_papers_115 ?_
          refine g_callVi C (nargs := 1) (o := v2) (st := [iv r108c, iv r100c, .ref (ad 8)]) (m_X5_at h) (show isSheet v2 from h.1).1 (show isSheet v2 from h.1).2.1 rfl rfl gc_X8_276 (by decide +kernel) ⟨rfl, rfl⟩ dX8_papers_116 ⟨by decide, by decide⟩ rfl rfl (Nat.le_of_ble_eq_true rfl) ?_
          intro r116c M116 hN
          replace h := hN
          clear hN
          refine g_callVi C (nargs := 3) (o := 8) (st := []) (m_X4_append h) pl_8.1 pl_8.2.1 rfl rfl gc_X8_139 (by decide +kernel) ⟨rfl, rfl⟩ dX8_papers_119 ⟨by decide, by decide⟩ rfl rfl (Nat.le_of_ble_eq_true rfl) ?_
          intro r119c M119 hN
          replace h := hN
          clear hN
          refine g_pop C dX8_papers_122 rfl ?_
          refine g_iinc C dX8_papers_123 rfl (by decide) rfl ?_
          refine g_locals (lv' := [(0, .ref (ad 0)), (2, .ref (ad v2)), (3, iv (v3 + 1)), (4, iv v4)]) rfl ?_
          refine g_iinc C dX8_papers_126 rfl (by decide) rfl ?_
          refine g_locals (lv' := [(0, .ref (ad 0)), (2, .ref (ad v2)), (3, iv (v3 + 1)), (4, iv (v4 + 3))]) rfl ?_
          refine g_goto C 34 dX8_papers_129 (by decide) ?_
          refine g_locals (lv' := [(0, .ref (ad 0)), (2, .ref (ad v2)), (3, iv (v3 + 1)), (4, iv (v4 + 3))]) rfl ?_
          exact hr34 _ _ _  _ h
        · replace h := h.2 hc
          refine g_locals (lv' := [(3, iv v3)]) rfl ?_
          exact hX34_88 _  _ h
  have pL34 : ∀  (X34_88 : Int → gSt → Prop) (X34_132 : Int → gSt → Prop) (hX34_88 : ∀ (v3 : Int) (M : gSt), X34_88 v3 M → gG p l e (rmR 2 46) s m args below meth c Q D clC A (wC ad cI cS) 5 88 [(3, iv v3)] [] M) (hX34_132 : ∀ (v3 : Int) (M : gSt), X34_132 v3 M → gG p l e (rmR 2 46) s m args below meth c Q D clC A (wC ad cI cS) 5 132 [(3, iv v3)] [] M) (n : Nat) (v2 : Nat) (v3 : Int) (v4 : Int) (M : gSt), wL_X8_papers_34 a1 k  X34_88 X34_132 n v2 v3 v4 M → gG p l e (rmR 2 46) s m args below meth c Q D clC A (wC ad cI cS) 5 34 [(0, .ref (ad 0)), (2, .ref (ad v2)), (3, iv v3), (4, iv v4)] [] M := by
    intro  X34_88 X34_132 hX34_88 hX34_132 n
    induction n with
    | zero => intro v2 v3 v4 M h; exact h.elim
    | succ n ih =>
      intro v2 v3 v4 M h
      exact pC34  (wL_X8_papers_34 a1 k  X34_88 X34_132 n) X34_88 X34_132 ih hX34_88 hX34_132 v2 v3 v4 M h
  refine g_locals (lv' := [(0, .ref (ad 0)), (1, iv a1)]) rfl ?_
  refine g_aload_n C dX8_papers_0 rfl ?_
  refine g_iload_n C dX8_papers_1 rfl ?_
  refine g_callVr C (nargs := 1) (o := 0) (st := []) (m_X8_sheetAt h) pl_0.1 pl_0.2.1 rfl rfl gc_X8_250 (by decide +kernel) ⟨rfl, rfl⟩ dX8_papers_2 ⟨by decide, by decide⟩ rfl rfl (Nat.le_of_ble_eq_true rfl) ?_
  intro r2c M2 hN
  replace h := hN
  clear hN
  refine g_astoreO C dX8_papers_5 (by decide) rfl ?_
  refine g_locals (lv' := [(0, .ref (ad 0)), (1, iv a1), (2, orv ad r2c)]) rfl ?_
  refine g_aloadO C dX8_papers_6 rfl ?_
  refine g_ifnonnull C 16 dX8_papers_7 (by decide) (fun q7 hc => ?_) (fun hc => ?_)
  · replace h := h.2 q7 hc
    subst hc
    refine g_locals (lv' := [(0, .ref (ad 0)), (1, iv a1), (2, .ref (ad q7))]) rfl ?_
    refine g_aload_n C dX8_papers_16 rfl ?_
    refine g_callVi C (nargs := 0) (o := q7) (st := []) (m_X5_isMissing h) (show isSheet q7 from h.1).1 (show isSheet q7 from h.1).2.1 rfl rfl gc_X8_257 (by decide +kernel) ⟨rfl, rfl⟩ dX8_papers_17 ⟨by decide, by decide⟩ rfl rfl (Nat.le_of_ble_eq_true rfl) ?_
    intro r17c M17 hN
    replace h := hN
    clear hN
    refine g_if_eq C 29 dX8_papers_20 (by decide) (fun hc => ?_) (fun hc => ?_)
    · replace h := h.1 hc
      refine g_iconst C dX8_papers_29 ?_
      refine g_istore_n C dX8_papers_30 (by decide) rfl ?_
      refine g_locals (lv' := [(0, .ref (ad 0)), (1, iv a1), (2, .ref (ad q7)), (3, iv 0)]) rfl ?_
      refine g_iconst C dX8_papers_31 ?_
      refine g_istore C dX8_papers_32 (by decide) rfl ?_
      refine g_locals (lv' := [(0, .ref (ad 0)), (1, iv a1), (2, .ref (ad q7)), (3, iv 0), (4, iv 0)]) rfl ?_
      refine g_locals (lv' := [(0, .ref (ad 0)), (2, .ref (ad q7)), (3, iv 0), (4, iv 0)]) rfl ?_
      obtain ⟨n, h⟩ := h
      refine pL34 _ _ ?_ ?_ n _ _ _ _ h
      · intro u3_34 M34 hN
        replace h := hN
        clear hN
        refine g_iload_n C dX8_papers_88 rfl ?_
        exact hR _ _ _ _ dX8_papers_89 rfl h
      · intro u3_34 M34 hN
        replace h := hN
        clear hN
        refine g_iload_n C dX8_papers_132 rfl ?_
        exact hR _ _ _ _ dX8_papers_133 rfl h
    · replace h := h.2 hc
      refine g_aload_n C dX8_papers_23 rfl ?_
      refine g_iconst C dX8_papers_24 ?_
      refine g_callVi C (nargs := 1) (o := 0) (st := []) (m_X8_refuse h) pl_0.1 pl_0.2.1 rfl rfl gc_X8_67 (by decide +kernel) ⟨rfl, rfl⟩ dX8_papers_25 ⟨by decide, by decide⟩ rfl rfl (Nat.le_of_ble_eq_true rfl) ?_
      intro r25c M25 hN
      replace h := hN
      clear hN
      exact hR _ _ _ _ dX8_papers_28 rfl h
  · replace h := h.1 hc
    refine g_locals (lv' := [(0, .ref (ad 0)), (1, iv a1)]) rfl ?_
    refine g_aload_n C dX8_papers_10 rfl ?_
    refine g_iconst C dX8_papers_11 ?_
    refine g_callVi C (nargs := 1) (o := 0) (st := []) (m_X8_refuse h) pl_0.1 pl_0.2.1 rfl rfl gc_X8_67 (by decide +kernel) ⟨rfl, rfl⟩ dX8_papers_12 ⟨by decide, by decide⟩ rfl rfl (Nat.le_of_ble_eq_true rfl) ?_
    intro r12c M12 hN
    replace h := hN
    clear hN
    exact hR _ _ _ _ dX8_papers_15 rfl h
def wB_X8_judge_18 (a1 : Int) (a2 : Int) (k : Int → gSt → Prop)   (M : gSt) : Prop :=
w_X8_refuse 1 M (fun r20c M20 => k r20c M20)
def wC_X8_judge_64 (a1 : Int) (a2 : Int) (k : Int → gSt → Prop) (r64 : Nat → Int → Int → gSt → Prop) (X64_99 : Int → gSt → Prop) (X64_108 : Int → gSt → Prop) (v3 : Nat) (v4 : Int) (v5 : Int) (M : gSt) : Prop :=

  (wrap v4 ≤ wrap v5 →
    X64_108 v4 M) ∧
  (wrap v5 < wrap v4 →
    w_X5_has v3 v5 M (fun r74c M74 => 
    (wrap r74c = 0 →
      X64_99 v5 M74) ∧
    (¬ wrap r74c = 0 →
      w_X5_at v3 v5 M74 (fun r83c M83 => w_X2_numberBehind 41 v5 2 M83 (fun r93c M93 => 
      (wrap r83c = wrap r93c →
        r64 v3 v4 (v5 + 1) M93) ∧
      (¬ wrap r83c = wrap r93c →
        X64_99 v5 M93))))))
def wL_X8_judge_64 (a1 : Int) (a2 : Int) (k : Int → gSt → Prop)  (X64_99 : Int → gSt → Prop) (X64_108 : Int → gSt → Prop) : Nat → Nat → Int → Int → gSt → Prop
  | 0 => fun _ _ _ _ => False
  | n + 1 => fun v3 v4 v5 M => wC_X8_judge_64 a1 a2 k  (wL_X8_judge_64 a1 a2 k  X64_99 X64_108 n) X64_99 X64_108 v3 v4 v5 M
def w_X8_judge (a1 : Int) (a2 : Int) (M : gSt) (k : Int → gSt → Prop) : Prop :=
  w_X8_sheetAt a1 M (fun r2c M2 => 
  (r2c = none →
    wB_X8_judge_18 a1 a2 k   M2) ∧
  (∀ q7 : Nat, r2c = some q7 →
    w_X8_isHistory a2 M2 (fun r12c M12 => 
    (¬ wrap r12c = 0 →
      w_X5_isMissing q7 M12 (fun r25c M25 => 
      (wrap r25c = 0 →
        w_X2_follow 41 1 a2 M25 (fun M46 => w_X0_size 2 M46 (fun r56c M56 => ∃ n, wL_X8_judge_64 a1 a2 k  (fun u5_64 M64 =>
          k u5_64 M64) (fun u4_64 M64 =>
          k u4_64 M64) n q7 r56c 0 M56))) ∧
      (¬ wrap r25c = 0 →
        w_X8_refuse 2 M25 (fun r33c M33 => k r33c M33)))) ∧
    (wrap r12c = 0 →
      wB_X8_judge_18 a1 a2 k   M12))))
set_option maxHeartbeats 4000000 in
set_option maxRecDepth 100000 in
theorem m_X8_judge {l : Launch} {D : va_G} {tys : List (ClassId × FieldType)} {ad : Nat → Nat} {cI cS : ClassId} {a1 : Int} {a2 : Int} {M : gSt} {k : Int → gSt → Prop} (h : w_X8_judge a1 a2 M k) : MOi l yX8_judge cX8_judge 6 .int (rmR 6 147) D clC ((cI, .int) :: (cS, .object "OldBronze$Sheet") :: tys) (wC ad cI cS) tC zC [.ref (ad 0), iv a1, iv a2] M k := by
  refine moi_intro (by decide +kernel) (Nat.le_of_ble_eq_true rfl) wc_597 ?_
  intro p e s m args below meth c A Q C hR
  unfold w_X8_judge at h
  have pB18 : ∀    (M : gSt), wB_X8_judge_18 a1 a2 k   M → gG p l e (rmR 6 147) s m args below meth c Q D clC A (wC ad cI cS) 6 18 [(0, .ref (ad 0))] [] M := by
    intro    M h
    unfold wB_X8_judge_18 at h
    refine g_aload_n C dX8_judge_18 rfl ?_
    refine g_iconst C dX8_judge_19 ?_
    refine g_callVi C (nargs := 1) (o := 0) (st := []) (m_X8_refuse h) pl_0.1 pl_0.2.1 rfl rfl gc_X8_67 (by decide +kernel) ⟨rfl, rfl⟩ dX8_judge_20 ⟨by decide, by decide⟩ rfl rfl (Nat.le_of_ble_eq_true rfl) ?_
    intro r20c M20 hN
    replace h := hN
    clear hN
    exact hR _ _ _ _ dX8_judge_23 rfl h
  have pC64 : ∀ (r64 : Nat → Int → Int → gSt → Prop) (X64_99 : Int → gSt → Prop) (X64_108 : Int → gSt → Prop) (hr64 : ∀ (v3 : Nat) (v4 : Int) (v5 : Int) (M : gSt), r64 v3 v4 v5 M → gG p l e (rmR 6 147) s m args below meth c Q D clC A (wC ad cI cS) 6 64 [(0, .ref (ad 0)), (3, .ref (ad v3)), (4, iv v4), (5, iv v5)] [] M) (hX64_99 : ∀ (v5 : Int) (M : gSt), X64_99 v5 M → gG p l e (rmR 6 147) s m args below meth c Q D clC A (wC ad cI cS) 6 99 [(5, iv v5)] [] M) (hX64_108 : ∀ (v4 : Int) (M : gSt), X64_108 v4 M → gG p l e (rmR 6 147) s m args below meth c Q D clC A (wC ad cI cS) 6 108 [(4, iv v4)] [] M) (v3 : Nat) (v4 : Int) (v5 : Int) (M : gSt), wC_X8_judge_64 a1 a2 k r64 X64_99 X64_108 v3 v4 v5 M → gG p l e (rmR 6 147) s m args below meth c Q D clC A (wC ad cI cS) 6 64 [(0, .ref (ad 0)), (3, .ref (ad v3)), (4, iv v4), (5, iv v5)] [] M := by
    intro r64 X64_99 X64_108 hr64 hX64_99 hX64_108 v3 v4 v5 M h
    unfold wC_X8_judge_64 at h
    refine g_iload C dX8_judge_64 rfl ?_
    refine g_iload C dX8_judge_66 rfl ?_
    refine g_icmp_ge C 108 dX8_judge_68 (by decide) (fun hc => ?_) (fun hc => ?_)
    · replace h := h.1 hc
      refine g_locals (lv' := [(4, iv v4)]) rfl ?_
      exact hX64_108 _  _ h
    · replace h := h.2 hc
      refine g_aload_n C dX8_judge_71 rfl ?_
      refine g_iload C dX8_judge_72 rfl ?_
      refine g_callVi C (nargs := 1) (o := v3) (st := []) (m_X5_has h) (show isSheet v3 from h.1).1 (show isSheet v3 from h.1).2.1 rfl rfl gc_X8_260 (by decide +kernel) ⟨rfl, rfl⟩ dX8_judge_74 ⟨by decide, by decide⟩ rfl rfl (Nat.le_of_ble_eq_true rfl) ?_
      intro r74c M74 hN
      replace h := hN
      clear hN
      refine g_if_eq C 99 dX8_judge_77 (by decide) (fun hc => ?_) (fun hc => ?_)
      · replace h := h.1 hc
        refine g_locals (lv' := [(5, iv v5)]) rfl ?_
        exact hX64_99 _  _ h
      · replace h := h.2 hc
        refine g_aload_n C dX8_judge_80 rfl ?_
        refine g_iload C dX8_judge_81 rfl ?_
        refine g_callVi C (nargs := 1) (o := v3) (st := []) (m_X5_at h) (show isSheet v3 from h.1).1 (show isSheet v3 from h.1).2.1 rfl rfl gc_X8_276 (by decide +kernel) ⟨rfl, rfl⟩ dX8_judge_83 ⟨by decide, by decide⟩ rfl rfl (Nat.le_of_ble_eq_true rfl) ?_
        intro r83c M83 hN
        replace h := hN
        clear hN
        refine g_aload_n C dX8_judge_86 rfl ?_
        refine cf_X8_29 C pl_0 dX8_judge_87 ?_
        refine g_iload C dX8_judge_90 rfl ?_
        refine g_iconst C dX8_judge_92 ?_
        refine g_callVi C (nargs := 2) (o := 41) (st := [iv r83c]) (m_X2_numberBehind h) pl_41.1 pl_41.2.1 rfl rfl gc_X8_194 (by decide +kernel) ⟨rfl, rfl⟩ dX8_judge_93 ⟨by decide, by decide⟩ rfl rfl (Nat.le_of_ble_eq_true rfl) ?_
        intro r93c M93 hN
        replace h := hN
        clear hN
        refine g_icmp_eq C 102 dX8_judge_96 (by decide) (fun hc => ?_) (fun hc => ?_)
        · replace h := h.1 hc
          refine g_iinc C dX8_judge_102 rfl (by decide) rfl ?_
          refine g_locals (lv' := [(0, .ref (ad 0)), (3, .ref (ad v3)), (4, iv v4), (5, iv (v5 + 1))]) rfl ?_
          refine g_goto C 64 dX8_judge_105 (by decide) ?_
          refine g_locals (lv' := [(0, .ref (ad 0)), (3, .ref (ad v3)), (4, iv v4), (5, iv (v5 + 1))]) rfl ?_
          exact hr64 _ _ _  _ h
        · replace h := h.2 hc
          refine g_locals (lv' := [(5, iv v5)]) rfl ?_
          exact hX64_99 _  _ h
  have pL64 : ∀  (X64_99 : Int → gSt → Prop) (X64_108 : Int → gSt → Prop) (hX64_99 : ∀ (v5 : Int) (M : gSt), X64_99 v5 M → gG p l e (rmR 6 147) s m args below meth c Q D clC A (wC ad cI cS) 6 99 [(5, iv v5)] [] M) (hX64_108 : ∀ (v4 : Int) (M : gSt), X64_108 v4 M → gG p l e (rmR 6 147) s m args below meth c Q D clC A (wC ad cI cS) 6 108 [(4, iv v4)] [] M) (n : Nat) (v3 : Nat) (v4 : Int) (v5 : Int) (M : gSt), wL_X8_judge_64 a1 a2 k  X64_99 X64_108 n v3 v4 v5 M → gG p l e (rmR 6 147) s m args below meth c Q D clC A (wC ad cI cS) 6 64 [(0, .ref (ad 0)), (3, .ref (ad v3)), (4, iv v4), (5, iv v5)] [] M := by
    intro  X64_99 X64_108 hX64_99 hX64_108 n
    induction n with
    | zero => intro v3 v4 v5 M h; exact h.elim
    | succ n ih =>
      intro v3 v4 v5 M h
      exact pC64  (wL_X8_judge_64 a1 a2 k  X64_99 X64_108 n) X64_99 X64_108 ih hX64_99 hX64_108 v3 v4 v5 M h
  refine g_locals (lv' := [(0, .ref (ad 0)), (1, iv a1), (2, iv a2)]) rfl ?_
  refine g_aload_n C dX8_judge_0 rfl ?_
  refine g_iload_n C dX8_judge_1 rfl ?_
  refine g_callVr C (nargs := 1) (o := 0) (st := []) (m_X8_sheetAt h) pl_0.1 pl_0.2.1 rfl rfl gc_X8_250 (by decide +kernel) ⟨rfl, rfl⟩ dX8_judge_2 ⟨by decide, by decide⟩ rfl rfl (Nat.le_of_ble_eq_true rfl) ?_
  intro r2c M2 hN
  replace h := hN
  clear hN
  refine g_astoreO C dX8_judge_5 (by decide) rfl ?_
  refine g_locals (lv' := [(0, .ref (ad 0)), (1, iv a1), (2, iv a2), (3, orv ad r2c)]) rfl ?_
  refine g_aloadO C dX8_judge_6 rfl ?_
  refine g_ifnull C 18 dX8_judge_7 (by decide) (fun hc => ?_) (fun q7 hc => ?_)
  · replace h := h.1 hc
    refine g_locals (lv' := [(0, .ref (ad 0)), (1, iv a1), (2, iv a2)]) rfl ?_
    refine g_locals (lv' := [(0, .ref (ad 0))]) rfl ?_
    exact pB18  _ h
  · replace h := h.2 q7 hc
    subst hc
    refine g_locals (lv' := [(0, .ref (ad 0)), (1, iv a1), (2, iv a2), (3, .ref (ad q7))]) rfl ?_
    refine g_aload_n C dX8_judge_10 rfl ?_
    refine g_iload_n C dX8_judge_11 rfl ?_
    refine g_callVi C (nargs := 1) (o := 0) (st := []) (m_X8_isHistory h) pl_0.1 pl_0.2.1 rfl rfl gc_X8_187 (by decide +kernel) ⟨rfl, rfl⟩ dX8_judge_12 ⟨by decide, by decide⟩ rfl rfl (Nat.le_of_ble_eq_true rfl) ?_
    intro r12c M12 hN
    replace h := hN
    clear hN
    refine g_if_ne C 24 dX8_judge_15 (by decide) (fun hc => ?_) (fun hc => ?_)
    · replace h := h.1 hc
      refine g_aload_n C dX8_judge_24 rfl ?_
      refine g_callVi C (nargs := 0) (o := q7) (st := []) (m_X5_isMissing h) (show isSheet q7 from h.1).1 (show isSheet q7 from h.1).2.1 rfl rfl gc_X8_257 (by decide +kernel) ⟨rfl, rfl⟩ dX8_judge_25 ⟨by decide, by decide⟩ rfl rfl (Nat.le_of_ble_eq_true rfl) ?_
      intro r25c M25 hN
      replace h := hN
      clear hN
      refine g_if_eq C 37 dX8_judge_28 (by decide) (fun hc => ?_) (fun hc => ?_)
      · replace h := h.1 hc
        refine g_aload_n C dX8_judge_37 rfl ?_
        refine cf_X8_29 C pl_0 dX8_judge_38 ?_
        refine g_aload_n C dX8_judge_41 rfl ?_
        refine cf_X8_12 C pl_0 dX8_judge_42 ?_
        refine g_iload_n C dX8_judge_45 rfl ?_
        refine g_callVv C (nargs := 2) (o := 41) (st := []) (m_X2_follow h) pl_41.1 pl_41.2.1 rfl rfl gc_X8_190 (by decide +kernel) ⟨rfl, rfl⟩ dX8_judge_46 ⟨by decide, by decide⟩ rfl rfl (Nat.le_of_ble_eq_true rfl) ?_
        intro M46 hN
        replace h := hN
        clear hN
        refine g_aload_n C dX8_judge_49 rfl ?_
        refine cf_X8_12 C pl_0 dX8_judge_50 ?_
        refine cf_X8_71 C pl_1 dX8_judge_53 ?_
        refine g_callVi C (nargs := 0) (o := 2) (st := []) (m_X0_size h) pl_2.1 pl_2.2.1 rfl rfl gc_X8_221 (by decide +kernel) ⟨rfl, rfl⟩ dX8_judge_56 ⟨by decide, by decide⟩ rfl rfl (Nat.le_of_ble_eq_true rfl) ?_
        intro r56c M56 hN
        replace h := hN
        clear hN
        refine g_istore C dX8_judge_59 (by decide) rfl ?_
        refine g_locals (lv' := [(0, .ref (ad 0)), (1, iv a1), (2, iv a2), (3, .ref (ad q7)), (4, iv r56c)]) rfl ?_
        refine g_iconst C dX8_judge_61 ?_
        refine g_istore C dX8_judge_62 (by decide) rfl ?_
        refine g_locals (lv' := [(0, .ref (ad 0)), (1, iv a1), (2, iv a2), (3, .ref (ad q7)), (4, iv r56c), (5, iv 0)]) rfl ?_
        refine g_locals (lv' := [(0, .ref (ad 0)), (3, .ref (ad q7)), (4, iv r56c), (5, iv 0)]) rfl ?_
        obtain ⟨n, h⟩ := h
        refine pL64 _ _ ?_ ?_ n _ _ _ _ h
        · intro u5_64 M64 hN
          replace h := hN
          clear hN
          refine g_iload C dX8_judge_99 rfl ?_
          exact hR _ _ _ _ dX8_judge_101 rfl h
        · intro u4_64 M64 hN
          replace h := hN
          clear hN
          refine g_iload C dX8_judge_108 rfl ?_
          exact hR _ _ _ _ dX8_judge_110 rfl h
      · replace h := h.2 hc
        refine g_aload_n C dX8_judge_31 rfl ?_
        refine g_iconst C dX8_judge_32 ?_
        refine g_callVi C (nargs := 1) (o := 0) (st := []) (m_X8_refuse h) pl_0.1 pl_0.2.1 rfl rfl gc_X8_67 (by decide +kernel) ⟨rfl, rfl⟩ dX8_judge_33 ⟨by decide, by decide⟩ rfl rfl (Nat.le_of_ble_eq_true rfl) ?_
        intro r33c M33 hN
        replace h := hN
        clear hN
        exact hR _ _ _ _ dX8_judge_36 rfl h
    · replace h := h.2 hc
      refine g_locals (lv' := [(0, .ref (ad 0))]) rfl ?_
      exact pB18  _ h
def w_X8_image  (M : gSt) (k : Int → gSt → Prop) : Prop :=
  w_X1_copyFrom 20 1 M (fun M8 => ∀ M18 : gSt, M18 = wr M8 0 8 ((M8 0 8) + 1) → (k (M18 0 8) M18))
set_option maxHeartbeats 4000000 in
set_option maxRecDepth 100000 in
theorem m_X8_image {l : Launch} {D : va_G} {tys : List (ClassId × FieldType)} {ad : Nat → Nat} {cI cS : ClassId}  {M : gSt} {k : Int → gSt → Prop} (h : w_X8_image  M k) : MOi l yX8_image cX8_image 1 .int (rmR 3 82) D clC ((cI, .int) :: (cS, .object "OldBronze$Sheet") :: tys) (wC ad cI cS) tC zC [.ref (ad 0)] M k := by
  refine moi_intro (by decide +kernel) (Nat.le_of_ble_eq_true rfl) wc_602 ?_
  intro p e s m args below meth c A Q C hR
  unfold w_X8_image at h
  refine g_locals (lv' := [(0, .ref (ad 0))]) rfl ?_
  refine g_aload_n C dX8_image_0 rfl ?_
  refine cf_X8_16 C pl_0 dX8_image_1 ?_
  refine g_aload_n C dX8_image_4 rfl ?_
  refine cf_X8_12 C pl_0 dX8_image_5 ?_
  refine g_callVv C (nargs := 1) (o := 20) (st := []) (m_X1_copyFrom h) pl_20.1 pl_20.2 rfl rfl gc_X8_278 (by decide +kernel) ⟨rfl, rfl⟩ dX8_image_8 ⟨by decide, by decide⟩ rfl rfl (Nat.le_of_ble_eq_true rfl) ?_
  intro M8 hN
  replace h := hN
  clear hN
  refine g_aload_n C dX8_image_11 rfl ?_
  refine g_dup C dX8_image_12 rfl ?_
  refine cf_X8_280 C pl_0 dX8_image_13 ?_
  refine g_iconst C dX8_image_16 ?_
  refine g_iadd C dX8_image_17 ?_
  refine cp_X8_280 C pl_0 dX8_image_18 ?_
  refine g_memname (fun M18 hM18 => ?_)
  replace h := h M18 hM18
  refine g_aload_n C dX8_image_21 rfl ?_
  refine cf_X8_280 C pl_0 dX8_image_22 ?_
  exact hR _ _ _ _ dX8_image_25 rfl h
def w_X8_restore  (M : gSt) (k : Int → gSt → Prop) : Prop :=
  
  (¬ wrap (M 0 8) = 0 →
    w_X1_copyFrom 1 20 M (fun M21 => w_X0_yearsSoFar 2 M21 (fun r31c M31 => k r31c M31))) ∧
  (wrap (M 0 8) = 0 →
    w_X8_refuse 2 M (fun r9c M9 => k r9c M9))
set_option maxHeartbeats 4000000 in
set_option maxRecDepth 100000 in
theorem m_X8_restore {l : Launch} {D : va_G} {tys : List (ClassId × FieldType)} {ad : Nat → Nat} {cI cS : ClassId}  {M : gSt} {k : Int → gSt → Prop} (h : w_X8_restore  M k) : MOi l yX8_restore cX8_restore 1 .int (rmR 3 82) D clC ((cI, .int) :: (cS, .object "OldBronze$Sheet") :: tys) (wC ad cI cS) tC zC [.ref (ad 0)] M k := by
  refine moi_intro (by decide +kernel) (Nat.le_of_ble_eq_true rfl) wc_603 ?_
  intro p e s m args below meth c A Q C hR
  unfold w_X8_restore at h
  refine g_locals (lv' := [(0, .ref (ad 0))]) rfl ?_
  refine g_aload_n C dX8_restore_0 rfl ?_
  refine cf_X8_280 C pl_0 dX8_restore_1 ?_
  refine g_if_ne C 13 dX8_restore_4 (by decide) (fun hc => ?_) (fun hc => ?_)
  · replace h := h.1 hc
    refine g_aload_n C dX8_restore_13 rfl ?_
    refine cf_X8_12 C pl_0 dX8_restore_14 ?_
    refine g_aload_n C dX8_restore_17 rfl ?_
    refine cf_X8_16 C pl_0 dX8_restore_18 ?_
    refine g_callVv C (nargs := 1) (o := 1) (st := []) (m_X1_copyFrom h) pl_1.1 pl_1.2 rfl rfl gc_X8_278 (by decide +kernel) ⟨rfl, rfl⟩ dX8_restore_21 ⟨by decide, by decide⟩ rfl rfl (Nat.le_of_ble_eq_true rfl) ?_
    intro M21 hN
    replace h := hN
    clear hN
    refine g_aload_n C dX8_restore_24 rfl ?_
    refine cf_X8_12 C pl_0 dX8_restore_25 ?_
    refine cf_X8_71 C pl_1 dX8_restore_28 ?_
    refine g_callVi C (nargs := 0) (o := 2) (st := []) (m_X0_yearsSoFar h) pl_2.1 pl_2.2.1 rfl rfl gc_X8_116 (by decide +kernel) ⟨rfl, rfl⟩ dX8_restore_31 ⟨by decide, by decide⟩ rfl rfl (Nat.le_of_ble_eq_true rfl) ?_
    intro r31c M31 hN
    replace h := hN
    clear hN
    exact hR _ _ _ _ dX8_restore_34 rfl h
  · replace h := h.2 hc
    refine g_aload_n C dX8_restore_7 rfl ?_
    refine g_iconst C dX8_restore_8 ?_
    refine g_callVi C (nargs := 1) (o := 0) (st := []) (m_X8_refuse h) pl_0.1 pl_0.2.1 rfl rfl gc_X8_67 (by decide +kernel) ⟨rfl, rfl⟩ dX8_restore_9 ⟨by decide, by decide⟩ rfl rfl (Nat.le_of_ble_eq_true rfl) ?_
    intro r9c M9 hN
    replace h := hN
    clear hN
    exact hR _ _ _ _ dX8_restore_12 rfl h
def w_X8_tell (a1 : Int) (M : gSt) (k : Int → gSt → Prop) : Prop :=
  w_X4_room 12 M (fun r7c M7 => 
  (1 ≤ wrap r7c →
    w_X4_append 12 a1 0 0 M7 (fun r30c M30 => w_X4_size 12 M30 (fun r41c M41 => k r41c M41))) ∧
  (wrap r7c < 1 →
    w_X8_refuse 4 M7 (fun r16c M16 => k r16c M16)))
set_option maxHeartbeats 4000000 in
set_option maxRecDepth 100000 in
theorem m_X8_tell {l : Launch} {D : va_G} {tys : List (ClassId × FieldType)} {ad : Nat → Nat} {cI cS : ClassId} {a1 : Int} {M : gSt} {k : Int → gSt → Prop} (h : w_X8_tell a1 M k) : MOi l yX8_tell cX8_tell 2 .int (rmR 2 46) D clC ((cI, .int) :: (cS, .object "OldBronze$Sheet") :: tys) (wC ad cI cS) tC zC [.ref (ad 0), iv a1] M k := by
  refine moi_intro (by decide +kernel) (Nat.le_of_ble_eq_true rfl) wc_605 ?_
  intro p e s m args below meth c A Q C hR
  unfold w_X8_tell at h
  refine g_locals (lv' := [(0, .ref (ad 0)), (1, iv a1)]) rfl ?_
  refine g_aload_n C dX8_tell_0 rfl ?_
  refine cf_X8_12 C pl_0 dX8_tell_1 ?_
  refine cf_X8_284 C pl_1 dX8_tell_4 ?_
  refine g_callVi C (nargs := 0) (o := 12) (st := []) (m_X4_room h) pl_12.1 pl_12.2.1 rfl rfl gc_X8_136 (by decide +kernel) ⟨rfl, rfl⟩ dX8_tell_7 ⟨by decide, by decide⟩ rfl rfl (Nat.le_of_ble_eq_true rfl) ?_
  intro r7c M7 hN
  replace h := hN
  clear hN
  refine g_iconst C dX8_tell_10 ?_
  refine g_icmp_ge C 20 dX8_tell_11 (by decide) (fun hc => ?_) (fun hc => ?_)
  · replace h := h.1 hc
    refine g_aload_n C dX8_tell_20 rfl ?_
    refine cf_X8_12 C pl_0 dX8_tell_21 ?_
    refine cf_X8_284 C pl_1 dX8_tell_24 ?_
    refine g_iload_n C dX8_tell_27 rfl ?_
    refine g_iconst C dX8_tell_28 ?_
    refine g_iconst C dX8_tell_29 ?_
    refine g_callVi C (nargs := 3) (o := 12) (st := []) (m_X4_append h) pl_12.1 pl_12.2.1 rfl rfl gc_X8_139 (by decide +kernel) ⟨rfl, rfl⟩ dX8_tell_30 ⟨by decide, by decide⟩ rfl rfl (Nat.le_of_ble_eq_true rfl) ?_
    intro r30c M30 hN
    replace h := hN
    clear hN
    refine g_pop C dX8_tell_33 rfl ?_
    refine g_aload_n C dX8_tell_34 rfl ?_
    refine cf_X8_12 C pl_0 dX8_tell_35 ?_
    refine cf_X8_284 C pl_1 dX8_tell_38 ?_
    refine g_callVi C (nargs := 0) (o := 12) (st := []) (m_X4_size h) pl_12.1 pl_12.2.1 rfl rfl gc_X8_143 (by decide +kernel) ⟨rfl, rfl⟩ dX8_tell_41 ⟨by decide, by decide⟩ rfl rfl (Nat.le_of_ble_eq_true rfl) ?_
    intro r41c M41 hN
    replace h := hN
    clear hN
    exact hR _ _ _ _ dX8_tell_44 rfl h
  · replace h := h.2 hc
    refine g_aload_n C dX8_tell_14 rfl ?_
    refine g_iconst C dX8_tell_15 ?_
    refine g_callVi C (nargs := 1) (o := 0) (st := []) (m_X8_refuse h) pl_0.1 pl_0.2.1 rfl rfl gc_X8_67 (by decide +kernel) ⟨rfl, rfl⟩ dX8_tell_16 ⟨by decide, by decide⟩ rfl rfl (Nat.le_of_ble_eq_true rfl) ?_
    intro r16c M16 hN
    replace h := hN
    clear hN
    exact hR _ _ _ _ dX8_tell_19 rfl h
def w_X8_check  (M : gSt) (k : Int → gSt → Prop) : Prop :=
  w_X2_find 41 1 M (fun M8 => w_X2_firstUnlike 41 12 M8 (fun r22c M22 => w_X4_clear 12 M22 (fun M33 => k (r22c + 1) M33)))
set_option maxHeartbeats 4000000 in
set_option maxRecDepth 100000 in
theorem m_X8_check {l : Launch} {D : va_G} {tys : List (ClassId × FieldType)} {ad : Nat → Nat} {cI cS : ClassId}  {M : gSt} {k : Int → gSt → Prop} (h : w_X8_check  M k) : MOi l yX8_check cX8_check 2 .int (rmR 7 169) D clC ((cI, .int) :: (cS, .object "OldBronze$Sheet") :: tys) (wC ad cI cS) tC zC [.ref (ad 0)] M k := by
  refine moi_intro (by decide +kernel) (Nat.le_of_ble_eq_true rfl) wc_609 ?_
  intro p e s m args below meth c A Q C hR
  unfold w_X8_check at h
  refine g_locals (lv' := [(0, .ref (ad 0))]) rfl ?_
  refine g_aload_n C dX8_check_0 rfl ?_
  refine cf_X8_29 C pl_0 dX8_check_1 ?_
  refine g_aload_n C dX8_check_4 rfl ?_
  refine cf_X8_12 C pl_0 dX8_check_5 ?_
  refine g_callVv C (nargs := 1) (o := 41) (st := []) (m_X2_find h) pl_41.1 pl_41.2.1 rfl rfl gc_X8_197 (by decide +kernel) ⟨rfl, rfl⟩ dX8_check_8 ⟨by decide, by decide⟩ rfl rfl (Nat.le_of_ble_eq_true rfl) ?_
  intro M8 hN
  replace h := hN
  clear hN
  refine g_aload_n C dX8_check_11 rfl ?_
  refine cf_X8_29 C pl_0 dX8_check_12 ?_
  refine g_aload_n C dX8_check_15 rfl ?_
  refine cf_X8_12 C pl_0 dX8_check_16 ?_
  refine cf_X8_284 C pl_1 dX8_check_19 ?_
  refine g_callVi C (nargs := 1) (o := 41) (st := []) (m_X2_firstUnlike h) pl_41.1 pl_41.2.1 rfl rfl gc_X8_287 (by decide +kernel) ⟨rfl, rfl⟩ dX8_check_22 ⟨by decide, by decide⟩ rfl rfl (Nat.le_of_ble_eq_true rfl) ?_
  intro r22c M22 hN
  replace h := hN
  clear hN
  refine g_istore_n C dX8_check_25 (by decide) rfl ?_
  refine g_locals (lv' := [(0, .ref (ad 0)), (1, iv r22c)]) rfl ?_
  refine g_aload_n C dX8_check_26 rfl ?_
  refine cf_X8_12 C pl_0 dX8_check_27 ?_
  refine cf_X8_284 C pl_1 dX8_check_30 ?_
  refine g_callVv C (nargs := 0) (o := 12) (st := []) (m_X4_clear h) pl_12.1 pl_12.2.1 rfl rfl gc_X8_150 (by decide +kernel) ⟨rfl, rfl⟩ dX8_check_33 ⟨by decide, by decide⟩ rfl rfl (Nat.le_of_ble_eq_true rfl) ?_
  intro M33 hN
  replace h := hN
  clear hN
  refine g_iload_n C dX8_check_36 rfl ?_
  refine g_iconst C dX8_check_37 ?_
  refine g_iadd C dX8_check_38 ?_
  exact hR _ _ _ _ dX8_check_39 rfl h
def w_X8_count (a1 : Int) (M : gSt) (k : Int → gSt → Prop) : Prop :=
  
  (wrap a1 = 0 →
    w_X0_size 2 M (fun r67c M67 => k r67c M67)) ∧
  (wrap a1 = 1 →
    w_X0_firstsThatCount 2 M (fun r78c M78 => k r78c M78)) ∧
  (wrap a1 = 2 →
    w_X4_size 6 M (fun r89c M89 => k r89c M89)) ∧
  (wrap a1 = 3 →
    w_X4_size 8 M (fun r100c M100 => k r100c M100)) ∧
  (wrap a1 = 4 →
    w_X4_size 10 M (fun r111c M111 => k r111c M111)) ∧
  (wrap a1 = 5 →
    w_X0_allGrams 2 M (fun r122c M122 => k r122c M122)) ∧
  (wrap a1 = 6 →
    w_X0_yearsSoFar 2 M (fun r133c M133 => k r133c M133)) ∧
  (wrap a1 = 7 →
    w_X4_size 4 M (fun r144c M144 => k r144c M144)) ∧
  (wrap a1 = 8 →
    w_X4_size 12 M (fun r155c M155 => k r155c M155)) ∧
  (wrap a1 = 9 →
    w_X6_trace 52 M (fun r163c M163 => ∃ q163 : Nat, r163c = some q163 ∧ (w_X4_size q163 M163 (fun r166c M166 => k r166c M166)))) ∧
  (wrap a1 = 10 →
    w_X0_lastDraw 2 M (fun r177c M177 => k r177c M177)) ∧
  (¬ wrap a1 = 0 ∧ ¬ wrap a1 = 1 ∧ ¬ wrap a1 = 2 ∧ ¬ wrap a1 = 3 ∧ ¬ wrap a1 = 4 ∧ ¬ wrap a1 = 5 ∧ ¬ wrap a1 = 6 ∧ ¬ wrap a1 = 7 ∧ ¬ wrap a1 = 8 ∧ ¬ wrap a1 = 9 ∧ ¬ wrap a1 = 10 →
    w_X8_refuse 1 M (fun r183c M183 => k r183c M183))
set_option maxHeartbeats 4000000 in
set_option maxRecDepth 100000 in
theorem m_X8_count {l : Launch} {D : va_G} {tys : List (ClassId × FieldType)} {ad : Nat → Nat} {cI cS : ClassId} {a1 : Int} {M : gSt} {k : Int → gSt → Prop} (h : w_X8_count a1 M k) : MOi l yX8_count cX8_count 2 .int (rmR 3 67) D clC ((cI, .int) :: (cS, .object "OldBronze$Sheet") :: tys) (wC ad cI cS) tC zC [.ref (ad 0), iv a1] M k := by
  refine moi_intro (by decide +kernel) (Nat.le_of_ble_eq_true rfl) wc_616 ?_
  intro p e s m args below meth c A Q C hR
  unfold w_X8_count at h
  refine g_locals (lv' := [(0, .ref (ad 0)), (1, iv a1)]) rfl ?_
  refine g_iload_n C dX8_count_0 rfl ?_
  by_cases hc0 : wrap a1 = 0
  · refine g_tableIn C 60 dX8_count_1 (by omega) (by omega) (by rw [hc0] <;> rfl) (by decide) ?_
    replace h := h.1 hc0
    refine g_aload_n C dX8_count_60 rfl ?_
    refine cf_X8_12 C pl_0 dX8_count_61 ?_
    refine cf_X8_71 C pl_1 dX8_count_64 ?_
    refine g_callVi C (nargs := 0) (o := 2) (st := []) (m_X0_size h) pl_2.1 pl_2.2.1 rfl rfl gc_X8_221 (by decide +kernel) ⟨rfl, rfl⟩ dX8_count_67 ⟨by decide, by decide⟩ rfl rfl (Nat.le_of_ble_eq_true rfl) ?_
    intro r67c M67 hN
    replace h := hN
    clear hN
    exact hR _ _ _ _ dX8_count_70 rfl h
  · by_cases hc1 : wrap a1 = 1
    · refine g_tableIn C 71 dX8_count_1 (by omega) (by omega) (by rw [hc1] <;> rfl) (by decide) ?_
      replace h := h.2.1 hc1
      refine g_aload_n C dX8_count_71 rfl ?_
      refine cf_X8_12 C pl_0 dX8_count_72 ?_
      refine cf_X8_71 C pl_1 dX8_count_75 ?_
      refine g_callVi C (nargs := 0) (o := 2) (st := []) (m_X0_firstsThatCount h) pl_2.1 pl_2.2.1 rfl rfl gc_X8_291 (by decide +kernel) ⟨rfl, rfl⟩ dX8_count_78 ⟨by decide, by decide⟩ rfl rfl (Nat.le_of_ble_eq_true rfl) ?_
      intro r78c M78 hN
      replace h := hN
      clear hN
      exact hR _ _ _ _ dX8_count_81 rfl h
    · by_cases hc2 : wrap a1 = 2
      · refine g_tableIn C 82 dX8_count_1 (by omega) (by omega) (by rw [hc2] <;> rfl) (by decide) ?_
        replace h := h.2.2.1 hc2
        refine g_aload_n C dX8_count_82 rfl ?_
        refine cf_X8_12 C pl_0 dX8_count_83 ?_
        refine cf_X8_162 C pl_1 dX8_count_86 ?_
        refine g_callVi C (nargs := 0) (o := 6) (st := []) (m_X4_size h) pl_6.1 pl_6.2.1 rfl rfl gc_X8_143 (by decide +kernel) ⟨rfl, rfl⟩ dX8_count_89 ⟨by decide, by decide⟩ rfl rfl (Nat.le_of_ble_eq_true rfl) ?_
        intro r89c M89 hN
        replace h := hN
        clear hN
        exact hR _ _ _ _ dX8_count_92 rfl h
      · by_cases hc3 : wrap a1 = 3
        · refine g_tableIn C 93 dX8_count_1 (by omega) (by omega) (by rw [hc3] <;> rfl) (by decide) ?_
          replace h := h.2.2.2.1 hc3
          refine g_aload_n C dX8_count_93 rfl ?_
          refine cf_X8_12 C pl_0 dX8_count_94 ?_
          refine cf_X8_181 C pl_1 dX8_count_97 ?_
          refine g_callVi C (nargs := 0) (o := 8) (st := []) (m_X4_size h) pl_8.1 pl_8.2.1 rfl rfl gc_X8_143 (by decide +kernel) ⟨rfl, rfl⟩ dX8_count_100 ⟨by decide, by decide⟩ rfl rfl (Nat.le_of_ble_eq_true rfl) ?_
          intro r100c M100 hN
          replace h := hN
          clear hN
          exact hR _ _ _ _ dX8_count_103 rfl h
        · by_cases hc4 : wrap a1 = 4
          · refine g_tableIn C 104 dX8_count_1 (by omega) (by omega) (by rw [hc4] <;> rfl) (by decide) ?_
            replace h := h.2.2.2.2.1 hc4
            refine g_aload_n C dX8_count_104 rfl ?_
            refine cf_X8_12 C pl_0 dX8_count_105 ?_
            refine cf_X8_184 C pl_1 dX8_count_108 ?_
            refine g_callVi C (nargs := 0) (o := 10) (st := []) (m_X4_size h) pl_10.1 pl_10.2.1 rfl rfl gc_X8_143 (by decide +kernel) ⟨rfl, rfl⟩ dX8_count_111 ⟨by decide, by decide⟩ rfl rfl (Nat.le_of_ble_eq_true rfl) ?_
            intro r111c M111 hN
            replace h := hN
            clear hN
            exact hR _ _ _ _ dX8_count_114 rfl h
          · by_cases hc5 : wrap a1 = 5
            · refine g_tableIn C 115 dX8_count_1 (by omega) (by omega) (by rw [hc5] <;> rfl) (by decide) ?_
              replace h := h.2.2.2.2.2.1 hc5
              refine g_aload_n C dX8_count_115 rfl ?_
              refine cf_X8_12 C pl_0 dX8_count_116 ?_
              refine cf_X8_71 C pl_1 dX8_count_119 ?_
              refine g_callVi C (nargs := 0) (o := 2) (st := []) (m_X0_allGrams h) pl_2.1 pl_2.2.1 rfl rfl gc_X8_122 (by decide +kernel) ⟨rfl, rfl⟩ dX8_count_122 ⟨by decide, by decide⟩ rfl rfl (Nat.le_of_ble_eq_true rfl) ?_
              intro r122c M122 hN
              replace h := hN
              clear hN
              exact hR _ _ _ _ dX8_count_125 rfl h
            · by_cases hc6 : wrap a1 = 6
              · refine g_tableIn C 126 dX8_count_1 (by omega) (by omega) (by rw [hc6] <;> rfl) (by decide) ?_
                replace h := h.2.2.2.2.2.2.1 hc6
                refine g_aload_n C dX8_count_126 rfl ?_
                refine cf_X8_12 C pl_0 dX8_count_127 ?_
                refine cf_X8_71 C pl_1 dX8_count_130 ?_
                refine g_callVi C (nargs := 0) (o := 2) (st := []) (m_X0_yearsSoFar h) pl_2.1 pl_2.2.1 rfl rfl gc_X8_116 (by decide +kernel) ⟨rfl, rfl⟩ dX8_count_133 ⟨by decide, by decide⟩ rfl rfl (Nat.le_of_ble_eq_true rfl) ?_
                intro r133c M133 hN
                replace h := hN
                clear hN
                exact hR _ _ _ _ dX8_count_136 rfl h
              · by_cases hc7 : wrap a1 = 7
                · refine g_tableIn C 137 dX8_count_1 (by omega) (by omega) (by rw [hc7] <;> rfl) (by decide) ?_
                  replace h := h.2.2.2.2.2.2.2.1 hc7
                  refine g_aload_n C dX8_count_137 rfl ?_
                  refine cf_X8_12 C pl_0 dX8_count_138 ?_
                  refine cf_X8_132 C pl_1 dX8_count_141 ?_
                  refine g_callVi C (nargs := 0) (o := 4) (st := []) (m_X4_size h) pl_4.1 pl_4.2.1 rfl rfl gc_X8_143 (by decide +kernel) ⟨rfl, rfl⟩ dX8_count_144 ⟨by decide, by decide⟩ rfl rfl (Nat.le_of_ble_eq_true rfl) ?_
                  intro r144c M144 hN
                  replace h := hN
                  clear hN
                  exact hR _ _ _ _ dX8_count_147 rfl h
                · by_cases hc8 : wrap a1 = 8
                  · refine g_tableIn C 148 dX8_count_1 (by omega) (by omega) (by rw [hc8] <;> rfl) (by decide) ?_
                    replace h := h.2.2.2.2.2.2.2.2.1 hc8
                    refine g_aload_n C dX8_count_148 rfl ?_
                    refine cf_X8_12 C pl_0 dX8_count_149 ?_
                    refine cf_X8_284 C pl_1 dX8_count_152 ?_
                    refine g_callVi C (nargs := 0) (o := 12) (st := []) (m_X4_size h) pl_12.1 pl_12.2.1 rfl rfl gc_X8_143 (by decide +kernel) ⟨rfl, rfl⟩ dX8_count_155 ⟨by decide, by decide⟩ rfl rfl (Nat.le_of_ble_eq_true rfl) ?_
                    intro r155c M155 hN
                    replace h := hN
                    clear hN
                    exact hR _ _ _ _ dX8_count_158 rfl h
                  · by_cases hc9 : wrap a1 = 9
                    · refine g_tableIn C 159 dX8_count_1 (by omega) (by omega) (by rw [hc9] <;> rfl) (by decide) ?_
                      replace h := h.2.2.2.2.2.2.2.2.2.1 hc9
                      refine g_aload_n C dX8_count_159 rfl ?_
                      refine cf_X8_43 C pl_0 dX8_count_160 ?_
                      refine g_callVr C (nargs := 0) (o := 52) (st := []) (m_X6_trace h) pl_52.1 pl_52.2 rfl rfl gc_X8_246 (by decide +kernel) ⟨rfl, rfl⟩ dX8_count_163 ⟨by decide, by decide⟩ rfl rfl (Nat.le_of_ble_eq_true rfl) ?_
                      intro r163c M163 hN
                      replace h := hN
                      clear hN
                      obtain ⟨q163, hq163, h⟩ := h
                      subst hq163
                      refine g_callVi C (nargs := 0) (o := q163) (st := []) (m_X4_size h) (show isRows q163 from h.1).1 (show isRows q163 from h.1).2.1 rfl rfl gc_X8_143 (by decide +kernel) ⟨rfl, rfl⟩ dX8_count_166 ⟨by decide, by decide⟩ rfl rfl (Nat.le_of_ble_eq_true rfl) ?_
                      intro r166c M166 hN
                      replace h := hN
                      clear hN
                      exact hR _ _ _ _ dX8_count_169 rfl h
                    · by_cases hc10 : wrap a1 = 10
                      · refine g_tableIn C 170 dX8_count_1 (by omega) (by omega) (by rw [hc10] <;> rfl) (by decide) ?_
                        replace h := h.2.2.2.2.2.2.2.2.2.2.1 hc10
                        refine g_aload_n C dX8_count_170 rfl ?_
                        refine cf_X8_12 C pl_0 dX8_count_171 ?_
                        refine cf_X8_71 C pl_1 dX8_count_174 ?_
                        refine g_callVi C (nargs := 0) (o := 2) (st := []) (m_X0_lastDraw h) pl_2.1 pl_2.2.1 rfl rfl gc_X8_294 (by decide +kernel) ⟨rfl, rfl⟩ dX8_count_177 ⟨by decide, by decide⟩ rfl rfl (Nat.le_of_ble_eq_true rfl) ?_
                        intro r177c M177 hN
                        replace h := hN
                        clear hN
                        exact hR _ _ _ _ dX8_count_180 rfl h
                      · refine g_tableOut C 181 dX8_count_1 (by omega) (by decide) ?_
                        replace h := h.2.2.2.2.2.2.2.2.2.2.2 ⟨hc0, hc1, hc2, hc3, hc4, hc5, hc6, hc7, hc8, hc9, hc10⟩
                        refine g_aload_n C dX8_count_181 rfl ?_
                        refine g_iconst C dX8_count_182 ?_
                        refine g_callVi C (nargs := 1) (o := 0) (st := []) (m_X8_refuse h) pl_0.1 pl_0.2.1 rfl rfl gc_X8_67 (by decide +kernel) ⟨rfl, rfl⟩ dX8_count_183 ⟨by decide, by decide⟩ rfl rfl (Nat.le_of_ble_eq_true rfl) ?_
                        intro r183c M183 hN
                        replace h := hN
                        clear hN
                        exact hR _ _ _ _ dX8_count_186 rfl h
