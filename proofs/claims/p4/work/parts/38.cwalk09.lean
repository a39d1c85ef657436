def w_X8_seed (a1 : Int) (M : gSt) (k : Int → gSt → Prop) : Prop :=
  w_X0_reseed 2 a1 M (fun r8c M8 => k r8c M8)
set_option maxHeartbeats 4000000 in
set_option maxRecDepth 100000 in
theorem m_X8_seed {l : Launch} {D : va_G} {tys : List (ClassId × FieldType)} {ad : Nat → Nat} {cI cS : ClassId} {a1 : Int} {M : gSt} {k : Int → gSt → Prop} (h : w_X8_seed a1 M k) : MOi l yX8_seed cX8_seed 2 .int (rmR 1 22) D clC ((cI, .int) :: (cS, .object "OldBronze$Sheet") :: tys) (wC ad cI cS) tC zC [.ref (ad 0), iv a1] M k := by
  refine moi_intro (by decide +kernel) (Nat.le_of_ble_eq_true rfl) wc_465 ?_
  intro p e s m args below meth c A Q C hR
  unfold w_X8_seed at h
  refine g_locals (lv' := [(0, .ref (ad 0)), (1, iv a1)]) rfl ?_
  refine g_aload_n C dX8_seed_0 rfl ?_
  refine cf_X8_12 C pl_0 dX8_seed_1 ?_
  refine cf_X8_71 C pl_1 dX8_seed_4 ?_
  refine g_iload_n C dX8_seed_7 rfl ?_
  refine g_callVi C (nargs := 1) (o := 2) (st := []) (m_X0_reseed h) pl_2.1 pl_2.2.1 rfl rfl gc_X8_129 (by decide +kernel) ⟨rfl, rfl⟩ dX8_seed_8 ⟨by decide, by decide⟩ rfl rfl (Nat.le_of_ble_eq_true rfl) ?_
  intro r8c M8 hN
  replace h := hN
  clear hN
  exact hR _ _ _ _ dX8_seed_11 rfl h
def wC_X8_feed_39 (a1 : Int) (a2 : Int) (k : Int → gSt → Prop) (r39 : Int → gSt → Prop) (X39_76 : gSt → Prop) (v4 : Int) (M : gSt) : Prop :=

  (wrap a2 ≤ wrap v4 →
    X39_76  M) ∧
  (wrap v4 < wrap a2 →
    w_X4_append 4 (xand (yshr a1 (8 * v4)) 255) 0 0 M (fun r66c M66 => r39 (v4 + 1) M66))
def wL_X8_feed_39 (a1 : Int) (a2 : Int) (k : Int → gSt → Prop)  (X39_76 : gSt → Prop) : Nat → Int → gSt → Prop
  | 0 => fun _ _ => False
  | n + 1 => fun v4 M => wC_X8_feed_39 a1 a2 k  (wL_X8_feed_39 a1 a2 k  X39_76 n) X39_76 v4 M
def w_X8_feed (a1 : Int) (a2 : Int) (M : gSt) (k : Int → gSt → Prop) : Prop :=
  w_X8_within a2 1 8 M (fun r4c M4 => 
  (¬ wrap r4c = 0 →
    w_X4_room 4 M4 (fun r23c M23 => 
    (wrap a2 ≤ wrap r23c →
      ∃ n, wL_X8_feed_39 a1 a2 k  (fun  M39 =>
        w_X4_size 4 M39 (fun r83c M83 => k r83c M83)) n 0 M23) ∧
    (wrap r23c < wrap a2 →
      w_X8_refuse 4 M23 (fun r32c M32 => k r32c M32)))) ∧
  (wrap r4c = 0 →
    w_X8_refuse 1 M4 (fun r12c M12 => k r12c M12)))
set_option maxHeartbeats 4000000 in
set_option maxRecDepth 100000 in
theorem m_X8_feed {l : Launch} {D : va_G} {tys : List (ClassId × FieldType)} {ad : Nat → Nat} {cI cS : ClassId} {a1 : Int} {a2 : Int} {M : gSt} {k : Int → gSt → Prop} (h : w_X8_feed a1 a2 M k) : MOi l yX8_feed cX8_feed 5 .int (rmR 2 46) D clC ((cI, .int) :: (cS, .object "OldBronze$Sheet") :: tys) (wC ad cI cS) tC zC [.ref (ad 0), jv a1, iv a2] M k := by
  refine moi_intro (by decide +kernel) (Nat.le_of_ble_eq_true rfl) wc_473 ?_
  intro p e s m args below meth c A Q C hR
  unfold w_X8_feed at h
  have pC39 : ∀ (r39 : Int → gSt → Prop) (X39_76 : gSt → Prop) (hr39 : ∀ (v4 : Int) (M : gSt), r39 v4 M → gG p l e (rmR 2 46) s m args below meth c Q D clC A (wC ad cI cS) 5 39 [(0, .ref (ad 0)), (1, jv a1), (3, iv a2), (4, iv v4)] [] M) (hX39_76 : ∀  (M : gSt), X39_76  M → gG p l e (rmR 2 46) s m args below meth c Q D clC A (wC ad cI cS) 5 76 [(0, .ref (ad 0))] [] M) (v4 : Int) (M : gSt), wC_X8_feed_39 a1 a2 k r39 X39_76 v4 M → gG p l e (rmR 2 46) s m args below meth c Q D clC A (wC ad cI cS) 5 39 [(0, .ref (ad 0)), (1, jv a1), (3, iv a2), (4, iv v4)] [] M := by
    intro r39 X39_76 hr39 hX39_76 v4 M h
    unfold wC_X8_feed_39 at h
    refine g_iload C dX8_feed_39 rfl ?_
    refine g_iload_n C dX8_feed_41 rfl ?_
    refine g_icmp_ge C 76 dX8_feed_42 (by decide) (fun hc => ?_) (fun hc => ?_)
    · replace h := h.1 hc
      refine g_locals (lv' := [(0, .ref (ad 0))]) rfl ?_
      exact hX39_76  _ h
    · replace h := h.2 hc
      refine g_aload_n C dX8_feed_45 rfl ?_
      refine cf_X8_12 C pl_0 dX8_feed_46 ?_
      refine cf_X8_132 C pl_1 dX8_feed_49 ?_
      refine g_lload_n C dX8_feed_52 rfl ?_
      refine g_bipush C dX8_feed_53 rfl ?_
      refine g_iload C dX8_feed_55 rfl ?_
      refine g_imul C dX8_feed_57 ?_
      refine g_lshr C dX8_feed_58 ?_
      refine g_l2i C dX8_feed_59 ?_
      refine g_sipush C dX8_feed_60 rfl ?_
      refine g_iand C dX8_feed_63 ?_
      refine g_iconst C dX8_feed_64 ?_
      refine g_iconst C dX8_feed_65 ?_
      refine g_callVi C (nargs := 3) (o := 4) (st := []) (m_X4_append h) pl_4.1 pl_4.2.1 rfl rfl gc_X8_139 (by decide +kernel) ⟨rfl, rfl⟩ dX8_feed_66 ⟨by decide, by decide⟩ rfl rfl (Nat.le_of_ble_eq_true rfl) ?_
      intro r66c M66 hN
      replace h := hN
      clear hN
      refine g_pop C dX8_feed_69 rfl ?_
      refine g_iinc C dX8_feed_70 rfl (by decide) rfl ?_
      refine g_locals (lv' := [(0, .ref (ad 0)), (1, jv a1), (3, iv a2), (4, iv (v4 + 1))]) rfl ?_
      refine g_goto C 39 dX8_feed_73 (by decide) ?_
      refine g_locals (lv' := [(0, .ref (ad 0)), (1, jv a1), (3, iv a2), (4, iv (v4 + 1))]) rfl ?_
      exact hr39 _  _ h
  have pL39 : ∀  (X39_76 : gSt → Prop) (hX39_76 : ∀  (M : gSt), X39_76  M → gG p l e (rmR 2 46) s m args below meth c Q D clC A (wC ad cI cS) 5 76 [(0, .ref (ad 0))] [] M) (n : Nat) (v4 : Int) (M : gSt), wL_X8_feed_39 a1 a2 k  X39_76 n v4 M → gG p l e (rmR 2 46) s m args below meth c Q D clC A (wC ad cI cS) 5 39 [(0, .ref (ad 0)), (1, jv a1), (3, iv a2), (4, iv v4)] [] M := by
    intro  X39_76 hX39_76 n
    induction n with
    | zero => intro v4 M h; exact h.elim
    | succ n ih =>
      intro v4 M h
      exact pC39  (wL_X8_feed_39 a1 a2 k  X39_76 n) X39_76 ih hX39_76 v4 M h
  refine g_locals (lv' := [(0, .ref (ad 0)), (1, jv a1), (3, iv a2)]) rfl ?_
  refine g_iload_n C dX8_feed_0 rfl ?_
  refine g_iconst C dX8_feed_1 ?_
  refine g_bipush C dX8_feed_2 rfl ?_
  refine g_callSi C (nargs := 3) (st := []) (m_X8_within h) gc_X8_63 (by decide +kernel) ⟨rfl, rfl⟩ dX8_feed_4 ⟨by decide, by decide⟩ rfl rfl (Nat.le_of_ble_eq_true rfl) ?_
  intro r4c M4 hN
  replace h := hN
  clear hN
  refine g_if_ne C 16 dX8_feed_7 (by decide) (fun hc => ?_) (fun hc => ?_)
  · replace h := h.1 hc
    refine g_aload_n C dX8_feed_16 rfl ?_
    refine cf_X8_12 C pl_0 dX8_feed_17 ?_
    refine cf_X8_132 C pl_1 dX8_feed_20 ?_
    refine g_callVi C (nargs := 0) (o := 4) (st := []) (m_X4_room h) pl_4.1 pl_4.2.1 rfl rfl gc_X8_136 (by decide +kernel) ⟨rfl, rfl⟩ dX8_feed_23 ⟨by decide, by decide⟩ rfl rfl (Nat.le_of_ble_eq_true rfl) ?_
    intro r23c M23 hN
    replace h := hN
    clear hN
    refine g_iload_n C dX8_feed_26 rfl ?_
    refine g_icmp_ge C 36 dX8_feed_27 (by decide) (fun hc => ?_) (fun hc => ?_)
    · replace h := h.1 hc
      refine g_iconst C dX8_feed_36 ?_
      refine g_istore C dX8_feed_37 (by decide) rfl ?_
      refine g_locals (lv' := [(0, .ref (ad 0)), (1, jv a1), (3, iv a2), (4, iv 0)]) rfl ?_
      refine g_locals (lv' := [(0, .ref (ad 0)), (1, jv a1), (3, iv a2), (4, iv 0)]) rfl ?_
      obtain ⟨n, h⟩ := h
      refine pL39 _ ?_ n _ _ h
      · intro  M39 hN
        replace h := hN
        clear hN
        refine g_aload_n C dX8_feed_76 rfl ?_
        refine cf_X8_12 C pl_0 dX8_feed_77 ?_
        refine cf_X8_132 C pl_1 dX8_feed_80 ?_
        refine g_callVi C (nargs := 0) (o := 4) (st := []) (m_X4_size h) pl_4.1 pl_4.2.1 rfl rfl gc_X8_143 (by decide +kernel) ⟨rfl, rfl⟩ dX8_feed_83 ⟨by decide, by decide⟩ rfl rfl (Nat.le_of_ble_eq_true rfl) ?_
        intro r83c M83 hN
        replace h := hN
        clear hN
        exact hR _ _ _ _ dX8_feed_86 rfl h
    · replace h := h.2 hc
      refine g_aload_n C dX8_feed_30 rfl ?_
      refine g_iconst C dX8_feed_31 ?_
      refine g_callVi C (nargs := 1) (o := 0) (st := []) (m_X8_refuse h) pl_0.1 pl_0.2.1 rfl rfl gc_X8_67 (by decide +kernel) ⟨rfl, rfl⟩ dX8_feed_32 ⟨by decide, by decide⟩ rfl rfl (Nat.le_of_ble_eq_true rfl) ?_
      intro r32c M32 hN
      replace h := hN
      clear hN
      exact hR _ _ _ _ dX8_feed_35 rfl h
  · replace h := h.2 hc
    refine g_aload_n C dX8_feed_10 rfl ?_
    refine g_iconst C dX8_feed_11 ?_
    refine g_callVi C (nargs := 1) (o := 0) (st := []) (m_X8_refuse h) pl_0.1 pl_0.2.1 rfl rfl gc_X8_67 (by decide +kernel) ⟨rfl, rfl⟩ dX8_feed_12 ⟨by decide, by decide⟩ rfl rfl (Nat.le_of_ble_eq_true rfl) ?_
    intro r12c M12 hN
    replace h := hN
    clear hN
    exact hR _ _ _ _ dX8_feed_15 rfl h
def w_X8_text (a1 : Int) (M : gSt) (k : Int → gSt → Prop) : Prop :=
  w_X8_within a1 0 1 M (fun r3c M3 => 
  (¬ wrap r3c = 0 →
    w_X3_read 47 4 a1 M3 (fun r27c M27 => w_X4_clear 4 M27 (fun M38 => 
    (wrap r27c < 0 →
      w_X1_textOf 1 a1 M38 (fun r59c M59 => ∃ q59 : Nat, r59c = some q59 ∧ (w_X3_writeTo 47 q59 M59 (fun M62 => k 1 M62)))) ∧
    (0 ≤ wrap r27c →
      k ((-10) - r27c) M38)))) ∧
  (wrap r3c = 0 →
    w_X8_refuse 1 M3 (fun r11c M11 => k r11c M11)))
set_option maxHeartbeats 4000000 in
set_option maxRecDepth 100000 in
theorem m_X8_text {l : Launch} {D : va_G} {tys : List (ClassId × FieldType)} {ad : Nat → Nat} {cI cS : ClassId} {a1 : Int} {M : gSt} {k : Int → gSt → Prop} (h : w_X8_text a1 M k) : MOi l yX8_text cX8_text 3 .int (rmR 65 1616) D clC ((cI, .int) :: (cS, .object "OldBronze$Sheet") :: tys) (wC ad cI cS) tC zC [.ref (ad 0), iv a1] M k := by
  refine moi_intro (by decide +kernel) (Nat.le_of_ble_eq_true rfl) wc_484 ?_
  intro p e s m args below meth c A Q C hR
  unfold w_X8_text at h
  refine g_locals (lv' := [(0, .ref (ad 0)), (1, iv a1)]) rfl ?_
  refine g_iload_n C dX8_text_0 rfl ?_
  refine g_iconst C dX8_text_1 ?_
  refine g_iconst C dX8_text_2 ?_
  refine g_callSi C (nargs := 3) (st := []) (m_X8_within h) gc_X8_63 (by decide +kernel) ⟨rfl, rfl⟩ dX8_text_3 ⟨by decide, by decide⟩ rfl rfl (Nat.le_of_ble_eq_true rfl) ?_
  intro r3c M3 hN
  replace h := hN
  clear hN
  refine g_if_ne C 15 dX8_text_6 (by decide) (fun hc => ?_) (fun hc => ?_)
  · replace h := h.1 hc
    refine g_aload_n C dX8_text_15 rfl ?_
    refine cf_X8_36 C pl_0 dX8_text_16 ?_
    refine g_aload_n C dX8_text_19 rfl ?_
    refine cf_X8_12 C pl_0 dX8_text_20 ?_
    refine cf_X8_132 C pl_1 dX8_text_23 ?_
    refine g_iload_n C dX8_text_26 rfl ?_
    refine g_callVi C (nargs := 2) (o := 47) (st := []) (m_X3_read h) pl_47.1 pl_47.2 rfl rfl gc_X8_146 (by decide +kernel) ⟨rfl, rfl⟩ dX8_text_27 ⟨by decide, by decide⟩ rfl rfl (Nat.le_of_ble_eq_true rfl) ?_
    intro r27c M27 hN
    replace h := hN
    clear hN
    refine g_istore_n C dX8_text_30 (by decide) rfl ?_
    refine g_locals (lv' := [(0, .ref (ad 0)), (1, iv a1), (2, iv r27c)]) rfl ?_
    refine g_aload_n C dX8_text_31 rfl ?_
    refine cf_X8_12 C pl_0 dX8_text_32 ?_
    refine cf_X8_132 C pl_1 dX8_text_35 ?_
    refine g_callVv C (nargs := 0) (o := 4) (st := []) (m_X4_clear h) pl_4.1 pl_4.2.1 rfl rfl gc_X8_150 (by decide +kernel) ⟨rfl, rfl⟩ dX8_text_38 ⟨by decide, by decide⟩ rfl rfl (Nat.le_of_ble_eq_true rfl) ?_
    intro M38 hN
    replace h := hN
    clear hN
    refine g_iload_n C dX8_text_41 rfl ?_
    refine g_if_lt C 50 dX8_text_42 (by decide) (fun hc => ?_) (fun hc => ?_)
    · replace h := h.1 hc
      refine g_aload_n C dX8_text_50 rfl ?_
      refine cf_X8_36 C pl_0 dX8_text_51 ?_
      refine g_aload_n C dX8_text_54 rfl ?_
      refine cf_X8_12 C pl_0 dX8_text_55 ?_
      refine g_iload_n C dX8_text_58 rfl ?_
      refine g_callVr C (nargs := 1) (o := 1) (st := [.ref (ad 47)]) (m_X1_textOf h) pl_1.1 pl_1.2 rfl rfl gc_X8_153 (by decide +kernel) ⟨rfl, rfl⟩ dX8_text_59 ⟨by decide, by decide⟩ rfl rfl (Nat.le_of_ble_eq_true rfl) ?_
      intro r59c M59 hN
      replace h := hN
      clear hN
      obtain ⟨q59, hq59, h⟩ := h
      subst hq59
      refine g_callVv C (nargs := 1) (o := 47) (st := []) (m_X3_writeTo h) pl_47.1 pl_47.2 rfl rfl gc_X8_157 (by decide +kernel) ⟨rfl, rfl⟩ dX8_text_62 ⟨by decide, by decide⟩ rfl rfl (Nat.le_of_ble_eq_true rfl) ?_
      intro M62 hN
      replace h := hN
      clear hN
      refine g_iconst C dX8_text_65 ?_
      exact hR _ _ _ _ dX8_text_66 rfl h
    · replace h := h.2 hc
      refine g_bipush C dX8_text_45 rfl ?_
      refine g_iload_n C dX8_text_47 rfl ?_
      refine g_isub C dX8_text_48 ?_
      exact hR _ _ _ _ dX8_text_49 rfl h
  · replace h := h.2 hc
    refine g_aload_n C dX8_text_9 rfl ?_
    refine g_iconst C dX8_text_10 ?_
    refine g_callVi C (nargs := 1) (o := 0) (st := []) (m_X8_refuse h) pl_0.1 pl_0.2.1 rfl rfl gc_X8_67 (by decide +kernel) ⟨rfl, rfl⟩ dX8_text_11 ⟨by decide, by decide⟩ rfl rfl (Nat.le_of_ble_eq_true rfl) ?_
    intro r11c M11 hN
    replace h := hN
    clear hN
    exact hR _ _ _ _ dX8_text_14 rfl h
def wB_X8_untell_34 (a1 : Int) (k : Int → gSt → Prop)  (s0 : Int) (M : gSt) : Prop :=
w_X1_textOf 1 a1 M (fun r40c M40 => ∃ q40 : Nat, r40c = some q40 ∧ (w_X4_clear q40 M40 (fun M43 => k s0 M43)))
def w_X8_untell (a1 : Int) (M : gSt) (k : Int → gSt → Prop) : Prop :=
  w_X8_within a1 0 1 M (fun r3c M3 => 
  (¬ wrap r3c = 0 →
    w_X1_textOf 1 a1 M3 (fun r20c M20 => ∃ q20 : Nat, r20c = some q20 ∧ (w_X4_size q20 M20 (fun r23c M23 => 
    (wrap r23c ≤ 0 →
      wB_X8_untell_34 a1 k  0 M23) ∧
    (0 < wrap r23c →
      wB_X8_untell_34 a1 k  1 M23))))) ∧
  (wrap r3c = 0 →
    w_X8_refuse 1 M3 (fun r11c M11 => k r11c M11)))
set_option maxHeartbeats 4000000 in
set_option maxRecDepth 100000 in
theorem m_X8_untell {l : Launch} {D : va_G} {tys : List (ClassId × FieldType)} {ad : Nat → Nat} {cI cS : ClassId} {a1 : Int} {M : gSt} {k : Int → gSt → Prop} (h : w_X8_untell a1 M k) : MOi l yX8_untell cX8_untell 3 .int (rmR 1 22) D clC ((cI, .int) :: (cS, .object "OldBronze$Sheet") :: tys) (wC ad cI cS) tC zC [.ref (ad 0), iv a1] M k := by
  refine moi_intro (by decide +kernel) (Nat.le_of_ble_eq_true rfl) wc_485 ?_
  intro p e s m args below meth c A Q C hR
  unfold w_X8_untell at h
  have pB34 : ∀   (s0 : Int) (M : gSt), wB_X8_untell_34 a1 k  s0 M → gG p l e (rmR 1 22) s m args below meth c Q D clC A (wC ad cI cS) 3 34 [(0, .ref (ad 0)), (1, iv a1)] [iv s0] M := by
    intro   s0 M h
    unfold wB_X8_untell_34 at h
    refine g_istore_n C dX8_untell_34 (by decide) rfl ?_
    refine g_locals (lv' := [(0, .ref (ad 0)), (1, iv a1), (2, iv s0)]) rfl ?_
    refine g_aload_n C dX8_untell_35 rfl ?_
    refine cf_X8_12 C pl_0 dX8_untell_36 ?_
    refine g_iload_n C dX8_untell_39 rfl ?_
    refine g_callVr C (nargs := 1) (o := 1) (st := []) (m_X1_textOf h) pl_1.1 pl_1.2 rfl rfl gc_X8_153 (by decide +kernel) ⟨rfl, rfl⟩ dX8_untell_40 ⟨by decide, by decide⟩ rfl rfl (Nat.le_of_ble_eq_true rfl) ?_
    intro r40c M40 hN
    replace h := hN
    clear hN
    obtain ⟨q40, hq40, h⟩ := h
    subst hq40
    refine g_callVv C (nargs := 0) (o := q40) (st := []) (m_X4_clear h) (show isRows q40 from h.1).1 (show isRows q40 from h.1).2.1 rfl rfl gc_X8_150 (by decide +kernel) ⟨rfl, rfl⟩ dX8_untell_43 ⟨by decide, by decide⟩ rfl rfl (Nat.le_of_ble_eq_true rfl) ?_
    intro M43 hN
    replace h := hN
    clear hN
    refine g_iload_n C dX8_untell_46 rfl ?_
    exact hR _ _ _ _ dX8_untell_47 rfl h
  refine g_locals (lv' := [(0, .ref (ad 0)), (1, iv a1)]) rfl ?_
  refine g_iload_n C dX8_untell_0 rfl ?_
  refine g_iconst C dX8_untell_1 ?_
  refine g_iconst C dX8_untell_2 ?_
  refine g_callSi C (nargs := 3) (st := []) (m_X8_within h) gc_X8_63 (by decide +kernel) ⟨rfl, rfl⟩ dX8_untell_3 ⟨by decide, by decide⟩ rfl rfl (Nat.le_of_ble_eq_true rfl) ?_
  intro r3c M3 hN
  replace h := hN
  clear hN
  refine g_if_ne C 15 dX8_untell_6 (by decide) (fun hc => ?_) (fun hc => ?_)
  · replace h := h.1 hc
    refine g_aload_n C dX8_untell_15 rfl ?_
    refine cf_X8_12 C pl_0 dX8_untell_16 ?_
    refine g_iload_n C dX8_untell_19 rfl ?_
    refine g_callVr C (nargs := 1) (o := 1) (st := []) (m_X1_textOf h) pl_1.1 pl_1.2 rfl rfl gc_X8_153 (by decide +kernel) ⟨rfl, rfl⟩ dX8_untell_20 ⟨by decide, by decide⟩ rfl rfl (Nat.le_of_ble_eq_true rfl) ?_
    intro r20c M20 hN
    replace h := hN
    clear hN
    obtain ⟨q20, hq20, h⟩ := h
    subst hq20
    refine g_callVi C (nargs := 0) (o := q20) (st := []) (m_X4_size h) (show isRows q20 from h.1).1 (show isRows q20 from h.1).2.1 rfl rfl gc_X8_143 (by decide +kernel) ⟨rfl, rfl⟩ dX8_untell_23 ⟨by decide, by decide⟩ rfl rfl (Nat.le_of_ble_eq_true rfl) ?_
    intro r23c M23 hN
    replace h := hN
    clear hN
    refine g_if_le C 33 dX8_untell_26 (by decide) (fun hc => ?_) (fun hc => ?_)
    · replace h := h.1 hc
      refine g_iconst C dX8_untell_33 ?_
      refine g_locals (lv' := [(0, .ref (ad 0)), (1, iv a1)]) rfl ?_
      exact pB34 _ _ h
    · replace h := h.2 hc
      refine g_iconst C dX8_untell_29 ?_
      refine g_goto C 34 dX8_untell_30 (by decide) ?_
      refine g_locals (lv' := [(0, .ref (ad 0)), (1, iv a1)]) rfl ?_
      exact pB34 _ _ h
  · replace h := h.2 hc
    refine g_aload_n C dX8_untell_9 rfl ?_
    refine g_iconst C dX8_untell_10 ?_
    refine g_callVi C (nargs := 1) (o := 0) (st := []) (m_X8_refuse h) pl_0.1 pl_0.2.1 rfl rfl gc_X8_67 (by decide +kernel) ⟨rfl, rfl⟩ dX8_untell_11 ⟨by decide, by decide⟩ rfl rfl (Nat.le_of_ble_eq_true rfl) ?_
    intro r11c M11 hN
    replace h := hN
    clear hN
    exact hR _ _ _ _ dX8_untell_14 rfl h
def wB_X8_claim_24 (a1 : Int) (a2 : Int) (k : Int → gSt → Prop)   (M : gSt) : Prop :=
w_X8_refuse 1 M (fun r26c M26 => k r26c M26)
def w_X8_claim (a1 : Int) (a2 : Int) (M : gSt) (k : Int → gSt → Prop) : Prop :=
  w_X0_has 2 a1 M (fun r8c M8 => 
  (wrap r8c = 0 →
    wB_X8_claim_24 a1 a2 k   M8) ∧
  (¬ wrap r8c = 0 →
    w_X8_within a2 1 99999 M8 (fun r18c M18 => 
    (¬ wrap r18c = 0 →
      w_X4_room 6 M18 (fun r37c M37 => 
      (1 ≤ wrap r37c →
        w_X4_append 6 a1 a2 0 M37 (fun r60c M60 => k r60c M60)) ∧
      (wrap r37c < 1 →
        w_X8_refuse 4 M37 (fun r46c M46 => k r46c M46)))) ∧
    (wrap r18c = 0 →
      wB_X8_claim_24 a1 a2 k   M18))))
set_option maxHeartbeats 4000000 in
set_option maxRecDepth 100000 in
theorem m_X8_claim {l : Launch} {D : va_G} {tys : List (ClassId × FieldType)} {ad : Nat → Nat} {cI cS : ClassId} {a1 : Int} {a2 : Int} {M : gSt} {k : Int → gSt → Prop} (h : w_X8_claim a1 a2 M k) : MOi l yX8_claim cX8_claim 3 .int (rmR 2 46) D clC ((cI, .int) :: (cS, .object "OldBronze$Sheet") :: tys) (wC ad cI cS) tC zC [.ref (ad 0), iv a1, iv a2] M k := by
  refine moi_intro (by decide +kernel) (Nat.le_of_ble_eq_true rfl) wc_488 ?_
  intro p e s m args below meth c A Q C hR
  unfold w_X8_claim at h
  have pB24 : ∀    (M : gSt), wB_X8_claim_24 a1 a2 k   M → gG p l e (rmR 2 46) s m args below meth c Q D clC A (wC ad cI cS) 3 24 [(0, .ref (ad 0))] [] M := by
    intro    M h
    unfold wB_X8_claim_24 at h
    refine g_aload_n C dX8_claim_24 rfl ?_
    refine g_iconst C dX8_claim_25 ?_
    refine g_callVi C (nargs := 1) (o := 0) (st := []) (m_X8_refuse h) pl_0.1 pl_0.2.1 rfl rfl gc_X8_67 (by decide +kernel) ⟨rfl, rfl⟩ dX8_claim_26 ⟨by decide, by decide⟩ rfl rfl (Nat.le_of_ble_eq_true rfl) ?_
    intro r26c M26 hN
    replace h := hN
    clear hN
    exact hR _ _ _ _ dX8_claim_29 rfl h
  refine g_locals (lv' := [(0, .ref (ad 0)), (1, iv a1), (2, iv a2)]) rfl ?_
  refine g_aload_n C dX8_claim_0 rfl ?_
  refine cf_X8_12 C pl_0 dX8_claim_1 ?_
  refine cf_X8_71 C pl_1 dX8_claim_4 ?_
  refine g_iload_n C dX8_claim_7 rfl ?_
  refine g_callVi C (nargs := 1) (o := 2) (st := []) (m_X0_has h) pl_2.1 pl_2.2.1 rfl rfl gc_X8_82 (by decide +kernel) ⟨rfl, rfl⟩ dX8_claim_8 ⟨by decide, by decide⟩ rfl rfl (Nat.le_of_ble_eq_true rfl) ?_
  intro r8c M8 hN
  replace h := hN
  clear hN
  refine g_if_eq C 24 dX8_claim_11 (by decide) (fun hc => ?_) (fun hc => ?_)
  · replace h := h.1 hc
    refine g_locals (lv' := [(0, .ref (ad 0))]) rfl ?_
    exact pB24  _ h
  · replace h := h.2 hc
    refine g_iload_n C dX8_claim_14 rfl ?_
    refine g_iconst C dX8_claim_15 ?_
    refine g_ldc C 99999 wc_486 rfl dX8_claim_16 ?_
    refine g_callSi C (nargs := 3) (st := []) (m_X8_within h) gc_X8_63 (by decide +kernel) ⟨rfl, rfl⟩ dX8_claim_18 ⟨by decide, by decide⟩ rfl rfl (Nat.le_of_ble_eq_true rfl) ?_
    intro r18c M18 hN
    replace h := hN
    clear hN
    refine g_if_ne C 30 dX8_claim_21 (by decide) (fun hc => ?_) (fun hc => ?_)
    · replace h := h.1 hc
      refine g_aload_n C dX8_claim_30 rfl ?_
      refine cf_X8_12 C pl_0 dX8_claim_31 ?_
      refine cf_X8_162 C pl_1 dX8_claim_34 ?_
      refine g_callVi C (nargs := 0) (o := 6) (st := []) (m_X4_room h) pl_6.1 pl_6.2.1 rfl rfl gc_X8_136 (by decide +kernel) ⟨rfl, rfl⟩ dX8_claim_37 ⟨by decide, by decide⟩ rfl rfl (Nat.le_of_ble_eq_true rfl) ?_
      intro r37c M37 hN
      replace h := hN
      clear hN
      refine g_iconst C dX8_claim_40 ?_
      refine g_icmp_ge C 50 dX8_claim_41 (by decide) (fun hc => ?_) (fun hc => ?_)
      · replace h := h.1 hc
        refine g_aload_n C dX8_claim_50 rfl ?_
        refine cf_X8_12 C pl_0 dX8_claim_51 ?_
        refine cf_X8_162 C pl_1 dX8_claim_54 ?_
        refine g_iload_n C dX8_claim_57 rfl ?_
        refine g_iload_n C dX8_claim_58 rfl ?_
        refine g_iconst C dX8_claim_59 ?_
        refine g_callVi C (nargs := 3) (o := 6) (st := []) (m_X4_append h) pl_6.1 pl_6.2.1 rfl rfl gc_X8_139 (by decide +kernel) ⟨rfl, rfl⟩ dX8_claim_60 ⟨by decide, by decide⟩ rfl rfl (Nat.le_of_ble_eq_true rfl) ?_
        intro r60c M60 hN
        replace h := hN
        clear hN
        exact hR _ _ _ _ dX8_claim_63 rfl h
      · replace h := h.2 hc
        refine g_aload_n C dX8_claim_44 rfl ?_
        refine g_iconst C dX8_claim_45 ?_
        refine g_callVi C (nargs := 1) (o := 0) (st := []) (m_X8_refuse h) pl_0.1 pl_0.2.1 rfl rfl gc_X8_67 (by decide +kernel) ⟨rfl, rfl⟩ dX8_claim_46 ⟨by decide, by decide⟩ rfl rfl (Nat.le_of_ble_eq_true rfl) ?_
        intro r46c M46 hN
        replace h := hN
        clear hN
        exact hR _ _ _ _ dX8_claim_49 rfl h
    · replace h := h.2 hc
      refine g_locals (lv' := [(0, .ref (ad 0))]) rfl ?_
      exact pB24  _ h
def wB_X8_claimIs_23 (a1 : Int) (a2 : Int) (k : Int → gSt → Prop)   (M : gSt) : Prop :=
w_X8_refuse 1 M (fun r25c M25 => k r25c M25)
def w_X8_claimIs (a1 : Int) (a2 : Int) (M : gSt) (k : Int → gSt → Prop) : Prop :=
  w_X4_has 6 a1 M (fun r8c M8 => 
  (wrap r8c = 0 →
    wB_X8_claimIs_23 a1 a2 k   M8) ∧
  (¬ wrap r8c = 0 →
    w_X8_within a2 0 2 M8 (fun r17c M17 => 
    (¬ wrap r17c = 0 →

      (¬ wrap a2 = 2 →
        w_X4_at 6 a1 a2 M17 (fun r54c M54 => k r54c M54)) ∧
      (wrap a2 = 2 →
        w_X1_counted 1 a1 M17 (fun r39c M39 => k r39c M39))) ∧
    (wrap r17c = 0 →
      wB_X8_claimIs_23 a1 a2 k   M17))))
set_option maxHeartbeats 4000000 in
set_option maxRecDepth 100000 in
theorem m_X8_claimIs {l : Launch} {D : va_G} {tys : List (ClassId × FieldType)} {ad : Nat → Nat} {cI cS : ClassId} {a1 : Int} {a2 : Int} {M : gSt} {k : Int → gSt → Prop} (h : w_X8_claimIs a1 a2 M k) : MOi l yX8_claimIs cX8_claimIs 3 .int (rmR 3 85) D clC ((cI, .int) :: (cS, .object "OldBronze$Sheet") :: tys) (wC ad cI cS) tC zC [.ref (ad 0), iv a1, iv a2] M k := by
  refine moi_intro (by decide +kernel) (Nat.le_of_ble_eq_true rfl) wc_492 ?_
  intro p e s m args below meth c A Q C hR
  unfold w_X8_claimIs at h
  have pB23 : ∀    (M : gSt), wB_X8_claimIs_23 a1 a2 k   M → gG p l e (rmR 3 85) s m args below meth c Q D clC A (wC ad cI cS) 3 23 [(0, .ref (ad 0))] [] M := by
    intro    M h
    unfold wB_X8_claimIs_23 at h
    refine g_aload_n C dX8_claimIs_23 rfl ?_
    refine g_iconst C dX8_claimIs_24 ?_
    refine g_callVi C (nargs := 1) (o := 0) (st := []) (m_X8_refuse h) pl_0.1 pl_0.2.1 rfl rfl gc_X8_67 (by decide +kernel) ⟨rfl, rfl⟩ dX8_claimIs_25 ⟨by decide, by decide⟩ rfl rfl (Nat.le_of_ble_eq_true rfl) ?_
    intro r25c M25 hN
    replace h := hN
    clear hN
    exact hR _ _ _ _ dX8_claimIs_28 rfl h
  refine g_locals (lv' := [(0, .ref (ad 0)), (1, iv a1), (2, iv a2)]) rfl ?_
  refine g_aload_n C dX8_claimIs_0 rfl ?_
  refine cf_X8_12 C pl_0 dX8_claimIs_1 ?_
  refine cf_X8_162 C pl_1 dX8_claimIs_4 ?_
  refine g_iload_n C dX8_claimIs_7 rfl ?_
  refine g_callVi C (nargs := 1) (o := 6) (st := []) (m_X4_has h) pl_6.1 pl_6.2.1 rfl rfl gc_X8_165 (by decide +kernel) ⟨rfl, rfl⟩ dX8_claimIs_8 ⟨by decide, by decide⟩ rfl rfl (Nat.le_of_ble_eq_true rfl) ?_
  intro r8c M8 hN
  replace h := hN
  clear hN
  refine g_if_eq C 23 dX8_claimIs_11 (by decide) (fun hc => ?_) (fun hc => ?_)
  · replace h := h.1 hc
    refine g_locals (lv' := [(0, .ref (ad 0))]) rfl ?_
    exact pB23  _ h
  · replace h := h.2 hc
    refine g_iload_n C dX8_claimIs_14 rfl ?_
    refine g_iconst C dX8_claimIs_15 ?_
    refine g_iconst C dX8_claimIs_16 ?_
    refine g_callSi C (nargs := 3) (st := []) (m_X8_within h) gc_X8_63 (by decide +kernel) ⟨rfl, rfl⟩ dX8_claimIs_17 ⟨by decide, by decide⟩ rfl rfl (Nat.le_of_ble_eq_true rfl) ?_
    intro r17c M17 hN
    replace h := hN
    clear hN
    refine g_if_ne C 29 dX8_claimIs_20 (by decide) (fun hc => ?_) (fun hc => ?_)
    · replace h := h.1 hc
      refine g_iload_n C dX8_claimIs_29 rfl ?_
      refine g_iconst C dX8_claimIs_30 ?_
      refine g_icmp_ne C 45 dX8_claimIs_31 (by decide) (fun hc => ?_) (fun hc => ?_)
      · replace h := h.1 hc
        refine g_aload_n C dX8_claimIs_45 rfl ?_
        refine cf_X8_12 C pl_0 dX8_claimIs_46 ?_
        refine cf_X8_162 C pl_1 dX8_claimIs_49 ?_
        refine g_iload_n C dX8_claimIs_52 rfl ?_
        refine g_iload_n C dX8_claimIs_53 rfl ?_
        refine g_callVi C (nargs := 2) (o := 6) (st := []) (m_X4_at h) pl_6.1 pl_6.2.1 rfl rfl gc_X8_169 (by decide +kernel) ⟨rfl, rfl⟩ dX8_claimIs_54 ⟨by decide, by decide⟩ rfl rfl (Nat.le_of_ble_eq_true rfl) ?_
        intro r54c M54 hN
        replace h := hN
        clear hN
        exact hR _ _ _ _ dX8_claimIs_57 rfl h
      · replace h := h.2 hc
        refine g_aload_n C dX8_claimIs_34 rfl ?_
        refine cf_X8_12 C pl_0 dX8_claimIs_35 ?_
        refine g_iload_n C dX8_claimIs_38 rfl ?_
        refine g_callVi C (nargs := 1) (o := 1) (st := []) (m_X1_counted h) pl_1.1 pl_1.2 rfl rfl gc_X8_166 (by decide +kernel) ⟨rfl, rfl⟩ dX8_claimIs_39 ⟨by decide, by decide⟩ rfl rfl (Nat.le_of_ble_eq_true rfl) ?_
        intro r39c M39 hN
        replace h := hN
        clear hN
        refine g_goto C 57 dX8_claimIs_42 (by decide) ?_
        exact hR _ _ _ _ dX8_claimIs_57 rfl h
    · replace h := h.2 hc
      refine g_locals (lv' := [(0, .ref (ad 0))]) rfl ?_
      exact pB23  _ h
def wB_X8_share_23 (a1 : Int) (a2 : Int) (k : Int → gSt → Prop)   (M : gSt) : Prop :=
w_X8_refuse 1 M (fun r25c M25 => k r25c M25)
def w_X8_share (a1 : Int) (a2 : Int) (M : gSt) (k : Int → gSt → Prop) : Prop :=
  w_X4_has 6 a1 M (fun r8c M8 => 
  (wrap r8c = 0 →
    wB_X8_share_23 a1 a2 k   M8) ∧
  (¬ wrap r8c = 0 →
    w_X8_within a2 0 2 M8 (fun r17c M17 => 
    (¬ wrap r17c = 0 →
      w_X1_shareOf 1 a1 a2 M17 (fun r35c M35 => k r35c M35)) ∧
    (wrap r17c = 0 →
      wB_X8_share_23 a1 a2 k   M17))))
set_option maxHeartbeats 4000000 in
set_option maxRecDepth 100000 in
theorem m_X8_share {l : Launch} {D : va_G} {tys : List (ClassId × FieldType)} {ad : Nat → Nat} {cI cS : ClassId} {a1 : Int} {a2 : Int} {M : gSt} {k : Int → gSt → Prop} (h : w_X8_share a1 a2 M k) : MOi l yX8_share cX8_share 3 .int (rmR 5 135) D clC ((cI, .int) :: (cS, .object "OldBronze$Sheet") :: tys) (wC ad cI cS) tC zC [.ref (ad 0), iv a1, iv a2] M k := by
  refine moi_intro (by decide +kernel) (Nat.le_of_ble_eq_true rfl) wc_494 ?_
  intro p e s m args below meth c A Q C hR
  unfold w_X8_share at h
  have pB23 : ∀    (M : gSt), wB_X8_share_23 a1 a2 k   M → gG p l e (rmR 5 135) s m args below meth c Q D clC A (wC ad cI cS) 3 23 [(0, .ref (ad 0))] [] M := by
    intro    M h
    unfold wB_X8_share_23 at h
    refine g_aload_n C dX8_share_23 rfl ?_
    refine g_iconst C dX8_share_24 ?_
    refine g_callVi C (nargs := 1) (o := 0) (st := []) (m_X8_refuse h) pl_0.1 pl_0.2.1 rfl rfl gc_X8_67 (by decide +kernel) ⟨rfl, rfl⟩ dX8_share_25 ⟨by decide, by decide⟩ rfl rfl (Nat.le_of_ble_eq_true rfl) ?_
    intro r25c M25 hN
    replace h := hN
    clear hN
    exact hR _ _ _ _ dX8_share_28 rfl h
  refine g_locals (lv' := [(0, .ref (ad 0)), (1, iv a1), (2, iv a2)]) rfl ?_
  refine g_aload_n C dX8_share_0 rfl ?_
  refine cf_X8_12 C pl_0 dX8_share_1 ?_
  refine cf_X8_162 C pl_1 dX8_share_4 ?_
  refine g_iload_n C dX8_share_7 rfl ?_
  refine g_callVi C (nargs := 1) (o := 6) (st := []) (m_X4_has h) pl_6.1 pl_6.2.1 rfl rfl gc_X8_165 (by decide +kernel) ⟨rfl, rfl⟩ dX8_share_8 ⟨by decide, by decide⟩ rfl rfl (Nat.le_of_ble_eq_true rfl) ?_
  intro r8c M8 hN
  replace h := hN
  clear hN
  refine g_if_eq C 23 dX8_share_11 (by decide) (fun hc => ?_) (fun hc => ?_)
  · replace h := h.1 hc
    refine g_locals (lv' := [(0, .ref (ad 0))]) rfl ?_
    exact pB23  _ h
  · replace h := h.2 hc
    refine g_iload_n C dX8_share_14 rfl ?_
    refine g_iconst C dX8_share_15 ?_
    refine g_iconst C dX8_share_16 ?_
    refine g_callSi C (nargs := 3) (st := []) (m_X8_within h) gc_X8_63 (by decide +kernel) ⟨rfl, rfl⟩ dX8_share_17 ⟨by decide, by decide⟩ rfl rfl (Nat.le_of_ble_eq_true rfl) ?_
    intro r17c M17 hN
    replace h := hN
    clear hN
    refine g_if_ne C 29 dX8_share_20 (by decide) (fun hc => ?_) (fun hc => ?_)
    · replace h := h.1 hc
      refine g_aload_n C dX8_share_29 rfl ?_
      refine cf_X8_12 C pl_0 dX8_share_30 ?_
      refine g_iload_n C dX8_share_33 rfl ?_
      refine g_iload_n C dX8_share_34 rfl ?_
      refine g_callVi C (nargs := 2) (o := 1) (st := []) (m_X1_shareOf h) pl_1.1 pl_1.2 rfl rfl gc_X8_172 (by decide +kernel) ⟨rfl, rfl⟩ dX8_share_35 ⟨by decide, by decide⟩ rfl rfl (Nat.le_of_ble_eq_true rfl) ?_
      intro r35c M35 hN
      replace h := hN
      clear hN
      exact hR _ _ _ _ dX8_share_38 rfl h
    · replace h := h.2 hc
      refine g_locals (lv' := [(0, .ref (ad 0))]) rfl ?_
      exact pB23  _ h
def wB_X8_left_23 (a1 : Int) (a2 : Int) (k : Int → gSt → Prop)   (M : gSt) : Prop :=
w_X8_refuse 1 M (fun r25c M25 => k r25c M25)
def w_X8_left (a1 : Int) (a2 : Int) (M : gSt) (k : Int → gSt → Prop) : Prop :=
  w_X0_has 2 a1 M (fun r8c M8 => 
  (wrap r8c = 0 →
    wB_X8_left_23 a1 a2 k   M8) ∧
  (¬ wrap r8c = 0 →
    w_X8_within a2 0 2 M8 (fun r17c M17 => 
    (¬ wrap r17c = 0 →
      w_X1_leftOf 1 a1 a2 M17 (fun r35c M35 => k r35c M35)) ∧
    (wrap r17c = 0 →
      wB_X8_left_23 a1 a2 k   M17))))
set_option maxHeartbeats 4000000 in
set_option maxRecDepth 100000 in
theorem m_X8_left {l : Launch} {D : va_G} {tys : List (ClassId × FieldType)} {ad : Nat → Nat} {cI cS : ClassId} {a1 : Int} {a2 : Int} {M : gSt} {k : Int → gSt → Prop} (h : w_X8_left a1 a2 M k) : MOi l yX8_left cX8_left 3 .int (rmR 6 159) D clC ((cI, .int) :: (cS, .object "OldBronze$Sheet") :: tys) (wC ad cI cS) tC zC [.ref (ad 0), iv a1, iv a2] M k := by
  refine moi_intro (by decide +kernel) (Nat.le_of_ble_eq_true rfl) wc_498 ?_
  intro p e s m args below meth c A Q C hR
  unfold w_X8_left at h
  have pB23 : ∀    (M : gSt), wB_X8_left_23 a1 a2 k   M → gG p l e (rmR 6 159) s m args below meth c Q D clC A (wC ad cI cS) 3 23 [(0, .ref (ad 0))] [] M := by
    intro    M h
    unfold wB_X8_left_23 at h
    refine g_aload_n C dX8_left_23 rfl ?_
    refine g_iconst C dX8_left_24 ?_
    refine g_callVi C (nargs := 1) (o := 0) (st := []) (m_X8_refuse h) pl_0.1 pl_0.2.1 rfl rfl gc_X8_67 (by decide +kernel) ⟨rfl, rfl⟩ dX8_left_25 ⟨by decide, by decide⟩ rfl rfl (Nat.le_of_ble_eq_true rfl) ?_
    intro r25c M25 hN
    replace h := hN
    clear hN
    exact hR _ _ _ _ dX8_left_28 rfl h
  refine g_locals (lv' := [(0, .ref (ad 0)), (1, iv a1), (2, iv a2)]) rfl ?_
  refine g_aload_n C dX8_left_0 rfl ?_
  refine cf_X8_12 C pl_0 dX8_left_1 ?_
  refine cf_X8_71 C pl_1 dX8_left_4 ?_
  refine g_iload_n C dX8_left_7 rfl ?_
  refine g_callVi C (nargs := 1) (o := 2) (st := []) (m_X0_has h) pl_2.1 pl_2.2.1 rfl rfl gc_X8_82 (by decide +kernel) ⟨rfl, rfl⟩ dX8_left_8 ⟨by decide, by decide⟩ rfl rfl (Nat.le_of_ble_eq_true rfl) ?_
  intro r8c M8 hN
  replace h := hN
  clear hN
  refine g_if_eq C 23 dX8_left_11 (by decide) (fun hc => ?_) (fun hc => ?_)
  · replace h := h.1 hc
    refine g_locals (lv' := [(0, .ref (ad 0))]) rfl ?_
    exact pB23  _ h
  · replace h := h.2 hc
    refine g_iload_n C dX8_left_14 rfl ?_
    refine g_iconst C dX8_left_15 ?_
    refine g_iconst C dX8_left_16 ?_
    refine g_callSi C (nargs := 3) (st := []) (m_X8_within h) gc_X8_63 (by decide +kernel) ⟨rfl, rfl⟩ dX8_left_17 ⟨by decide, by decide⟩ rfl rfl (Nat.le_of_ble_eq_true rfl) ?_
    intro r17c M17 hN
    replace h := hN
    clear hN
    refine g_if_ne C 29 dX8_left_20 (by decide) (fun hc => ?_) (fun hc => ?_)
    · replace h := h.1 hc
      refine g_aload_n C dX8_left_29 rfl ?_
      refine cf_X8_12 C pl_0 dX8_left_30 ?_
      refine g_iload_n C dX8_left_33 rfl ?_
      refine g_iload_n C dX8_left_34 rfl ?_
      refine g_callVi C (nargs := 2) (o := 1) (st := []) (m_X1_leftOf h) pl_1.1 pl_1.2 rfl rfl gc_X8_175 (by decide +kernel) ⟨rfl, rfl⟩ dX8_left_35 ⟨by decide, by decide⟩ rfl rfl (Nat.le_of_ble_eq_true rfl) ?_
      intro r35c M35 hN
      replace h := hN
      clear hN
      exact hR _ _ _ _ dX8_left_38 rfl h
    · replace h := h.2 hc
      refine g_locals (lv' := [(0, .ref (ad 0))]) rfl ?_
      exact pB23  _ h
def w_X8_isPaper (a1 : Int) (a2 : Int) (a3 : Int) (M : gSt) (k : Int → gSt → Prop) : Prop :=
  w_X0_has 2 a1 M (fun r8c M8 => 
  (wrap r8c = 0 →
    k 0 M8) ∧
  (¬ wrap r8c = 0 →
    w_X0_has 2 a2 M8 (fun r22c M22 => 
    (wrap r22c = 0 →
      k 0 M22) ∧
    (¬ wrap r22c = 0 →

      (wrap a1 = wrap a2 →
        k 0 M22) ∧
      (¬ wrap a1 = wrap a2 →
        w_X8_within a3 1 8 M22 (fun r37c M37 => 
        (wrap r37c = 0 →
          k 0 M37) ∧
        (¬ wrap r37c = 0 →
          k 1 M37)))))))
set_option maxHeartbeats 4000000 in
set_option maxRecDepth 100000 in
theorem m_X8_isPaper {l : Launch} {D : va_G} {tys : List (ClassId × FieldType)} {ad : Nat → Nat} {cI cS : ClassId} {a1 : Int} {a2 : Int} {a3 : Int} {M : gSt} {k : Int → gSt → Prop} (h : w_X8_isPaper a1 a2 a3 M k) : MOi l yX8_isPaper cX8_isPaper 4 .boolean (rmR 1 22) D clC ((cI, .int) :: (cS, .object "OldBronze$Sheet") :: tys) (wC ad cI cS) tC zC [.ref (ad 0), iv a1, iv a2, iv a3] M k := by
  refine moi_intro (by decide +kernel) (Nat.le_of_ble_eq_true rfl) wc_499 ?_
  intro p e s m args below meth c A Q C hR
  unfold w_X8_isPaper at h
  refine g_locals (lv' := [(0, .ref (ad 0)), (1, iv a1), (2, iv a2), (3, iv a3)]) rfl ?_
  refine g_aload_n C dX8_isPaper_0 rfl ?_
  refine cf_X8_12 C pl_0 dX8_isPaper_1 ?_
  refine cf_X8_71 C pl_1 dX8_isPaper_4 ?_
  refine g_iload_n C dX8_isPaper_7 rfl ?_
  refine g_callVi C (nargs := 1) (o := 2) (st := []) (m_X0_has h) pl_2.1 pl_2.2.1 rfl rfl gc_X8_82 (by decide +kernel) ⟨rfl, rfl⟩ dX8_isPaper_8 ⟨by decide, by decide⟩ rfl rfl (Nat.le_of_ble_eq_true rfl) ?_
  intro r8c M8 hN
  replace h := hN
  clear hN
  refine g_if_eq C 47 dX8_isPaper_11 (by decide) (fun hc => ?_) (fun hc => ?_)
  · replace h := h.1 hc
    refine g_iconst C dX8_isPaper_47 ?_
    exact hR _ _ _ _ dX8_isPaper_48 rfl h
  · replace h := h.2 hc
    refine g_aload_n C dX8_isPaper_14 rfl ?_
    refine cf_X8_12 C pl_0 dX8_isPaper_15 ?_
    refine cf_X8_71 C pl_1 dX8_isPaper_18 ?_
    refine g_iload_n C dX8_isPaper_21 rfl ?_
    refine g_callVi C (nargs := 1) (o := 2) (st := []) (m_X0_has h) pl_2.1 pl_2.2.1 rfl rfl gc_X8_82 (by decide +kernel) ⟨rfl, rfl⟩ dX8_isPaper_22 ⟨by decide, by decide⟩ rfl rfl (Nat.le_of_ble_eq_true rfl) ?_
    intro r22c M22 hN
    replace h := hN
    clear hN
    refine g_if_eq C 47 dX8_isPaper_25 (by decide) (fun hc => ?_) (fun hc => ?_)
    · replace h := h.1 hc
      refine g_iconst C dX8_isPaper_47 ?_
      exact hR _ _ _ _ dX8_isPaper_48 rfl h
    · replace h := h.2 hc
      refine g_iload_n C dX8_isPaper_28 rfl ?_
      refine g_iload_n C dX8_isPaper_29 rfl ?_
      refine g_icmp_eq C 47 dX8_isPaper_30 (by decide) (fun hc => ?_) (fun hc => ?_)
      · replace h := h.1 hc
        refine g_iconst C dX8_isPaper_47 ?_
        exact hR _ _ _ _ dX8_isPaper_48 rfl h
      · replace h := h.2 hc
        refine g_iload_n C dX8_isPaper_33 rfl ?_
        refine g_iconst C dX8_isPaper_34 ?_
        refine g_bipush C dX8_isPaper_35 rfl ?_
        refine g_callSi C (nargs := 3) (st := []) (m_X8_within h) gc_X8_63 (by decide +kernel) ⟨rfl, rfl⟩ dX8_isPaper_37 ⟨by decide, by decide⟩ rfl rfl (Nat.le_of_ble_eq_true rfl) ?_
        intro r37c M37 hN
        replace h := hN
        clear hN
        refine g_if_eq C 47 dX8_isPaper_40 (by decide) (fun hc => ?_) (fun hc => ?_)
        · replace h := h.1 hc
          refine g_iconst C dX8_isPaper_47 ?_
          exact hR _ _ _ _ dX8_isPaper_48 rfl h
        · replace h := h.2 hc
          refine g_iconst C dX8_isPaper_43 ?_
          refine g_goto C 48 dX8_isPaper_44 (by decide) ?_
          exact hR _ _ _ _ dX8_isPaper_48 rfl h
def w_X8_paper (a1 : Int) (a2 : Int) (a3 : Int) (M : gSt) (k : Int → gSt → Prop) : Prop :=
  w_X8_isPaper a1 a2 a3 M (fun r4c M4 => 
  (¬ wrap r4c = 0 →
    w_X4_room 8 M4 (fun r23c M23 => 
    (1 ≤ wrap r23c →
      w_X4_append 8 a1 a2 a3 M23 (fun r46c M46 => k r46c M46)) ∧
    (wrap r23c < 1 →
      w_X8_refuse 4 M23 (fun r32c M32 => k r32c M32)))) ∧
  (wrap r4c = 0 →
    w_X8_refuse 1 M4 (fun r12c M12 => k r12c M12)))
set_option maxHeartbeats 4000000 in
set_option maxRecDepth 100000 in
theorem m_X8_paper {l : Launch} {D : va_G} {tys : List (ClassId × FieldType)} {ad : Nat → Nat} {cI cS : ClassId} {a1 : Int} {a2 : Int} {a3 : Int} {M : gSt} {k : Int → gSt → Prop} (h : w_X8_paper a1 a2 a3 M k) : MOi l yX8_paper cX8_paper 4 .int (rmR 2 46) D clC ((cI, .int) :: (cS, .object "OldBronze$Sheet") :: tys) (wC ad cI cS) tC zC [.ref (ad 0), iv a1, iv a2, iv a3] M k := by
  refine moi_intro (by decide +kernel) (Nat.le_of_ble_eq_true rfl) wc_504 ?_
  intro p e s m args below meth c A Q C hR
  unfold w_X8_paper at h
  refine g_locals (lv' := [(0, .ref (ad 0)), (1, iv a1), (2, iv a2), (3, iv a3)]) rfl ?_
  refine g_aload_n C dX8_paper_0 rfl ?_
  refine g_iload_n C dX8_paper_1 rfl ?_
  refine g_iload_n C dX8_paper_2 rfl ?_
  refine g_iload_n C dX8_paper_3 rfl ?_
  refine g_callVi C (nargs := 3) (o := 0) (st := []) (m_X8_isPaper h) pl_0.1 pl_0.2.1 rfl rfl gc_X8_178 (by decide +kernel) ⟨rfl, rfl⟩ dX8_paper_4 ⟨by decide, by decide⟩ rfl rfl (Nat.le_of_ble_eq_true rfl) ?_
  intro r4c M4 hN
  replace h := hN
  clear hN
  refine g_if_ne C 16 dX8_paper_7 (by decide) (fun hc => ?_) (fun hc => ?_)
  · replace h := h.1 hc
    refine g_aload_n C dX8_paper_16 rfl ?_
    refine cf_X8_12 C pl_0 dX8_paper_17 ?_
    refine cf_X8_181 C pl_1 dX8_paper_20 ?_
    refine g_callVi C (nargs := 0) (o := 8) (st := []) (m_X4_room h) pl_8.1 pl_8.2.1 rfl rfl gc_X8_136 (by decide +kernel) ⟨rfl, rfl⟩ dX8_paper_23 ⟨by decide, by decide⟩ rfl rfl (Nat.le_of_ble_eq_true rfl) ?_
    intro r23c M23 hN
    replace h := hN
    clear hN
    refine g_iconst C dX8_paper_26 ?_
    refine g_icmp_ge C 36 dX8_paper_27 (by decide) (fun hc => ?_) (fun hc => ?_)
    · replace h := h.1 hc
      refine g_aload_n C dX8_paper_36 rfl ?_
      refine cf_X8_12 C pl_0 dX8_paper_37 ?_
      refine cf_X8_181 C pl_1 dX8_paper_40 ?_
      refine g_iload_n C dX8_paper_43 rfl ?_
      refine g_iload_n C dX8_paper_44 rfl ?_
      refine g_iload_n C dX8_paper_45 rfl ?_
      refine g_callVi C (nargs := 3) (o := 8) (st := []) (m_X4_append h) pl_8.1 pl_8.2.1 rfl rfl gc_X8_139 (by decide +kernel) ⟨rfl, rfl⟩ dX8_paper_46 ⟨by decide, by decide⟩ rfl rfl (Nat.le_of_ble_eq_true rfl) ?_
      intro r46c M46 hN
      replace h := hN
      clear hN
      exact hR _ _ _ _ dX8_paper_49 rfl h
    · replace h := h.2 hc
      refine g_aload_n C dX8_paper_30 rfl ?_
      refine g_iconst C dX8_paper_31 ?_
      refine g_callVi C (nargs := 1) (o := 0) (st := []) (m_X8_refuse h) pl_0.1 pl_0.2.1 rfl rfl gc_X8_67 (by decide +kernel) ⟨rfl, rfl⟩ dX8_paper_32 ⟨by decide, by decide⟩ rfl rfl (Nat.le_of_ble_eq_true rfl) ?_
      intro r32c M32 hN
      replace h := hN
      clear hN
      exact hR _ _ _ _ dX8_paper_35 rfl h
  · replace h := h.2 hc
    refine g_aload_n C dX8_paper_10 rfl ?_
    refine g_iconst C dX8_paper_11 ?_
    refine g_callVi C (nargs := 1) (o := 0) (st := []) (m_X8_refuse h) pl_0.1 pl_0.2.1 rfl rfl gc_X8_67 (by decide +kernel) ⟨rfl, rfl⟩ dX8_paper_12 ⟨by decide, by decide⟩ rfl rfl (Nat.le_of_ble_eq_true rfl) ?_
    intro r12c M12 hN
    replace h := hN
    clear hN
    exact hR _ _ _ _ dX8_paper_15 rfl h
def wB_X8_weigh_34 (a1 : Int) (a2 : Int) (a3 : Int) (k : Int → gSt → Prop)   (M : gSt) : Prop :=
w_X8_refuse 1 M (fun r36c M36 => k r36c M36)
def w_X8_weigh (a1 : Int) (a2 : Int) (a3 : Int) (M : gSt) (k : Int → gSt → Prop) : Prop :=
  w_X0_has 2 a1 M (fun r8c M8 => 
  (wrap r8c = 0 →
    wB_X8_weigh_34 a1 a2 a3 k   M8) ∧
  (¬ wrap r8c = 0 →
    w_X8_within a2 0 9999999 M8 (fun r18c M18 => 
    (wrap r18c = 0 →
      wB_X8_weigh_34 a1 a2 a3 k   M18) ∧
    (¬ wrap r18c = 0 →
      w_X8_within a3 0 99 M18 (fun r28c M28 => 
      (¬ wrap r28c = 0 →
        w_X4_room 10 M28 (fun r47c M47 => 
        (1 ≤ wrap r47c →
          w_X4_append 10 a1 a2 a3 M47 (fun r70c M70 => k r70c M70)) ∧
        (wrap r47c < 1 →
          w_X8_refuse 4 M47 (fun r56c M56 => k r56c M56)))) ∧
      (wrap r28c = 0 →
        wB_X8_weigh_34 a1 a2 a3 k   M28))))))
set_option maxHeartbeats 4000000 in
set_option maxRecDepth 100000 in
theorem m_X8_weigh {l : Launch} {D : va_G} {tys : List (ClassId × FieldType)} {ad : Nat → Nat} {cI cS : ClassId} {a1 : Int} {a2 : Int} {a3 : Int} {M : gSt} {k : Int → gSt → Prop} (h : w_X8_weigh a1 a2 a3 M k) : MOi l yX8_weigh cX8_weigh 4 .int (rmR 2 46) D clC ((cI, .int) :: (cS, .object "OldBronze$Sheet") :: tys) (wC ad cI cS) tC zC [.ref (ad 0), iv a1, iv a2, iv a3] M k := by
  refine moi_intro (by decide +kernel) (Nat.le_of_ble_eq_true rfl) wc_506 ?_
  intro p e s m args below meth c A Q C hR
  unfold w_X8_weigh at h
  have pB34 : ∀    (M : gSt), wB_X8_weigh_34 a1 a2 a3 k   M → gG p l e (rmR 2 46) s m args below meth c Q D clC A (wC ad cI cS) 4 34 [(0, .ref (ad 0))] [] M := by
    intro    M h
    unfold wB_X8_weigh_34 at h
    refine g_aload_n C dX8_weigh_34 rfl ?_
    refine g_iconst C dX8_weigh_35 ?_
    refine g_callVi C (nargs := 1) (o := 0) (st := []) (m_X8_refuse h) pl_0.1 pl_0.2.1 rfl rfl gc_X8_67 (by decide +kernel) ⟨rfl, rfl⟩ dX8_weigh_36 ⟨by decide, by decide⟩ rfl rfl (Nat.le_of_ble_eq_true rfl) ?_
    intro r36c M36 hN
    replace h := hN
    clear hN
    exact hR _ _ _ _ dX8_weigh_39 rfl h
  refine g_locals (lv' := [(0, .ref (ad 0)), (1, iv a1), (2, iv a2), (3, iv a3)]) rfl ?_
  refine g_aload_n C dX8_weigh_0 rfl ?_
  refine cf_X8_12 C pl_0 dX8_weigh_1 ?_
  refine cf_X8_71 C pl_1 dX8_weigh_4 ?_
  refine g_iload_n C dX8_weigh_7 rfl ?_
  refine g_callVi C (nargs := 1) (o := 2) (st := []) (m_X0_has h) pl_2.1 pl_2.2.1 rfl rfl gc_X8_82 (by decide +kernel) ⟨rfl, rfl⟩ dX8_weigh_8 ⟨by decide, by decide⟩ rfl rfl (Nat.le_of_ble_eq_true rfl) ?_
  intro r8c M8 hN
  replace h := hN
  clear hN
  refine g_if_eq C 34 dX8_weigh_11 (by decide) (fun hc => ?_) (fun hc => ?_)
  · replace h := h.1 hc
    refine g_locals (lv' := [(0, .ref (ad 0))]) rfl ?_
    exact pB34  _ h
  · replace h := h.2 hc
    refine g_iload_n C dX8_weigh_14 rfl ?_
    refine g_iconst C dX8_weigh_15 ?_
    refine g_ldc C 9999999 wc_412 rfl dX8_weigh_16 ?_
    refine g_callSi C (nargs := 3) (st := []) (m_X8_within h) gc_X8_63 (by decide +kernel) ⟨rfl, rfl⟩ dX8_weigh_18 ⟨by decide, by decide⟩ rfl rfl (Nat.le_of_ble_eq_true rfl) ?_
    intro r18c M18 hN
    replace h := hN
    clear hN
    refine g_if_eq C 34 dX8_weigh_21 (by decide) (fun hc => ?_) (fun hc => ?_)
    · replace h := h.1 hc
      refine g_locals (lv' := [(0, .ref (ad 0))]) rfl ?_
      exact pB34  _ h
    · replace h := h.2 hc
      refine g_iload_n C dX8_weigh_24 rfl ?_
      refine g_iconst C dX8_weigh_25 ?_
      refine g_bipush C dX8_weigh_26 rfl ?_
      refine g_callSi C (nargs := 3) (st := []) (m_X8_within h) gc_X8_63 (by decide +kernel) ⟨rfl, rfl⟩ dX8_weigh_28 ⟨by decide, by decide⟩ rfl rfl (Nat.le_of_ble_eq_true rfl) ?_
      intro r28c M28 hN
      replace h := hN
      clear hN
      refine g_if_ne C 40 dX8_weigh_31 (by decide) (fun hc => ?_) (fun hc => ?_)
      · replace h := h.1 hc
        refine g_aload_n C dX8_weigh_40 rfl ?_
        refine cf_X8_12 C pl_0 dX8_weigh_41 ?_
        refine cf_X8_184 C pl_1 dX8_weigh_44 ?_
        refine g_callVi C (nargs := 0) (o := 10) (st := []) (m_X4_room h) pl_10.1 pl_10.2.1 rfl rfl gc_X8_136 (by decide +kernel) ⟨rfl, rfl⟩ dX8_weigh_47 ⟨by decide, by decide⟩ rfl rfl (Nat.le_of_ble_eq_true rfl) ?_
        intro r47c M47 hN
        replace h := hN
        clear hN
        refine g_iconst C dX8_weigh_50 ?_
        refine g_icmp_ge C 60 dX8_weigh_51 (by decide) (fun hc => ?_) (fun hc => ?_)
        · replace h := h.1 hc
          refine g_aload_n C dX8_weigh_60 rfl ?_
          refine cf_X8_12 C pl_0 dX8_weigh_61 ?_
          refine cf_X8_184 C pl_1 dX8_weigh_64 ?_
          refine g_iload_n C dX8_weigh_67 rfl ?_
          refine g_iload_n C dX8_weigh_68 rfl ?_
          refine g_iload_n C dX8_weigh_69 rfl ?_
          refine g_callVi C (nargs := 3) (o := 10) (st := []) (m_X4_append h) pl_10.1 pl_10.2.1 rfl rfl gc_X8_139 (by decide +kernel) ⟨rfl, rfl⟩ dX8_weigh_70 ⟨by decide, by decide⟩ rfl rfl (Nat.le_of_ble_eq_true rfl) ?_
          intro r70c M70 hN
          replace h := hN
          clear hN
          exact hR _ _ _ _ dX8_weigh_73 rfl h
        · replace h := h.2 hc
          refine g_aload_n C dX8_weigh_54 rfl ?_
          refine g_iconst C dX8_weigh_55 ?_
          refine g_callVi C (nargs := 1) (o := 0) (st := []) (m_X8_refuse h) pl_0.1 pl_0.2.1 rfl rfl gc_X8_67 (by decide +kernel) ⟨rfl, rfl⟩ dX8_weigh_56 ⟨by decide, by decide⟩ rfl rfl (Nat.le_of_ble_eq_true rfl) ?_
          intro r56c M56 hN
          replace h := hN
          clear hN
          exact hR _ _ _ _ dX8_weigh_59 rfl h
      · replace h := h.2 hc
        refine g_locals (lv' := [(0, .ref (ad 0))]) rfl ?_
        exact pB34  _ h
def wB_X8_forget_36 (a1 : Int) (k : Int → gSt → Prop)  (s0 : Nat) (M : gSt) : Prop :=
w_X4_size s0 M (fun r38c M38 => w_X4_clear s0 M38 (fun M43 => k r38c M43))
def w_X8_forget (a1 : Int) (M : gSt) (k : Int → gSt → Prop) : Prop :=
  w_X8_within a1 0 1 M (fun r3c M3 => 
  (¬ wrap r3c = 0 →

    (¬ wrap a1 = 0 →
      wB_X8_forget_36 a1 k  10 M3) ∧
    (wrap a1 = 0 →
      wB_X8_forget_36 a1 k  8 M3)) ∧
  (wrap r3c = 0 →
    w_X8_refuse 1 M3 (fun r11c M11 => k r11c M11)))
set_option maxHeartbeats 4000000 in
set_option maxRecDepth 100000 in
theorem m_X8_forget {l : Launch} {D : va_G} {tys : List (ClassId × FieldType)} {ad : Nat → Nat} {cI cS : ClassId} {a1 : Int} {M : gSt} {k : Int → gSt → Prop} (h : w_X8_forget a1 M k) : MOi l yX8_forget cX8_forget 4 .int (rmR 1 22) D clC ((cI, .int) :: (cS, .object "OldBronze$Sheet") :: tys) (wC ad cI cS) tC zC [.ref (ad 0), iv a1] M k := by
  refine moi_intro (by decide +kernel) (Nat.le_of_ble_eq_true rfl) wc_507 ?_
  intro p e s m args below meth c A Q C hR
  unfold w_X8_forget at h
  have pB36 : ∀   (s0 : Nat) (M : gSt), wB_X8_forget_36 a1 k  s0 M → gG p l e (rmR 1 22) s m args below meth c Q D clC A (wC ad cI cS) 4 36 [] [.ref (ad s0)] M := by
    intro   s0 M h
    unfold wB_X8_forget_36 at h
    refine g_astore_n C dX8_forget_36 (by decide) rfl ?_
    refine g_locals (lv' := [(2, .ref (ad s0))]) rfl ?_
    refine g_aload_n C dX8_forget_37 rfl ?_
    refine g_callVi C (nargs := 0) (o := s0) (st := []) (m_X4_size h) (show isRows s0 from h.1).1 (show isRows s0 from h.1).2.1 rfl rfl gc_X8_143 (by decide +kernel) ⟨rfl, rfl⟩ dX8_forget_38 ⟨by decide, by decide⟩ rfl rfl (Nat.le_of_ble_eq_true rfl) ?_
    intro r38c M38 hN
    replace h := hN
    clear hN
    refine g_istore_n C dX8_forget_41 (by decide) rfl ?_
    refine g_locals (lv' := [(2, .ref (ad s0)), (3, iv r38c)]) rfl ?_
    refine g_aload_n C dX8_forget_42 rfl ?_
    refine g_callVv C (nargs := 0) (o := s0) (st := []) (m_X4_clear h) (show isRows s0 from h.1).1 (show isRows s0 from h.1).2.1 rfl rfl gc_X8_150 (by decide +kernel) ⟨rfl, rfl⟩ dX8_forget_43 ⟨by decide, by decide⟩ rfl rfl (Nat.le_of_ble_eq_true rfl) ?_
    intro M43 hN
    replace h := hN
    clear hN
    refine g_iload_n C dX8_forget_46 rfl ?_
    exact hR _ _ _ _ dX8_forget_47 rfl h
  refine g_locals (lv' := [(0, .ref (ad 0)), (1, iv a1)]) rfl ?_
  refine g_iload_n C dX8_forget_0 rfl ?_
  refine g_iconst C dX8_forget_1 ?_
  refine g_iconst C dX8_forget_2 ?_
  refine g_callSi C (nargs := 3) (st := []) (m_X8_within h) gc_X8_63 (by decide +kernel) ⟨rfl, rfl⟩ dX8_forget_3 ⟨by decide, by decide⟩ rfl rfl (Nat.le_of_ble_eq_true rfl) ?_
  intro r3c M3 hN
  replace h := hN
  clear hN
  refine g_if_ne C 15 dX8_forget_6 (by decide) (fun hc => ?_) (fun hc => ?_)
  · replace h := h.1 hc
    refine g_iload_n C dX8_forget_15 rfl ?_
    refine g_if_ne C 29 dX8_forget_16 (by decide) (fun hc => ?_) (fun hc => ?_)
    · replace h := h.1 hc
      refine g_aload_n C dX8_forget_29 rfl ?_
      refine cf_X8_12 C pl_0 dX8_forget_30 ?_
      refine cf_X8_184 C pl_1 dX8_forget_33 ?_
      refine g_locals (lv' := []) rfl ?_
      exact pB36 _ _ h
    · replace h := h.2 hc
      refine g_aload_n C dX8_forget_19 rfl ?_
      refine cf_X8_12 C pl_0 dX8_forget_20 ?_
      refine cf_X8_181 C pl_1 dX8_forget_23 ?_
      refine g_goto C 36 dX8_forget_26 (by decide) ?_
      refine g_locals (lv' := []) rfl ?_
      exact pB36 _ _ h
  · replace h := h.2 hc
    refine g_aload_n C dX8_forget_9 rfl ?_
    refine g_iconst C dX8_forget_10 ?_
    refine g_callVi C (nargs := 1) (o := 0) (st := []) (m_X8_refuse h) pl_0.1 pl_0.2.1 rfl rfl gc_X8_67 (by decide +kernel) ⟨rfl, rfl⟩ dX8_forget_11 ⟨by decide, by decide⟩ rfl rfl (Nat.le_of_ble_eq_true rfl) ?_
    intro r11c M11 hN
    replace h := hN
    clear hN
    exact hR _ _ _ _ dX8_forget_14 rfl h
def w_X8_allPapers  (M : gSt) (k : Int → gSt → Prop) : Prop :=
  w_X4_size 8 M (fun r8c M8 => k ((xshl 1 r8c) - 1) M8)
set_option maxHeartbeats 4000000 in
set_option maxRecDepth 100000 in
theorem m_X8_allPapers {l : Launch} {D : va_G} {tys : List (ClassId × FieldType)} {ad : Nat → Nat} {cI cS : ClassId}  {M : gSt} {k : Int → gSt → Prop} (h : w_X8_allPapers  M k) : MOi l yX8_allPapers cX8_allPapers 1 .int (rmR 1 20) D clC ((cI, .int) :: (cS, .object "OldBronze$Sheet") :: tys) (wC ad cI cS) tC zC [.ref (ad 0)] M k := by
  refine moi_intro (by decide +kernel) (Nat.le_of_ble_eq_true rfl) wc_508 ?_
  intro p e s m args below meth c A Q C hR
  unfold w_X8_allPapers at h
  refine g_locals (lv' := [(0, .ref (ad 0))]) rfl ?_
  refine g_iconst C dX8_allPapers_0 ?_
  refine g_aload_n C dX8_allPapers_1 rfl ?_
  refine cf_X8_12 C pl_0 dX8_allPapers_2 ?_
  refine cf_X8_181 C pl_1 dX8_allPapers_5 ?_
  refine g_callVi C (nargs := 0) (o := 8) (st := [iv 1]) (m_X4_size h) pl_8.1 pl_8.2.1 rfl rfl gc_X8_143 (by decide +kernel) ⟨rfl, rfl⟩ dX8_allPapers_8 ⟨by decide, by decide⟩ rfl rfl (Nat.le_of_ble_eq_true rfl) ?_
  intro r8c M8 hN
  replace h := hN
  clear hN
  refine g_ishl C dX8_allPapers_11 ?_
  refine g_iconst C dX8_allPapers_12 ?_
  refine g_isub C dX8_allPapers_13 ?_
  exact hR _ _ _ _ dX8_allPapers_14 rfl h
