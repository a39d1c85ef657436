def wC_Rtext_104 (a1 : Int) (k : Int → gSt → Prop) (r104 : Int → Int → gSt → Prop) (X104_139 : gSt → Prop) (v3 : Int) (v4 : Int) (M : gSt) : Prop :=

  (wrap (2 * (M 0 7)) ≤ wrap v4 →
    X104_139  M) ∧
  (wrap v4 < wrap (2 * (M 0 7)) →
    (0 ≤ v4 ∧ v4 < 124) ∧ ((0 ≤ (v3 + 1) + v4 ∧ (v3 + 1) + v4 < 536) ∧ (∀ M132 : gSt, M132 = wr M 1 ((v3 + 1) + v4) (M 5 v4) → (r104 v3 (v4 + 1) M132))))
def wL_Rtext_104 (a1 : Int) (k : Int → gSt → Prop)  (X104_139 : gSt → Prop) : Nat → Int → Int → gSt → Prop
  | 0 => fun _ _ _ => False
  | n + 1 => fun v3 v4 M => wC_Rtext_104 a1 k  (wL_Rtext_104 a1 k  X104_139 n) X104_139 v3 v4 M
def wB_Rtext_61 (a1 : Int) (k : Int → gSt → Prop)  (s0 : Int) (M : gSt) : Prop :=
∀ M69 : gSt, M69 = wr M 1 6 0 → (
  (¬ wrap s0 = 0 →
    ∀ x3_90 : Int, x3_90 = 202 + (125 * a1) → ((0 ≤ x3_90 ∧ x3_90 < 536) ∧ (∀ M100 : gSt, M100 = wr M69 1 x3_90 (M69 0 7) → (∃ n, wL_Rtext_104 a1 k  (fun  M104 =>
      k 1 M104) n x3_90 0 M100)))) ∧
  (wrap s0 = 0 →
    k ((-10) - (M69 0 5)) M69))
def wB_Rtext_60 (a1 : Int) (k : Int → gSt → Prop)   (M : gSt) : Prop :=
wB_Rtext_61 a1 k  0 M
def w_Rtext (a1 : Int) (M : gSt) (k : Int → gSt → Prop) : Prop :=
w_Rin a1 0 1 M (fun r3c M3 => 
  (¬ wrap r3c = 0 →
    ∀ M17 : gSt, M17 = wr M3 0 8 a1 → (∀ M22 : gSt, M22 = wr M17 0 5 0 → (∀ M27 : gSt, M27 = wr M22 0 6 0 → (∀ M32 : gSt, M32 = wr M27 0 7 0 → (w_Rwhole  M32 (fun r36c M36 => 
    (wrap r36c = 0 →
      wB_Rtext_60 a1 k   M36) ∧
    (¬ wrap r36c = 0 →

      (¬ wrap (M36 0 5) = wrap (M36 1 6) →
        wB_Rtext_60 a1 k   M36) ∧
      (wrap (M36 0 5) = wrap (M36 1 6) →
        wB_Rtext_61 a1 k  1 M36)))))))) ∧
  (wrap r3c = 0 →
    w_Rerror 1 M3 (fun r11c M11 => k r11c M11)))
set_option maxHeartbeats 4000000 in
set_option maxRecDepth 100000 in
theorem m_Rtext {l : Launch} {D : va_G} {cl : List vw_C} {tys : List (ClassId × FieldType)} {ad : Nat → Nat} {cI : ClassId} {ci : Nat} {Z : (Nat → Prop) → State → Prop} (hci : cl[ci]? = some (RX9, TX9, 23)) {a1 : Int} {M : gSt} {k : Int → gSt → Prop} (h : w_Rtext a1 M k) : MOi l yX9_text cX9_text 5 .int (rmR 62 1422) D cl ((cI, .int) :: tys) (wR ad cI ci) tR Z [.ref (ad 0), iv a1] M k := by
  refine moi_intro (by decide +kernel) (Nat.le_of_ble_eq_true rfl) wi_164 ?_
  intro p e s m args below meth c A Q C hR
  have pC104 : ∀ (r104 : Int → Int → gSt → Prop) (X104_139 : gSt → Prop) (hr104 : ∀ (v3 : Int) (v4 : Int) (M : gSt), r104 v3 v4 M → gG p l e (rmR 62 1422) s m args below meth c Q D cl A (wR ad cI ci) 5 104 [(0, .ref (ad 0)), (3, iv v3), (4, iv v4)] [] M) (hX104_139 : ∀  (M : gSt), X104_139  M → gG p l e (rmR 62 1422) s m args below meth c Q D cl A (wR ad cI ci) 5 139 [] [] M) (v3 : Int) (v4 : Int) (M : gSt), wC_Rtext_104 a1 k r104 X104_139 v3 v4 M → gG p l e (rmR 62 1422) s m args below meth c Q D cl A (wR ad cI ci) 5 104 [(0, .ref (ad 0)), (3, iv v3), (4, iv v4)] [] M := by
    intro r104 X104_139 hr104 hX104_139 v3 v4 M h
    unfold wC_Rtext_104 at h
    refine g_iload C dR_text_104 rfl ?_
    refine g_iconst C dR_text_106 ?_
    refine g_aload_n C dR_text_107 rfl ?_
    refine rf_steps C hci dR_text_108 ?_
    refine g_imul C dR_text_111 ?_
    refine g_icmp_ge C 139 dR_text_112 (by decide) (fun hc => ?_) (fun hc => ?_)
    · replace h := h.1 hc
      refine g_locals (lv' := []) rfl ?_
      exact hX104_139  _ h
    · replace h := h.2 hc
      refine g_aload_n C dR_text_115 rfl ?_
      refine rf_s C hci dR_text_116 ?_
      refine g_iload_n C dR_text_119 rfl ?_
      refine g_iconst C dR_text_120 ?_
      refine g_iadd C dR_text_121 ?_
      refine g_iload C dR_text_122 rfl ?_
      refine g_iadd C dR_text_124 ?_
      refine g_aload_n C dR_text_125 rfl ?_
      refine rf_step C hci dR_text_126 ?_
      refine g_iload C dR_text_129 rfl ?_
      refine g_iald C (n := 124) dR_text_131 rfl (by decide) h.1 ?_
      replace h := h.2
      refine g_iast C (n := 536) dR_text_132 rfl (by decide) h.1 ?_
      replace h := h.2
      refine g_memname (fun M132 hM132 => ?_)
      replace h := h M132 hM132
      refine g_iinc C dR_text_133 rfl (by decide) rfl ?_
      refine g_locals (lv' := [(0, .ref (ad 0)), (3, iv v3), (4, iv (v4 + 1))]) rfl ?_
      refine g_goto C 104 dR_text_136 (by decide) ?_
      refine g_locals (lv' := [(0, .ref (ad 0)), (3, iv v3), (4, iv (v4 + 1))]) rfl ?_
      exact hr104 _ _  _ h
  have pL104 : ∀  (X104_139 : gSt → Prop) (hX104_139 : ∀  (M : gSt), X104_139  M → gG p l e (rmR 62 1422) s m args below meth c Q D cl A (wR ad cI ci) 5 139 [] [] M) (n : Nat) (v3 : Int) (v4 : Int) (M : gSt), wL_Rtext_104 a1 k  X104_139 n v3 v4 M → gG p l e (rmR 62 1422) s m args below meth c Q D cl A (wR ad cI ci) 5 104 [(0, .ref (ad 0)), (3, iv v3), (4, iv v4)] [] M := by
    intro  X104_139 hX104_139 n
    induction n with
    | zero => intro v3 v4 M h; exact h.elim
    | succ n ih =>
      intro v3 v4 M h
      exact pC104  (wL_Rtext_104 a1 k  X104_139 n) X104_139 ih hX104_139 v3 v4 M h
  have pB61 : ∀   (s0 : Int) (M : gSt), wB_Rtext_61 a1 k  s0 M → gG p l e (rmR 62 1422) s m args below meth c Q D cl A (wR ad cI ci) 5 61 [(0, .ref (ad 0)), (1, iv a1)] [iv s0] M := by
    intro   s0 M h
    unfold wB_Rtext_61 at h
    refine g_istore_n C dR_text_61 (by decide) rfl ?_
    refine g_locals (lv' := [(0, .ref (ad 0)), (1, iv a1), (2, iv s0)]) rfl ?_
    refine g_aload_n C dR_text_62 rfl ?_
    refine rf_s C hci dR_text_63 ?_
    refine g_bipush C dR_text_66 rfl ?_
    refine g_iconst C dR_text_68 ?_
    refine g_iast C (n := 536) dR_text_69 rfl (by decide) ⟨by decide, by decide⟩ ?_
    refine g_memname (fun M69 hM69 => ?_)
    replace h := h M69 hM69
    refine g_iload_n C dR_text_70 rfl ?_
    refine g_if_ne C 82 dR_text_71 (by decide) (fun hc => ?_) (fun hc => ?_)
    · replace h := h.1 hc
      refine g_sipush C dR_text_82 rfl ?_
      refine g_bipush C dR_text_85 rfl ?_
      refine g_iload_n C dR_text_87 rfl ?_
      refine g_imul C dR_text_88 ?_
      refine g_iadd C dR_text_89 ?_
      refine g_name (fun x3_90 hx3_90 => ?_)
      replace h := h x3_90 hx3_90
      refine g_istore_n C dR_text_90 (by decide) rfl ?_
      refine g_locals (lv' := [(0, .ref (ad 0)), (1, iv a1), (2, iv s0), (3, iv x3_90)]) rfl ?_
      refine g_aload_n C dR_text_91 rfl ?_
      refine rf_s C hci dR_text_92 ?_
      refine g_iload_n C dR_text_95 rfl ?_
      refine g_aload_n C dR_text_96 rfl ?_
      refine rf_steps C hci dR_text_97 ?_
      refine g_iast C (n := 536) dR_text_100 rfl (by decide) h.1 ?_
      replace h := h.2
      refine g_memname (fun M100 hM100 => ?_)
      replace h := h M100 hM100
      refine g_iconst C dR_text_101 ?_
      refine g_istore C dR_text_102 (by decide) rfl ?_
      refine g_locals (lv' := [(0, .ref (ad 0)), (1, iv a1), (2, iv s0), (3, iv x3_90), (4, iv 0)]) rfl ?_
      refine g_locals (lv' := [(0, .ref (ad 0)), (3, iv x3_90), (4, iv 0)]) rfl ?_
      obtain ⟨n, h⟩ := h
      refine pL104 _ ?_ n _ _ _ h
      · intro  M104 hN
        replace h := hN
        clear hN
        refine g_iconst C dR_text_139 ?_
        exact hR _ _ _ _ dR_text_140 rfl h
    · replace h := h.2 hc
      refine g_bipush C dR_text_74 rfl ?_
      refine g_aload_n C dR_text_76 rfl ?_
      refine rf_at C hci dR_text_77 ?_
      refine g_isub C dR_text_80 ?_
      exact hR _ _ _ _ dR_text_81 rfl h
  have pB60 : ∀    (M : gSt), wB_Rtext_60 a1 k   M → gG p l e (rmR 62 1422) s m args below meth c Q D cl A (wR ad cI ci) 5 60 [(0, .ref (ad 0)), (1, iv a1)] [] M := by
    intro    M h
    unfold wB_Rtext_60 at h
    refine g_iconst C dR_text_60 ?_
    refine g_locals (lv' := [(0, .ref (ad 0)), (1, iv a1)]) rfl ?_
    exact pB61 _ _ h
  refine g_locals (lv' := [(0, .ref (ad 0)), (1, iv a1)]) rfl ?_
  unfold w_Rtext at h
  refine g_iload_n C dR_text_0 rfl ?_
  refine g_iconst C dR_text_1 ?_
  refine g_iconst C dR_text_2 ?_
  refine g_callSi C (nargs := 3) (st := []) (m_Rin hci h) gd_in (by decide +kernel) ⟨rfl, rfl⟩ dR_text_3 ⟨by decide, by decide⟩ rfl rfl (Nat.le_of_ble_eq_true rfl) ?_
  intro r3c M3 hN
  replace h := hN
  clear hN
  refine g_if_ne C 15 dR_text_6 (by decide) (fun hc => ?_) (fun hc => ?_)
  · replace h := h.1 hc
    refine g_aload_n C dR_text_15 rfl ?_
    refine g_iload_n C dR_text_16 rfl ?_
    refine rp_use C hci dR_text_17 ?_
    refine g_memname (fun M17 hM17 => ?_)
    replace h := h M17 hM17
    refine g_aload_n C dR_text_20 rfl ?_
    refine g_iconst C dR_text_21 ?_
    refine rp_at C hci dR_text_22 ?_
    refine g_memname (fun M22 hM22 => ?_)
    replace h := h M22 hM22
    refine g_aload_n C dR_text_25 rfl ?_
    refine g_iconst C dR_text_26 ?_
    refine rp_open C hci dR_text_27 ?_
    refine g_memname (fun M27 hM27 => ?_)
    replace h := h M27 hM27
    refine g_aload_n C dR_text_30 rfl ?_
    refine g_iconst C dR_text_31 ?_
    refine rp_steps C hci dR_text_32 ?_
    refine g_memname (fun M32 hM32 => ?_)
    replace h := h M32 hM32
    refine g_aload_n C dR_text_35 rfl ?_
    refine g_callVi C (nargs := 0) (o := 0) (st := []) (m_Rwhole hci h) rfl (by decide) hci rfl gd_whole (by decide +kernel) ⟨rfl, rfl⟩ dR_text_36 ⟨by decide, by decide⟩ rfl rfl (Nat.le_of_ble_eq_true rfl) ?_
    intro r36c M36 hN
    replace h := hN
    clear hN
    refine g_if_eq C 60 dR_text_39 (by decide) (fun hc => ?_) (fun hc => ?_)
    · replace h := h.1 hc
      refine g_locals (lv' := [(0, .ref (ad 0)), (1, iv a1)]) rfl ?_
      exact pB60  _ h
    · replace h := h.2 hc
      refine g_aload_n C dR_text_42 rfl ?_
      refine rf_at C hci dR_text_43 ?_
      refine g_aload_n C dR_text_46 rfl ?_
      refine rf_s C hci dR_text_47 ?_
      refine g_bipush C dR_text_50 rfl ?_
      refine g_iald C (n := 536) dR_text_52 rfl (by decide) ⟨by decide, by decide⟩ ?_
      refine g_icmp_ne C 60 dR_text_53 (by decide) (fun hc => ?_) (fun hc => ?_)
      · replace h := h.1 hc
        refine g_locals (lv' := [(0, .ref (ad 0)), (1, iv a1)]) rfl ?_
        exact pB60  _ h
      · replace h := h.2 hc
        refine g_iconst C dR_text_56 ?_
        refine g_goto C 61 dR_text_57 (by decide) ?_
        refine g_locals (lv' := [(0, .ref (ad 0)), (1, iv a1)]) rfl ?_
        exact pB61 _ _ h
  · replace h := h.2 hc
    refine g_aload_n C dR_text_9 rfl ?_
    refine g_iconst C dR_text_10 ?_
    refine g_callVi C (nargs := 1) (o := 0) (st := []) (m_Rerror hci h) rfl (by decide) hci rfl gd_error (by decide +kernel) ⟨rfl, rfl⟩ dR_text_11 ⟨by decide, by decide⟩ rfl rfl (Nat.le_of_ble_eq_true rfl) ?_
    intro r11c M11 hN
    replace h := hN
    clear hN
    exact hR _ _ _ _ dR_text_14 rfl h
