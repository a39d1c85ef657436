def w_Rabove (a1 : Int) (M : gSt) (k : Int → gSt → Prop) : Prop :=

  (¬ wrap a1 = 4 →

    (¬ wrap a1 = 5 →

      (¬ wrap a1 = 6 →
        k 0 M) ∧
      (wrap a1 = 6 →
        k 3 M)) ∧
    (wrap a1 = 5 →
      k 2 M)) ∧
  (wrap a1 = 4 →
    k 1 M)
set_option maxHeartbeats 4000000 in
set_option maxRecDepth 100000 in
theorem m_Rabove {l : Launch} {D : va_G} {cl : List vw_C} {tys : List (ClassId × FieldType)} {ad : Nat → Nat} {cI : ClassId} {ci : Nat} {Z : (Nat → Prop) → State → Prop} (hci : cl[ci]? = some (RX9, TX9, 23)) {a1 : Int} {M : gSt} {k : Int → gSt → Prop} (h : w_Rabove a1 M k) : MOi l yX9_above cX9_above 1 .int (rmR 0 0) D cl ((cI, .int) :: tys) (wR ad cI ci) tR Z [iv a1] M k := by
  refine moi_intro (by decide +kernel) (Nat.le_of_ble_eq_true rfl) wi_256 ?_
  intro p e s m args below meth c A Q C hR
  refine g_locals (lv' := [(0, iv a1)]) rfl ?_
  unfold w_Rabove at h
  refine g_iload_n C dR_above_0 rfl ?_
  refine g_iconst C dR_above_1 ?_
  refine g_icmp_ne C 9 dR_above_2 (by decide) (fun hc => ?_) (fun hc => ?_)
  · replace h := h.1 hc
    refine g_iload_n C dR_above_9 rfl ?_
    refine g_iconst C dR_above_10 ?_
    refine g_icmp_ne C 18 dR_above_11 (by decide) (fun hc => ?_) (fun hc => ?_)
    · replace h := h.1 hc
      refine g_iload_n C dR_above_18 rfl ?_
      refine g_bipush C dR_above_19 rfl ?_
      refine g_icmp_ne C 28 dR_above_21 (by decide) (fun hc => ?_) (fun hc => ?_)
      · replace h := h.1 hc
        refine g_iconst C dR_above_28 ?_
        exact hR _ _ _ _ dR_above_29 rfl h
      · replace h := h.2 hc
        refine g_iconst C dR_above_24 ?_
        refine g_goto C 29 dR_above_25 (by decide) ?_
        exact hR _ _ _ _ dR_above_29 rfl h
    · replace h := h.2 hc
      refine g_iconst C dR_above_14 ?_
      refine g_goto C 29 dR_above_15 (by decide) ?_
      exact hR _ _ _ _ dR_above_29 rfl h
  · replace h := h.2 hc
    refine g_iconst C dR_above_5 ?_
    refine g_goto C 29 dR_above_6 (by decide) ?_
    exact hR _ _ _ _ dR_above_29 rfl h
def w_RkindNow  (M : gSt) (k : Int → gSt → Prop) : Prop :=
w_Rits (M 0 17) 0 M (fun r6c M6 => k r6c M6)
set_option maxHeartbeats 4000000 in
set_option maxRecDepth 100000 in
theorem m_RkindNow {l : Launch} {D : va_G} {cl : List vw_C} {tys : List (ClassId × FieldType)} {ad : Nat → Nat} {cI : ClassId} {ci : Nat} {Z : (Nat → Prop) → State → Prop} (hci : cl[ci]? = some (RX9, TX9, 23))  {M : gSt} {k : Int → gSt → Prop} (h : w_RkindNow  M k) : MOi l yX9_kindNow cX9_kindNow 1 .int (rmR 1 22) D cl ((cI, .int) :: tys) (wR ad cI ci) tR Z [.ref (ad 0)] M k := by
  refine moi_intro (by decide +kernel) (Nat.le_of_ble_eq_true rfl) wi_258 ?_
  intro p e s m args below meth c A Q C hR
  refine g_locals (lv' := [(0, .ref (ad 0))]) rfl ?_
  unfold w_RkindNow at h
  refine g_aload_n C dR_kindNow_0 rfl ?_
  refine g_aload_n C dR_kindNow_1 rfl ?_
  refine rf_speaks C hci dR_kindNow_2 ?_
  refine g_iconst C dR_kindNow_5 ?_
  refine g_callVi C (nargs := 2) (o := 0) (st := []) (m_Rits hci h) rfl (by decide) hci rfl gd_its (by decide +kernel) ⟨rfl, rfl⟩ dR_kindNow_6 ⟨by decide, by decide⟩ rfl rfl (Nat.le_of_ble_eq_true rfl) ?_
  intro r6c M6 hN
  replace h := hN
  clear hN
  exact hR _ _ _ _ dR_kindNow_9 rfl h
def w_RmNow  (M : gSt) (k : Int → gSt → Prop) : Prop :=
w_Rits (M 0 17) 1 M (fun r6c M6 => k r6c M6)
set_option maxHeartbeats 4000000 in
set_option maxRecDepth 100000 in
theorem m_RmNow {l : Launch} {D : va_G} {cl : List vw_C} {tys : List (ClassId × FieldType)} {ad : Nat → Nat} {cI : ClassId} {ci : Nat} {Z : (Nat → Prop) → State → Prop} (hci : cl[ci]? = some (RX9, TX9, 23))  {M : gSt} {k : Int → gSt → Prop} (h : w_RmNow  M k) : MOi l yX9_mNow cX9_mNow 1 .int (rmR 1 22) D cl ((cI, .int) :: tys) (wR ad cI ci) tR Z [.ref (ad 0)] M k := by
  refine moi_intro (by decide +kernel) (Nat.le_of_ble_eq_true rfl) wi_259 ?_
  intro p e s m args below meth c A Q C hR
  refine g_locals (lv' := [(0, .ref (ad 0))]) rfl ?_
  unfold w_RmNow at h
  refine g_aload_n C dR_mNow_0 rfl ?_
  refine g_aload_n C dR_mNow_1 rfl ?_
  refine rf_speaks C hci dR_mNow_2 ?_
  refine g_iconst C dR_mNow_5 ?_
  refine g_callVi C (nargs := 2) (o := 0) (st := []) (m_Rits hci h) rfl (by decide) hci rfl gd_its (by decide +kernel) ⟨rfl, rfl⟩ dR_mNow_6 ⟨by decide, by decide⟩ rfl rfl (Nat.le_of_ble_eq_true rfl) ?_
  intro r6c M6 hN
  replace h := hN
  clear hN
  exact hR _ _ _ _ dR_mNow_9 rfl h
def w_Rbody (a1 : Int) (M : gSt) (k : Int → gSt → Prop) : Prop :=
w_Rin a1 0 ((M 0 16) - 1) M (fun r8c M8 => 
  (wrap r8c = 0 →
    w_Rerror 2 M8 (fun r25c M25 => k r25c M25)) ∧
  (¬ wrap r8c = 0 →
    (0 ≤ a1 ∧ a1 < 30) ∧ (k (M8 10 a1) M8)))
set_option maxHeartbeats 4000000 in
set_option maxRecDepth 100000 in
theorem m_Rbody {l : Launch} {D : va_G} {cl : List vw_C} {tys : List (ClassId × FieldType)} {ad : Nat → Nat} {cI : ClassId} {ci : Nat} {Z : (Nat → Prop) → State → Prop} (hci : cl[ci]? = some (RX9, TX9, 23)) {a1 : Int} {M : gSt} {k : Int → gSt → Prop} (h : w_Rbody a1 M k) : MOi l yX9_body cX9_body 2 .int (rmR 1 22) D cl ((cI, .int) :: tys) (wR ad cI ci) tR Z [.ref (ad 0), iv a1] M k := by
  refine moi_intro (by decide +kernel) (Nat.le_of_ble_eq_true rfl) wi_289 ?_
  intro p e s m args below meth c A Q C hR
  refine g_locals (lv' := [(0, .ref (ad 0)), (1, iv a1)]) rfl ?_
  unfold w_Rbody at h
  refine g_iload_n C dR_body_0 rfl ?_
  refine g_iconst C dR_body_1 ?_
  refine g_aload_n C dR_body_2 rfl ?_
  refine rf_traced C hci dR_body_3 ?_
  refine g_iconst C dR_body_6 ?_
  refine g_isub C dR_body_7 ?_
  refine g_callSi C (nargs := 3) (st := []) (m_Rin hci h) gd_in (by decide +kernel) ⟨rfl, rfl⟩ dR_body_8 ⟨by decide, by decide⟩ rfl rfl (Nat.le_of_ble_eq_true rfl) ?_
  intro r8c M8 hN
  replace h := hN
  clear hN
  refine g_if_eq C 23 dR_body_11 (by decide) (fun hc => ?_) (fun hc => ?_)
  · replace h := h.1 hc
    refine g_aload_n C dR_body_23 rfl ?_
    refine g_iconst C dR_body_24 ?_
    refine g_callVi C (nargs := 1) (o := 0) (st := []) (m_Rerror hci h) rfl (by decide) hci rfl gd_error (by decide +kernel) ⟨rfl, rfl⟩ dR_body_25 ⟨by decide, by decide⟩ rfl rfl (Nat.le_of_ble_eq_true rfl) ?_
    intro r25c M25 hN
    replace h := hN
    clear hN
    exact hR _ _ _ _ dR_body_28 rfl h
  · replace h := h.2 hc
    refine g_aload_n C dR_body_14 rfl ?_
    refine rf_trace C hci dR_body_15 ?_
    refine g_iload_n C dR_body_18 rfl ?_
    refine g_iald C (n := 30) dR_body_19 rfl (by decide) h.1 ?_
    replace h := h.2
    refine g_goto C 28 dR_body_20 (by decide) ?_
    exact hR _ _ _ _ dR_body_28 rfl h
def w_RisSheet (a1 : Int) (M : gSt) (k : Int → gSt → Prop) : Prop :=
w_Rin a1 0 3 M (fun r3c M3 => (r3c = 0 ∨ r3c = 1) ∧ (k r3c M3))
set_option maxHeartbeats 4000000 in
set_option maxRecDepth 100000 in
theorem m_RisSheet {l : Launch} {D : va_G} {cl : List vw_C} {tys : List (ClassId × FieldType)} {ad : Nat → Nat} {cI : ClassId} {ci : Nat} {Z : (Nat → Prop) → State → Prop} (hci : cl[ci]? = some (RX9, TX9, 23)) {a1 : Int} {M : gSt} {k : Int → gSt → Prop} (h : w_RisSheet a1 M k) : MOi l yX9_isSheet cX9_isSheet 1 .boolean (rmR 1 22) D cl ((cI, .int) :: tys) (wR ad cI ci) tR Z [iv a1] M k := by
  refine moi_intro (by decide +kernel) (Nat.le_of_ble_eq_true rfl) wi_290 ?_
  intro p e s m args below meth c A Q C hR
  refine g_locals (lv' := [(0, iv a1)]) rfl ?_
  unfold w_RisSheet at h
  refine g_iload_n C dR_isSheet_0 rfl ?_
  refine g_iconst C dR_isSheet_1 ?_
  refine g_iconst C dR_isSheet_2 ?_
  refine g_callSi C (nargs := 3) (st := []) (m_Rin hci h) gd_in (by decide +kernel) ⟨rfl, rfl⟩ dR_isSheet_3 ⟨by decide, by decide⟩ rfl rfl (Nat.le_of_ble_eq_true rfl) ?_
  intro r3c M3 hN
  replace h := hN
  clear hN
  exact hR _ _ _ _ dR_isSheet_6 (zn_bool h.1).1 h.2
def wB_Rsheet_29 (a1 : Int) (a2 : Int) (a3 : Int) (k : Int → gSt → Prop)   (M : gSt) : Prop :=
w_Rerror 1 M (fun r31c M31 => k r31c M31)
def wC_Rsheet_90 (a1 : Int) (a2 : Int) (a3 : Int) (k : Int → gSt → Prop) (r90 : Int → gSt → Prop) (X90_116 : gSt → Prop) (v4 : Int) (M : gSt) : Prop :=

  (24 ≤ wrap v4 →
    X90_116  M) ∧
  (wrap v4 < 24 →
    (0 ≤ (24 * a1) + v4 ∧ (24 * a1) + v4 < 96) ∧ (∀ M109 : gSt, M109 = wr M 13 ((24 * a1) + v4) 0 → (r90 (v4 + 1) M109)))
def wL_Rsheet_90 (a1 : Int) (a2 : Int) (a3 : Int) (k : Int → gSt → Prop)  (X90_116 : gSt → Prop) : Nat → Int → gSt → Prop
  | 0 => fun _ _ => False
  | n + 1 => fun v4 M => wC_Rsheet_90 a1 a2 a3 k  (wL_Rsheet_90 a1 a2 a3 k  X90_116 n) X90_116 v4 M
def wB_Rsheet_86 (a1 : Int) (a2 : Int) (a3 : Int) (k : Int → gSt → Prop)  (s0 : Int) (s1 : Int) (M : gSt) : Prop :=
(0 ≤ s1 ∧ s1 < 4) ∧ (∀ M86 : gSt, M86 = wr M 12 s1 s0 → (∃ n, wL_Rsheet_90 a1 a2 a3 k  (fun  M90 =>
    k 1 M90) n 0 M86))
def wB_Rsheet_65 (a1 : Int) (a2 : Int) (a3 : Int) (k : Int → gSt → Prop)   (M : gSt) : Prop :=
(0 ≤ a1 ∧ a1 < 4) ∧ (∀ M71 : gSt, M71 = wr M 11 a1 a2 → (
  (¬ wrap a2 = 0 →
    wB_Rsheet_86 a1 a2 a3 k  a3 a1 M71) ∧
  (wrap a2 = 0 →
    wB_Rsheet_86 a1 a2 a3 k  0 a1 M71)))
def wB_Rsheet_49 (a1 : Int) (a2 : Int) (a3 : Int) (k : Int → gSt → Prop)   (M : gSt) : Prop :=

  (wrap a2 = 0 →
    wB_Rsheet_65 a1 a2 a3 k   M) ∧
  (¬ wrap a2 = 0 →

    (wrap a3 ≤ 24 →
      wB_Rsheet_65 a1 a2 a3 k   M) ∧
    (24 < wrap a3 →
      w_Rerror 1 M (fun r61c M61 => k r61c M61)))
def wB_Rsheet_35 (a1 : Int) (a2 : Int) (a3 : Int) (k : Int → gSt → Prop)   (M : gSt) : Prop :=

  (wrap a2 = 0 →
    wB_Rsheet_49 a1 a2 a3 k   M) ∧
  (¬ wrap a2 = 0 →

    (0 ≤ wrap a3 →
      wB_Rsheet_49 a1 a2 a3 k   M) ∧
    (wrap a3 < 0 →
      w_Rerror 3 M (fun r45c M45 => k r45c M45)))
def w_Rsheet (a1 : Int) (a2 : Int) (a3 : Int) (M : gSt) (k : Int → gSt → Prop) : Prop :=
w_RisSheet a1 M (fun r1c M1 => 
  (wrap r1c = 0 →
    wB_Rsheet_29 a1 a2 a3 k   M1) ∧
  (¬ wrap r1c = 0 →

    (wrap a2 = 0 →
      wB_Rsheet_35 a1 a2 a3 k   M1) ∧
    (¬ wrap a2 = 0 →

      (wrap a2 = 8 →
        wB_Rsheet_35 a1 a2 a3 k   M1) ∧
      (¬ wrap a2 = 8 →

        (wrap a2 = 16 →
          wB_Rsheet_35 a1 a2 a3 k   M1) ∧
        (¬ wrap a2 = 16 →

          (wrap a2 = 32 →
            wB_Rsheet_35 a1 a2 a3 k   M1) ∧
          (¬ wrap a2 = 32 →
            wB_Rsheet_29 a1 a2 a3 k   M1))))))
set_option maxHeartbeats 4000000 in
set_option maxRecDepth 100000 in
theorem m_Rsheet {l : Launch} {D : va_G} {cl : List vw_C} {tys : List (ClassId × FieldType)} {ad : Nat → Nat} {cI : ClassId} {ci : Nat} {Z : (Nat → Prop) → State → Prop} (hci : cl[ci]? = some (RX9, TX9, 23)) {a1 : Int} {a2 : Int} {a3 : Int} {M : gSt} {k : Int → gSt → Prop} (h : w_Rsheet a1 a2 a3 M k) : MOi l yX9_sheet cX9_sheet 5 .int (rmR 2 42) D cl ((cI, .int) :: tys) (wR ad cI ci) tR Z [.ref (ad 0), iv a1, iv a2, iv a3] M k := by
  refine moi_intro (by decide +kernel) (Nat.le_of_ble_eq_true rfl) wi_293 ?_
  intro p e s m args below meth c A Q C hR
  have pB29 : ∀    (M : gSt), wB_Rsheet_29 a1 a2 a3 k   M → gG p l e (rmR 2 42) s m args below meth c Q D cl A (wR ad cI ci) 5 29 [(0, .ref (ad 0))] [] M := by
    intro    M h
    unfold wB_Rsheet_29 at h
    refine g_aload_n C dR_sheet_29 rfl ?_
    refine g_iconst C dR_sheet_30 ?_
    refine g_callVi C (nargs := 1) (o := 0) (st := []) (m_Rerror hci h) rfl (by decide) hci rfl gd_error (by decide +kernel) ⟨rfl, rfl⟩ dR_sheet_31 ⟨by decide, by decide⟩ rfl rfl (Nat.le_of_ble_eq_true rfl) ?_
    intro r31c M31 hN
    replace h := hN
    clear hN
    exact hR _ _ _ _ dR_sheet_34 rfl h
  have pC90 : ∀ (r90 : Int → gSt → Prop) (X90_116 : gSt → Prop) (hr90 : ∀ (v4 : Int) (M : gSt), r90 v4 M → gG p l e (rmR 2 42) s m args below meth c Q D cl A (wR ad cI ci) 5 90 [(0, .ref (ad 0)), (1, iv a1), (4, iv v4)] [] M) (hX90_116 : ∀  (M : gSt), X90_116  M → gG p l e (rmR 2 42) s m args below meth c Q D cl A (wR ad cI ci) 5 116 [] [] M) (v4 : Int) (M : gSt), wC_Rsheet_90 a1 a2 a3 k r90 X90_116 v4 M → gG p l e (rmR 2 42) s m args below meth c Q D cl A (wR ad cI ci) 5 90 [(0, .ref (ad 0)), (1, iv a1), (4, iv v4)] [] M := by
    intro r90 X90_116 hr90 hX90_116 v4 M h
    unfold wC_Rsheet_90 at h
    refine g_iload C dR_sheet_90 rfl ?_
    refine g_bipush C dR_sheet_92 rfl ?_
    refine g_icmp_ge C 116 dR_sheet_94 (by decide) (fun hc => ?_) (fun hc => ?_)
    · replace h := h.1 hc
      refine g_locals (lv' := []) rfl ?_
      exact hX90_116  _ h
    · replace h := h.2 hc
      refine g_aload_n C dR_sheet_97 rfl ?_
      refine rf_number C hci dR_sheet_98 ?_
      refine g_bipush C dR_sheet_101 rfl ?_
      refine g_iload_n C dR_sheet_103 rfl ?_
      refine g_imul C dR_sheet_104 ?_
      refine g_iload C dR_sheet_105 rfl ?_
      refine g_iadd C dR_sheet_107 ?_
      refine g_iconst C dR_sheet_108 ?_
      refine g_iast C (n := 96) dR_sheet_109 rfl (by decide) h.1 ?_
      replace h := h.2
      refine g_memname (fun M109 hM109 => ?_)
      replace h := h M109 hM109
      refine g_iinc C dR_sheet_110 rfl (by decide) rfl ?_
      refine g_locals (lv' := [(0, .ref (ad 0)), (1, iv a1), (4, iv (v4 + 1))]) rfl ?_
      refine g_goto C 90 dR_sheet_113 (by decide) ?_
      refine g_locals (lv' := [(0, .ref (ad 0)), (1, iv a1), (4, iv (v4 + 1))]) rfl ?_
      exact hr90 _  _ h
  have pL90 : ∀  (X90_116 : gSt → Prop) (hX90_116 : ∀  (M : gSt), X90_116  M → gG p l e (rmR 2 42) s m args below meth c Q D cl A (wR ad cI ci) 5 116 [] [] M) (n : Nat) (v4 : Int) (M : gSt), wL_Rsheet_90 a1 a2 a3 k  X90_116 n v4 M → gG p l e (rmR 2 42) s m args below meth c Q D cl A (wR ad cI ci) 5 90 [(0, .ref (ad 0)), (1, iv a1), (4, iv v4)] [] M := by
    intro  X90_116 hX90_116 n
    induction n with
    | zero => intro v4 M h; exact h.elim
    | succ n ih =>
      intro v4 M h
      exact pC90  (wL_Rsheet_90 a1 a2 a3 k  X90_116 n) X90_116 ih hX90_116 v4 M h
  have pB86 : ∀   (s0 : Int) (s1 : Int) (M : gSt), wB_Rsheet_86 a1 a2 a3 k  s0 s1 M → gG p l e (rmR 2 42) s m args below meth c Q D cl A (wR ad cI ci) 5 86 [(0, .ref (ad 0)), (1, iv a1)] [iv s0, iv s1, .ref (ad 12)] M := by
    intro   s0 s1 M h
    unfold wB_Rsheet_86 at h
    refine g_iast C (n := 4) dR_sheet_86 rfl (by decide) h.1 ?_
    replace h := h.2
    refine g_memname (fun M86 hM86 => ?_)
    replace h := h M86 hM86
    refine g_iconst C dR_sheet_87 ?_
    refine g_istore C dR_sheet_88 (by decide) rfl ?_
    refine g_locals (lv' := [(0, .ref (ad 0)), (1, iv a1), (4, iv 0)]) rfl ?_
    refine g_locals (lv' := [(0, .ref (ad 0)), (1, iv a1), (4, iv 0)]) rfl ?_
    obtain ⟨n, h⟩ := h
    refine pL90 _ ?_ n _ _ h
    · intro  M90 hN
      replace h := hN
      clear hN
      refine g_iconst C dR_sheet_116 ?_
      exact hR _ _ _ _ dR_sheet_117 rfl h
  have pB65 : ∀    (M : gSt), wB_Rsheet_65 a1 a2 a3 k   M → gG p l e (rmR 2 42) s m args below meth c Q D cl A (wR ad cI ci) 5 65 [(0, .ref (ad 0)), (1, iv a1), (2, iv a2), (3, iv a3)] [] M := by
    intro    M h
    unfold wB_Rsheet_65 at h
    refine g_aload_n C dR_sheet_65 rfl ?_
    refine rf_bits C hci dR_sheet_66 ?_
    refine g_iload_n C dR_sheet_69 rfl ?_
    refine g_iload_n C dR_sheet_70 rfl ?_
    refine g_iast C (n := 4) dR_sheet_71 rfl (by decide) h.1 ?_
    replace h := h.2
    refine g_memname (fun M71 hM71 => ?_)
    replace h := h M71 hM71
    refine g_aload_n C dR_sheet_72 rfl ?_
    refine rf_sizes C hci dR_sheet_73 ?_
    refine g_iload_n C dR_sheet_76 rfl ?_
    refine g_iload_n C dR_sheet_77 rfl ?_
    refine g_if_ne C 85 dR_sheet_78 (by decide) (fun hc => ?_) (fun hc => ?_)
    · replace h := h.1 hc
      refine g_iload_n C dR_sheet_85 rfl ?_
      refine g_locals (lv' := [(0, .ref (ad 0)), (1, iv a1)]) rfl ?_
      exact pB86 _ _ _ h
    · replace h := h.2 hc
      refine g_iconst C dR_sheet_81 ?_
      refine g_goto C 86 dR_sheet_82 (by decide) ?_
      refine g_locals (lv' := [(0, .ref (ad 0)), (1, iv a1)]) rfl ?_
      exact pB86 _ _ _ h
  have pB49 : ∀    (M : gSt), wB_Rsheet_49 a1 a2 a3 k   M → gG p l e (rmR 2 42) s m args below meth c Q D cl A (wR ad cI ci) 5 49 [(0, .ref (ad 0)), (1, iv a1), (2, iv a2), (3, iv a3)] [] M := by
    intro    M h
    unfold wB_Rsheet_49 at h
    refine g_iload_n C dR_sheet_49 rfl ?_
    refine g_if_eq C 65 dR_sheet_50 (by decide) (fun hc => ?_) (fun hc => ?_)
    · replace h := h.1 hc
      refine g_locals (lv' := [(0, .ref (ad 0)), (1, iv a1), (2, iv a2), (3, iv a3)]) rfl ?_
      exact pB65  _ h
    · replace h := h.2 hc
      refine g_iload_n C dR_sheet_53 rfl ?_
      refine g_bipush C dR_sheet_54 rfl ?_
      refine g_icmp_le C 65 dR_sheet_56 (by decide) (fun hc => ?_) (fun hc => ?_)
      · replace h := h.1 hc
        refine g_locals (lv' := [(0, .ref (ad 0)), (1, iv a1), (2, iv a2), (3, iv a3)]) rfl ?_
        exact pB65  _ h
      · replace h := h.2 hc
        refine g_aload_n C dR_sheet_59 rfl ?_
        refine g_iconst C dR_sheet_60 ?_
        refine g_callVi C (nargs := 1) (o := 0) (st := []) (m_Rerror hci h) rfl (by decide) hci rfl gd_error (by decide +kernel) ⟨rfl, rfl⟩ dR_sheet_61 ⟨by decide, by decide⟩ rfl rfl (Nat.le_of_ble_eq_true rfl) ?_
        intro r61c M61 hN
        replace h := hN
        clear hN
        exact hR _ _ _ _ dR_sheet_64 rfl h
  have pB35 : ∀    (M : gSt), wB_Rsheet_35 a1 a2 a3 k   M → gG p l e (rmR 2 42) s m args below meth c Q D cl A (wR ad cI ci) 5 35 [(0, .ref (ad 0)), (1, iv a1), (2, iv a2), (3, iv a3)] [] M := by
    intro    M h
    unfold wB_Rsheet_35 at h
    refine g_iload_n C dR_sheet_35 rfl ?_
    refine g_if_eq C 49 dR_sheet_36 (by decide) (fun hc => ?_) (fun hc => ?_)
    · replace h := h.1 hc
      refine g_locals (lv' := [(0, .ref (ad 0)), (1, iv a1), (2, iv a2), (3, iv a3)]) rfl ?_
      exact pB49  _ h
    · replace h := h.2 hc
      refine g_iload_n C dR_sheet_39 rfl ?_
      refine g_if_ge C 49 dR_sheet_40 (by decide) (fun hc => ?_) (fun hc => ?_)
      · replace h := h.1 hc
        refine g_locals (lv' := [(0, .ref (ad 0)), (1, iv a1), (2, iv a2), (3, iv a3)]) rfl ?_
        exact pB49  _ h
      · replace h := h.2 hc
        refine g_aload_n C dR_sheet_43 rfl ?_
        refine g_iconst C dR_sheet_44 ?_
        refine g_callVi C (nargs := 1) (o := 0) (st := []) (m_Rerror hci h) rfl (by decide) hci rfl gd_error (by decide +kernel) ⟨rfl, rfl⟩ dR_sheet_45 ⟨by decide, by decide⟩ rfl rfl (Nat.le_of_ble_eq_true rfl) ?_
        intro r45c M45 hN
        replace h := hN
        clear hN
        exact hR _ _ _ _ dR_sheet_48 rfl h
  refine g_locals (lv' := [(0, .ref (ad 0)), (1, iv a1), (2, iv a2), (3, iv a3)]) rfl ?_
  unfold w_Rsheet at h
  refine g_iload_n C dR_sheet_0 rfl ?_
  refine g_callSi C (nargs := 1) (st := []) (m_RisSheet hci h) gd_isSheet (by decide +kernel) ⟨rfl, rfl⟩ dR_sheet_1 ⟨by decide, by decide⟩ rfl rfl (Nat.le_of_ble_eq_true rfl) ?_
  intro r1c M1 hN
  replace h := hN
  clear hN
  refine g_if_eq C 29 dR_sheet_4 (by decide) (fun hc => ?_) (fun hc => ?_)
  · replace h := h.1 hc
    refine g_locals (lv' := [(0, .ref (ad 0))]) rfl ?_
    exact pB29  _ h
  · replace h := h.2 hc
    refine g_iload_n C dR_sheet_7 rfl ?_
    refine g_if_eq C 35 dR_sheet_8 (by decide) (fun hc => ?_) (fun hc => ?_)
    · replace h := h.1 hc
      refine g_locals (lv' := [(0, .ref (ad 0)), (1, iv a1), (2, iv a2), (3, iv a3)]) rfl ?_
      exact pB35  _ h
    · replace h := h.2 hc
      refine g_iload_n C dR_sheet_11 rfl ?_
      refine g_bipush C dR_sheet_12 rfl ?_
      refine g_icmp_eq C 35 dR_sheet_14 (by decide) (fun hc => ?_) (fun hc => ?_)
      · replace h := h.1 hc
        refine g_locals (lv' := [(0, .ref (ad 0)), (1, iv a1), (2, iv a2), (3, iv a3)]) rfl ?_
        exact pB35  _ h
      · replace h := h.2 hc
        refine g_iload_n C dR_sheet_17 rfl ?_
        refine g_bipush C dR_sheet_18 rfl ?_
        refine g_icmp_eq C 35 dR_sheet_20 (by decide) (fun hc => ?_) (fun hc => ?_)
        · replace h := h.1 hc
          refine g_locals (lv' := [(0, .ref (ad 0)), (1, iv a1), (2, iv a2), (3, iv a3)]) rfl ?_
          exact pB35  _ h
        · replace h := h.2 hc
          refine g_iload_n C dR_sheet_23 rfl ?_
          refine g_bipush C dR_sheet_24 rfl ?_
          refine g_icmp_eq C 35 dR_sheet_26 (by decide) (fun hc => ?_) (fun hc => ?_)
          · replace h := h.1 hc
            refine g_locals (lv' := [(0, .ref (ad 0)), (1, iv a1), (2, iv a2), (3, iv a3)]) rfl ?_
            exact pB35  _ h
          · replace h := h.2 hc
            refine g_locals (lv' := [(0, .ref (ad 0))]) rfl ?_
            exact pB29  _ h
def w_Rput (a1 : Int) (a2 : Int) (a3 : Int) (M : gSt) (k : Int → gSt → Prop) : Prop :=
w_RisSheet a1 M (fun r1c M1 => 
  (¬ wrap r1c = 0 →
    (0 ≤ a1 ∧ a1 < 4) ∧ (
    (¬ wrap (M1 11 a1) = 0 →
      (0 ≤ a1 ∧ a1 < 4) ∧ (w_Rin a2 0 ((M1 12 a1) - 1) M1 (fun r38c M38 => 
      (¬ wrap r38c = 0 →
        (0 ≤ a1 ∧ a1 < 4) ∧ (∀ x4_59 : Int, x4_59 = 32 - (M38 11 a1) → ((0 ≤ (24 * a1) + a2 ∧ (24 * a1) + a2 < 96) ∧ (∀ M78 : gSt, M78 = wr M38 13 ((24 * a1) + a2) (xshr (xshl a3 x4_59) x4_59) → (k 1 M78))))) ∧
      (wrap r38c = 0 →
        w_Rerror 1 M38 (fun r46c M46 => k r46c M46))))) ∧
    (wrap (M1 11 a1) = 0 →
      w_Rerror 2 M1 (fun r24c M24 => k r24c M24)))) ∧
  (wrap r1c = 0 →
    w_Rerror 1 M1 (fun r9c M9 => k r9c M9)))
set_option maxHeartbeats 4000000 in
set_option maxRecDepth 100000 in
theorem m_Rput {l : Launch} {D : va_G} {cl : List vw_C} {tys : List (ClassId × FieldType)} {ad : Nat → Nat} {cI : ClassId} {ci : Nat} {Z : (Nat → Prop) → State → Prop} (hci : cl[ci]? = some (RX9, TX9, 23)) {a1 : Int} {a2 : Int} {a3 : Int} {M : gSt} {k : Int → gSt → Prop} (h : w_Rput a1 a2 a3 M k) : MOi l yX9_put cX9_put 5 .int (rmR 2 42) D cl ((cI, .int) :: tys) (wR ad cI ci) tR Z [.ref (ad 0), iv a1, iv a2, iv a3] M k := by
  refine moi_intro (by decide +kernel) (Nat.le_of_ble_eq_true rfl) wi_294 ?_
  intro p e s m args below meth c A Q C hR
  refine g_locals (lv' := [(0, .ref (ad 0)), (1, iv a1), (2, iv a2), (3, iv a3)]) rfl ?_
  unfold w_Rput at h
  refine g_iload_n C dR_put_0 rfl ?_
  refine g_callSi C (nargs := 1) (st := []) (m_RisSheet hci h) gd_isSheet (by decide +kernel) ⟨rfl, rfl⟩ dR_put_1 ⟨by decide, by decide⟩ rfl rfl (Nat.le_of_ble_eq_true rfl) ?_
  intro r1c M1 hN
  replace h := hN
  clear hN
  refine g_if_ne C 13 dR_put_4 (by decide) (fun hc => ?_) (fun hc => ?_)
  · replace h := h.1 hc
    refine g_aload_n C dR_put_13 rfl ?_
    refine rf_bits C hci dR_put_14 ?_
    refine g_iload_n C dR_put_17 rfl ?_
    refine g_iald C (n := 4) dR_put_18 rfl (by decide) h.1 ?_
    replace h := h.2
    refine g_if_ne C 28 dR_put_19 (by decide) (fun hc => ?_) (fun hc => ?_)
    · replace h := h.1 hc
      refine g_iload_n C dR_put_28 rfl ?_
      refine g_iconst C dR_put_29 ?_
      refine g_aload_n C dR_put_30 rfl ?_
      refine rf_sizes C hci dR_put_31 ?_
      refine g_iload_n C dR_put_34 rfl ?_
      refine g_iald C (n := 4) dR_put_35 rfl (by decide) h.1 ?_
      replace h := h.2
      refine g_iconst C dR_put_36 ?_
      refine g_isub C dR_put_37 ?_
      refine g_callSi C (nargs := 3) (st := []) (m_Rin hci h) gd_in (by decide +kernel) ⟨rfl, rfl⟩ dR_put_38 ⟨by decide, by decide⟩ rfl rfl (Nat.le_of_ble_eq_true rfl) ?_
      intro r38c M38 hN
      replace h := hN
      clear hN
      refine g_if_ne C 50 dR_put_41 (by decide) (fun hc => ?_) (fun hc => ?_)
      · replace h := h.1 hc
        refine g_bipush C dR_put_50 rfl ?_
        refine g_aload_n C dR_put_52 rfl ?_
        refine rf_bits C hci dR_put_53 ?_
        refine g_iload_n C dR_put_56 rfl ?_
        refine g_iald C (n := 4) dR_put_57 rfl (by decide) h.1 ?_
        replace h := h.2
        refine g_isub C dR_put_58 ?_
        refine g_name (fun x4_59 hx4_59 => ?_)
        replace h := h x4_59 hx4_59
        refine g_istore C dR_put_59 (by decide) rfl ?_
        refine g_locals (lv' := [(0, .ref (ad 0)), (1, iv a1), (2, iv a2), (3, iv a3), (4, iv x4_59)]) rfl ?_
        refine g_aload_n C dR_put_61 rfl ?_
        refine rf_number C hci dR_put_62 ?_
        refine g_bipush C dR_put_65 rfl ?_
        refine g_iload_n C dR_put_67 rfl ?_
        refine g_imul C dR_put_68 ?_
        refine g_iload_n C dR_put_69 rfl ?_
        refine g_iadd C dR_put_70 ?_
        refine g_iload_n C dR_put_71 rfl ?_
        refine g_iload C dR_put_72 rfl ?_
        refine g_ishl C dR_put_74 ?_
        refine g_iload C dR_put_75 rfl ?_
        refine g_ishr C dR_put_77 ?_
        refine g_iast C (n := 96) dR_put_78 rfl (by decide) h.1 ?_
        replace h := h.2
        refine g_memname (fun M78 hM78 => ?_)
        replace h := h M78 hM78
        refine g_iconst C dR_put_79 ?_
        exact hR _ _ _ _ dR_put_80 rfl h
      · replace h := h.2 hc
        refine g_aload_n C dR_put_44 rfl ?_
        refine g_iconst C dR_put_45 ?_
        refine g_callVi C (nargs := 1) (o := 0) (st := []) (m_Rerror hci h) rfl (by decide) hci rfl gd_error (by decide +kernel) ⟨rfl, rfl⟩ dR_put_46 ⟨by decide, by decide⟩ rfl rfl (Nat.le_of_ble_eq_true rfl) ?_
        intro r46c M46 hN
        replace h := hN
        clear hN
        exact hR _ _ _ _ dR_put_49 rfl h
    · replace h := h.2 hc
      refine g_aload_n C dR_put_22 rfl ?_
      refine g_iconst C dR_put_23 ?_
      refine g_callVi C (nargs := 1) (o := 0) (st := []) (m_Rerror hci h) rfl (by decide) hci rfl gd_error (by decide +kernel) ⟨rfl, rfl⟩ dR_put_24 ⟨by decide, by decide⟩ rfl rfl (Nat.le_of_ble_eq_true rfl) ?_
      intro r24c M24 hN
      replace h := hN
      clear hN
      exact hR _ _ _ _ dR_put_27 rfl h
  · replace h := h.2 hc
    refine g_aload_n C dR_put_7 rfl ?_
    refine g_iconst C dR_put_8 ?_
    refine g_callVi C (nargs := 1) (o := 0) (st := []) (m_Rerror hci h) rfl (by decide) hci rfl gd_error (by decide +kernel) ⟨rfl, rfl⟩ dR_put_9 ⟨by decide, by decide⟩ rfl rfl (Nat.le_of_ble_eq_true rfl) ?_
    intro r9c M9 hN
    replace h := hN
    clear hN
    exact hR _ _ _ _ dR_put_12 rfl h
def wB_Rmove_14 (a1 : Int) (a2 : Int) (a3 : Int) (a4 : Int) (a5 : Int) (k : Int → gSt → Prop)   (M : gSt) : Prop :=
w_Rerror 1 M (fun r16c M16 => k r16c M16)
def wB_Rmove_38 (a1 : Int) (a2 : Int) (a3 : Int) (a4 : Int) (a5 : Int) (k : Int → gSt → Prop)   (M : gSt) : Prop :=
w_Rerror 2 M (fun r40c M40 => k r40c M40)
def wB_Rmove_106 (a1 : Int) (a2 : Int) (a3 : Int) (a4 : Int) (a5 : Int) (k : Int → gSt → Prop)   (M : gSt) : Prop :=
w_Rerror 1 M (fun r108c M108 => k r108c M108)
def wC_Rmove_115 (a1 : Int) (a2 : Int) (a3 : Int) (a4 : Int) (a5 : Int) (k : Int → gSt → Prop) (r115 : Int → gSt → Prop) (X115_149 : gSt → Prop) (v6 : Int) (M : gSt) : Prop :=

  (wrap a5 ≤ wrap v6 →
    X115_149  M) ∧
  (wrap v6 < wrap a5 →
    (0 ≤ ((24 * a1) + a2) + v6 ∧ ((24 * a1) + a2) + v6 < 96) ∧ ((0 ≤ v6 ∧ v6 < 24) ∧ (∀ M142 : gSt, M142 = wr M 14 v6 (M 13 (((24 * a1) + a2) + v6)) → (r115 (v6 + 1) M142))))
def wL_Rmove_115 (a1 : Int) (a2 : Int) (a3 : Int) (a4 : Int) (a5 : Int) (k : Int → gSt → Prop)  (X115_149 : gSt → Prop) : Nat → Int → gSt → Prop
  | 0 => fun _ _ => False
  | n + 1 => fun v6 M => wC_Rmove_115 a1 a2 a3 a4 a5 k  (wL_Rmove_115 a1 a2 a3 a4 a5 k  X115_149 n) X115_149 v6 M
def wC_Rmove_152 (a1 : Int) (a2 : Int) (a3 : Int) (a4 : Int) (a5 : Int) (k : Int → gSt → Prop) (r152 : Int → gSt → Prop) (X152_187 : gSt → Prop) (v6 : Int) (M : gSt) : Prop :=

  (wrap a5 ≤ wrap v6 →
    X152_187  M) ∧
  (wrap v6 < wrap a5 →
    (0 ≤ v6 ∧ v6 < 24) ∧ ((0 ≤ ((24 * a3) + a4) + v6 ∧ ((24 * a3) + a4) + v6 < 96) ∧ (∀ M180 : gSt, M180 = wr M 13 (((24 * a3) + a4) + v6) (M 14 v6) → (r152 (v6 + 1) M180))))
def wL_Rmove_152 (a1 : Int) (a2 : Int) (a3 : Int) (a4 : Int) (a5 : Int) (k : Int → gSt → Prop)  (X152_187 : gSt → Prop) : Nat → Int → gSt → Prop
  | 0 => fun _ _ => False
  | n + 1 => fun v6 M => wC_Rmove_152 a1 a2 a3 a4 a5 k  (wL_Rmove_152 a1 a2 a3 a4 a5 k  X152_187 n) X152_187 v6 M
def w_Rmove (a1 : Int) (a2 : Int) (a3 : Int) (a4 : Int) (a5 : Int) (M : gSt) (k : Int → gSt → Prop) : Prop :=
w_RisSheet a1 M (fun r1c M1 => 
  (wrap r1c = 0 →
    wB_Rmove_14 a1 a2 a3 a4 a5 k   M1) ∧
  (¬ wrap r1c = 0 →
    w_RisSheet a3 M1 (fun r8c M8 => 
    (¬ wrap r8c = 0 →
      (0 ≤ a1 ∧ a1 < 4) ∧ (
      (wrap (M8 11 a1) = 0 →
        wB_Rmove_38 a1 a2 a3 a4 a5 k   M8) ∧
      (¬ wrap (M8 11 a1) = 0 →
        (0 ≤ a3 ∧ a3 < 4) ∧ (
        (¬ wrap (M8 11 a3) = 0 →
          (0 ≤ a1 ∧ a1 < 4) ∧ ((0 ≤ a3 ∧ a3 < 4) ∧ (
          (wrap (M8 11 a1) = wrap (M8 11 a3) →

            (wrap a5 < 0 →
              wB_Rmove_106 a1 a2 a3 a4 a5 k   M8) ∧
            (0 ≤ wrap a5 →

              (wrap a2 < 0 →
                wB_Rmove_106 a1 a2 a3 a4 a5 k   M8) ∧
              (0 ≤ wrap a2 →

                (wrap a4 < 0 →
                  wB_Rmove_106 a1 a2 a3 a4 a5 k   M8) ∧
                (0 ≤ wrap a4 →
                  (0 ≤ a1 ∧ a1 < 4) ∧ (
                  (wrap ((M8 12 a1) - a5) < wrap a2 →
                    wB_Rmove_106 a1 a2 a3 a4 a5 k   M8) ∧
                  (wrap a2 ≤ wrap ((M8 12 a1) - a5) →
                    (0 ≤ a3 ∧ a3 < 4) ∧ (
                    (wrap a4 ≤ wrap ((M8 12 a3) - a5) →
                      ∃ n, wL_Rmove_115 a1 a2 a3 a4 a5 k  (fun  M115 =>
                        ∃ n, wL_Rmove_152 a1 a2 a3 a4 a5 k  (fun  M152 =>
                          k a5 M152) n 0 M115) n 0 M8) ∧
                    (wrap ((M8 12 a3) - a5) < wrap a4 →
                      wB_Rmove_106 a1 a2 a3 a4 a5 k   M8)))))))) ∧
          (¬ wrap (M8 11 a1) = wrap (M8 11 a3) →
            w_Rerror 5 M8 (fun r61c M61 => k r61c M61))))) ∧
        (wrap (M8 11 a3) = 0 →
          wB_Rmove_38 a1 a2 a3 a4 a5 k   M8))))) ∧
    (wrap r8c = 0 →
      wB_Rmove_14 a1 a2 a3 a4 a5 k   M8))))
set_option maxHeartbeats 4000000 in
set_option maxRecDepth 100000 in
theorem m_Rmove {l : Launch} {D : va_G} {cl : List vw_C} {tys : List (ClassId × FieldType)} {ad : Nat → Nat} {cI : ClassId} {ci : Nat} {Z : (Nat → Prop) → State → Prop} (hci : cl[ci]? = some (RX9, TX9, 23)) {a1 : Int} {a2 : Int} {a3 : Int} {a4 : Int} {a5 : Int} {M : gSt} {k : Int → gSt → Prop} (h : w_Rmove a1 a2 a3 a4 a5 M k) : MOi l yX9_move cX9_move 7 .int (rmR 2 42) D cl ((cI, .int) :: tys) (wR ad cI ci) tR Z [.ref (ad 0), iv a1, iv a2, iv a3, iv a4, iv a5] M k := by
  refine moi_intro (by decide +kernel) (Nat.le_of_ble_eq_true rfl) wi_295 ?_
  intro p e s m args below meth c A Q C hR
  have pB14 : ∀    (M : gSt), wB_Rmove_14 a1 a2 a3 a4 a5 k   M → gG p l e (rmR 2 42) s m args below meth c Q D cl A (wR ad cI ci) 7 14 [(0, .ref (ad 0))] [] M := by
    intro    M h
    unfold wB_Rmove_14 at h
    refine g_aload_n C dR_move_14 rfl ?_
    refine g_iconst C dR_move_15 ?_
    refine g_callVi C (nargs := 1) (o := 0) (st := []) (m_Rerror hci h) rfl (by decide) hci rfl gd_error (by decide +kernel) ⟨rfl, rfl⟩ dR_move_16 ⟨by decide, by decide⟩ rfl rfl (Nat.le_of_ble_eq_true rfl) ?_
    intro r16c M16 hN
    replace h := hN
    clear hN
    exact hR _ _ _ _ dR_move_19 rfl h
  have pB38 : ∀    (M : gSt), wB_Rmove_38 a1 a2 a3 a4 a5 k   M → gG p l e (rmR 2 42) s m args below meth c Q D cl A (wR ad cI ci) 7 38 [(0, .ref (ad 0))] [] M := by
    intro    M h
    unfold wB_Rmove_38 at h
    refine g_aload_n C dR_move_38 rfl ?_
    refine g_iconst C dR_move_39 ?_
    refine g_callVi C (nargs := 1) (o := 0) (st := []) (m_Rerror hci h) rfl (by decide) hci rfl gd_error (by decide +kernel) ⟨rfl, rfl⟩ dR_move_40 ⟨by decide, by decide⟩ rfl rfl (Nat.le_of_ble_eq_true rfl) ?_
    intro r40c M40 hN
    replace h := hN
    clear hN
    exact hR _ _ _ _ dR_move_43 rfl h
  have pB106 : ∀    (M : gSt), wB_Rmove_106 a1 a2 a3 a4 a5 k   M → gG p l e (rmR 2 42) s m args below meth c Q D cl A (wR ad cI ci) 7 106 [(0, .ref (ad 0))] [] M := by
    intro    M h
    unfold wB_Rmove_106 at h
    refine g_aload_n C dR_move_106 rfl ?_
    refine g_iconst C dR_move_107 ?_
    refine g_callVi C (nargs := 1) (o := 0) (st := []) (m_Rerror hci h) rfl (by decide) hci rfl gd_error (by decide +kernel) ⟨rfl, rfl⟩ dR_move_108 ⟨by decide, by decide⟩ rfl rfl (Nat.le_of_ble_eq_true rfl) ?_
    intro r108c M108 hN
    replace h := hN
    clear hN
    exact hR _ _ _ _ dR_move_111 rfl h
  have pC115 : ∀ (r115 : Int → gSt → Prop) (X115_149 : gSt → Prop) (hr115 : ∀ (v6 : Int) (M : gSt), r115 v6 M → gG p l e (rmR 2 42) s m args below meth c Q D cl A (wR ad cI ci) 7 115 [(0, .ref (ad 0)), (1, iv a1), (2, iv a2), (3, iv a3), (4, iv a4), (5, iv a5), (6, iv v6)] [] M) (hX115_149 : ∀  (M : gSt), X115_149  M → gG p l e (rmR 2 42) s m args below meth c Q D cl A (wR ad cI ci) 7 149 [(0, .ref (ad 0)), (3, iv a3), (4, iv a4), (5, iv a5)] [] M) (v6 : Int) (M : gSt), wC_Rmove_115 a1 a2 a3 a4 a5 k r115 X115_149 v6 M → gG p l e (rmR 2 42) s m args below meth c Q D cl A (wR ad cI ci) 7 115 [(0, .ref (ad 0)), (1, iv a1), (2, iv a2), (3, iv a3), (4, iv a4), (5, iv a5), (6, iv v6)] [] M := by
    intro r115 X115_149 hr115 hX115_149 v6 M h
    unfold wC_Rmove_115 at h
    refine g_iload C dR_move_115 rfl ?_
    refine g_iload C dR_move_117 rfl ?_
    refine g_icmp_ge C 149 dR_move_119 (by decide) (fun hc => ?_) (fun hc => ?_)
    · replace h := h.1 hc
      refine g_locals (lv' := [(0, .ref (ad 0)), (3, iv a3), (4, iv a4), (5, iv a5)]) rfl ?_
      exact hX115_149  _ h
    · replace h := h.2 hc
      refine g_aload_n C dR_move_122 rfl ?_
      refine rf_aside C hci dR_move_123 ?_
      refine g_iload C dR_move_126 rfl ?_
      refine g_aload_n C dR_move_128 rfl ?_
      refine rf_number C hci dR_move_129 ?_
      refine g_bipush C dR_move_132 rfl ?_
      refine g_iload_n C dR_move_134 rfl ?_
      refine g_imul C dR_move_135 ?_
      refine g_iload_n C dR_move_136 rfl ?_
      refine g_iadd C dR_move_137 ?_
      refine g_iload C dR_move_138 rfl ?_
      refine g_iadd C dR_move_140 ?_
      refine g_iald C (n := 96) dR_move_141 rfl (by decide) h.1 ?_
      replace h := h.2
      refine g_iast C (n := 24) dR_move_142 rfl (by decide) h.1 ?_
      replace h := h.2
      refine g_memname (fun M142 hM142 => ?_)
      replace h := h M142 hM142
      refine g_iinc C dR_move_143 rfl (by decide) rfl ?_
      refine g_locals (lv' := [(0, .ref (ad 0)), (1, iv a1), (2, iv a2), (3, iv a3), (4, iv a4), (5, iv a5), (6, iv (v6 + 1))]) rfl ?_
      refine g_goto C 115 dR_move_146 (by decide) ?_
      refine g_locals (lv' := [(0, .ref (ad 0)), (1, iv a1), (2, iv a2), (3, iv a3), (4, iv a4), (5, iv a5), (6, iv (v6 + 1))]) rfl ?_
      exact hr115 _  _ h
  have pL115 : ∀  (X115_149 : gSt → Prop) (hX115_149 : ∀  (M : gSt), X115_149  M → gG p l e (rmR 2 42) s m args below meth c Q D cl A (wR ad cI ci) 7 149 [(0, .ref (ad 0)), (3, iv a3), (4, iv a4), (5, iv a5)] [] M) (n : Nat) (v6 : Int) (M : gSt), wL_Rmove_115 a1 a2 a3 a4 a5 k  X115_149 n v6 M → gG p l e (rmR 2 42) s m args below meth c Q D cl A (wR ad cI ci) 7 115 [(0, .ref (ad 0)), (1, iv a1), (2, iv a2), (3, iv a3), (4, iv a4), (5, iv a5), (6, iv v6)] [] M := by
    intro  X115_149 hX115_149 n
    induction n with
    | zero => intro v6 M h; exact h.elim
    | succ n ih =>
      intro v6 M h
      exact pC115  (wL_Rmove_115 a1 a2 a3 a4 a5 k  X115_149 n) X115_149 ih hX115_149 v6 M h
  have pC152 : ∀ (r152 : Int → gSt → Prop) (X152_187 : gSt → Prop) (hr152 : ∀ (v6 : Int) (M : gSt), r152 v6 M → gG p l e (rmR 2 42) s m args below meth c Q D cl A (wR ad cI ci) 7 152 [(0, .ref (ad 0)), (3, iv a3), (4, iv a4), (5, iv a5), (6, iv v6)] [] M) (hX152_187 : ∀  (M : gSt), X152_187  M → gG p l e (rmR 2 42) s m args below meth c Q D cl A (wR ad cI ci) 7 187 [(5, iv a5)] [] M) (v6 : Int) (M : gSt), wC_Rmove_152 a1 a2 a3 a4 a5 k r152 X152_187 v6 M → gG p l e (rmR 2 42) s m args below meth c Q D cl A (wR ad cI ci) 7 152 [(0, .ref (ad 0)), (3, iv a3), (4, iv a4), (5, iv a5), (6, iv v6)] [] M := by
    intro r152 X152_187 hr152 hX152_187 v6 M h
    unfold wC_Rmove_152 at h
    refine g_iload C dR_move_152 rfl ?_
    refine g_iload C dR_move_154 rfl ?_
    refine g_icmp_ge C 187 dR_move_156 (by decide) (fun hc => ?_) (fun hc => ?_)
    · replace h := h.1 hc
      refine g_locals (lv' := [(5, iv a5)]) rfl ?_
      exact hX152_187  _ h
    · replace h := h.2 hc
      refine g_aload_n C dR_move_159 rfl ?_
      refine rf_number C hci dR_move_160 ?_
      refine g_bipush C dR_move_163 rfl ?_
      refine g_iload_n C dR_move_165 rfl ?_
      refine g_imul C dR_move_166 ?_
      refine g_iload C dR_move_167 rfl ?_
      refine g_iadd C dR_move_169 ?_
      refine g_iload C dR_move_170 rfl ?_
      refine g_iadd C dR_move_172 ?_
      refine g_aload_n C dR_move_173 rfl ?_
      refine rf_aside C hci dR_move_174 ?_
      refine g_iload C dR_move_177 rfl ?_
      refine g_iald C (n := 24) dR_move_179 rfl (by decide) h.1 ?_
      replace h := h.2
      refine g_iast C (n := 96) dR_move_180 rfl (by decide) h.1 ?_
      replace h := h.2
      refine g_memname (fun M180 hM180 => ?_)
      replace h := h M180 hM180
      refine g_iinc C dR_move_181 rfl (by decide) rfl ?_
      refine g_locals (lv' := [(0, .ref (ad 0)), (3, iv a3), (4, iv a4), (5, iv a5), (6, iv (v6 + 1))]) rfl ?_
      refine g_goto C 152 dR_move_184 (by decide) ?_
      refine g_locals (lv' := [(0, .ref (ad 0)), (3, iv a3), (4, iv a4), (5, iv a5), (6, iv (v6 + 1))]) rfl ?_
      exact hr152 _  _ h
  have pL152 : ∀  (X152_187 : gSt → Prop) (hX152_187 : ∀  (M : gSt), X152_187  M → gG p l e (rmR 2 42) s m args below meth c Q D cl A (wR ad cI ci) 7 187 [(5, iv a5)] [] M) (n : Nat) (v6 : Int) (M : gSt), wL_Rmove_152 a1 a2 a3 a4 a5 k  X152_187 n v6 M → gG p l e (rmR 2 42) s m args below meth c Q D cl A (wR ad cI ci) 7 152 [(0, .ref (ad 0)), (3, iv a3), (4, iv a4), (5, iv a5), (6, iv v6)] [] M := by
    intro  X152_187 hX152_187 n
    induction n with
    | zero => intro v6 M h; exact h.elim
    | succ n ih =>
      intro v6 M h
      exact pC152  (wL_Rmove_152 a1 a2 a3 a4 a5 k  X152_187 n) X152_187 ih hX152_187 v6 M h
  refine g_locals (lv' := [(0, .ref (ad 0)), (1, iv a1), (2, iv a2), (3, iv a3), (4, iv a4), (5, iv a5)]) rfl ?_
  unfold w_Rmove at h
  refine g_iload_n C dR_move_0 rfl ?_
  refine g_callSi C (nargs := 1) (st := []) (m_RisSheet hci h) gd_isSheet (by decide +kernel) ⟨rfl, rfl⟩ dR_move_1 ⟨by decide, by decide⟩ rfl rfl (Nat.le_of_ble_eq_true rfl) ?_
  intro r1c M1 hN
  replace h := hN
  clear hN
  refine g_if_eq C 14 dR_move_4 (by decide) (fun hc => ?_) (fun hc => ?_)
  · replace h := h.1 hc
    refine g_locals (lv' := [(0, .ref (ad 0))]) rfl ?_
    exact pB14  _ h
  · replace h := h.2 hc
    refine g_iload_n C dR_move_7 rfl ?_
    refine g_callSi C (nargs := 1) (st := []) (m_RisSheet hci h) gd_isSheet (by decide +kernel) ⟨rfl, rfl⟩ dR_move_8 ⟨by decide, by decide⟩ rfl rfl (Nat.le_of_ble_eq_true rfl) ?_
    intro r8c M8 hN
    replace h := hN
    clear hN
    refine g_if_ne C 20 dR_move_11 (by decide) (fun hc => ?_) (fun hc => ?_)
    · replace h := h.1 hc
      refine g_aload_n C dR_move_20 rfl ?_
      refine rf_bits C hci dR_move_21 ?_
      refine g_iload_n C dR_move_24 rfl ?_
      refine g_iald C (n := 4) dR_move_25 rfl (by decide) h.1 ?_
      replace h := h.2
      refine g_if_eq C 38 dR_move_26 (by decide) (fun hc => ?_) (fun hc => ?_)
      · replace h := h.1 hc
        refine g_locals (lv' := [(0, .ref (ad 0))]) rfl ?_
        exact pB38  _ h
      · replace h := h.2 hc
        refine g_aload_n C dR_move_29 rfl ?_
        refine rf_bits C hci dR_move_30 ?_
        refine g_iload_n C dR_move_33 rfl ?_
        refine g_iald C (n := 4) dR_move_34 rfl (by decide) h.1 ?_
        replace h := h.2
        refine g_if_ne C 44 dR_move_35 (by decide) (fun hc => ?_) (fun hc => ?_)
        · replace h := h.1 hc
          refine g_aload_n C dR_move_44 rfl ?_
          refine rf_bits C hci dR_move_45 ?_
          refine g_iload_n C dR_move_48 rfl ?_
          refine g_iald C (n := 4) dR_move_49 rfl (by decide) h.1 ?_
          replace h := h.2
          refine g_aload_n C dR_move_50 rfl ?_
          refine rf_bits C hci dR_move_51 ?_
          refine g_iload_n C dR_move_54 rfl ?_
          refine g_iald C (n := 4) dR_move_55 rfl (by decide) h.1 ?_
          replace h := h.2
          refine g_icmp_eq C 65 dR_move_56 (by decide) (fun hc => ?_) (fun hc => ?_)
          · replace h := h.1 hc
            refine g_iload C dR_move_65 rfl ?_
            refine g_if_lt C 106 dR_move_67 (by decide) (fun hc => ?_) (fun hc => ?_)
            · replace h := h.1 hc
              refine g_locals (lv' := [(0, .ref (ad 0))]) rfl ?_
              exact pB106  _ h
            · replace h := h.2 hc
              refine g_iload_n C dR_move_70 rfl ?_
              refine g_if_lt C 106 dR_move_71 (by decide) (fun hc => ?_) (fun hc => ?_)
              · replace h := h.1 hc
                refine g_locals (lv' := [(0, .ref (ad 0))]) rfl ?_
                exact pB106  _ h
              · replace h := h.2 hc
                refine g_iload C dR_move_74 rfl ?_
                refine g_if_lt C 106 dR_move_76 (by decide) (fun hc => ?_) (fun hc => ?_)
                · replace h := h.1 hc
                  refine g_locals (lv' := [(0, .ref (ad 0))]) rfl ?_
                  exact pB106  _ h
                · replace h := h.2 hc
                  refine g_iload_n C dR_move_79 rfl ?_
                  refine g_aload_n C dR_move_80 rfl ?_
                  refine rf_sizes C hci dR_move_81 ?_
                  refine g_iload_n C dR_move_84 rfl ?_
                  refine g_iald C (n := 4) dR_move_85 rfl (by decide) h.1 ?_
                  replace h := h.2
                  refine g_iload C dR_move_86 rfl ?_
                  refine g_isub C dR_move_88 ?_
                  refine g_icmp_gt C 106 dR_move_89 (by decide) (fun hc => ?_) (fun hc => ?_)
                  · replace h := h.1 hc
                    refine g_locals (lv' := [(0, .ref (ad 0))]) rfl ?_
                    exact pB106  _ h
                  · replace h := h.2 hc
                    refine g_iload C dR_move_92 rfl ?_
                    refine g_aload_n C dR_move_94 rfl ?_
                    refine rf_sizes C hci dR_move_95 ?_
                    refine g_iload_n C dR_move_98 rfl ?_
                    refine g_iald C (n := 4) dR_move_99 rfl (by decide) h.1 ?_
                    replace h := h.2
                    refine g_iload C dR_move_100 rfl ?_
                    refine g_isub C dR_move_102 ?_
                    refine g_icmp_le C 112 dR_move_103 (by decide) (fun hc => ?_) (fun hc => ?_)
                    · replace h := h.1 hc
                      refine g_iconst C dR_move_112 ?_
                      refine g_istore C dR_move_113 (by decide) rfl ?_
                      refine g_locals (lv' := [(0, .ref (ad 0)), (1, iv a1), (2, iv a2), (3, iv a3), (4, iv a4), (5, iv a5), (6, iv 0)]) rfl ?_
                      refine g_locals (lv' := [(0, .ref (ad 0)), (1, iv a1), (2, iv a2), (3, iv a3), (4, iv a4), (5, iv a5), (6, iv 0)]) rfl ?_
                      obtain ⟨n, h⟩ := h
                      refine pL115 _ ?_ n _ _ h
                      · intro  M115 hN
                        replace h := hN
                        clear hN
                        refine g_iconst C dR_move_149 ?_
                        refine g_istore C dR_move_150 (by decide) rfl ?_
                        refine g_locals (lv' := [(0, .ref (ad 0)), (3, iv a3), (4, iv a4), (5, iv a5), (6, iv 0)]) rfl ?_
                        refine g_locals (lv' := [(0, .ref (ad 0)), (3, iv a3), (4, iv a4), (5, iv a5), (6, iv 0)]) rfl ?_
                        obtain ⟨n, h⟩ := h
                        refine pL152 _ ?_ n _ _ h
                        · intro  M152 hN
                          replace h := hN
                          clear hN
                          refine g_iload C dR_move_187 rfl ?_
                          exact hR _ _ _ _ dR_move_189 rfl h
                    · replace h := h.2 hc
                      refine g_locals (lv' := [(0, .ref (ad 0))]) rfl ?_
                      exact pB106  _ h
          · replace h := h.2 hc
            refine g_aload_n C dR_move_59 rfl ?_
            refine g_iconst C dR_move_60 ?_
            refine g_callVi C (nargs := 1) (o := 0) (st := []) (m_Rerror hci h) rfl (by decide) hci rfl gd_error (by decide +kernel) ⟨rfl, rfl⟩ dR_move_61 ⟨by decide, by decide⟩ rfl rfl (Nat.le_of_ble_eq_true rfl) ?_
            intro r61c M61 hN
            replace h := hN
            clear hN
            exact hR _ _ _ _ dR_move_64 rfl h
        · replace h := h.2 hc
          refine g_locals (lv' := [(0, .ref (ad 0))]) rfl ?_
          exact pB38  _ h
    · replace h := h.2 hc
      refine g_locals (lv' := [(0, .ref (ad 0))]) rfl ?_
      exact pB14  _ h
def w_Rlacks (a1 : Int) (M : gSt) (k : Int → gSt → Prop) : Prop :=
w_RisSheet a1 M (fun r1c M1 => 
  (¬ wrap r1c = 0 →
    (0 ≤ a1 ∧ a1 < 4) ∧ (
    (¬ wrap (M1 11 a1) = 0 →
      k 0 M1) ∧
    (wrap (M1 11 a1) = 0 →
      k 2 M1))) ∧
  (wrap r1c = 0 →
    k 1 M1))
set_option maxHeartbeats 4000000 in
set_option maxRecDepth 100000 in
theorem m_Rlacks {l : Launch} {D : va_G} {cl : List vw_C} {tys : List (ClassId × FieldType)} {ad : Nat → Nat} {cI : ClassId} {ci : Nat} {Z : (Nat → Prop) → State → Prop} (hci : cl[ci]? = some (RX9, TX9, 23)) {a1 : Int} {M : gSt} {k : Int → gSt → Prop} (h : w_Rlacks a1 M k) : MOi l yX9_lacks cX9_lacks 2 .int (rmR 2 42) D cl ((cI, .int) :: tys) (wR ad cI ci) tR Z [.ref (ad 0), iv a1] M k := by
  refine moi_intro (by decide +kernel) (Nat.le_of_ble_eq_true rfl) wi_296 ?_
  intro p e s m args below meth c A Q C hR
  refine g_locals (lv' := [(0, .ref (ad 0)), (1, iv a1)]) rfl ?_
  unfold w_Rlacks at h
  refine g_iload_n C dR_lacks_0 rfl ?_
  refine g_callSi C (nargs := 1) (st := []) (m_RisSheet hci h) gd_isSheet (by decide +kernel) ⟨rfl, rfl⟩ dR_lacks_1 ⟨by decide, by decide⟩ rfl rfl (Nat.le_of_ble_eq_true rfl) ?_
  intro r1c M1 hN
  replace h := hN
  clear hN
  refine g_if_ne C 11 dR_lacks_4 (by decide) (fun hc => ?_) (fun hc => ?_)
  · replace h := h.1 hc
    refine g_aload_n C dR_lacks_11 rfl ?_
    refine rf_bits C hci dR_lacks_12 ?_
    refine g_iload_n C dR_lacks_15 rfl ?_
    refine g_iald C (n := 4) dR_lacks_16 rfl (by decide) h.1 ?_
    replace h := h.2
    refine g_if_ne C 24 dR_lacks_17 (by decide) (fun hc => ?_) (fun hc => ?_)
    · replace h := h.1 hc
      refine g_iconst C dR_lacks_24 ?_
      exact hR _ _ _ _ dR_lacks_25 rfl h
    · replace h := h.2 hc
      refine g_iconst C dR_lacks_20 ?_
      refine g_goto C 25 dR_lacks_21 (by decide) ?_
      exact hR _ _ _ _ dR_lacks_25 rfl h
  · replace h := h.2 hc
    refine g_iconst C dR_lacks_7 ?_
    refine g_goto C 25 dR_lacks_8 (by decide) ?_
    exact hR _ _ _ _ dR_lacks_25 rfl h
def wC_Rpapers_24 (a1 : Int) (k : Int → gSt → Prop) (r24 : Int → Int → gSt → Prop) (X24_140 : Int → gSt → Prop) (v3 : Int) (v4 : Int) (M : gSt) : Prop :=
(0 ≤ a1 ∧ a1 < 4) ∧ (
  (wrap (M 12 a1) ≤ wrap ((3 * v3) + 2) →
    X24_140 v3 M) ∧
  (wrap ((3 * v3) + 2) < wrap (M 12 a1) →

    (6 ≤ wrap (M 1 3) →
      X24_140 v3 M) ∧
    (wrap (M 1 3) < 6 →
      (0 ≤ v4 + (3 * v3) ∧ v4 + (3 * v3) < 96) ∧ ((0 ≤ (v4 + (3 * v3)) + 1 ∧ (v4 + (3 * v3)) + 1 < 96) ∧ ((0 ≤ (v4 + (3 * v3)) + 2 ∧ (v4 + (3 * v3)) + 2 < 96) ∧ (w_RisPaper (M 13 (v4 + (3 * v3))) (M 13 ((v4 + (3 * v3)) + 1)) (M 13 ((v4 + (3 * v3)) + 2)) M (fun r87c M87 => 
      (wrap r87c = 0 →
        X24_140 v3 M87) ∧
      (¬ wrap r87c = 0 →
        (0 ≤ v4 + (3 * v3) ∧ v4 + (3 * v3) < 96) ∧ ((0 ≤ (v4 + (3 * v3)) + 1 ∧ (v4 + (3 * v3)) + 1 < 96) ∧ ((0 ≤ (v4 + (3 * v3)) + 2 ∧ (v4 + (3 * v3)) + 2 < 96) ∧ (w_RaddPaper (M87 13 (v4 + (3 * v3))) (M87 13 ((v4 + (3 * v3)) + 1)) (M87 13 ((v4 + (3 * v3)) + 2)) M87 (fun M131 => r24 (v3 + 1) v4 M131))))))))))))
def wL_Rpapers_24 (a1 : Int) (k : Int → gSt → Prop)  (X24_140 : Int → gSt → Prop) : Nat → Int → Int → gSt → Prop
  | 0 => fun _ _ _ => False
  | n + 1 => fun v3 v4 M => wC_Rpapers_24 a1 k  (wL_Rpapers_24 a1 k  X24_140 n) X24_140 v3 v4 M
def w_Rpapers (a1 : Int) (M : gSt) (k : Int → gSt → Prop) : Prop :=
w_Rlacks a1 M (fun r2c M2 => 
  (wrap r2c ≤ 0 →
    ∀ x4_22 : Int, x4_22 = 24 * a1 → (∃ n, wL_Rpapers_24 a1 k  (fun u3_24 M24 =>
      k u3_24 M24) n 0 x4_22 M2)) ∧
  (0 < wrap r2c →
    w_Rerror r2c M2 (fun r12c M12 => k r12c M12)))
set_option maxHeartbeats 4000000 in
set_option maxRecDepth 100000 in
theorem m_Rpapers {l : Launch} {D : va_G} {cl : List vw_C} {tys : List (ClassId × FieldType)} {ad : Nat → Nat} {cI : ClassId} {ci : Nat} {Z : (Nat → Prop) → State → Prop} (hci : cl[ci]? = some (RX9, TX9, 23)) {a1 : Int} {M : gSt} {k : Int → gSt → Prop} (h : w_Rpapers a1 M k) : MOi l yX9_papers cX9_papers 5 .int (rmR 3 66) D cl ((cI, .int) :: tys) (wR ad cI ci) tR Z [.ref (ad 0), iv a1] M k := by
  refine moi_intro (by decide +kernel) (Nat.le_of_ble_eq_true rfl) wi_300 ?_
  intro p e s m args below meth c A Q C hR
  have pC24 : ∀ (r24 : Int → Int → gSt → Prop) (X24_140 : Int → gSt → Prop) (hr24 : ∀ (v3 : Int) (v4 : Int) (M : gSt), r24 v3 v4 M → gG p l e (rmR 3 66) s m args below meth c Q D cl A (wR ad cI ci) 5 24 [(0, .ref (ad 0)), (1, iv a1), (3, iv v3), (4, iv v4)] [] M) (hX24_140 : ∀ (v3 : Int) (M : gSt), X24_140 v3 M → gG p l e (rmR 3 66) s m args below meth c Q D cl A (wR ad cI ci) 5 140 [(3, iv v3)] [] M) (v3 : Int) (v4 : Int) (M : gSt), wC_Rpapers_24 a1 k r24 X24_140 v3 v4 M → gG p l e (rmR 3 66) s m args below meth c Q D cl A (wR ad cI ci) 5 24 [(0, .ref (ad 0)), (1, iv a1), (3, iv v3), (4, iv v4)] [] M := by
    intro r24 X24_140 hr24 hX24_140 v3 v4 M h
    unfold wC_Rpapers_24 at h
    refine g_iconst C dR_papers_24 ?_
    refine g_iload_n C dR_papers_25 rfl ?_
    refine g_imul C dR_papers_26 ?_
    refine g_iconst C dR_papers_27 ?_
    refine g_iadd C dR_papers_28 ?_
    refine g_aload_n C dR_papers_29 rfl ?_
    refine rf_sizes C hci dR_papers_30 ?_
    refine g_iload_n C dR_papers_33 rfl ?_
    refine g_iald C (n := 4) dR_papers_34 rfl (by decide) h.1 ?_
    replace h := h.2
    refine g_icmp_ge C 140 dR_papers_35 (by decide) (fun hc => ?_) (fun hc => ?_)
    · replace h := h.1 hc
      refine g_locals (lv' := [(3, iv v3)]) rfl ?_
      exact hX24_140 _  _ h
    · replace h := h.2 hc
      refine g_aload_n C dR_papers_38 rfl ?_
      refine rf_s C hci dR_papers_39 ?_
      refine g_iconst C dR_papers_42 ?_
      refine g_iald C (n := 536) dR_papers_43 rfl (by decide) ⟨by decide, by decide⟩ ?_
      refine g_bipush C dR_papers_44 rfl ?_
      refine g_icmp_ge C 140 dR_papers_46 (by decide) (fun hc => ?_) (fun hc => ?_)
      · replace h := h.1 hc
        refine g_locals (lv' := [(3, iv v3)]) rfl ?_
        exact hX24_140 _  _ h
      · replace h := h.2 hc
        refine g_aload_n C dR_papers_49 rfl ?_
        refine g_aload_n C dR_papers_50 rfl ?_
        refine rf_number C hci dR_papers_51 ?_
        refine g_iload C dR_papers_54 rfl ?_
        refine g_iconst C dR_papers_56 ?_
        refine g_iload_n C dR_papers_57 rfl ?_
        refine g_imul C dR_papers_58 ?_
        refine g_iadd C dR_papers_59 ?_
        refine g_iald C (n := 96) dR_papers_60 rfl (by decide) h.1 ?_
        replace h := h.2
        refine g_aload_n C dR_papers_61 rfl ?_
        refine rf_number C hci dR_papers_62 ?_
        refine g_iload C dR_papers_65 rfl ?_
        refine g_iconst C dR_papers_67 ?_
        refine g_iload_n C dR_papers_68 rfl ?_
        refine g_imul C dR_papers_69 ?_
        refine g_iadd C dR_papers_70 ?_
        refine g_iconst C dR_papers_71 ?_
        refine g_iadd C dR_papers_72 ?_
        refine g_iald C (n := 96) dR_papers_73 rfl (by decide) h.1 ?_
        replace h := h.2
        refine g_aload_n C dR_papers_74 rfl ?_
        refine rf_number C hci dR_papers_75 ?_
        refine g_iload C dR_papers_78 rfl ?_
        refine g_iconst C dR_papers_80 ?_
        refine g_iload_n C dR_papers_81 rfl ?_
        refine g_imul C dR_papers_82 ?_
        refine g_iadd C dR_papers_83 ?_
        refine g_iconst C dR_papers_84 ?_
        refine g_iadd C dR_papers_85 ?_
        refine g_iald C (n := 96) dR_papers_86 rfl (by decide) h.1 ?_
        replace h := h.2
        refine g_callVi C (nargs := 3) (o := 0) (st := []) (m_RisPaper hci h) rfl (by decide) hci rfl gd_isPaper (by decide +kernel) ⟨rfl, rfl⟩ dR_papers_87 ⟨by decide, by decide⟩ rfl rfl (Nat.le_of_ble_eq_true rfl) ?_
        intro r87c M87 hN
        replace h := hN
        clear hN
        refine g_if_eq C 140 dR_papers_90 (by decide) (fun hc => ?_) (fun hc => ?_)
        · replace h := h.1 hc
          refine g_locals (lv' := [(3, iv v3)]) rfl ?_
          exact hX24_140 _  _ h
        · replace h := h.2 hc
          refine g_aload_n C dR_papers_93 rfl ?_
          refine g_aload_n C dR_papers_94 rfl ?_
          refine rf_number C hci dR_papers_95 ?_
          refine g_iload C dR_papers_98 rfl ?_
          refine g_iconst C dR_papers_100 ?_
          refine g_iload_n C dR_papers_101 rfl ?_
          refine g_imul C dR_papers_102 ?_
          refine g_iadd C dR_papers_103 ?_
          refine g_iald C (n := 96) dR_papers_104 rfl (by decide) h.1 ?_
          replace h := h.2
          refine g_aload_n C dR_papers_105 rfl ?_
          refine rf_number C hci dR_papers_106 ?_
          refine g_iload C dR_papers_109 rfl ?_
          refine g_iconst C dR_papers_111 ?_
          refine g_iload_n C dR_papers_112 rfl ?_
          refine g_imul C dR_papers_113 ?_
          refine g_iadd C dR_papers_114 ?_
          refine g_iconst C dR_papers_115 ?_
          refine g_iadd C dR_papers_116 ?_
          refine g_iald C (n := 96) dR_papers_117 rfl (by decide) h.1 ?_
          replace h := h.2
          refine g_aload_n C dR_papers_118 rfl ?_
          refine rf_number C hci dR_papers_119 ?_
          refine g_iload C dR_papers_122 rfl ?_
          refine g_iconst C dR_papers_124 ?_
          refine g_iload_n C dR_papers_125 rfl ?_
          refine g_imul C dR_papers_126 ?_
          refine g_iadd C dR_papers_127 ?_
          refine g_iconst C dR_papers_128 ?_
          refine g_iadd C dR_papers_129 ?_
          refine g_iald C (n := 96) dR_papers_130 rfl (by decide) h.1 ?_
          replace h := h.2
          refine g_callVv C (nargs := 3) (o := 0) (st := []) (m_RaddPaper hci h) rfl (by decide) hci rfl gd_addPaper (by decide +kernel) ⟨rfl, rfl⟩ dR_papers_131 ⟨by decide, by decide⟩ rfl rfl (Nat.le_of_ble_eq_true rfl) ?_
          intro M131 hN
          replace h := hN
          clear hN
          refine g_iinc C dR_papers_134 rfl (by decide) rfl ?_
          refine g_locals (lv' := [(0, .ref (ad 0)), (1, iv a1), (3, iv (v3 + 1)), (4, iv v4)]) rfl ?_
          refine g_goto C 24 dR_papers_137 (by decide) ?_
          refine g_locals (lv' := [(0, .ref (ad 0)), (1, iv a1), (3, iv (v3 + 1)), (4, iv v4)]) rfl ?_
          exact hr24 _ _  _ h
  have pL24 : ∀  (X24_140 : Int → gSt → Prop) (hX24_140 : ∀ (v3 : Int) (M : gSt), X24_140 v3 M → gG p l e (rmR 3 66) s m args below meth c Q D cl A (wR ad cI ci) 5 140 [(3, iv v3)] [] M) (n : Nat) (v3 : Int) (v4 : Int) (M : gSt), wL_Rpapers_24 a1 k  X24_140 n v3 v4 M → gG p l e (rmR 3 66) s m args below meth c Q D cl A (wR ad cI ci) 5 24 [(0, .ref (ad 0)), (1, iv a1), (3, iv v3), (4, iv v4)] [] M := by
    intro  X24_140 hX24_140 n
    induction n with
    | zero => intro v3 v4 M h; exact h.elim
    | succ n ih =>
      intro v3 v4 M h
      exact pC24  (wL_Rpapers_24 a1 k  X24_140 n) X24_140 ih hX24_140 v3 v4 M h
  refine g_locals (lv' := [(0, .ref (ad 0)), (1, iv a1)]) rfl ?_
  unfold w_Rpapers at h
  refine g_aload_n C dR_papers_0 rfl ?_
  refine g_iload_n C dR_papers_1 rfl ?_
  refine g_callVi C (nargs := 1) (o := 0) (st := []) (m_Rlacks hci h) rfl (by decide) hci rfl gd_lacks (by decide +kernel) ⟨rfl, rfl⟩ dR_papers_2 ⟨by decide, by decide⟩ rfl rfl (Nat.le_of_ble_eq_true rfl) ?_
  intro r2c M2 hN
  replace h := hN
  clear hN
  refine g_istore_n C dR_papers_5 (by decide) rfl ?_
  refine g_locals (lv' := [(0, .ref (ad 0)), (1, iv a1), (2, iv r2c)]) rfl ?_
  refine g_iload_n C dR_papers_6 rfl ?_
  refine g_if_le C 16 dR_papers_7 (by decide) (fun hc => ?_) (fun hc => ?_)
  · replace h := h.1 hc
    refine g_iconst C dR_papers_16 ?_
    refine g_istore_n C dR_papers_17 (by decide) rfl ?_
    refine g_locals (lv' := [(0, .ref (ad 0)), (1, iv a1), (2, iv r2c), (3, iv 0)]) rfl ?_
    refine g_bipush C dR_papers_18 rfl ?_
    refine g_iload_n C dR_papers_20 rfl ?_
    refine g_imul C dR_papers_21 ?_
    refine g_name (fun x4_22 hx4_22 => ?_)
    replace h := h x4_22 hx4_22
    refine g_istore C dR_papers_22 (by decide) rfl ?_
    refine g_locals (lv' := [(0, .ref (ad 0)), (1, iv a1), (2, iv r2c), (3, iv 0), (4, iv x4_22)]) rfl ?_
    refine g_locals (lv' := [(0, .ref (ad 0)), (1, iv a1), (3, iv 0), (4, iv x4_22)]) rfl ?_
    obtain ⟨n, h⟩ := h
    refine pL24 _ ?_ n _ _ _ h
    · intro u3_24 M24 hN
      replace h := hN
      clear hN
      refine g_iload_n C dR_papers_140 rfl ?_
      exact hR _ _ _ _ dR_papers_141 rfl h
  · replace h := h.2 hc
    refine g_aload_n C dR_papers_10 rfl ?_
    refine g_iload_n C dR_papers_11 rfl ?_
    refine g_callVi C (nargs := 1) (o := 0) (st := []) (m_Rerror hci h) rfl (by decide) hci rfl gd_error (by decide +kernel) ⟨rfl, rfl⟩ dR_papers_12 ⟨by decide, by decide⟩ rfl rfl (Nat.le_of_ble_eq_true rfl) ?_
    intro r12c M12 hN
    replace h := hN
    clear hN
    exact hR _ _ _ _ dR_papers_15 rfl h
