def wC_Rjudge_47 (a1 : Int) (a2 : Int) (k : Int → gSt → Prop) (r47 : Int → gSt → Prop) (X47_97 : Int → gSt → Prop) (v4 : Int) (M : gSt) : Prop :=

  (wrap (M 1 0) ≤ wrap v4 →
    X47_97 v4 M) ∧
  (wrap v4 < wrap (M 1 0) →
    (0 ≤ a1 ∧ a1 < 4) ∧ (
    (wrap (M 12 a1) ≤ wrap v4 →
      X47_97 v4 M) ∧
    (wrap v4 < wrap (M 12 a1) →
      (0 ≤ (24 * a1) + v4 ∧ (24 * a1) + v4 < 96) ∧ (w_Rits v4 2 M (fun r85c M85 => 
      (¬ wrap (M 13 ((24 * a1) + v4)) = wrap r85c →
        X47_97 v4 M85) ∧
      (wrap (M 13 ((24 * a1) + v4)) = wrap r85c →
        r47 (v4 + 1) M85))))))
def wL_Rjudge_47 (a1 : Int) (a2 : Int) (k : Int → gSt → Prop)  (X47_97 : Int → gSt → Prop) : Nat → Int → gSt → Prop
  | 0 => fun _ _ => False
  | n + 1 => fun v4 M => wC_Rjudge_47 a1 a2 k  (wL_Rjudge_47 a1 a2 k  X47_97 n) X47_97 v4 M
def wB_Rjudge_97 (a1 : Int) (a2 : Int) (k : Int → gSt → Prop)  (v4 : Int) (M : gSt) : Prop :=
w_Rcarry 3 1 M (fun M105 => k v4 M105)
def wB_Rjudge_17 (a1 : Int) (a2 : Int) (k : Int → gSt → Prop)  (s0 : Int) (M : gSt) : Prop :=

  (wrap s0 ≤ 0 →
    w_Rcarry 1 3 M (fun M36 => w_RgoesBy a2 M36 (fun M41 => ∃ n, wL_Rjudge_47 a1 a2 k  (fun u4_47 M47 =>
      wB_Rjudge_97 a1 a2 k  u4_47 M47) n 0 M41))) ∧
  (0 < wrap s0 →
    w_Rerror s0 M (fun r24c M24 => k r24c M24))
def w_Rjudge (a1 : Int) (a2 : Int) (M : gSt) (k : Int → gSt → Prop) : Prop :=
w_RisHistory a2 M (fun r2c M2 => 
  (wrap r2c = 0 →
    wB_Rjudge_17 a1 a2 k  1 M2) ∧
  (¬ wrap r2c = 0 →
    w_Rlacks a1 M2 (fun r10c M10 => wB_Rjudge_17 a1 a2 k  r10c M10)))
set_option maxHeartbeats 4000000 in
set_option maxRecDepth 100000 in
theorem m_Rjudge {l : Launch} {D : va_G} {cl : List vw_C} {tys : List (ClassId × FieldType)} {ad : Nat → Nat} {cI : ClassId} {ci : Nat} {Z : (Nat → Prop) → State → Prop} (hci : cl[ci]? = some (RX9, TX9, 23)) {a1 : Int} {a2 : Int} {M : gSt} {k : Int → gSt → Prop} (h : w_Rjudge a1 a2 M k) : MOi l yX9_judge cX9_judge 5 .int (rmR 3 75) D cl ((cI, .int) :: tys) (wR ad cI ci) tR Z [.ref (ad 0), iv a1, iv a2] M k := by
  refine moi_intro (by decide +kernel) (Nat.le_of_ble_eq_true rfl) wi_301 ?_
  intro p e s m args below meth c A Q C hR
  have pC47 : ∀ (r47 : Int → gSt → Prop) (X47_97 : Int → gSt → Prop) (hr47 : ∀ (v4 : Int) (M : gSt), r47 v4 M → gG p l e (rmR 3 75) s m args below meth c Q D cl A (wR ad cI ci) 5 47 [(0, .ref (ad 0)), (1, iv a1), (4, iv v4)] [] M) (hX47_97 : ∀ (v4 : Int) (M : gSt), X47_97 v4 M → gG p l e (rmR 3 75) s m args below meth c Q D cl A (wR ad cI ci) 5 97 [(0, .ref (ad 0)), (4, iv v4)] [] M) (v4 : Int) (M : gSt), wC_Rjudge_47 a1 a2 k r47 X47_97 v4 M → gG p l e (rmR 3 75) s m args below meth c Q D cl A (wR ad cI ci) 5 47 [(0, .ref (ad 0)), (1, iv a1), (4, iv v4)] [] M := by
    intro r47 X47_97 hr47 hX47_97 v4 M h
    unfold wC_Rjudge_47 at h
    refine g_iload C dR_judge_47 rfl ?_
    refine g_aload_n C dR_judge_49 rfl ?_
    refine rf_s C hci dR_judge_50 ?_
    refine g_iconst C dR_judge_53 ?_
    refine g_iald C (n := 536) dR_judge_54 rfl (by decide) ⟨by decide, by decide⟩ ?_
    refine g_icmp_ge C 97 dR_judge_55 (by decide) (fun hc => ?_) (fun hc => ?_)
    · replace h := h.1 hc
      refine g_locals (lv' := [(0, .ref (ad 0)), (4, iv v4)]) rfl ?_
      exact hX47_97 _  _ h
    · replace h := h.2 hc
      refine g_iload C dR_judge_58 rfl ?_
      refine g_aload_n C dR_judge_60 rfl ?_
      refine rf_sizes C hci dR_judge_61 ?_
      refine g_iload_n C dR_judge_64 rfl ?_
      refine g_iald C (n := 4) dR_judge_65 rfl (by decide) h.1 ?_
      replace h := h.2
      refine g_icmp_ge C 97 dR_judge_66 (by decide) (fun hc => ?_) (fun hc => ?_)
      · replace h := h.1 hc
        refine g_locals (lv' := [(0, .ref (ad 0)), (4, iv v4)]) rfl ?_
        exact hX47_97 _  _ h
      · replace h := h.2 hc
        refine g_aload_n C dR_judge_69 rfl ?_
        refine rf_number C hci dR_judge_70 ?_
        refine g_bipush C dR_judge_73 rfl ?_
        refine g_iload_n C dR_judge_75 rfl ?_
        refine g_imul C dR_judge_76 ?_
        refine g_iload C dR_judge_77 rfl ?_
        refine g_iadd C dR_judge_79 ?_
        refine g_iald C (n := 96) dR_judge_80 rfl (by decide) h.1 ?_
        replace h := h.2
        refine g_aload_n C dR_judge_81 rfl ?_
        refine g_iload C dR_judge_82 rfl ?_
        refine g_iconst C dR_judge_84 ?_
        refine g_callVi C (nargs := 2) (o := 0) (st := [iv (M 13 ((24 * a1) + v4))]) (m_Rits hci h) rfl (by decide) hci rfl gd_its (by decide +kernel) ⟨rfl, rfl⟩ dR_judge_85 ⟨by decide, by decide⟩ rfl rfl (Nat.le_of_ble_eq_true rfl) ?_
        intro r85c M85 hN
        replace h := hN
        clear hN
        refine g_icmp_ne C 97 dR_judge_88 (by decide) (fun hc => ?_) (fun hc => ?_)
        · replace h := h.1 hc
          refine g_locals (lv' := [(0, .ref (ad 0)), (4, iv v4)]) rfl ?_
          exact hX47_97 _  _ h
        · replace h := h.2 hc
          refine g_iinc C dR_judge_91 rfl (by decide) rfl ?_
          refine g_locals (lv' := [(0, .ref (ad 0)), (1, iv a1), (4, iv (v4 + 1))]) rfl ?_
          refine g_goto C 47 dR_judge_94 (by decide) ?_
          refine g_locals (lv' := [(0, .ref (ad 0)), (1, iv a1), (4, iv (v4 + 1))]) rfl ?_
          exact hr47 _  _ h
  have pL47 : ∀  (X47_97 : Int → gSt → Prop) (hX47_97 : ∀ (v4 : Int) (M : gSt), X47_97 v4 M → gG p l e (rmR 3 75) s m args below meth c Q D cl A (wR ad cI ci) 5 97 [(0, .ref (ad 0)), (4, iv v4)] [] M) (n : Nat) (v4 : Int) (M : gSt), wL_Rjudge_47 a1 a2 k  X47_97 n v4 M → gG p l e (rmR 3 75) s m args below meth c Q D cl A (wR ad cI ci) 5 47 [(0, .ref (ad 0)), (1, iv a1), (4, iv v4)] [] M := by
    intro  X47_97 hX47_97 n
    induction n with
    | zero => intro v4 M h; exact h.elim
    | succ n ih =>
      intro v4 M h
      exact pC47  (wL_Rjudge_47 a1 a2 k  X47_97 n) X47_97 ih hX47_97 v4 M h
  have pB97 : ∀   (v4 : Int) (M : gSt), wB_Rjudge_97 a1 a2 k  v4 M → gG p l e (rmR 3 75) s m args below meth c Q D cl A (wR ad cI ci) 5 97 [(0, .ref (ad 0)), (4, iv v4)] [] M := by
    intro   v4 M h
    unfold wB_Rjudge_97 at h
    refine g_aload_n C dR_judge_97 rfl ?_
    refine rf_put C hci dR_judge_98 ?_
    refine g_aload_n C dR_judge_101 rfl ?_
    refine rf_s C hci dR_judge_102 ?_
    refine g_callSv C (nargs := 2) (st := []) (m_Rcarry hci h) gd_carry (by decide +kernel) ⟨rfl, rfl⟩ dR_judge_105 ⟨by decide, by decide⟩ rfl rfl (Nat.le_of_ble_eq_true rfl) ?_
    intro M105 hN
    replace h := hN
    clear hN
    refine g_iload C dR_judge_108 rfl ?_
    exact hR _ _ _ _ dR_judge_110 rfl h
  have pB17 : ∀   (s0 : Int) (M : gSt), wB_Rjudge_17 a1 a2 k  s0 M → gG p l e (rmR 3 75) s m args below meth c Q D cl A (wR ad cI ci) 5 17 [(0, .ref (ad 0)), (1, iv a1), (2, iv a2)] [iv s0] M := by
    intro   s0 M h
    unfold wB_Rjudge_17 at h
    refine g_istore_n C dR_judge_17 (by decide) rfl ?_
    refine g_locals (lv' := [(0, .ref (ad 0)), (1, iv a1), (2, iv a2), (3, iv s0)]) rfl ?_
    refine g_iload_n C dR_judge_18 rfl ?_
    refine g_if_le C 28 dR_judge_19 (by decide) (fun hc => ?_) (fun hc => ?_)
    · replace h := h.1 hc
      refine g_aload_n C dR_judge_28 rfl ?_
      refine rf_s C hci dR_judge_29 ?_
      refine g_aload_n C dR_judge_32 rfl ?_
      refine rf_put C hci dR_judge_33 ?_
      refine g_callSv C (nargs := 2) (st := []) (m_Rcarry hci h) gd_carry (by decide +kernel) ⟨rfl, rfl⟩ dR_judge_36 ⟨by decide, by decide⟩ rfl rfl (Nat.le_of_ble_eq_true rfl) ?_
      intro M36 hN
      replace h := hN
      clear hN
      refine g_aload_n C dR_judge_39 rfl ?_
      refine g_iload_n C dR_judge_40 rfl ?_
      refine g_callVv C (nargs := 1) (o := 0) (st := []) (m_RgoesBy hci h) rfl (by decide) hci rfl gd_goesBy (by decide +kernel) ⟨rfl, rfl⟩ dR_judge_41 ⟨by decide, by decide⟩ rfl rfl (Nat.le_of_ble_eq_true rfl) ?_
      intro M41 hN
      replace h := hN
      clear hN
      refine g_iconst C dR_judge_44 ?_
      refine g_istore C dR_judge_45 (by decide) rfl ?_
      refine g_locals (lv' := [(0, .ref (ad 0)), (1, iv a1), (2, iv a2), (3, iv s0), (4, iv 0)]) rfl ?_
      refine g_locals (lv' := [(0, .ref (ad 0)), (1, iv a1), (4, iv 0)]) rfl ?_
      obtain ⟨n, h⟩ := h
      refine pL47 _ ?_ n _ _ h
      · intro u4_47 M47 hN
        replace h := hN
        clear hN
        refine g_locals (lv' := [(0, .ref (ad 0)), (4, iv u4_47)]) rfl ?_
        exact pB97 _ _ h
    · replace h := h.2 hc
      refine g_aload_n C dR_judge_22 rfl ?_
      refine g_iload_n C dR_judge_23 rfl ?_
      refine g_callVi C (nargs := 1) (o := 0) (st := []) (m_Rerror hci h) rfl (by decide) hci rfl gd_error (by decide +kernel) ⟨rfl, rfl⟩ dR_judge_24 ⟨by decide, by decide⟩ rfl rfl (Nat.le_of_ble_eq_true rfl) ?_
      intro r24c M24 hN
      replace h := hN
      clear hN
      exact hR _ _ _ _ dR_judge_27 rfl h
  refine g_locals (lv' := [(0, .ref (ad 0)), (1, iv a1), (2, iv a2)]) rfl ?_
  unfold w_Rjudge at h
  refine g_aload_n C dR_judge_0 rfl ?_
  refine g_iload_n C dR_judge_1 rfl ?_
  refine g_callVi C (nargs := 1) (o := 0) (st := []) (m_RisHistory hci h) rfl (by decide) hci rfl gd_isHistory (by decide +kernel) ⟨rfl, rfl⟩ dR_judge_2 ⟨by decide, by decide⟩ rfl rfl (Nat.le_of_ble_eq_true rfl) ?_
  intro r2c M2 hN
  replace h := hN
  clear hN
  refine g_if_eq C 16 dR_judge_5 (by decide) (fun hc => ?_) (fun hc => ?_)
  · replace h := h.1 hc
    refine g_iconst C dR_judge_16 ?_
    refine g_locals (lv' := [(0, .ref (ad 0)), (1, iv a1), (2, iv a2)]) rfl ?_
    exact pB17 _ _ h
  · replace h := h.2 hc
    refine g_aload_n C dR_judge_8 rfl ?_
    refine g_iload_n C dR_judge_9 rfl ?_
    refine g_callVi C (nargs := 1) (o := 0) (st := []) (m_Rlacks hci h) rfl (by decide) hci rfl gd_lacks (by decide +kernel) ⟨rfl, rfl⟩ dR_judge_10 ⟨by decide, by decide⟩ rfl rfl (Nat.le_of_ble_eq_true rfl) ?_
    intro r10c M10 hN
    replace h := hN
    clear hN
    refine g_goto C 17 dR_judge_13 (by decide) ?_
    refine g_locals (lv' := [(0, .ref (ad 0)), (1, iv a1), (2, iv a2)]) rfl ?_
    exact pB17 _ _ h
def w_Rimage  (M : gSt) (k : Int → gSt → Prop) : Prop :=
w_Rcarry 1 2 M (fun M8 => ∀ M18 : gSt, M18 = wr M8 0 3 ((M8 0 3) + 1) → (k (M18 0 3) M18))
set_option maxHeartbeats 4000000 in
set_option maxRecDepth 100000 in
theorem m_Rimage {l : Launch} {D : va_G} {cl : List vw_C} {tys : List (ClassId × FieldType)} {ad : Nat → Nat} {cI : ClassId} {ci : Nat} {Z : (Nat → Prop) → State → Prop} (hci : cl[ci]? = some (RX9, TX9, 23))  {M : gSt} {k : Int → gSt → Prop} (h : w_Rimage  M k) : MOi l yX9_image cX9_image 1 .int (rmR 1 22) D cl ((cI, .int) :: tys) (wR ad cI ci) tR Z [.ref (ad 0)] M k := by
  refine moi_intro (by decide +kernel) (Nat.le_of_ble_eq_true rfl) wi_303 ?_
  intro p e s m args below meth c A Q C hR
  refine g_locals (lv' := [(0, .ref (ad 0))]) rfl ?_
  unfold w_Rimage at h
  refine g_aload_n C dR_image_0 rfl ?_
  refine rf_s C hci dR_image_1 ?_
  refine g_aload_n C dR_image_4 rfl ?_
  refine rf_kept C hci dR_image_5 ?_
  refine g_callSv C (nargs := 2) (st := []) (m_Rcarry hci h) gd_carry (by decide +kernel) ⟨rfl, rfl⟩ dR_image_8 ⟨by decide, by decide⟩ rfl rfl (Nat.le_of_ble_eq_true rfl) ?_
  intro M8 hN
  replace h := hN
  clear hN
  refine g_aload_n C dR_image_11 rfl ?_
  refine g_dup C dR_image_12 rfl ?_
  refine rf_images C hci dR_image_13 ?_
  refine g_iconst C dR_image_16 ?_
  refine g_iadd C dR_image_17 ?_
  refine rp_images C hci dR_image_18 ?_
  refine g_memname (fun M18 hM18 => ?_)
  replace h := h M18 hM18
  refine g_aload_n C dR_image_21 rfl ?_
  refine rf_images C hci dR_image_22 ?_
  exact hR _ _ _ _ dR_image_25 rfl h
def w_Rrestore  (M : gSt) (k : Int → gSt → Prop) : Prop :=

  (¬ wrap (M 0 3) = 0 →
    w_Rcarry 2 1 M (fun M21 => k (M21 1 5) M21)) ∧
  (wrap (M 0 3) = 0 →
    w_Rerror 2 M (fun r9c M9 => k r9c M9))
set_option maxHeartbeats 4000000 in
set_option maxRecDepth 100000 in
theorem m_Rrestore {l : Launch} {D : va_G} {cl : List vw_C} {tys : List (ClassId × FieldType)} {ad : Nat → Nat} {cI : ClassId} {ci : Nat} {Z : (Nat → Prop) → State → Prop} (hci : cl[ci]? = some (RX9, TX9, 23))  {M : gSt} {k : Int → gSt → Prop} (h : w_Rrestore  M k) : MOi l yX9_restore cX9_restore 1 .int (rmR 1 22) D cl ((cI, .int) :: tys) (wR ad cI ci) tR Z [.ref (ad 0)] M k := by
  refine moi_intro (by decide +kernel) (Nat.le_of_ble_eq_true rfl) wi_304 ?_
  intro p e s m args below meth c A Q C hR
  refine g_locals (lv' := [(0, .ref (ad 0))]) rfl ?_
  unfold w_Rrestore at h
  refine g_aload_n C dR_restore_0 rfl ?_
  refine rf_images C hci dR_restore_1 ?_
  refine g_if_ne C 13 dR_restore_4 (by decide) (fun hc => ?_) (fun hc => ?_)
  · replace h := h.1 hc
    refine g_aload_n C dR_restore_13 rfl ?_
    refine rf_kept C hci dR_restore_14 ?_
    refine g_aload_n C dR_restore_17 rfl ?_
    refine rf_s C hci dR_restore_18 ?_
    refine g_callSv C (nargs := 2) (st := []) (m_Rcarry hci h) gd_carry (by decide +kernel) ⟨rfl, rfl⟩ dR_restore_21 ⟨by decide, by decide⟩ rfl rfl (Nat.le_of_ble_eq_true rfl) ?_
    intro M21 hN
    replace h := hN
    clear hN
    refine g_aload_n C dR_restore_24 rfl ?_
    refine rf_s C hci dR_restore_25 ?_
    refine g_iconst C dR_restore_28 ?_
    refine g_iald C (n := 536) dR_restore_29 rfl (by decide) ⟨by decide, by decide⟩ ?_
    exact hR _ _ _ _ dR_restore_30 rfl h
  · replace h := h.2 hc
    refine g_aload_n C dR_restore_7 rfl ?_
    refine g_iconst C dR_restore_8 ?_
    refine g_callVi C (nargs := 1) (o := 0) (st := []) (m_Rerror hci h) rfl (by decide) hci rfl gd_error (by decide +kernel) ⟨rfl, rfl⟩ dR_restore_9 ⟨by decide, by decide⟩ rfl rfl (Nat.le_of_ble_eq_true rfl) ?_
    intro r9c M9 hN
    replace h := hN
    clear hN
    exact hR _ _ _ _ dR_restore_12 rfl h
def w_Rtell (a1 : Int) (M : gSt) (k : Int → gSt → Prop) : Prop :=

  (¬ wrap (M 1 7) = 24 →
    (0 ≤ 512 + (M 1 7) ∧ 512 + (M 1 7) < 536) ∧ (∀ M34 : gSt, M34 = wr M 1 (512 + (M 1 7)) a1 → (∀ M45 : gSt, M45 = wr M34 1 7 ((M34 1 7) + 1) → (k (M45 1 7) M45)))) ∧
  (wrap (M 1 7) = 24 →
    w_Rerror 4 M (fun r14c M14 => k r14c M14))
set_option maxHeartbeats 4000000 in
set_option maxRecDepth 100000 in
theorem m_Rtell {l : Launch} {D : va_G} {cl : List vw_C} {tys : List (ClassId × FieldType)} {ad : Nat → Nat} {cI : ClassId} {ci : Nat} {Z : (Nat → Prop) → State → Prop} (hci : cl[ci]? = some (RX9, TX9, 23)) {a1 : Int} {M : gSt} {k : Int → gSt → Prop} (h : w_Rtell a1 M k) : MOi l yX9_tell cX9_tell 2 .int (rmR 1 21) D cl ((cI, .int) :: tys) (wR ad cI ci) tR Z [.ref (ad 0), iv a1] M k := by
  refine moi_intro (by decide +kernel) (Nat.le_of_ble_eq_true rfl) wi_305 ?_
  intro p e s m args below meth c A Q C hR
  refine g_locals (lv' := [(0, .ref (ad 0)), (1, iv a1)]) rfl ?_
  unfold w_Rtell at h
  refine g_aload_n C dR_tell_0 rfl ?_
  refine rf_s C hci dR_tell_1 ?_
  refine g_bipush C dR_tell_4 rfl ?_
  refine g_iald C (n := 536) dR_tell_6 rfl (by decide) ⟨by decide, by decide⟩ ?_
  refine g_bipush C dR_tell_7 rfl ?_
  refine g_icmp_ne C 18 dR_tell_9 (by decide) (fun hc => ?_) (fun hc => ?_)
  · replace h := h.1 hc
    refine g_aload_n C dR_tell_18 rfl ?_
    refine rf_s C hci dR_tell_19 ?_
    refine g_sipush C dR_tell_22 rfl ?_
    refine g_aload_n C dR_tell_25 rfl ?_
    refine rf_s C hci dR_tell_26 ?_
    refine g_bipush C dR_tell_29 rfl ?_
    refine g_iald C (n := 536) dR_tell_31 rfl (by decide) ⟨by decide, by decide⟩ ?_
    refine g_iadd C dR_tell_32 ?_
    refine g_iload_n C dR_tell_33 rfl ?_
    refine g_iast C (n := 536) dR_tell_34 rfl (by decide) h.1 ?_
    replace h := h.2
    refine g_memname (fun M34 hM34 => ?_)
    replace h := h M34 hM34
    refine g_aload_n C dR_tell_35 rfl ?_
    refine rf_s C hci dR_tell_36 ?_
    refine g_bipush C dR_tell_39 rfl ?_
    refine g_dup2 C dR_tell_41 rfl rfl ?_
    refine g_iald C (n := 536) dR_tell_42 rfl (by decide) ⟨by decide, by decide⟩ ?_
    refine g_iconst C dR_tell_43 ?_
    refine g_iadd C dR_tell_44 ?_
    refine g_iast C (n := 536) dR_tell_45 rfl (by decide) ⟨by decide, by decide⟩ ?_
    refine g_memname (fun M45 hM45 => ?_)
    replace h := h M45 hM45
    refine g_aload_n C dR_tell_46 rfl ?_
    refine rf_s C hci dR_tell_47 ?_
    refine g_bipush C dR_tell_50 rfl ?_
    refine g_iald C (n := 536) dR_tell_52 rfl (by decide) ⟨by decide, by decide⟩ ?_
    exact hR _ _ _ _ dR_tell_53 rfl h
  · replace h := h.2 hc
    refine g_aload_n C dR_tell_12 rfl ?_
    refine g_iconst C dR_tell_13 ?_
    refine g_callVi C (nargs := 1) (o := 0) (st := []) (m_Rerror hci h) rfl (by decide) hci rfl gd_error (by decide +kernel) ⟨rfl, rfl⟩ dR_tell_14 ⟨by decide, by decide⟩ rfl rfl (Nat.le_of_ble_eq_true rfl) ?_
    intro r14c M14 hN
    replace h := hN
    clear hN
    exact hR _ _ _ _ dR_tell_17 rfl h
def wC_Rcheck_22  (k : Int → gSt → Prop) (r22 : Int → Int → gSt → Prop) (X22_60 : Int → Int → gSt → Prop) (v1 : Int) (v2 : Int) (M : gSt) : Prop :=

  (wrap v1 ≤ wrap v2 →
    X22_60 v1 v2 M) ∧
  (wrap v2 < wrap v1 →

    (wrap (M 0 13) ≤ wrap v2 →
      X22_60 v1 v2 M) ∧
    (wrap v2 < wrap (M 0 13) →
      (0 ≤ 512 + v2 ∧ 512 + v2 < 536) ∧ ((0 ≤ v2 ∧ v2 < 64) ∧ (
      (¬ wrap (M 1 (512 + v2)) = wrap (M 8 v2) →
        X22_60 v1 v2 M) ∧
      (wrap (M 1 (512 + v2)) = wrap (M 8 v2) →
        r22 v1 (v2 + 1) M)))))
def wL_Rcheck_22  (k : Int → gSt → Prop)  (X22_60 : Int → Int → gSt → Prop) : Nat → Int → Int → gSt → Prop
  | 0 => fun _ _ _ => False
  | n + 1 => fun v1 v2 M => wC_Rcheck_22  k  (wL_Rcheck_22  k  X22_60 n) X22_60 v1 v2 M
def wB_Rcheck_60  (k : Int → gSt → Prop)  (v1 : Int) (v2 : Int) (M : gSt) : Prop :=

  (¬ wrap v2 = wrap v1 →
    k (1 + v2) M) ∧
  (wrap v2 = wrap v1 →

    (¬ wrap v2 = wrap (M 0 13) →
      k (1 + v2) M) ∧
    (wrap v2 = wrap (M 0 13) →
      k 0 M))
def w_Rcheck  (M : gSt) (k : Int → gSt → Prop) : Prop :=
∀ x1_7 : Int, x1_7 = M 1 7 → (∀ M15 : gSt, M15 = wr M 1 7 0 → (w_RfindFits  M15 (fun M17 => ∃ n, wL_Rcheck_22  k  (fun u1_22 u2_22 M22 =>
    wB_Rcheck_60  k  u1_22 u2_22 M22) n x1_7 0 M17)))
set_option maxHeartbeats 4000000 in
set_option maxRecDepth 100000 in
theorem m_Rcheck {l : Launch} {D : va_G} {cl : List vw_C} {tys : List (ClassId × FieldType)} {ad : Nat → Nat} {cI : ClassId} {ci : Nat} {Z : (Nat → Prop) → State → Prop} (hci : cl[ci]? = some (RX9, TX9, 23))  {M : gSt} {k : Int → gSt → Prop} (h : w_Rcheck  M k) : MOi l yX9_check cX9_check 3 .int (rmR 5 121) D cl ((cI, .int) :: tys) (wR ad cI ci) tR Z [.ref (ad 0)] M k := by
  refine moi_intro (by decide +kernel) (Nat.le_of_ble_eq_true rfl) wi_306 ?_
  intro p e s m args below meth c A Q C hR
  have pC22 : ∀ (r22 : Int → Int → gSt → Prop) (X22_60 : Int → Int → gSt → Prop) (hr22 : ∀ (v1 : Int) (v2 : Int) (M : gSt), r22 v1 v2 M → gG p l e (rmR 5 121) s m args below meth c Q D cl A (wR ad cI ci) 3 22 [(0, .ref (ad 0)), (1, iv v1), (2, iv v2)] [] M) (hX22_60 : ∀ (v1 : Int) (v2 : Int) (M : gSt), X22_60 v1 v2 M → gG p l e (rmR 5 121) s m args below meth c Q D cl A (wR ad cI ci) 3 60 [(0, .ref (ad 0)), (1, iv v1), (2, iv v2)] [] M) (v1 : Int) (v2 : Int) (M : gSt), wC_Rcheck_22  k r22 X22_60 v1 v2 M → gG p l e (rmR 5 121) s m args below meth c Q D cl A (wR ad cI ci) 3 22 [(0, .ref (ad 0)), (1, iv v1), (2, iv v2)] [] M := by
    intro r22 X22_60 hr22 hX22_60 v1 v2 M h
    unfold wC_Rcheck_22 at h
    refine g_iload_n C dR_check_22 rfl ?_
    refine g_iload_n C dR_check_23 rfl ?_
    refine g_icmp_ge C 60 dR_check_24 (by decide) (fun hc => ?_) (fun hc => ?_)
    · replace h := h.1 hc
      refine g_locals (lv' := [(0, .ref (ad 0)), (1, iv v1), (2, iv v2)]) rfl ?_
      exact hX22_60 _ _  _ h
    · replace h := h.2 hc
      refine g_iload_n C dR_check_27 rfl ?_
      refine g_aload_n C dR_check_28 rfl ?_
      refine rf_many C hci dR_check_29 ?_
      refine g_icmp_ge C 60 dR_check_32 (by decide) (fun hc => ?_) (fun hc => ?_)
      · replace h := h.1 hc
        refine g_locals (lv' := [(0, .ref (ad 0)), (1, iv v1), (2, iv v2)]) rfl ?_
        exact hX22_60 _ _  _ h
      · replace h := h.2 hc
        refine g_aload_n C dR_check_35 rfl ?_
        refine rf_s C hci dR_check_36 ?_
        refine g_sipush C dR_check_39 rfl ?_
        refine g_iload_n C dR_check_42 rfl ?_
        refine g_iadd C dR_check_43 ?_
        refine g_iald C (n := 536) dR_check_44 rfl (by decide) h.1 ?_
        replace h := h.2
        refine g_aload_n C dR_check_45 rfl ?_
        refine rf_fit C hci dR_check_46 ?_
        refine g_iload_n C dR_check_49 rfl ?_
        refine g_iald C (n := 64) dR_check_50 rfl (by decide) h.1 ?_
        replace h := h.2
        refine g_icmp_ne C 60 dR_check_51 (by decide) (fun hc => ?_) (fun hc => ?_)
        · replace h := h.1 hc
          refine g_locals (lv' := [(0, .ref (ad 0)), (1, iv v1), (2, iv v2)]) rfl ?_
          exact hX22_60 _ _  _ h
        · replace h := h.2 hc
          refine g_iinc C dR_check_54 rfl (by decide) rfl ?_
          refine g_locals (lv' := [(0, .ref (ad 0)), (1, iv v1), (2, iv (v2 + 1))]) rfl ?_
          refine g_goto C 22 dR_check_57 (by decide) ?_
          refine g_locals (lv' := [(0, .ref (ad 0)), (1, iv v1), (2, iv (v2 + 1))]) rfl ?_
          exact hr22 _ _  _ h
  have pL22 : ∀  (X22_60 : Int → Int → gSt → Prop) (hX22_60 : ∀ (v1 : Int) (v2 : Int) (M : gSt), X22_60 v1 v2 M → gG p l e (rmR 5 121) s m args below meth c Q D cl A (wR ad cI ci) 3 60 [(0, .ref (ad 0)), (1, iv v1), (2, iv v2)] [] M) (n : Nat) (v1 : Int) (v2 : Int) (M : gSt), wL_Rcheck_22  k  X22_60 n v1 v2 M → gG p l e (rmR 5 121) s m args below meth c Q D cl A (wR ad cI ci) 3 22 [(0, .ref (ad 0)), (1, iv v1), (2, iv v2)] [] M := by
    intro  X22_60 hX22_60 n
    induction n with
    | zero => intro v1 v2 M h; exact h.elim
    | succ n ih =>
      intro v1 v2 M h
      exact pC22  (wL_Rcheck_22  k  X22_60 n) X22_60 ih hX22_60 v1 v2 M h
  have pB60 : ∀   (v1 : Int) (v2 : Int) (M : gSt), wB_Rcheck_60  k  v1 v2 M → gG p l e (rmR 5 121) s m args below meth c Q D cl A (wR ad cI ci) 3 60 [(0, .ref (ad 0)), (1, iv v1), (2, iv v2)] [] M := by
    intro   v1 v2 M h
    unfold wB_Rcheck_60 at h
    refine g_iload_n C dR_check_60 rfl ?_
    refine g_iload_n C dR_check_61 rfl ?_
    refine g_icmp_ne C 77 dR_check_62 (by decide) (fun hc => ?_) (fun hc => ?_)
    · replace h := h.1 hc
      refine g_iconst C dR_check_77 ?_
      refine g_iload_n C dR_check_78 rfl ?_
      refine g_iadd C dR_check_79 ?_
      exact hR _ _ _ _ dR_check_80 rfl h
    · replace h := h.2 hc
      refine g_iload_n C dR_check_65 rfl ?_
      refine g_aload_n C dR_check_66 rfl ?_
      refine rf_many C hci dR_check_67 ?_
      refine g_icmp_ne C 77 dR_check_70 (by decide) (fun hc => ?_) (fun hc => ?_)
      · replace h := h.1 hc
        refine g_iconst C dR_check_77 ?_
        refine g_iload_n C dR_check_78 rfl ?_
        refine g_iadd C dR_check_79 ?_
        exact hR _ _ _ _ dR_check_80 rfl h
      · replace h := h.2 hc
        refine g_iconst C dR_check_73 ?_
        refine g_goto C 80 dR_check_74 (by decide) ?_
        exact hR _ _ _ _ dR_check_80 rfl h
  refine g_locals (lv' := [(0, .ref (ad 0))]) rfl ?_
  unfold w_Rcheck at h
  refine g_aload_n C dR_check_0 rfl ?_
  refine rf_s C hci dR_check_1 ?_
  refine g_bipush C dR_check_4 rfl ?_
  refine g_iald C (n := 536) dR_check_6 rfl (by decide) ⟨by decide, by decide⟩ ?_
  refine g_name (fun x1_7 hx1_7 => ?_)
  replace h := h x1_7 hx1_7
  refine g_istore_n C dR_check_7 (by decide) rfl ?_
  refine g_locals (lv' := [(0, .ref (ad 0)), (1, iv x1_7)]) rfl ?_
  refine g_aload_n C dR_check_8 rfl ?_
  refine rf_s C hci dR_check_9 ?_
  refine g_bipush C dR_check_12 rfl ?_
  refine g_iconst C dR_check_14 ?_
  refine g_iast C (n := 536) dR_check_15 rfl (by decide) ⟨by decide, by decide⟩ ?_
  refine g_memname (fun M15 hM15 => ?_)
  replace h := h M15 hM15
  refine g_aload_n C dR_check_16 rfl ?_
  refine g_callVv C (nargs := 0) (o := 0) (st := []) (m_RfindFits hci h) rfl (by decide) hci rfl gd_findFits (by decide +kernel) ⟨rfl, rfl⟩ dR_check_17 ⟨by decide, by decide⟩ rfl rfl (Nat.le_of_ble_eq_true rfl) ?_
  intro M17 hN
  replace h := hN
  clear hN
  refine g_iconst C dR_check_20 ?_
  refine g_istore_n C dR_check_21 (by decide) rfl ?_
  refine g_locals (lv' := [(0, .ref (ad 0)), (1, iv x1_7), (2, iv 0)]) rfl ?_
  refine g_locals (lv' := [(0, .ref (ad 0)), (1, iv x1_7), (2, iv 0)]) rfl ?_
  obtain ⟨n, h⟩ := h
  refine pL22 _ ?_ n _ _ _ h
  · intro u1_22 u2_22 M22 hN
    replace h := hN
    clear hN
    refine g_locals (lv' := [(0, .ref (ad 0)), (1, iv u1_22), (2, iv u2_22)]) rfl ?_
    exact pB60 _ _ _ h
def w_Rcount (a1 : Int) (M : gSt) (k : Int → gSt → Prop) : Prop :=

  (wrap a1 = 0 →
    k (M 1 0) M) ∧
  (wrap a1 = 1 →
    k (M 1 1) M) ∧
  (wrap a1 = 2 →
    k (M 1 2) M) ∧
  (wrap a1 = 3 →
    k (M 1 3) M) ∧
  (wrap a1 = 4 →
    k (M 1 4) M) ∧
  (wrap a1 = 5 →
    w_RallGrams  M (fun r96c M96 => k r96c M96)) ∧
  (wrap a1 = 6 →
    k (M 1 5) M) ∧
  (wrap a1 = 7 →
    k (M 1 6) M) ∧
  (wrap a1 = 8 →
    k (M 1 7) M) ∧
  (wrap a1 = 9 →
    k (M 0 16) M) ∧
  (wrap a1 = 10 →
    k (M 1 8) M) ∧
  (¬ wrap a1 = 0 ∧ ¬ wrap a1 = 1 ∧ ¬ wrap a1 = 2 ∧ ¬ wrap a1 = 3 ∧ ¬ wrap a1 = 4 ∧ ¬ wrap a1 = 5 ∧ ¬ wrap a1 = 6 ∧ ¬ wrap a1 = 7 ∧ ¬ wrap a1 = 8 ∧ ¬ wrap a1 = 9 ∧ ¬ wrap a1 = 10 →
    w_Rerror 1 M (fun r138c M138 => k r138c M138))
set_option maxHeartbeats 4000000 in
set_option maxRecDepth 100000 in
theorem m_Rcount {l : Launch} {D : va_G} {cl : List vw_C} {tys : List (ClassId × FieldType)} {ad : Nat → Nat} {cI : ClassId} {ci : Nat} {Z : (Nat → Prop) → State → Prop} (hci : cl[ci]? = some (RX9, TX9, 23)) {a1 : Int} {M : gSt} {k : Int → gSt → Prop} (h : w_Rcount a1 M k) : MOi l yX9_count cX9_count 2 .int (rmR 2 44) D cl ((cI, .int) :: tys) (wR ad cI ci) tR Z [.ref (ad 0), iv a1] M k := by
  refine moi_intro (by decide +kernel) (Nat.le_of_ble_eq_true rfl) wi_307 ?_
  intro p e s m args below meth c A Q C hR
  refine g_locals (lv' := [(0, .ref (ad 0)), (1, iv a1)]) rfl ?_
  unfold w_Rcount at h
  refine g_iload_n C dR_count_0 rfl ?_
  by_cases hc0 : wrap a1 = 0
  · refine g_tableIn C 60 dR_count_1 (by omega) (by omega) (by rw [hc0] <;> rfl) (by decide) ?_
    replace h := h.1 hc0
    refine g_aload_n C dR_count_60 rfl ?_
    refine rf_s C hci dR_count_61 ?_
    refine g_iconst C dR_count_64 ?_
    refine g_iald C (n := 536) dR_count_65 rfl (by decide) ⟨by decide, by decide⟩ ?_
    exact hR _ _ _ _ dR_count_66 rfl h
  · by_cases hc1 : wrap a1 = 1
    · refine g_tableIn C 67 dR_count_1 (by omega) (by omega) (by rw [hc1] <;> rfl) (by decide) ?_
      replace h := h.2.1 hc1
      refine g_aload_n C dR_count_67 rfl ?_
      refine rf_s C hci dR_count_68 ?_
      refine g_iconst C dR_count_71 ?_
      refine g_iald C (n := 536) dR_count_72 rfl (by decide) ⟨by decide, by decide⟩ ?_
      exact hR _ _ _ _ dR_count_73 rfl h
    · by_cases hc2 : wrap a1 = 2
      · refine g_tableIn C 74 dR_count_1 (by omega) (by omega) (by rw [hc2] <;> rfl) (by decide) ?_
        replace h := h.2.2.1 hc2
        refine g_aload_n C dR_count_74 rfl ?_
        refine rf_s C hci dR_count_75 ?_
        refine g_iconst C dR_count_78 ?_
        refine g_iald C (n := 536) dR_count_79 rfl (by decide) ⟨by decide, by decide⟩ ?_
        exact hR _ _ _ _ dR_count_80 rfl h
      · by_cases hc3 : wrap a1 = 3
        · refine g_tableIn C 81 dR_count_1 (by omega) (by omega) (by rw [hc3] <;> rfl) (by decide) ?_
          replace h := h.2.2.2.1 hc3
          refine g_aload_n C dR_count_81 rfl ?_
          refine rf_s C hci dR_count_82 ?_
          refine g_iconst C dR_count_85 ?_
          refine g_iald C (n := 536) dR_count_86 rfl (by decide) ⟨by decide, by decide⟩ ?_
          exact hR _ _ _ _ dR_count_87 rfl h
        · by_cases hc4 : wrap a1 = 4
          · refine g_tableIn C 88 dR_count_1 (by omega) (by omega) (by rw [hc4] <;> rfl) (by decide) ?_
            replace h := h.2.2.2.2.1 hc4
            refine g_aload_n C dR_count_88 rfl ?_
            refine rf_s C hci dR_count_89 ?_
            refine g_iconst C dR_count_92 ?_
            refine g_iald C (n := 536) dR_count_93 rfl (by decide) ⟨by decide, by decide⟩ ?_
            exact hR _ _ _ _ dR_count_94 rfl h
          · by_cases hc5 : wrap a1 = 5
            · refine g_tableIn C 95 dR_count_1 (by omega) (by omega) (by rw [hc5] <;> rfl) (by decide) ?_
              replace h := h.2.2.2.2.2.1 hc5
              refine g_aload_n C dR_count_95 rfl ?_
              refine g_callVi C (nargs := 0) (o := 0) (st := []) (m_RallGrams hci h) rfl (by decide) hci rfl gd_allGrams (by decide +kernel) ⟨rfl, rfl⟩ dR_count_96 ⟨by decide, by decide⟩ rfl rfl (Nat.le_of_ble_eq_true rfl) ?_
              intro r96c M96 hN
              replace h := hN
              clear hN
              exact hR _ _ _ _ dR_count_99 rfl h
            · by_cases hc6 : wrap a1 = 6
              · refine g_tableIn C 100 dR_count_1 (by omega) (by omega) (by rw [hc6] <;> rfl) (by decide) ?_
                replace h := h.2.2.2.2.2.2.1 hc6
                refine g_aload_n C dR_count_100 rfl ?_
                refine rf_s C hci dR_count_101 ?_
                refine g_iconst C dR_count_104 ?_
                refine g_iald C (n := 536) dR_count_105 rfl (by decide) ⟨by decide, by decide⟩ ?_
                exact hR _ _ _ _ dR_count_106 rfl h
              · by_cases hc7 : wrap a1 = 7
                · refine g_tableIn C 107 dR_count_1 (by omega) (by omega) (by rw [hc7] <;> rfl) (by decide) ?_
                  replace h := h.2.2.2.2.2.2.2.1 hc7
                  refine g_aload_n C dR_count_107 rfl ?_
                  refine rf_s C hci dR_count_108 ?_
                  refine g_bipush C dR_count_111 rfl ?_
                  refine g_iald C (n := 536) dR_count_113 rfl (by decide) ⟨by decide, by decide⟩ ?_
                  exact hR _ _ _ _ dR_count_114 rfl h
                · by_cases hc8 : wrap a1 = 8
                  · refine g_tableIn C 115 dR_count_1 (by omega) (by omega) (by rw [hc8] <;> rfl) (by decide) ?_
                    replace h := h.2.2.2.2.2.2.2.2.1 hc8
                    refine g_aload_n C dR_count_115 rfl ?_
                    refine rf_s C hci dR_count_116 ?_
                    refine g_bipush C dR_count_119 rfl ?_
                    refine g_iald C (n := 536) dR_count_121 rfl (by decide) ⟨by decide, by decide⟩ ?_
                    exact hR _ _ _ _ dR_count_122 rfl h
                  · by_cases hc9 : wrap a1 = 9
                    · refine g_tableIn C 123 dR_count_1 (by omega) (by omega) (by rw [hc9] <;> rfl) (by decide) ?_
                      replace h := h.2.2.2.2.2.2.2.2.2.1 hc9
                      refine g_aload_n C dR_count_123 rfl ?_
                      refine rf_traced C hci dR_count_124 ?_
                      exact hR _ _ _ _ dR_count_127 rfl h
                    · by_cases hc10 : wrap a1 = 10
                      · refine g_tableIn C 128 dR_count_1 (by omega) (by omega) (by rw [hc10] <;> rfl) (by decide) ?_
                        replace h := h.2.2.2.2.2.2.2.2.2.2.1 hc10
                        refine g_aload_n C dR_count_128 rfl ?_
                        refine rf_s C hci dR_count_129 ?_
                        refine g_bipush C dR_count_132 rfl ?_
                        refine g_iald C (n := 536) dR_count_134 rfl (by decide) ⟨by decide, by decide⟩ ?_
                        exact hR _ _ _ _ dR_count_135 rfl h
                      · refine g_tableOut C 136 dR_count_1 (by omega) (by decide) ?_
                        replace h := h.2.2.2.2.2.2.2.2.2.2.2 ⟨hc0, hc1, hc2, hc3, hc4, hc5, hc6, hc7, hc8, hc9, hc10⟩
                        refine g_aload_n C dR_count_136 rfl ?_
                        refine g_iconst C dR_count_137 ?_
                        refine g_callVi C (nargs := 1) (o := 0) (st := []) (m_Rerror hci h) rfl (by decide) hci rfl gd_error (by decide +kernel) ⟨rfl, rfl⟩ dR_count_138 ⟨by decide, by decide⟩ rfl rfl (Nat.le_of_ble_eq_true rfl) ?_
                        intro r138c M138 hN
                        replace h := hN
                        clear hN
                        exact hR _ _ _ _ dR_count_141 rfl h
def w_Rtold (a1 : Int) (M : gSt) (k : Int → gSt → Prop) : Prop :=
w_Rin a1 1 6 M (fun r4c M4 => 
  (wrap r4c = 0 →
    w_Rerror 1 M4 (fun r21c M21 => k r21c M21)) ∧
  (¬ wrap r4c = 0 →
    (0 ≤ a1 ∧ a1 < 7) ∧ (k (M4 4 a1) M4)))
set_option maxHeartbeats 4000000 in
set_option maxRecDepth 100000 in
theorem m_Rtold {l : Launch} {D : va_G} {cl : List vw_C} {tys : List (ClassId × FieldType)} {ad : Nat → Nat} {cI : ClassId} {ci : Nat} {Z : (Nat → Prop) → State → Prop} (hci : cl[ci]? = some (RX9, TX9, 23)) {a1 : Int} {M : gSt} {k : Int → gSt → Prop} (h : w_Rtold a1 M k) : MOi l yX9_told cX9_told 2 .int (rmR 1 22) D cl ((cI, .int) :: tys) (wR ad cI ci) tR Z [.ref (ad 0), iv a1] M k := by
  refine moi_intro (by decide +kernel) (Nat.le_of_ble_eq_true rfl) wi_308 ?_
  intro p e s m args below meth c A Q C hR
  refine g_locals (lv' := [(0, .ref (ad 0)), (1, iv a1)]) rfl ?_
  unfold w_Rtold at h
  refine g_iload_n C dR_told_0 rfl ?_
  refine g_iconst C dR_told_1 ?_
  refine g_bipush C dR_told_2 rfl ?_
  refine g_callSi C (nargs := 3) (st := []) (m_Rin hci h) gd_in (by decide +kernel) ⟨rfl, rfl⟩ dR_told_4 ⟨by decide, by decide⟩ rfl rfl (Nat.le_of_ble_eq_true rfl) ?_
  intro r4c M4 hN
  replace h := hN
  clear hN
  refine g_if_eq C 19 dR_told_7 (by decide) (fun hc => ?_) (fun hc => ?_)
  · replace h := h.1 hc
    refine g_aload_n C dR_told_19 rfl ?_
    refine g_iconst C dR_told_20 ?_
    refine g_callVi C (nargs := 1) (o := 0) (st := []) (m_Rerror hci h) rfl (by decide) hci rfl gd_error (by decide +kernel) ⟨rfl, rfl⟩ dR_told_21 ⟨by decide, by decide⟩ rfl rfl (Nat.le_of_ble_eq_true rfl) ?_
    intro r21c M21 hN
    replace h := hN
    clear hN
    exact hR _ _ _ _ dR_told_24 rfl h
  · replace h := h.2 hc
    refine g_aload_n C dR_told_10 rfl ?_
    refine rf_errors C hci dR_told_11 ?_
    refine g_iload_n C dR_told_14 rfl ?_
    refine g_iald C (n := 7) dR_told_15 rfl (by decide) h.1 ?_
    replace h := h.2
    refine g_goto C 24 dR_told_16 (by decide) ?_
    exact hR _ _ _ _ dR_told_24 rfl h
def wb_RringsBy (rc : Nat → List Int → gSt → (Int → gSt → Prop) → Prop) (a1 : Int) (a2 : Int) (M : gSt) (k : Int → gSt → Prop) : Prop :=

  (wrap a1 = 0 →
    w_Rbegins 10 M (fun M47 => k (a2 + (M47 0 17)) M47)) ∧
  (wrap a1 = 1 →
    w_Rbegins 20 M (fun M60 => w_Rabove 1 M60 (fun r65c M65 => rc 0 [r65c, a2] M65 (fun r69c M69 => k (r69c - 4) M69)))) ∧
  (wrap a1 = 4 →
    w_Rbegins 50 M (fun M78 => w_Rabove 4 M78 (fun r83c M83 => rc 0 [r83c, a2] M83 (fun r87c M87 => k (r87c * 3) M87)))) ∧
  (wrap a1 = 6 →
    w_Rbegins 70 M (fun M96 => k 6 M96)) ∧
  (¬ wrap a1 = 0 ∧ ¬ wrap a1 = 1 ∧ ¬ wrap a1 = 4 ∧ ¬ wrap a1 = 6 →
    w_Rabove a1 M (fun r104c M104 => rc 0 [r104c, a2] M104 (fun r108c M108 => k r108c M108)))
set_option maxHeartbeats 4000000 in
set_option maxRecDepth 100000 in
theorem mb_RringsBy {l : Launch} {D : va_G} {cl : List vw_C} {tys : List (ClassId × FieldType)} {ad : Nat → Nat} {cI : ClassId} {ci : Nat} {Z : (Nat → Prop) → State → Prop} (hci : cl[ci]? = some (RX9, TX9, 23)) {rc : Nat → List Int → gSt → (Int → gSt → Prop) → Prop} {a1 : Int} {a2 : Int} {d : Nat} (hrc0 : ∀ {a1 a2 : Int} {M : gSt} {k : Int → gSt → Prop}, rc 0 [a1, a2] M k → MOi l yX9_ringsBy cX9_ringsBy 3 .int (rmR (d + 1) (d * 22 + 21)) D cl ((cI, .int) :: tys) (wR ad cI ci) tR Z [.ref (ad 0), iv a1, iv a2] M k) {M : gSt} {k : Int → gSt → Prop} (h : wb_RringsBy rc a1 a2 M k) : MOi l yX9_ringsBy cX9_ringsBy 3 .int (rmR (d + 1 + 1) ((d + 1) * 22 + 21)) D cl ((cI, .int) :: tys) (wR ad cI ci) tR Z [.ref (ad 0), iv a1, iv a2] M k := by
  refine moi_intro (by decide +kernel) (Nat.le_of_ble_eq_true rfl) wi_268 ?_
  intro p e s m args below meth c A Q C hR
  refine g_locals (lv' := [(0, .ref (ad 0)), (1, iv a1), (2, iv a2)]) rfl ?_
  unfold wb_RringsBy at h
  refine g_iload_n C dR_ringsBy_0 rfl ?_
  by_cases hc0 : wrap a1 = 0
  · refine g_tableIn C 44 dR_ringsBy_1 (by omega) (by omega) (by rw [hc0] <;> rfl) (by decide) ?_
    replace h := h.1 hc0
    refine g_aload_n C dR_ringsBy_44 rfl ?_
    refine g_bipush C dR_ringsBy_45 rfl ?_
    refine g_callVv C (nargs := 1) (o := 0) (st := []) (m_Rbegins hci h) rfl (by decide) hci rfl gd_begins (by decide +kernel) ⟨rfl, rfl⟩ dR_ringsBy_47 ⟨by simp only [rmR]; omega, by simp only [rmR]; omega⟩ rfl rfl (Nat.le_of_ble_eq_true rfl) ?_
    intro M47 hN
    replace h := hN
    clear hN
    refine g_iload_n C dR_ringsBy_50 rfl ?_
    refine g_aload_n C dR_ringsBy_51 rfl ?_
    refine rf_speaks C hci dR_ringsBy_52 ?_
    refine g_iadd C dR_ringsBy_55 ?_
    exact hR _ _ _ _ dR_ringsBy_56 rfl h
  · by_cases hc1 : wrap a1 = 1
    · refine g_tableIn C 57 dR_ringsBy_1 (by omega) (by omega) (by rw [hc1] <;> rfl) (by decide) ?_
      replace h := h.2.1 hc1
      refine g_aload_n C dR_ringsBy_57 rfl ?_
      refine g_bipush C dR_ringsBy_58 rfl ?_
      refine g_callVv C (nargs := 1) (o := 0) (st := []) (m_Rbegins hci h) rfl (by decide) hci rfl gd_begins (by decide +kernel) ⟨rfl, rfl⟩ dR_ringsBy_60 ⟨by simp only [rmR]; omega, by simp only [rmR]; omega⟩ rfl rfl (Nat.le_of_ble_eq_true rfl) ?_
      intro M60 hN
      replace h := hN
      clear hN
      refine g_aload_n C dR_ringsBy_63 rfl ?_
      refine g_iconst C dR_ringsBy_64 ?_
      refine g_callSi C (nargs := 1) (st := [.ref (ad 0)]) (m_Rabove hci h) gd_above (by decide +kernel) ⟨rfl, rfl⟩ dR_ringsBy_65 ⟨by simp only [rmR]; omega, by simp only [rmR]; omega⟩ rfl rfl (Nat.le_of_ble_eq_true rfl) ?_
      intro r65c M65 hN
      replace h := hN
      clear hN
      refine g_iload_n C dR_ringsBy_68 rfl ?_
      refine g_callVi C (nargs := 2) (o := 0) (st := []) (hrc0 h) rfl (by decide) hci rfl gd_ringsBy (by decide +kernel) ⟨rfl, rfl⟩ dR_ringsBy_69 ⟨by simp only [rmR]; omega, by simp only [rmR]; omega⟩ rfl rfl (Nat.le_of_ble_eq_true rfl) ?_
      intro r69c M69 hN
      replace h := hN
      clear hN
      refine g_iconst C dR_ringsBy_72 ?_
      refine g_isub C dR_ringsBy_73 ?_
      exact hR _ _ _ _ dR_ringsBy_74 rfl h
    · by_cases hc4 : wrap a1 = 4
      · refine g_tableIn C 75 dR_ringsBy_1 (by omega) (by omega) (by rw [hc4] <;> rfl) (by decide) ?_
        replace h := h.2.2.1 hc4
        refine g_aload_n C dR_ringsBy_75 rfl ?_
        refine g_bipush C dR_ringsBy_76 rfl ?_
        refine g_callVv C (nargs := 1) (o := 0) (st := []) (m_Rbegins hci h) rfl (by decide) hci rfl gd_begins (by decide +kernel) ⟨rfl, rfl⟩ dR_ringsBy_78 ⟨by simp only [rmR]; omega, by simp only [rmR]; omega⟩ rfl rfl (Nat.le_of_ble_eq_true rfl) ?_
        intro M78 hN
        replace h := hN
        clear hN
        refine g_aload_n C dR_ringsBy_81 rfl ?_
        refine g_iconst C dR_ringsBy_82 ?_
        refine g_callSi C (nargs := 1) (st := [.ref (ad 0)]) (m_Rabove hci h) gd_above (by decide +kernel) ⟨rfl, rfl⟩ dR_ringsBy_83 ⟨by simp only [rmR]; omega, by simp only [rmR]; omega⟩ rfl rfl (Nat.le_of_ble_eq_true rfl) ?_
        intro r83c M83 hN
        replace h := hN
        clear hN
        refine g_iload_n C dR_ringsBy_86 rfl ?_
        refine g_callVi C (nargs := 2) (o := 0) (st := []) (hrc0 h) rfl (by decide) hci rfl gd_ringsBy (by decide +kernel) ⟨rfl, rfl⟩ dR_ringsBy_87 ⟨by simp only [rmR]; omega, by simp only [rmR]; omega⟩ rfl rfl (Nat.le_of_ble_eq_true rfl) ?_
        intro r87c M87 hN
        replace h := hN
        clear hN
        refine g_iconst C dR_ringsBy_90 ?_
        refine g_imul C dR_ringsBy_91 ?_
        exact hR _ _ _ _ dR_ringsBy_92 rfl h
      · by_cases hc6 : wrap a1 = 6
        · refine g_tableIn C 93 dR_ringsBy_1 (by omega) (by omega) (by rw [hc6] <;> rfl) (by decide) ?_
          replace h := h.2.2.2.1 hc6
          refine g_aload_n C dR_ringsBy_93 rfl ?_
          refine g_bipush C dR_ringsBy_94 rfl ?_
          refine g_callVv C (nargs := 1) (o := 0) (st := []) (m_Rbegins hci h) rfl (by decide) hci rfl gd_begins (by decide +kernel) ⟨rfl, rfl⟩ dR_ringsBy_96 ⟨by simp only [rmR]; omega, by simp only [rmR]; omega⟩ rfl rfl (Nat.le_of_ble_eq_true rfl) ?_
          intro M96 hN
          replace h := hN
          clear hN
          refine g_bipush C dR_ringsBy_99 rfl ?_
          exact hR _ _ _ _ dR_ringsBy_101 rfl h
        · by_cases hin : 0 ≤ wrap a1 ∧ wrap a1 ≤ 6
          · refine g_tableIn C (off := 101) 102 dR_ringsBy_1 hin.1 hin.2 ?_ (by decide) ?_
            · have hj : (wrap a1 - 0).toNat < 7 := by omega
              have hq0 : ¬ (wrap a1 - 0).toNat = 0 := by omega
              have hq1 : ¬ (wrap a1 - 0).toNat = 1 := by omega
              have hq4 : ¬ (wrap a1 - 0).toNat = 4 := by omega
              have hq6 : ¬ (wrap a1 - 0).toNat = 6 := by omega
              generalize (wrap a1 - 0).toNat = j at *
              have key : ∀ j : Nat, j < 7 → (¬ j = 0 ∧ ¬ j = 1 ∧ ¬ j = 4 ∧ ¬ j = 6) → (#[43, 56, 101, 101, 74, 101, 92] : Array Int)[j]? = some 101 := by decide
              exact key j hj ⟨hq0, hq1, hq4, hq6⟩
            · replace h := h.2.2.2.2 ⟨hc0, hc1, hc4, hc6⟩
              refine g_aload_n C dR_ringsBy_102 rfl ?_
              refine g_iload_n C dR_ringsBy_103 rfl ?_
              refine g_callSi C (nargs := 1) (st := [.ref (ad 0)]) (m_Rabove hci h) gd_above (by decide +kernel) ⟨rfl, rfl⟩ dR_ringsBy_104 ⟨by simp only [rmR]; omega, by simp only [rmR]; omega⟩ rfl rfl (Nat.le_of_ble_eq_true rfl) ?_
              intro r104c M104 hN
              replace h := hN
              clear hN
              refine g_iload_n C dR_ringsBy_107 rfl ?_
              refine g_callVi C (nargs := 2) (o := 0) (st := []) (hrc0 h) rfl (by decide) hci rfl gd_ringsBy (by decide +kernel) ⟨rfl, rfl⟩ dR_ringsBy_108 ⟨by simp only [rmR]; omega, by simp only [rmR]; omega⟩ rfl rfl (Nat.le_of_ble_eq_true rfl) ?_
              intro r108c M108 hN
              replace h := hN
              clear hN
              exact hR _ _ _ _ dR_ringsBy_111 rfl h
          · refine g_tableOut C 102 dR_ringsBy_1 (by omega) (by decide) ?_
            replace h := h.2.2.2.2 ⟨hc0, hc1, hc4, hc6⟩
            refine g_aload_n C dR_ringsBy_102 rfl ?_
            refine g_iload_n C dR_ringsBy_103 rfl ?_
            refine g_callSi C (nargs := 1) (st := [.ref (ad 0)]) (m_Rabove hci h) gd_above (by decide +kernel) ⟨rfl, rfl⟩ dR_ringsBy_104 ⟨by simp only [rmR]; omega, by simp only [rmR]; omega⟩ rfl rfl (Nat.le_of_ble_eq_true rfl) ?_
            intro r104c M104 hN
            replace h := hN
            clear hN
            refine g_iload_n C dR_ringsBy_107 rfl ?_
            refine g_callVi C (nargs := 2) (o := 0) (st := []) (hrc0 h) rfl (by decide) hci rfl gd_ringsBy (by decide +kernel) ⟨rfl, rfl⟩ dR_ringsBy_108 ⟨by simp only [rmR]; omega, by simp only [rmR]; omega⟩ rfl rfl (Nat.le_of_ble_eq_true rfl) ?_
            intro r108c M108 hN
            replace h := hN
            clear hN
            exact hR _ _ _ _ dR_ringsBy_111 rfl h
def wg_RringsBy : Nat → Nat → List Int → gSt → (Int → gSt → Prop) → Prop
  | 0 => fun _ _ _ _ => False
  | d + 1 => fun i xs M k => match i, xs with
    | 0, [a1, a2] => wb_RringsBy (wg_RringsBy d) a1 a2 M k
    | _, _ => False
theorem mg_RringsBy {l : Launch} {D : va_G} {cl : List vw_C} {tys : List (ClassId × FieldType)} {ad : Nat → Nat} {cI : ClassId} {ci : Nat} {Z : (Nat → Prop) → State → Prop} (hci : cl[ci]? = some (RX9, TX9, 23)) (d : Nat) : (∀ {a1 a2 : Int} {M : gSt} {k : Int → gSt → Prop}, wg_RringsBy d 0 [a1, a2] M k → MOi l yX9_ringsBy cX9_ringsBy 3 .int (rmR (d + 1) (d * 22 + 21)) D cl ((cI, .int) :: tys) (wR ad cI ci) tR Z [.ref (ad 0), iv a1, iv a2] M k) := by
  induction d with
  | zero => exact fun h => False.elim h
  | succ d ih => exact fun h => mb_RringsBy hci (rc := wg_RringsBy d) ih h
def w_RringsBy (a1 a2 : Int) (M : gSt) (k : Int → gSt → Prop) : Prop := wg_RringsBy 8 0 [a1, a2] M k
theorem m_RringsBy {l : Launch} {D : va_G} {cl : List vw_C} {tys : List (ClassId × FieldType)} {ad : Nat → Nat} {cI : ClassId} {ci : Nat} {Z : (Nat → Prop) → State → Prop} (hci : cl[ci]? = some (RX9, TX9, 23)) {a1 a2 : Int} {M : gSt} {k : Int → gSt → Prop} (h : w_RringsBy a1 a2 M k) : MOi l yX9_ringsBy cX9_ringsBy 3 .int (rmR 9 197) D cl ((cI, .int) :: tys) (wR ad cI ci) tR Z [.ref (ad 0), iv a1, iv a2] M k := (mg_RringsBy hci 8) h
def wb_RweighsBy (rc : Nat → List Int → gSt → (Int → gSt → Prop) → Prop) (a1 : Int) (a2 : Int) (M : gSt) (k : Int → gSt → Prop) : Prop :=

  (wrap a1 = 0 →
    w_Rbegins 11 M (fun M47 => w_RkindNow  M47 (fun r52c M52 => w_RringsBy r52c a2 M52 (fun r56c M56 => k (r56c * 2) M56)))) ∧
  (wrap a1 = 2 →
    w_Rbegins 30 M (fun M65 => w_Rabove 2 M65 (fun r71c M71 => rc 0 [r71c, a2] M71 (fun r75c M75 => k (0 - r75c) M75)))) ∧
  (wrap a1 = 5 →
    w_Rbegins 60 M (fun M83 => w_Rabove 5 M83 (fun r88c M88 => rc 0 [r88c, a2 + 1] M88 (fun r94c M94 => k r94c M94)))) ∧
  (wrap a1 = 6 →
    w_Rbegins 71 M (fun M101 => w_Rabove 6 M101 (fun r107c M107 => rc 0 [r107c, a2] M107 (fun r111c M111 => w_RmNow  M111 (fun r115c M115 => k (r111c + r115c) M115))))) ∧
  (¬ wrap a1 = 0 ∧ ¬ wrap a1 = 2 ∧ ¬ wrap a1 = 5 ∧ ¬ wrap a1 = 6 →
    w_Rabove a1 M (fun r122c M122 => rc 0 [r122c, a2] M122 (fun r126c M126 => k r126c M126)))
set_option maxHeartbeats 4000000 in
set_option maxRecDepth 100000 in
theorem mb_RweighsBy {l : Launch} {D : va_G} {cl : List vw_C} {tys : List (ClassId × FieldType)} {ad : Nat → Nat} {cI : ClassId} {ci : Nat} {Z : (Nat → Prop) → State → Prop} (hci : cl[ci]? = some (RX9, TX9, 23)) {rc : Nat → List Int → gSt → (Int → gSt → Prop) → Prop} {a1 : Int} {a2 : Int} {d : Nat} (hrc0 : ∀ {a1 a2 : Int} {M : gSt} {k : Int → gSt → Prop}, rc 0 [a1, a2] M k → MOi l yX9_weighsBy cX9_weighsBy 3 .int (rmR (d + 10) (d * 22 + 219)) D cl ((cI, .int) :: tys) (wR ad cI ci) tR Z [.ref (ad 0), iv a1, iv a2] M k) {M : gSt} {k : Int → gSt → Prop} (h : wb_RweighsBy rc a1 a2 M k) : MOi l yX9_weighsBy cX9_weighsBy 3 .int (rmR (d + 1 + 10) ((d + 1) * 22 + 219)) D cl ((cI, .int) :: tys) (wR ad cI ci) tR Z [.ref (ad 0), iv a1, iv a2] M k := by
  refine moi_intro (by decide +kernel) (Nat.le_of_ble_eq_true rfl) wi_278 ?_
  intro p e s m args below meth c A Q C hR
  refine g_locals (lv' := [(0, .ref (ad 0)), (1, iv a1), (2, iv a2)]) rfl ?_
  unfold wb_RweighsBy at h
  refine g_iload_n C dR_weighsBy_0 rfl ?_
  by_cases hc0 : wrap a1 = 0
  · refine g_tableIn C 44 dR_weighsBy_1 (by omega) (by omega) (by rw [hc0] <;> rfl) (by decide) ?_
    replace h := h.1 hc0
    refine g_aload_n C dR_weighsBy_44 rfl ?_
    refine g_bipush C dR_weighsBy_45 rfl ?_
    refine g_callVv C (nargs := 1) (o := 0) (st := []) (m_Rbegins hci h) rfl (by decide) hci rfl gd_begins (by decide +kernel) ⟨rfl, rfl⟩ dR_weighsBy_47 ⟨by simp only [rmR]; omega, by simp only [rmR]; omega⟩ rfl rfl (Nat.le_of_ble_eq_true rfl) ?_
    intro M47 hN
    replace h := hN
    clear hN
    refine g_aload_n C dR_weighsBy_50 rfl ?_
    refine g_aload_n C dR_weighsBy_51 rfl ?_
    refine g_callVi C (nargs := 0) (o := 0) (st := [.ref (ad 0)]) (m_RkindNow hci h) rfl (by decide) hci rfl gd_kindNow (by decide +kernel) ⟨rfl, rfl⟩ dR_weighsBy_52 ⟨by simp only [rmR]; omega, by simp only [rmR]; omega⟩ rfl rfl (Nat.le_of_ble_eq_true rfl) ?_
    intro r52c M52 hN
    replace h := hN
    clear hN
    refine g_iload_n C dR_weighsBy_55 rfl ?_
    refine g_callVi C (nargs := 2) (o := 0) (st := []) (m_RringsBy hci h) rfl (by decide) hci rfl gd_ringsBy (by decide +kernel) ⟨rfl, rfl⟩ dR_weighsBy_56 ⟨by simp only [rmR]; omega, by simp only [rmR]; omega⟩ rfl rfl (Nat.le_of_ble_eq_true rfl) ?_
    intro r56c M56 hN
    replace h := hN
    clear hN
    refine g_iconst C dR_weighsBy_59 ?_
    refine g_imul C dR_weighsBy_60 ?_
    exact hR _ _ _ _ dR_weighsBy_61 rfl h
  · by_cases hc2 : wrap a1 = 2
    · refine g_tableIn C 62 dR_weighsBy_1 (by omega) (by omega) (by rw [hc2] <;> rfl) (by decide) ?_
      replace h := h.2.1 hc2
      refine g_aload_n C dR_weighsBy_62 rfl ?_
      refine g_bipush C dR_weighsBy_63 rfl ?_
      refine g_callVv C (nargs := 1) (o := 0) (st := []) (m_Rbegins hci h) rfl (by decide) hci rfl gd_begins (by decide +kernel) ⟨rfl, rfl⟩ dR_weighsBy_65 ⟨by simp only [rmR]; omega, by simp only [rmR]; omega⟩ rfl rfl (Nat.le_of_ble_eq_true rfl) ?_
      intro M65 hN
      replace h := hN
      clear hN
      refine g_iconst C dR_weighsBy_68 ?_
      refine g_aload_n C dR_weighsBy_69 rfl ?_
      refine g_iconst C dR_weighsBy_70 ?_
      refine g_callSi C (nargs := 1) (st := [.ref (ad 0), iv 0]) (m_Rabove hci h) gd_above (by decide +kernel) ⟨rfl, rfl⟩ dR_weighsBy_71 ⟨by simp only [rmR]; omega, by simp only [rmR]; omega⟩ rfl rfl (Nat.le_of_ble_eq_true rfl) ?_
      intro r71c M71 hN
      replace h := hN
      clear hN
      refine g_iload_n C dR_weighsBy_74 rfl ?_
      refine g_callVi C (nargs := 2) (o := 0) (st := [iv 0]) (hrc0 h) rfl (by decide) hci rfl gd_weighsBy (by decide +kernel) ⟨rfl, rfl⟩ dR_weighsBy_75 ⟨by simp only [rmR]; omega, by simp only [rmR]; omega⟩ rfl rfl (Nat.le_of_ble_eq_true rfl) ?_
      intro r75c M75 hN
      replace h := hN
      clear hN
      refine g_isub C dR_weighsBy_78 ?_
      exact hR _ _ _ _ dR_weighsBy_79 rfl h
    · by_cases hc5 : wrap a1 = 5
      · refine g_tableIn C 80 dR_weighsBy_1 (by omega) (by omega) (by rw [hc5] <;> rfl) (by decide) ?_
        replace h := h.2.2.1 hc5
        refine g_aload_n C dR_weighsBy_80 rfl ?_
        refine g_bipush C dR_weighsBy_81 rfl ?_
        refine g_callVv C (nargs := 1) (o := 0) (st := []) (m_Rbegins hci h) rfl (by decide) hci rfl gd_begins (by decide +kernel) ⟨rfl, rfl⟩ dR_weighsBy_83 ⟨by simp only [rmR]; omega, by simp only [rmR]; omega⟩ rfl rfl (Nat.le_of_ble_eq_true rfl) ?_
        intro M83 hN
        replace h := hN
        clear hN
        refine g_aload_n C dR_weighsBy_86 rfl ?_
        refine g_iconst C dR_weighsBy_87 ?_
        refine g_callSi C (nargs := 1) (st := [.ref (ad 0)]) (m_Rabove hci h) gd_above (by decide +kernel) ⟨rfl, rfl⟩ dR_weighsBy_88 ⟨by simp only [rmR]; omega, by simp only [rmR]; omega⟩ rfl rfl (Nat.le_of_ble_eq_true rfl) ?_
        intro r88c M88 hN
        replace h := hN
        clear hN
        refine g_iload_n C dR_weighsBy_91 rfl ?_
        refine g_iconst C dR_weighsBy_92 ?_
        refine g_iadd C dR_weighsBy_93 ?_
        refine g_callVi C (nargs := 2) (o := 0) (st := []) (hrc0 h) rfl (by decide) hci rfl gd_weighsBy (by decide +kernel) ⟨rfl, rfl⟩ dR_weighsBy_94 ⟨by simp only [rmR]; omega, by simp only [rmR]; omega⟩ rfl rfl (Nat.le_of_ble_eq_true rfl) ?_
        intro r94c M94 hN
        replace h := hN
        clear hN
        exact hR _ _ _ _ dR_weighsBy_97 rfl h
      · by_cases hc6 : wrap a1 = 6
        · refine g_tableIn C 98 dR_weighsBy_1 (by omega) (by omega) (by rw [hc6] <;> rfl) (by decide) ?_
          replace h := h.2.2.2.1 hc6
          refine g_aload_n C dR_weighsBy_98 rfl ?_
          refine g_bipush C dR_weighsBy_99 rfl ?_
          refine g_callVv C (nargs := 1) (o := 0) (st := []) (m_Rbegins hci h) rfl (by decide) hci rfl gd_begins (by decide +kernel) ⟨rfl, rfl⟩ dR_weighsBy_101 ⟨by simp only [rmR]; omega, by simp only [rmR]; omega⟩ rfl rfl (Nat.le_of_ble_eq_true rfl) ?_
          intro M101 hN
          replace h := hN
          clear hN
          refine g_aload_n C dR_weighsBy_104 rfl ?_
          refine g_bipush C dR_weighsBy_105 rfl ?_
          refine g_callSi C (nargs := 1) (st := [.ref (ad 0)]) (m_Rabove hci h) gd_above (by decide +kernel) ⟨rfl, rfl⟩ dR_weighsBy_107 ⟨by simp only [rmR]; omega, by simp only [rmR]; omega⟩ rfl rfl (Nat.le_of_ble_eq_true rfl) ?_
          intro r107c M107 hN
          replace h := hN
          clear hN
          refine g_iload_n C dR_weighsBy_110 rfl ?_
          refine g_callVi C (nargs := 2) (o := 0) (st := []) (hrc0 h) rfl (by decide) hci rfl gd_weighsBy (by decide +kernel) ⟨rfl, rfl⟩ dR_weighsBy_111 ⟨by simp only [rmR]; omega, by simp only [rmR]; omega⟩ rfl rfl (Nat.le_of_ble_eq_true rfl) ?_
          intro r111c M111 hN
          replace h := hN
          clear hN
          refine g_aload_n C dR_weighsBy_114 rfl ?_
          refine g_callVi C (nargs := 0) (o := 0) (st := [iv r111c]) (m_RmNow hci h) rfl (by decide) hci rfl gd_mNow (by decide +kernel) ⟨rfl, rfl⟩ dR_weighsBy_115 ⟨by simp only [rmR]; omega, by simp only [rmR]; omega⟩ rfl rfl (Nat.le_of_ble_eq_true rfl) ?_
          intro r115c M115 hN
          replace h := hN
          clear hN
          refine g_iadd C dR_weighsBy_118 ?_
          exact hR _ _ _ _ dR_weighsBy_119 rfl h
        · by_cases hin : 0 ≤ wrap a1 ∧ wrap a1 ≤ 6
          · refine g_tableIn C (off := 119) 120 dR_weighsBy_1 hin.1 hin.2 ?_ (by decide) ?_
            · have hj : (wrap a1 - 0).toNat < 7 := by omega
              have hq0 : ¬ (wrap a1 - 0).toNat = 0 := by omega
              have hq2 : ¬ (wrap a1 - 0).toNat = 2 := by omega
              have hq5 : ¬ (wrap a1 - 0).toNat = 5 := by omega
              have hq6 : ¬ (wrap a1 - 0).toNat = 6 := by omega
              generalize (wrap a1 - 0).toNat = j at *
              have key : ∀ j : Nat, j < 7 → (¬ j = 0 ∧ ¬ j = 2 ∧ ¬ j = 5 ∧ ¬ j = 6) → (#[43, 119, 61, 119, 119, 79, 97] : Array Int)[j]? = some 119 := by decide
              exact key j hj ⟨hq0, hq2, hq5, hq6⟩
            · replace h := h.2.2.2.2 ⟨hc0, hc2, hc5, hc6⟩
              refine g_aload_n C dR_weighsBy_120 rfl ?_
              refine g_iload_n C dR_weighsBy_121 rfl ?_
              refine g_callSi C (nargs := 1) (st := [.ref (ad 0)]) (m_Rabove hci h) gd_above (by decide +kernel) ⟨rfl, rfl⟩ dR_weighsBy_122 ⟨by simp only [rmR]; omega, by simp only [rmR]; omega⟩ rfl rfl (Nat.le_of_ble_eq_true rfl) ?_
              intro r122c M122 hN
              replace h := hN
              clear hN
              refine g_iload_n C dR_weighsBy_125 rfl ?_
              refine g_callVi C (nargs := 2) (o := 0) (st := []) (hrc0 h) rfl (by decide) hci rfl gd_weighsBy (by decide +kernel) ⟨rfl, rfl⟩ dR_weighsBy_126 ⟨by simp only [rmR]; omega, by simp only [rmR]; omega⟩ rfl rfl (Nat.le_of_ble_eq_true rfl) ?_
              intro r126c M126 hN
              replace h := hN
              clear hN
              exact hR _ _ _ _ dR_weighsBy_129 rfl h
          · refine g_tableOut C 120 dR_weighsBy_1 (by omega) (by decide) ?_
            replace h := h.2.2.2.2 ⟨hc0, hc2, hc5, hc6⟩
            refine g_aload_n C dR_weighsBy_120 rfl ?_
            refine g_iload_n C dR_weighsBy_121 rfl ?_
            refine g_callSi C (nargs := 1) (st := [.ref (ad 0)]) (m_Rabove hci h) gd_above (by decide +kernel) ⟨rfl, rfl⟩ dR_weighsBy_122 ⟨by simp only [rmR]; omega, by simp only [rmR]; omega⟩ rfl rfl (Nat.le_of_ble_eq_true rfl) ?_
            intro r122c M122 hN
            replace h := hN
            clear hN
            refine g_iload_n C dR_weighsBy_125 rfl ?_
            refine g_callVi C (nargs := 2) (o := 0) (st := []) (hrc0 h) rfl (by decide) hci rfl gd_weighsBy (by decide +kernel) ⟨rfl, rfl⟩ dR_weighsBy_126 ⟨by simp only [rmR]; omega, by simp only [rmR]; omega⟩ rfl rfl (Nat.le_of_ble_eq_true rfl) ?_
            intro r126c M126 hN
            replace h := hN
            clear hN
            exact hR _ _ _ _ dR_weighsBy_129 rfl h
def wg_RweighsBy : Nat → Nat → List Int → gSt → (Int → gSt → Prop) → Prop
  | 0 => fun _ _ _ _ => False
  | d + 1 => fun i xs M k => match i, xs with
    | 0, [a1, a2] => wb_RweighsBy (wg_RweighsBy d) a1 a2 M k
    | _, _ => False
theorem mg_RweighsBy {l : Launch} {D : va_G} {cl : List vw_C} {tys : List (ClassId × FieldType)} {ad : Nat → Nat} {cI : ClassId} {ci : Nat} {Z : (Nat → Prop) → State → Prop} (hci : cl[ci]? = some (RX9, TX9, 23)) (d : Nat) : (∀ {a1 a2 : Int} {M : gSt} {k : Int → gSt → Prop}, wg_RweighsBy d 0 [a1, a2] M k → MOi l yX9_weighsBy cX9_weighsBy 3 .int (rmR (d + 10) (d * 22 + 219)) D cl ((cI, .int) :: tys) (wR ad cI ci) tR Z [.ref (ad 0), iv a1, iv a2] M k) := by
  induction d with
  | zero => exact fun h => False.elim h
  | succ d ih => exact fun h => mb_RweighsBy hci (rc := wg_RweighsBy d) ih h
def w_RweighsBy (a1 a2 : Int) (M : gSt) (k : Int → gSt → Prop) : Prop := wg_RweighsBy 8 0 [a1, a2] M k
theorem m_RweighsBy {l : Launch} {D : va_G} {cl : List vw_C} {tys : List (ClassId × FieldType)} {ad : Nat → Nat} {cI : ClassId} {ci : Nat} {Z : (Nat → Prop) → State → Prop} (hci : cl[ci]? = some (RX9, TX9, 23)) {a1 a2 : Int} {M : gSt} {k : Int → gSt → Prop} (h : w_RweighsBy a1 a2 M k) : MOi l yX9_weighsBy cX9_weighsBy 3 .int (rmR 18 395) D cl ((cI, .int) :: tys) (wR ad cI ci) tR Z [.ref (ad 0), iv a1, iv a2] M k := (mg_RweighsBy hci 8) h
