section
-- WHAT EACH METHOD OF THE REFERENCE COMES TO (w_R..), and that its call comes to it (m_R..): written by wip/whole/walk.py out of the decode rows
abbrev rmR (f q : Nat) : Room := { frames := f, cells := 0, slots := 0, locals := q }
def isA (a : Nat) : Prop := 1 ≤ a ∧ a ≤ 14
def lenR (a : Nat) : Nat := match layR 0 a with
  | .inl n => n
  | _ => 0
theorem arrR {a ci : Nat} (h : isA a) : layR ci a = .inl (lenR a) ∧ a < 15 ∧ lenR a < 2147483648 := by
  obtain ⟨h1, h2⟩ := h
  rcases (show a = 1 ∨ a = 2 ∨ a = 3 ∨ a = 4 ∨ a = 5 ∨ a = 6 ∨ a = 7 ∨ a = 8 ∨ a = 9 ∨ a = 10 ∨ a = 11 ∨ a = 12 ∨ a = 13 ∨ a = 14 by omega) with rfl | rfl | rfl | rfl | rfl | rfl | rfl | rfl | rfl | rfl | rfl | rfl | rfl | rfl <;> exact ⟨rfl, by decide, by decide⟩
theorem zn_bool {x : Int} (h : x = 0 ∨ x = 1) : narrow .boolean (iv x) = iv x ∧ fits .boolean (iv x) = true := by
  rcases h with rfl | rfl <;> exact ⟨rfl, rfl⟩
section GW
variable {p : Program} {l : Launch} {e : Env} {R : Room} {s : State} {m : MethodId} {args : Array Value} {below : List Frame} {meth : Method} {c : Code} {Q : State → Prop}
variable {D : va_G} {cl : List vw_C} {A : Nat → Prop} {wl : gSt → va_W} {nL pc : Nat} {lv : List (Nat × Value)} {st : List Value} {M : gSt}
theorem g_memname (k : ∀ M' : gSt, M' = M → gG p l e R s m args below meth c Q D cl A wl nL pc lv st M') : gG p l e R s m args below meth c Q D cl A wl nL pc lv st M := k M rfl
end GW
def w_Rerror (a1 : Int) (M : gSt) (k : Int → gSt → Prop) : Prop :=
(0 ≤ a1 ∧ a1 < 7) ∧ ((0 ≤ a1 ∧ a1 < 7) ∧ (∀ M9 : gSt, M9 = wr M 4 a1 ((M 4 a1) + 1) → (k ((-1000000000) - a1) M9)))
set_option maxHeartbeats 4000000 in
set_option maxRecDepth 100000 in
theorem m_Rerror {l : Launch} {D : va_G} {cl : List vw_C} {tys : List (ClassId × FieldType)} {ad : Nat → Nat} {cI : ClassId} {ci : Nat} {Z : (Nat → Prop) → State → Prop} (hci : cl[ci]? = some (RX9, TX9, 23)) {a1 : Int} {M : gSt} {k : Int → gSt → Prop} (h : w_Rerror a1 M k) : MOi l yX9_error cX9_error 2 .int (rmR 0 0) D cl ((cI, .int) :: tys) (wR ad cI ci) tR Z [.ref (ad 0), iv a1] M k := by
  refine moi_intro (by decide +kernel) (Nat.le_of_ble_eq_true rfl) wi_20 ?_
  intro p e s m args below meth c A Q C hR
  refine g_locals (lv' := [(0, .ref (ad 0)), (1, iv a1)]) rfl ?_
  unfold w_Rerror at h
  refine g_aload_n C dR_error_0 rfl ?_
  refine rf_errors C hci dR_error_1 ?_
  refine g_iload_n C dR_error_4 rfl ?_
  refine g_dup2 C dR_error_5 rfl rfl ?_
  refine g_iald C (n := 7) dR_error_6 rfl (by decide) h.1 ?_
  replace h := h.2
  refine g_iconst C dR_error_7 ?_
  refine g_iadd C dR_error_8 ?_
  refine g_iast C (n := 7) dR_error_9 rfl (by decide) h.1 ?_
  replace h := h.2
  refine g_memname (fun M9 hM9 => ?_)
  replace h := h M9 hM9
  refine g_ldc C (-1000000000) wi_19 rfl dR_error_10 ?_
  refine g_iload_n C dR_error_12 rfl ?_
  refine g_isub C dR_error_13 ?_
  exact hR _ _ _ _ dR_error_14 rfl h
def w_Rin (a1 : Int) (a2 : Int) (a3 : Int) (M : gSt) (k : Int → gSt → Prop) : Prop :=

  (wrap a1 < wrap a2 →
    k 0 M) ∧
  (wrap a2 ≤ wrap a1 →

    (wrap a3 < wrap a1 →
      k 0 M) ∧
    (wrap a1 ≤ wrap a3 →
      k 1 M))
set_option maxHeartbeats 4000000 in
set_option maxRecDepth 100000 in
theorem m_Rin {l : Launch} {D : va_G} {cl : List vw_C} {tys : List (ClassId × FieldType)} {ad : Nat → Nat} {cI : ClassId} {ci : Nat} {Z : (Nat → Prop) → State → Prop} (hci : cl[ci]? = some (RX9, TX9, 23)) {a1 : Int} {a2 : Int} {a3 : Int} {M : gSt} {k : Int → gSt → Prop} (h : w_Rin a1 a2 a3 M k) : MOi l yX9_in cX9_in 3 .boolean (rmR 0 0) D cl ((cI, .int) :: tys) (wR ad cI ci) tR Z [iv a1, iv a2, iv a3] M k := by
  refine moi_intro (by decide +kernel) (Nat.le_of_ble_eq_true rfl) wi_21 ?_
  intro p e s m args below meth c A Q C hR
  refine g_locals (lv' := [(0, iv a1), (1, iv a2), (2, iv a3)]) rfl ?_
  unfold w_Rin at h
  refine g_iload_n C dR_in_0 rfl ?_
  refine g_iload_n C dR_in_1 rfl ?_
  refine g_icmp_lt C 14 dR_in_2 (by decide) (fun hc => ?_) (fun hc => ?_)
  · replace h := h.1 hc
    refine g_iconst C dR_in_14 ?_
    exact hR _ _ _ _ dR_in_15 rfl h
  · replace h := h.2 hc
    refine g_iload_n C dR_in_5 rfl ?_
    refine g_iload_n C dR_in_6 rfl ?_
    refine g_icmp_gt C 14 dR_in_7 (by decide) (fun hc => ?_) (fun hc => ?_)
    · replace h := h.1 hc
      refine g_iconst C dR_in_14 ?_
      exact hR _ _ _ _ dR_in_15 rfl h
    · replace h := h.2 hc
      refine g_iconst C dR_in_10 ?_
      refine g_goto C 15 dR_in_11 (by decide) ?_
      exact hR _ _ _ _ dR_in_15 rfl h
def w_Rheld (a1 : Int) (a2 : Int) (a3 : Int) (M : gSt) (k : Int → gSt → Prop) : Prop :=

  (wrap a2 ≤ wrap a1 →

    (wrap a1 ≤ wrap a3 →
      k a1 M) ∧
    (wrap a3 < wrap a1 →
      k a3 M)) ∧
  (wrap a1 < wrap a2 →
    k a2 M)
set_option maxHeartbeats 4000000 in
set_option maxRecDepth 100000 in
theorem m_Rheld {l : Launch} {D : va_G} {cl : List vw_C} {tys : List (ClassId × FieldType)} {ad : Nat → Nat} {cI : ClassId} {ci : Nat} {Z : (Nat → Prop) → State → Prop} (hci : cl[ci]? = some (RX9, TX9, 23)) {a1 : Int} {a2 : Int} {a3 : Int} {M : gSt} {k : Int → gSt → Prop} (h : w_Rheld a1 a2 a3 M k) : MOi l yX9_held cX9_held 3 .int (rmR 0 0) D cl ((cI, .int) :: tys) (wR ad cI ci) tR Z [iv a1, iv a2, iv a3] M k := by
  refine moi_intro (by decide +kernel) (Nat.le_of_ble_eq_true rfl) wi_22 ?_
  intro p e s m args below meth c A Q C hR
  refine g_locals (lv' := [(0, iv a1), (1, iv a2), (2, iv a3)]) rfl ?_
  unfold w_Rheld at h
  refine g_iload_n C dR_held_0 rfl ?_
  refine g_iload_n C dR_held_1 rfl ?_
  refine g_icmp_ge C 9 dR_held_2 (by decide) (fun hc => ?_) (fun hc => ?_)
  · replace h := h.1 hc
    refine g_iload_n C dR_held_9 rfl ?_
    refine g_iload_n C dR_held_10 rfl ?_
    refine g_icmp_le C 18 dR_held_11 (by decide) (fun hc => ?_) (fun hc => ?_)
    · replace h := h.1 hc
      refine g_iload_n C dR_held_18 rfl ?_
      exact hR _ _ _ _ dR_held_19 rfl h
    · replace h := h.2 hc
      refine g_iload_n C dR_held_14 rfl ?_
      refine g_goto C 19 dR_held_15 (by decide) ?_
      exact hR _ _ _ _ dR_held_19 rfl h
  · replace h := h.2 hc
    refine g_iload_n C dR_held_5 rfl ?_
    refine g_goto C 19 dR_held_6 (by decide) ?_
    exact hR _ _ _ _ dR_held_19 rfl h
def wC_Rcarry_2 (a1 : Nat) (a2 : Nat) (k : gSt → Prop) (r2 : Int → gSt → Prop) (X2_21 : gSt → Prop) (v2 : Int) (M : gSt) : Prop :=

  (536 ≤ wrap v2 →
    X2_21  M) ∧
  (wrap v2 < 536 →
    (isA a1 ∧ 0 ≤ v2 ∧ v2 < lenR a1) ∧ ((isA a2 ∧ 0 ≤ v2 ∧ v2 < lenR a2) ∧ (∀ M14 : gSt, M14 = wr M a2 v2 (M a1 v2) → (r2 (v2 + 1) M14))))
def wL_Rcarry_2 (a1 : Nat) (a2 : Nat) (k : gSt → Prop)  (X2_21 : gSt → Prop) : Nat → Int → gSt → Prop
  | 0 => fun _ _ => False
  | n + 1 => fun v2 M => wC_Rcarry_2 a1 a2 k  (wL_Rcarry_2 a1 a2 k  X2_21 n) X2_21 v2 M
def w_Rcarry (a1 : Nat) (a2 : Nat) (M : gSt) (k : gSt → Prop) : Prop :=
∃ n, wL_Rcarry_2 a1 a2 k  (fun  M2 =>
    k M2) n 0 M
set_option maxHeartbeats 4000000 in
set_option maxRecDepth 100000 in
theorem m_Rcarry {l : Launch} {D : va_G} {cl : List vw_C} {tys : List (ClassId × FieldType)} {ad : Nat → Nat} {cI : ClassId} {ci : Nat} {Z : (Nat → Prop) → State → Prop} (hci : cl[ci]? = some (RX9, TX9, 23)) {a1 : Nat} {a2 : Nat} {M : gSt} {k : gSt → Prop} (h : w_Rcarry a1 a2 M k) : MOv l yX9_carry cX9_carry 3 (rmR 0 0) D cl ((cI, .int) :: tys) (wR ad cI ci) tR Z [.ref (ad a1), .ref (ad a2)] M k := by
  refine mov_intro (by decide +kernel) (Nat.le_of_ble_eq_true rfl) wi_23 ?_
  intro p e s m args below meth c A Q C hR
  have pC2 : ∀ (r2 : Int → gSt → Prop) (X2_21 : gSt → Prop) (hr2 : ∀ (v2 : Int) (M : gSt), r2 v2 M → gG p l e (rmR 0 0) s m args below meth c Q D cl A (wR ad cI ci) 3 2 [(0, .ref (ad a1)), (1, .ref (ad a2)), (2, iv v2)] [] M) (hX2_21 : ∀  (M : gSt), X2_21  M → gG p l e (rmR 0 0) s m args below meth c Q D cl A (wR ad cI ci) 3 21 [] [] M) (v2 : Int) (M : gSt), wC_Rcarry_2 a1 a2 k r2 X2_21 v2 M → gG p l e (rmR 0 0) s m args below meth c Q D cl A (wR ad cI ci) 3 2 [(0, .ref (ad a1)), (1, .ref (ad a2)), (2, iv v2)] [] M := by
    intro r2 X2_21 hr2 hX2_21 v2 M h
    unfold wC_Rcarry_2 at h
    refine g_iload_n C dR_carry_2 rfl ?_
    refine g_sipush C dR_carry_3 rfl ?_
    refine g_icmp_ge C 21 dR_carry_6 (by decide) (fun hc => ?_) (fun hc => ?_)
    · replace h := h.1 hc
      refine g_locals (lv' := []) rfl ?_
      exact hX2_21  _ h
    · replace h := h.2 hc
      refine g_aload_n C dR_carry_9 rfl ?_
      refine g_iload_n C dR_carry_10 rfl ?_
      refine g_aload_n C dR_carry_11 rfl ?_
      refine g_iload_n C dR_carry_12 rfl ?_
      refine g_iald C dR_carry_13 (arrR h.1.1).1 (arrR (ci := ci) h.1.1).2 h.1.2 ?_
      replace h := h.2
      refine g_iast C dR_carry_14 (arrR h.1.1).1 (arrR (ci := ci) h.1.1).2 h.1.2 ?_
      replace h := h.2
      refine g_memname (fun M14 hM14 => ?_)
      replace h := h M14 hM14
      refine g_iinc C dR_carry_15 rfl (by decide) rfl ?_
      refine g_locals (lv' := [(0, .ref (ad a1)), (1, .ref (ad a2)), (2, iv (v2 + 1))]) rfl ?_
      refine g_goto C 2 dR_carry_18 (by decide) ?_
      refine g_locals (lv' := [(0, .ref (ad a1)), (1, .ref (ad a2)), (2, iv (v2 + 1))]) rfl ?_
      exact hr2 _  _ h
  have pL2 : ∀  (X2_21 : gSt → Prop) (hX2_21 : ∀  (M : gSt), X2_21  M → gG p l e (rmR 0 0) s m args below meth c Q D cl A (wR ad cI ci) 3 21 [] [] M) (n : Nat) (v2 : Int) (M : gSt), wL_Rcarry_2 a1 a2 k  X2_21 n v2 M → gG p l e (rmR 0 0) s m args below meth c Q D cl A (wR ad cI ci) 3 2 [(0, .ref (ad a1)), (1, .ref (ad a2)), (2, iv v2)] [] M := by
    intro  X2_21 hX2_21 n
    induction n with
    | zero => intro v2 M h; exact h.elim
    | succ n ih =>
      intro v2 M h
      exact pC2  (wL_Rcarry_2 a1 a2 k  X2_21 n) X2_21 ih hX2_21 v2 M h
  refine g_locals (lv' := [(0, .ref (ad a1)), (1, .ref (ad a2))]) rfl ?_
  unfold w_Rcarry at h
  refine g_iconst C dR_carry_0 ?_
  refine g_istore_n C dR_carry_1 (by decide) rfl ?_
  refine g_locals (lv' := [(0, .ref (ad a1)), (1, .ref (ad a2)), (2, iv 0)]) rfl ?_
  refine g_locals (lv' := [(0, .ref (ad a1)), (1, .ref (ad a2)), (2, iv 0)]) rfl ?_
  obtain ⟨n, h⟩ := h
  refine pL2 _ ?_ n _ _ h
  · intro  M2 hN
    replace h := hN
    clear hN
    exact hR _ _ _ dR_carry_21 h
def w_RisThing (a1 : Int) (M : gSt) (k : Int → gSt → Prop) : Prop :=
w_Rin a1 0 ((M 1 0) - 1) M (fun r10c M10 => (r10c = 0 ∨ r10c = 1) ∧ (k r10c M10))
set_option maxHeartbeats 4000000 in
set_option maxRecDepth 100000 in
theorem m_RisThing {l : Launch} {D : va_G} {cl : List vw_C} {tys : List (ClassId × FieldType)} {ad : Nat → Nat} {cI : ClassId} {ci : Nat} {Z : (Nat → Prop) → State → Prop} (hci : cl[ci]? = some (RX9, TX9, 23)) {a1 : Int} {M : gSt} {k : Int → gSt → Prop} (h : w_RisThing a1 M k) : MOi l yX9_isThing cX9_isThing 2 .boolean (rmR 1 22) D cl ((cI, .int) :: tys) (wR ad cI ci) tR Z [.ref (ad 0), iv a1] M k := by
  refine moi_intro (by decide +kernel) (Nat.le_of_ble_eq_true rfl) wi_27 ?_
  intro p e s m args below meth c A Q C hR
  refine g_locals (lv' := [(0, .ref (ad 0)), (1, iv a1)]) rfl ?_
  unfold w_RisThing at h
  refine g_iload_n C dR_isThing_0 rfl ?_
  refine g_iconst C dR_isThing_1 ?_
  refine g_aload_n C dR_isThing_2 rfl ?_
  refine rf_s C hci dR_isThing_3 ?_
  refine g_iconst C dR_isThing_6 ?_
  refine g_iald C (n := 536) dR_isThing_7 rfl (by decide) ⟨by decide, by decide⟩ ?_
  refine g_iconst C dR_isThing_8 ?_
  refine g_isub C dR_isThing_9 ?_
  refine g_callSi C (nargs := 3) (st := []) (m_Rin hci h) gd_in (by decide +kernel) ⟨rfl, rfl⟩ dR_isThing_10 ⟨by decide, by decide⟩ rfl rfl (Nat.le_of_ble_eq_true rfl) ?_
  intro r10c M10 hN
  replace h := hN
  clear hN
  exact hR _ _ _ _ dR_isThing_13 (zn_bool h.1).1 h.2
def w_Rits (a1 : Int) (a2 : Int) (M : gSt) (k : Int → gSt → Prop) : Prop :=
(0 ≤ (10 + (10 * a1)) + a2 ∧ (10 + (10 * a1)) + a2 < 536) ∧ (k (M 1 ((10 + (10 * a1)) + a2)) M)
set_option maxHeartbeats 4000000 in
set_option maxRecDepth 100000 in
theorem m_Rits {l : Launch} {D : va_G} {cl : List vw_C} {tys : List (ClassId × FieldType)} {ad : Nat → Nat} {cI : ClassId} {ci : Nat} {Z : (Nat → Prop) → State → Prop} (hci : cl[ci]? = some (RX9, TX9, 23)) {a1 : Int} {a2 : Int} {M : gSt} {k : Int → gSt → Prop} (h : w_Rits a1 a2 M k) : MOi l yX9_its cX9_its 3 .int (rmR 0 0) D cl ((cI, .int) :: tys) (wR ad cI ci) tR Z [.ref (ad 0), iv a1, iv a2] M k := by
  refine moi_intro (by decide +kernel) (Nat.le_of_ble_eq_true rfl) wi_28 ?_
  intro p e s m args below meth c A Q C hR
  refine g_locals (lv' := [(0, .ref (ad 0)), (1, iv a1), (2, iv a2)]) rfl ?_
  unfold w_Rits at h
  refine g_aload_n C dR_its_0 rfl ?_
  refine rf_s C hci dR_its_1 ?_
  refine g_bipush C dR_its_4 rfl ?_
  refine g_bipush C dR_its_6 rfl ?_
  refine g_iload_n C dR_its_8 rfl ?_
  refine g_imul C dR_its_9 ?_
  refine g_iadd C dR_its_10 ?_
  refine g_iload_n C dR_its_11 rfl ?_
  refine g_iadd C dR_its_12 ?_
  refine g_iald C (n := 536) dR_its_13 rfl (by decide) h.1 ?_
  replace h := h.2
  exact hR _ _ _ _ dR_its_14 rfl h
def w_Rlays1 (a1 : Int) (a2 : Int) (a3 : Int) (M : gSt) (k : gSt → Prop) : Prop :=
(0 ≤ (10 + (10 * a1)) + a2 ∧ (10 + (10 * a1)) + a2 < 536) ∧ (∀ M14 : gSt, M14 = wr M 1 ((10 + (10 * a1)) + a2) a3 → (k M14))
set_option maxHeartbeats 4000000 in
set_option maxRecDepth 100000 in
theorem m_Rlays1 {l : Launch} {D : va_G} {cl : List vw_C} {tys : List (ClassId × FieldType)} {ad : Nat → Nat} {cI : ClassId} {ci : Nat} {Z : (Nat → Prop) → State → Prop} (hci : cl[ci]? = some (RX9, TX9, 23)) {a1 : Int} {a2 : Int} {a3 : Int} {M : gSt} {k : gSt → Prop} (h : w_Rlays1 a1 a2 a3 M k) : MOv l yX9_lays1 cX9_lays1 4 (rmR 0 0) D cl ((cI, .int) :: tys) (wR ad cI ci) tR Z [.ref (ad 0), iv a1, iv a2, iv a3] M k := by
  refine mov_intro (by decide +kernel) (Nat.le_of_ble_eq_true rfl) wi_29 ?_
  intro p e s m args below meth c A Q C hR
  refine g_locals (lv' := [(0, .ref (ad 0)), (1, iv a1), (2, iv a2), (3, iv a3)]) rfl ?_
  unfold w_Rlays1 at h
  refine g_aload_n C dR_lays1_0 rfl ?_
  refine rf_s C hci dR_lays1_1 ?_
  refine g_bipush C dR_lays1_4 rfl ?_
  refine g_bipush C dR_lays1_6 rfl ?_
  refine g_iload_n C dR_lays1_8 rfl ?_
  refine g_imul C dR_lays1_9 ?_
  refine g_iadd C dR_lays1_10 ?_
  refine g_iload_n C dR_lays1_11 rfl ?_
  refine g_iadd C dR_lays1_12 ?_
  refine g_iload_n C dR_lays1_13 rfl ?_
  refine g_iast C (n := 536) dR_lays1_14 rfl (by decide) h.1 ?_
  replace h := h.2
  refine g_memname (fun M14 hM14 => ?_)
  replace h := h M14 hM14
  exact hR _ _ _ dR_lays1_15 h
def wC_RaddThing_9 (a1 : Int) (k : Int → gSt → Prop) (r9 : Int → Int → gSt → Prop) (X9_28 : Int → gSt → Prop) (v2 : Int) (v3 : Int) (M : gSt) : Prop :=

  (10 ≤ wrap v3 →
    X9_28 v2 M) ∧
  (wrap v3 < 10 →
    w_Rlays1 v2 v3 0 M (fun M19 => r9 v2 (v3 + 1) M19))
def wL_RaddThing_9 (a1 : Int) (k : Int → gSt → Prop)  (X9_28 : Int → gSt → Prop) : Nat → Int → Int → gSt → Prop
  | 0 => fun _ _ _ => False
  | n + 1 => fun v2 v3 M => wC_RaddThing_9 a1 k  (wL_RaddThing_9 a1 k  X9_28 n) X9_28 v2 v3 M
def w_RaddThing (a1 : Int) (M : gSt) (k : Int → gSt → Prop) : Prop :=
∀ x2_6 : Int, x2_6 = M 1 0 → (∃ n, wL_RaddThing_9 a1 k  (fun u2_9 M9 =>
    w_Rlays1 u2_9 0 (Int.tdiv (wrap a1) 100) M9 (fun M35 => w_Rlays1 u2_9 1 (Int.tmod (wrap a1) 100) M35 (fun M45 => ∀ M57 : gSt, M57 = wr M45 1 0 ((M45 1 0) + 1) → (k u2_9 M57)))) n x2_6 0 M)
set_option maxHeartbeats 4000000 in
set_option maxRecDepth 100000 in
theorem m_RaddThing {l : Launch} {D : va_G} {cl : List vw_C} {tys : List (ClassId × FieldType)} {ad : Nat → Nat} {cI : ClassId} {ci : Nat} {Z : (Nat → Prop) → State → Prop} (hci : cl[ci]? = some (RX9, TX9, 23)) {a1 : Int} {M : gSt} {k : Int → gSt → Prop} (h : w_RaddThing a1 M k) : MOi l yX9_addThing cX9_addThing 4 .int (rmR 1 23) D cl ((cI, .int) :: tys) (wR ad cI ci) tR Z [.ref (ad 0), iv a1] M k := by
  refine moi_intro (by decide +kernel) (Nat.le_of_ble_eq_true rfl) wi_33 ?_
  intro p e s m args below meth c A Q C hR
  have pC9 : ∀ (r9 : Int → Int → gSt → Prop) (X9_28 : Int → gSt → Prop) (hr9 : ∀ (v2 : Int) (v3 : Int) (M : gSt), r9 v2 v3 M → gG p l e (rmR 1 23) s m args below meth c Q D cl A (wR ad cI ci) 4 9 [(0, .ref (ad 0)), (1, iv a1), (2, iv v2), (3, iv v3)] [] M) (hX9_28 : ∀ (v2 : Int) (M : gSt), X9_28 v2 M → gG p l e (rmR 1 23) s m args below meth c Q D cl A (wR ad cI ci) 4 28 [(0, .ref (ad 0)), (1, iv a1), (2, iv v2)] [] M) (v2 : Int) (v3 : Int) (M : gSt), wC_RaddThing_9 a1 k r9 X9_28 v2 v3 M → gG p l e (rmR 1 23) s m args below meth c Q D cl A (wR ad cI ci) 4 9 [(0, .ref (ad 0)), (1, iv a1), (2, iv v2), (3, iv v3)] [] M := by
    intro r9 X9_28 hr9 hX9_28 v2 v3 M h
    unfold wC_RaddThing_9 at h
    refine g_iload_n C dR_addThing_9 rfl ?_
    refine g_bipush C dR_addThing_10 rfl ?_
    refine g_icmp_ge C 28 dR_addThing_12 (by decide) (fun hc => ?_) (fun hc => ?_)
    · replace h := h.1 hc
      refine g_locals (lv' := [(0, .ref (ad 0)), (1, iv a1), (2, iv v2)]) rfl ?_
      exact hX9_28 _  _ h
    · replace h := h.2 hc
      refine g_aload_n C dR_addThing_15 rfl ?_
      refine g_iload_n C dR_addThing_16 rfl ?_
      refine g_iload_n C dR_addThing_17 rfl ?_
      refine g_iconst C dR_addThing_18 ?_
      refine g_callVv C (nargs := 3) (o := 0) (st := []) (m_Rlays1 hci h) rfl (by decide) hci rfl gd_lays1 (by decide +kernel) ⟨rfl, rfl⟩ dR_addThing_19 ⟨by decide, by decide⟩ rfl rfl (Nat.le_of_ble_eq_true rfl) ?_
      intro M19 hN
      replace h := hN
      clear hN
      refine g_iinc C dR_addThing_22 rfl (by decide) rfl ?_
      refine g_locals (lv' := [(0, .ref (ad 0)), (1, iv a1), (2, iv v2), (3, iv (v3 + 1))]) rfl ?_
      refine g_goto C 9 dR_addThing_25 (by decide) ?_
      refine g_locals (lv' := [(0, .ref (ad 0)), (1, iv a1), (2, iv v2), (3, iv (v3 + 1))]) rfl ?_
      exact hr9 _ _  _ h
  have pL9 : ∀  (X9_28 : Int → gSt → Prop) (hX9_28 : ∀ (v2 : Int) (M : gSt), X9_28 v2 M → gG p l e (rmR 1 23) s m args below meth c Q D cl A (wR ad cI ci) 4 28 [(0, .ref (ad 0)), (1, iv a1), (2, iv v2)] [] M) (n : Nat) (v2 : Int) (v3 : Int) (M : gSt), wL_RaddThing_9 a1 k  X9_28 n v2 v3 M → gG p l e (rmR 1 23) s m args below meth c Q D cl A (wR ad cI ci) 4 9 [(0, .ref (ad 0)), (1, iv a1), (2, iv v2), (3, iv v3)] [] M := by
    intro  X9_28 hX9_28 n
    induction n with
    | zero => intro v2 v3 M h; exact h.elim
    | succ n ih =>
      intro v2 v3 M h
      exact pC9  (wL_RaddThing_9 a1 k  X9_28 n) X9_28 ih hX9_28 v2 v3 M h
  refine g_locals (lv' := [(0, .ref (ad 0)), (1, iv a1)]) rfl ?_
  unfold w_RaddThing at h
  refine g_aload_n C dR_addThing_0 rfl ?_
  refine rf_s C hci dR_addThing_1 ?_
  refine g_iconst C dR_addThing_4 ?_
  refine g_iald C (n := 536) dR_addThing_5 rfl (by decide) ⟨by decide, by decide⟩ ?_
  refine g_name (fun x2_6 hx2_6 => ?_)
  replace h := h x2_6 hx2_6
  refine g_istore_n C dR_addThing_6 (by decide) rfl ?_
  refine g_locals (lv' := [(0, .ref (ad 0)), (1, iv a1), (2, iv x2_6)]) rfl ?_
  refine g_iconst C dR_addThing_7 ?_
  refine g_istore_n C dR_addThing_8 (by decide) rfl ?_
  refine g_locals (lv' := [(0, .ref (ad 0)), (1, iv a1), (2, iv x2_6), (3, iv 0)]) rfl ?_
  refine g_locals (lv' := [(0, .ref (ad 0)), (1, iv a1), (2, iv x2_6), (3, iv 0)]) rfl ?_
  obtain ⟨n, h⟩ := h
  refine pL9 _ ?_ n _ _ _ h
  · intro u2_9 M9 hN
    replace h := hN
    clear hN
    refine g_aload_n C dR_addThing_28 rfl ?_
    refine g_iload_n C dR_addThing_29 rfl ?_
    refine g_iconst C dR_addThing_30 ?_
    refine g_iload_n C dR_addThing_31 rfl ?_
    refine g_bipush C dR_addThing_32 rfl ?_
    refine g_idiv C dR_addThing_34 (by decide) ?_
    refine g_top (y := Int.tdiv (wrap a1) 100) rfl ?_
    refine g_callVv C (nargs := 3) (o := 0) (st := []) (m_Rlays1 hci h) rfl (by decide) hci rfl gd_lays1 (by decide +kernel) ⟨rfl, rfl⟩ dR_addThing_35 ⟨by decide, by decide⟩ rfl rfl (Nat.le_of_ble_eq_true rfl) ?_
    intro M35 hN
    replace h := hN
    clear hN
    refine g_aload_n C dR_addThing_38 rfl ?_
    refine g_iload_n C dR_addThing_39 rfl ?_
    refine g_iconst C dR_addThing_40 ?_
    refine g_iload_n C dR_addThing_41 rfl ?_
    refine g_bipush C dR_addThing_42 rfl ?_
    refine g_irem C dR_addThing_44 (by decide) ?_
    refine g_top (y := Int.tmod (wrap a1) 100) rfl ?_
    refine g_callVv C (nargs := 3) (o := 0) (st := []) (m_Rlays1 hci h) rfl (by decide) hci rfl gd_lays1 (by decide +kernel) ⟨rfl, rfl⟩ dR_addThing_45 ⟨by decide, by decide⟩ rfl rfl (Nat.le_of_ble_eq_true rfl) ?_
    intro M45 hN
    replace h := hN
    clear hN
    refine g_aload_n C dR_addThing_48 rfl ?_
    refine rf_s C hci dR_addThing_49 ?_
    refine g_iconst C dR_addThing_52 ?_
    refine g_dup2 C dR_addThing_53 rfl rfl ?_
    refine g_iald C (n := 536) dR_addThing_54 rfl (by decide) ⟨by decide, by decide⟩ ?_
    refine g_iconst C dR_addThing_55 ?_
    refine g_iadd C dR_addThing_56 ?_
    refine g_iast C (n := 536) dR_addThing_57 rfl (by decide) ⟨by decide, by decide⟩ ?_
    refine g_memname (fun M57 hM57 => ?_)
    replace h := h M57 hM57
    refine g_iload_n C dR_addThing_58 rfl ?_
    exact hR _ _ _ _ dR_addThing_59 rfl h
def wB_Rthing_21 (a1 : Int) (a2 : Int) (k : Int → gSt → Prop)   (M : gSt) : Prop :=
w_Rerror 1 M (fun r23c M23 => k r23c M23)
def w_Rthing (a1 : Int) (a2 : Int) (M : gSt) (k : Int → gSt → Prop) : Prop :=
w_Rin a1 0 699 M (fun r5c M5 => 
  (wrap r5c = 0 →
    wB_Rthing_21 a1 a2 k   M5) ∧
  (¬ wrap r5c = 0 →
    w_Rin a2 0 9999999 M5 (fun r15c M15 => 
    (¬ wrap r15c = 0 →

      (¬ wrap (M15 1 0) = 12 →
        w_RaddThing a1 M15 (fun r46c M46 => w_Rlays1 r46c 2 a2 M46 (fun M54 => 
        (4 ≤ wrap (M54 1 1) →
          k r46c M54) ∧
        (wrap (M54 1 1) < 4 →
          w_Rlays1 r46c (6 + (M54 1 1)) 1000000 M54 (fun M80 => ∀ M92 : gSt, M92 = wr M80 1 1 ((M80 1 1) + 1) → (k r46c M92)))))) ∧
      (wrap (M15 1 0) = 12 →
        w_Rerror 4 M15 (fun r40c M40 => k r40c M40))) ∧
    (wrap r15c = 0 →
      wB_Rthing_21 a1 a2 k   M15))))
set_option maxHeartbeats 4000000 in
set_option maxRecDepth 100000 in
theorem m_Rthing {l : Launch} {D : va_G} {cl : List vw_C} {tys : List (ClassId × FieldType)} {ad : Nat → Nat} {cI : ClassId} {ci : Nat} {Z : (Nat → Prop) → State → Prop} (hci : cl[ci]? = some (RX9, TX9, 23)) {a1 : Int} {a2 : Int} {M : gSt} {k : Int → gSt → Prop} (h : w_Rthing a1 a2 M k) : MOi l yX9_thing cX9_thing 4 .int (rmR 2 46) D cl ((cI, .int) :: tys) (wR ad cI ci) tR Z [.ref (ad 0), iv a1, iv a2] M k := by
  refine moi_intro (by decide +kernel) (Nat.le_of_ble_eq_true rfl) wi_42 ?_
  intro p e s m args below meth c A Q C hR
  have pB21 : ∀    (M : gSt), wB_Rthing_21 a1 a2 k   M → gG p l e (rmR 2 46) s m args below meth c Q D cl A (wR ad cI ci) 4 21 [(0, .ref (ad 0))] [] M := by
    intro    M h
    unfold wB_Rthing_21 at h
    refine g_aload_n C dR_thing_21 rfl ?_
    refine g_iconst C dR_thing_22 ?_
    refine g_callVi C (nargs := 1) (o := 0) (st := []) (m_Rerror hci h) rfl (by decide) hci rfl gd_error (by decide +kernel) ⟨rfl, rfl⟩ dR_thing_23 ⟨by decide, by decide⟩ rfl rfl (Nat.le_of_ble_eq_true rfl) ?_
    intro r23c M23 hN
    replace h := hN
    clear hN
    exact hR _ _ _ _ dR_thing_26 rfl h
  refine g_locals (lv' := [(0, .ref (ad 0)), (1, iv a1), (2, iv a2)]) rfl ?_
  unfold w_Rthing at h
  refine g_iload_n C dR_thing_0 rfl ?_
  refine g_iconst C dR_thing_1 ?_
  refine g_sipush C dR_thing_2 rfl ?_
  refine g_callSi C (nargs := 3) (st := []) (m_Rin hci h) gd_in (by decide +kernel) ⟨rfl, rfl⟩ dR_thing_5 ⟨by decide, by decide⟩ rfl rfl (Nat.le_of_ble_eq_true rfl) ?_
  intro r5c M5 hN
  replace h := hN
  clear hN
  refine g_if_eq C 21 dR_thing_8 (by decide) (fun hc => ?_) (fun hc => ?_)
  · replace h := h.1 hc
    refine g_locals (lv' := [(0, .ref (ad 0))]) rfl ?_
    exact pB21  _ h
  · replace h := h.2 hc
    refine g_iload_n C dR_thing_11 rfl ?_
    refine g_iconst C dR_thing_12 ?_
    refine g_ldc C 9999999 wi_34 rfl dR_thing_13 ?_
    refine g_callSi C (nargs := 3) (st := []) (m_Rin hci h) gd_in (by decide +kernel) ⟨rfl, rfl⟩ dR_thing_15 ⟨by decide, by decide⟩ rfl rfl (Nat.le_of_ble_eq_true rfl) ?_
    intro r15c M15 hN
    replace h := hN
    clear hN
    refine g_if_ne C 27 dR_thing_18 (by decide) (fun hc => ?_) (fun hc => ?_)
    · replace h := h.1 hc
      refine g_aload_n C dR_thing_27 rfl ?_
      refine rf_s C hci dR_thing_28 ?_
      refine g_iconst C dR_thing_31 ?_
      refine g_iald C (n := 536) dR_thing_32 rfl (by decide) ⟨by decide, by decide⟩ ?_
      refine g_bipush C dR_thing_33 rfl ?_
      refine g_icmp_ne C 44 dR_thing_35 (by decide) (fun hc => ?_) (fun hc => ?_)
      · replace h := h.1 hc
        refine g_aload_n C dR_thing_44 rfl ?_
        refine g_iload_n C dR_thing_45 rfl ?_
        refine g_callVi C (nargs := 1) (o := 0) (st := []) (m_RaddThing hci h) rfl (by decide) hci rfl gd_addThing (by decide +kernel) ⟨rfl, rfl⟩ dR_thing_46 ⟨by decide, by decide⟩ rfl rfl (Nat.le_of_ble_eq_true rfl) ?_
        intro r46c M46 hN
        replace h := hN
        clear hN
        refine g_istore_n C dR_thing_49 (by decide) rfl ?_
        refine g_locals (lv' := [(0, .ref (ad 0)), (1, iv a1), (2, iv a2), (3, iv r46c)]) rfl ?_
        refine g_aload_n C dR_thing_50 rfl ?_
        refine g_iload_n C dR_thing_51 rfl ?_
        refine g_iconst C dR_thing_52 ?_
        refine g_iload_n C dR_thing_53 rfl ?_
        refine g_callVv C (nargs := 3) (o := 0) (st := []) (m_Rlays1 hci h) rfl (by decide) hci rfl gd_lays1 (by decide +kernel) ⟨rfl, rfl⟩ dR_thing_54 ⟨by decide, by decide⟩ rfl rfl (Nat.le_of_ble_eq_true rfl) ?_
        intro M54 hN
        replace h := hN
        clear hN
        refine g_aload_n C dR_thing_57 rfl ?_
        refine rf_s C hci dR_thing_58 ?_
        refine g_iconst C dR_thing_61 ?_
        refine g_iald C (n := 536) dR_thing_62 rfl (by decide) ⟨by decide, by decide⟩ ?_
        refine g_iconst C dR_thing_63 ?_
        refine g_icmp_ge C 93 dR_thing_64 (by decide) (fun hc => ?_) (fun hc => ?_)
        · replace h := h.1 hc
          refine g_iload_n C dR_thing_93 rfl ?_
          exact hR _ _ _ _ dR_thing_94 rfl h
        · replace h := h.2 hc
          refine g_aload_n C dR_thing_67 rfl ?_
          refine g_iload_n C dR_thing_68 rfl ?_
          refine g_bipush C dR_thing_69 rfl ?_
          refine g_aload_n C dR_thing_71 rfl ?_
          refine rf_s C hci dR_thing_72 ?_
          refine g_iconst C dR_thing_75 ?_
          refine g_iald C (n := 536) dR_thing_76 rfl (by decide) ⟨by decide, by decide⟩ ?_
          refine g_iadd C dR_thing_77 ?_
          refine g_ldc C 1000000 wi_35 rfl dR_thing_78 ?_
          refine g_callVv C (nargs := 3) (o := 0) (st := []) (m_Rlays1 hci h) rfl (by decide) hci rfl gd_lays1 (by decide +kernel) ⟨rfl, rfl⟩ dR_thing_80 ⟨by decide, by decide⟩ rfl rfl (Nat.le_of_ble_eq_true rfl) ?_
          intro M80 hN
          replace h := hN
          clear hN
          refine g_aload_n C dR_thing_83 rfl ?_
          refine rf_s C hci dR_thing_84 ?_
          refine g_iconst C dR_thing_87 ?_
          refine g_dup2 C dR_thing_88 rfl rfl ?_
          refine g_iald C (n := 536) dR_thing_89 rfl (by decide) ⟨by decide, by decide⟩ ?_
          refine g_iconst C dR_thing_90 ?_
          refine g_iadd C dR_thing_91 ?_
          refine g_iast C (n := 536) dR_thing_92 rfl (by decide) ⟨by decide, by decide⟩ ?_
          refine g_memname (fun M92 hM92 => ?_)
          replace h := h M92 hM92
          refine g_iload_n C dR_thing_93 rfl ?_
          exact hR _ _ _ _ dR_thing_94 rfl h
      · replace h := h.2 hc
        refine g_aload_n C dR_thing_38 rfl ?_
        refine g_iconst C dR_thing_39 ?_
        refine g_callVi C (nargs := 1) (o := 0) (st := []) (m_Rerror hci h) rfl (by decide) hci rfl gd_error (by decide +kernel) ⟨rfl, rfl⟩ dR_thing_40 ⟨by decide, by decide⟩ rfl rfl (Nat.le_of_ble_eq_true rfl) ?_
        intro r40c M40 hN
        replace h := hN
        clear hN
        exact hR _ _ _ _ dR_thing_43 rfl h
    · replace h := h.2 hc
      refine g_locals (lv' := [(0, .ref (ad 0))]) rfl ?_
      exact pB21  _ h
def w_RpartOf (a1 : Int) (a2 : Int) (a3 : Int) (M : gSt) (k : Int → gSt → Prop) : Prop :=
(wrapL (wrap a3) ≠ 0) ∧ (k (Int.tdiv (wrapL ((wrap a1) * (wrap a2))) (wrapL (wrap a3))) M)
set_option maxHeartbeats 4000000 in
set_option maxRecDepth 100000 in
theorem m_RpartOf {l : Launch} {D : va_G} {cl : List vw_C} {tys : List (ClassId × FieldType)} {ad : Nat → Nat} {cI : ClassId} {ci : Nat} {Z : (Nat → Prop) → State → Prop} (hci : cl[ci]? = some (RX9, TX9, 23)) {a1 : Int} {a2 : Int} {a3 : Int} {M : gSt} {k : Int → gSt → Prop} (h : w_RpartOf a1 a2 a3 M k) : MOi l yX9_partOf cX9_partOf 3 .int (rmR 0 0) D cl ((cI, .int) :: tys) (wR ad cI ci) tR Z [iv a1, iv a2, iv a3] M k := by
  refine moi_intro (by decide +kernel) (Nat.le_of_ble_eq_true rfl) wi_43 ?_
  intro p e s m args below meth c A Q C hR
  refine g_locals (lv' := [(0, iv a1), (1, iv a2), (2, iv a3)]) rfl ?_
  unfold w_RpartOf at h
  refine g_iload_n C dR_partOf_0 rfl ?_
  refine g_i2l C dR_partOf_1 ?_
  refine g_iload_n C dR_partOf_2 rfl ?_
  refine g_i2l C dR_partOf_3 ?_
  refine g_lmul C dR_partOf_4 ?_
  refine g_iload_n C dR_partOf_5 rfl ?_
  refine g_i2l C dR_partOf_6 ?_
  refine g_ldiv C dR_partOf_7 h.1 ?_
  replace h := h.2
  refine g_topL (y := Int.tdiv (wrapL ((wrap a1) * (wrap a2))) (wrapL (wrap a3))) rfl ?_
  refine g_l2i C dR_partOf_8 ?_
  exact hR _ _ _ _ dR_partOf_9 rfl h
def w_Rthousandths (a1 : Int) (M : gSt) (k : Int → gSt → Prop) : Prop :=
w_Rits a1 2 M (fun r3c M3 => 
  (¬ wrap r3c = 0 →
    w_Rits a1 3 M3 (fun r16c M16 => w_Rits a1 2 M16 (fun r25c M25 => w_RpartOf r16c 1000 r25c M25 (fun r28c M28 => k r28c M28)))) ∧
  (wrap r3c = 0 →
    k 0 M3))
set_option maxHeartbeats 4000000 in
set_option maxRecDepth 100000 in
theorem m_Rthousandths {l : Launch} {D : va_G} {cl : List vw_C} {tys : List (ClassId × FieldType)} {ad : Nat → Nat} {cI : ClassId} {ci : Nat} {Z : (Nat → Prop) → State → Prop} (hci : cl[ci]? = some (RX9, TX9, 23)) {a1 : Int} {M : gSt} {k : Int → gSt → Prop} (h : w_Rthousandths a1 M k) : MOi l yX9_thousandths cX9_thousandths 2 .int (rmR 1 22) D cl ((cI, .int) :: tys) (wR ad cI ci) tR Z [.ref (ad 0), iv a1] M k := by
  refine moi_intro (by decide +kernel) (Nat.le_of_ble_eq_true rfl) wi_49 ?_
  intro p e s m args below meth c A Q C hR
  refine g_locals (lv' := [(0, .ref (ad 0)), (1, iv a1)]) rfl ?_
  unfold w_Rthousandths at h
  refine g_aload_n C dR_thousandths_0 rfl ?_
  refine g_iload_n C dR_thousandths_1 rfl ?_
  refine g_iconst C dR_thousandths_2 ?_
  refine g_callVi C (nargs := 2) (o := 0) (st := []) (m_Rits hci h) rfl (by decide) hci rfl gd_its (by decide +kernel) ⟨rfl, rfl⟩ dR_thousandths_3 ⟨by decide, by decide⟩ rfl rfl (Nat.le_of_ble_eq_true rfl) ?_
  intro r3c M3 hN
  replace h := hN
  clear hN
  refine g_if_ne C 13 dR_thousandths_6 (by decide) (fun hc => ?_) (fun hc => ?_)
  · replace h := h.1 hc
    refine g_aload_n C dR_thousandths_13 rfl ?_
    refine g_iload_n C dR_thousandths_14 rfl ?_
    refine g_iconst C dR_thousandths_15 ?_
    refine g_callVi C (nargs := 2) (o := 0) (st := []) (m_Rits hci h) rfl (by decide) hci rfl gd_its (by decide +kernel) ⟨rfl, rfl⟩ dR_thousandths_16 ⟨by decide, by decide⟩ rfl rfl (Nat.le_of_ble_eq_true rfl) ?_
    intro r16c M16 hN
    replace h := hN
    clear hN
    refine g_sipush C dR_thousandths_19 rfl ?_
    refine g_aload_n C dR_thousandths_22 rfl ?_
    refine g_iload_n C dR_thousandths_23 rfl ?_
    refine g_iconst C dR_thousandths_24 ?_
    refine g_callVi C (nargs := 2) (o := 0) (st := [iv 1000, iv r16c]) (m_Rits hci h) rfl (by decide) hci rfl gd_its (by decide +kernel) ⟨rfl, rfl⟩ dR_thousandths_25 ⟨by decide, by decide⟩ rfl rfl (Nat.le_of_ble_eq_true rfl) ?_
    intro r25c M25 hN
    replace h := hN
    clear hN
    refine g_callSi C (nargs := 3) (st := []) (m_RpartOf hci h) gd_partOf (by decide +kernel) ⟨rfl, rfl⟩ dR_thousandths_28 ⟨by decide, by decide⟩ rfl rfl (Nat.le_of_ble_eq_true rfl) ?_
    intro r28c M28 hN
    replace h := hN
    clear hN
    exact hR _ _ _ _ dR_thousandths_31 rfl h
  · replace h := h.2 hc
    refine g_iconst C dR_thousandths_9 ?_
    refine g_goto C 31 dR_thousandths_10 (by decide) ?_
    exact hR _ _ _ _ dR_thousandths_31 rfl h
def w_RhasText (a1 : Int) (M : gSt) (k : Int → gSt → Prop) : Prop :=
(0 ≤ 202 + (125 * a1) ∧ 202 + (125 * a1) < 536) ∧ (
  (wrap (M 1 (202 + (125 * a1))) ≤ 0 →
    k 0 M) ∧
  (0 < wrap (M 1 (202 + (125 * a1))) →
    k 1 M))
set_option maxHeartbeats 4000000 in
set_option maxRecDepth 100000 in
theorem m_RhasText {l : Launch} {D : va_G} {cl : List vw_C} {tys : List (ClassId × FieldType)} {ad : Nat → Nat} {cI : ClassId} {ci : Nat} {Z : (Nat → Prop) → State → Prop} (hci : cl[ci]? = some (RX9, TX9, 23)) {a1 : Int} {M : gSt} {k : Int → gSt → Prop} (h : w_RhasText a1 M k) : MOi l yX9_hasText cX9_hasText 2 .boolean (rmR 0 0) D cl ((cI, .int) :: tys) (wR ad cI ci) tR Z [.ref (ad 0), iv a1] M k := by
  refine moi_intro (by decide +kernel) (Nat.le_of_ble_eq_true rfl) wi_50 ?_
  intro p e s m args below meth c A Q C hR
  refine g_locals (lv' := [(0, .ref (ad 0)), (1, iv a1)]) rfl ?_
  unfold w_RhasText at h
  refine g_aload_n C dR_hasText_0 rfl ?_
  refine rf_s C hci dR_hasText_1 ?_
  refine g_sipush C dR_hasText_4 rfl ?_
  refine g_bipush C dR_hasText_7 rfl ?_
  refine g_iload_n C dR_hasText_9 rfl ?_
  refine g_imul C dR_hasText_10 ?_
  refine g_iadd C dR_hasText_11 ?_
  refine g_iald C (n := 536) dR_hasText_12 rfl (by decide) h.1 ?_
  replace h := h.2
  refine g_if_le C 20 dR_hasText_13 (by decide) (fun hc => ?_) (fun hc => ?_)
  · replace h := h.1 hc
    refine g_iconst C dR_hasText_20 ?_
    exact hR _ _ _ _ dR_hasText_21 rfl h
  · replace h := h.2 hc
    refine g_iconst C dR_hasText_16 ?_
    refine g_goto C 21 dR_hasText_17 (by decide) ?_
    exact hR _ _ _ _ dR_hasText_21 rfl h
def w_Rjoined (a1 : Int) (a2 : Int) (a3 : Int) (M : gSt) (k : Int → gSt → Prop) : Prop :=

  (wrap a1 = 37 →

    (wrap a3 = 0 →
      k 0 M) ∧
    (¬ wrap a3 = 0 →

      (¬ wrap a3 = (-1) →
        (wrap a3 ≠ 0) ∧ (k (Int.tmod (wrap a2) (wrap a3)) M)) ∧
      (wrap a3 = (-1) →
        k 0 M))) ∧
  (wrap a1 = 38 →

    (wrap a2 = 0 →
      k 0 M) ∧
    (¬ wrap a2 = 0 →

      (wrap a3 = 0 →
        k 0 M) ∧
      (¬ wrap a3 = 0 →
        k 1 M))) ∧
  (wrap a1 = 42 →
    k (a2 * a3) M) ∧
  (wrap a1 = 43 →
    k (a2 + a3) M) ∧
  (wrap a1 = 45 →
    k (a2 - a3) M) ∧
  (wrap a1 = 47 →

    (¬ wrap a3 = 0 →

      (¬ wrap a3 = (-1) →
        (wrap a3 ≠ 0) ∧ (k (Int.tdiv (wrap a2) (wrap a3)) M)) ∧
      (wrap a3 = (-1) →
        k (-a2) M)) ∧
    (wrap a3 = 0 →
      k 0 M)) ∧
  (wrap a1 = 60 →

    (wrap a3 ≤ wrap a2 →
      k 0 M) ∧
    (wrap a2 < wrap a3 →
      k 1 M)) ∧
  (wrap a1 = 61 →

    (¬ wrap a2 = wrap a3 →
      k 0 M) ∧
    (wrap a2 = wrap a3 →
      k 1 M)) ∧
  (wrap a1 = 62 →

    (wrap a2 ≤ wrap a3 →
      k 0 M) ∧
    (wrap a3 < wrap a2 →
      k 1 M)) ∧
  (¬ wrap a1 = 37 ∧ ¬ wrap a1 = 38 ∧ ¬ wrap a1 = 42 ∧ ¬ wrap a1 = 43 ∧ ¬ wrap a1 = 45 ∧ ¬ wrap a1 = 47 ∧ ¬ wrap a1 = 60 ∧ ¬ wrap a1 = 61 ∧ ¬ wrap a1 = 62 →

    (¬ wrap a2 = 0 →
      k 1 M) ∧
    (wrap a2 = 0 →

      (wrap a3 = 0 →
        k 0 M) ∧
      (¬ wrap a3 = 0 →
        k 1 M)))
set_option maxHeartbeats 4000000 in
set_option maxRecDepth 100000 in
theorem m_Rjoined {l : Launch} {D : va_G} {cl : List vw_C} {tys : List (ClassId × FieldType)} {ad : Nat → Nat} {cI : ClassId} {ci : Nat} {Z : (Nat → Prop) → State → Prop} (hci : cl[ci]? = some (RX9, TX9, 23)) {a1 : Int} {a2 : Int} {a3 : Int} {M : gSt} {k : Int → gSt → Prop} (h : w_Rjoined a1 a2 a3 M k) : MOi l yX9_joined cX9_joined 3 .int (rmR 0 0) D cl ((cI, .int) :: tys) (wR ad cI ci) tR Z [iv a1, iv a2, iv a3] M k := by
  refine moi_intro (by decide +kernel) (Nat.le_of_ble_eq_true rfl) wi_51 ?_
  intro p e s m args below meth c A Q C hR
  refine g_locals (lv' := [(0, iv a1), (1, iv a2), (2, iv a3)]) rfl ?_
  unfold w_Rjoined at h
  refine g_iload_n C dR_joined_0 rfl ?_
  by_cases hc37 : wrap a1 = 37
  · refine g_tableIn C 154 dR_joined_1 (by omega) (by omega) (by rw [hc37] <;> rfl) (by decide) ?_
    replace h := h.1 hc37
    refine g_iload_n C dR_joined_154 rfl ?_
    refine g_if_eq C 163 dR_joined_155 (by decide) (fun hc => ?_) (fun hc => ?_)
    · replace h := h.1 hc
      refine g_iconst C dR_joined_163 ?_
      refine g_goto C 170 dR_joined_164 (by decide) ?_
      exact hR _ _ _ _ dR_joined_170 rfl h
    · replace h := h.2 hc
      refine g_iload_n C dR_joined_158 rfl ?_
      refine g_iconst C dR_joined_159 ?_
      refine g_icmp_ne C 167 dR_joined_160 (by decide) (fun hc => ?_) (fun hc => ?_)
      · replace h := h.1 hc
        refine g_iload_n C dR_joined_167 rfl ?_
        refine g_iload_n C dR_joined_168 rfl ?_
        refine g_irem C dR_joined_169 h.1 ?_
        replace h := h.2
        refine g_top (y := Int.tmod (wrap a2) (wrap a3)) rfl ?_
        exact hR _ _ _ _ dR_joined_170 rfl h
      · replace h := h.2 hc
        refine g_iconst C dR_joined_163 ?_
        refine g_goto C 170 dR_joined_164 (by decide) ?_
        exact hR _ _ _ _ dR_joined_170 rfl h
  · by_cases hc38 : wrap a1 = 38
    · refine g_tableIn C 204 dR_joined_1 (by omega) (by omega) (by rw [hc38] <;> rfl) (by decide) ?_
      replace h := h.2.1 hc38
      refine g_iload_n C dR_joined_204 rfl ?_
      refine g_if_eq C 216 dR_joined_205 (by decide) (fun hc => ?_) (fun hc => ?_)
      · replace h := h.1 hc
        refine g_iconst C dR_joined_216 ?_
        exact hR _ _ _ _ dR_joined_217 rfl h
      · replace h := h.2 hc
        refine g_iload_n C dR_joined_208 rfl ?_
        refine g_if_eq C 216 dR_joined_209 (by decide) (fun hc => ?_) (fun hc => ?_)
        · replace h := h.1 hc
          refine g_iconst C dR_joined_216 ?_
          exact hR _ _ _ _ dR_joined_217 rfl h
        · replace h := h.2 hc
          refine g_iconst C dR_joined_212 ?_
          refine g_goto C 217 dR_joined_213 (by decide) ?_
          exact hR _ _ _ _ dR_joined_217 rfl h
    · by_cases hc42 : wrap a1 = 42
      · refine g_tableIn C 128 dR_joined_1 (by omega) (by omega) (by rw [hc42] <;> rfl) (by decide) ?_
        replace h := h.2.2.1 hc42
        refine g_iload_n C dR_joined_128 rfl ?_
        refine g_iload_n C dR_joined_129 rfl ?_
        refine g_imul C dR_joined_130 ?_
        exact hR _ _ _ _ dR_joined_131 rfl h
      · by_cases hc43 : wrap a1 = 43
        · refine g_tableIn C 120 dR_joined_1 (by omega) (by omega) (by rw [hc43] <;> rfl) (by decide) ?_
          replace h := h.2.2.2.1 hc43
          refine g_iload_n C dR_joined_120 rfl ?_
          refine g_iload_n C dR_joined_121 rfl ?_
          refine g_iadd C dR_joined_122 ?_
          exact hR _ _ _ _ dR_joined_123 rfl h
        · by_cases hc45 : wrap a1 = 45
          · refine g_tableIn C 124 dR_joined_1 (by omega) (by omega) (by rw [hc45] <;> rfl) (by decide) ?_
            replace h := h.2.2.2.2.1 hc45
            refine g_iload_n C dR_joined_124 rfl ?_
            refine g_iload_n C dR_joined_125 rfl ?_
            refine g_isub C dR_joined_126 ?_
            exact hR _ _ _ _ dR_joined_127 rfl h
          · by_cases hc47 : wrap a1 = 47
            · refine g_tableIn C 132 dR_joined_1 (by omega) (by omega) (by rw [hc47] <;> rfl) (by decide) ?_
              replace h := h.2.2.2.2.2.1 hc47
              refine g_iload_n C dR_joined_132 rfl ?_
              refine g_if_ne C 140 dR_joined_133 (by decide) (fun hc => ?_) (fun hc => ?_)
              · replace h := h.1 hc
                refine g_iload_n C dR_joined_140 rfl ?_
                refine g_iconst C dR_joined_141 ?_
                refine g_icmp_ne C 150 dR_joined_142 (by decide) (fun hc => ?_) (fun hc => ?_)
                · replace h := h.1 hc
                  refine g_iload_n C dR_joined_150 rfl ?_
                  refine g_iload_n C dR_joined_151 rfl ?_
                  refine g_idiv C dR_joined_152 h.1 ?_
                  replace h := h.2
                  refine g_top (y := Int.tdiv (wrap a2) (wrap a3)) rfl ?_
                  exact hR _ _ _ _ dR_joined_153 rfl h
                · replace h := h.2 hc
                  refine g_iload_n C dR_joined_145 rfl ?_
                  refine g_ineg C dR_joined_146 ?_
                  refine g_goto C 153 dR_joined_147 (by decide) ?_
                  exact hR _ _ _ _ dR_joined_153 rfl h
              · replace h := h.2 hc
                refine g_iconst C dR_joined_136 ?_
                refine g_goto C 153 dR_joined_137 (by decide) ?_
                exact hR _ _ _ _ dR_joined_153 rfl h
            · by_cases hc60 : wrap a1 = 60
              · refine g_tableIn C 171 dR_joined_1 (by omega) (by omega) (by rw [hc60] <;> rfl) (by decide) ?_
                replace h := h.2.2.2.2.2.2.1 hc60
                refine g_iload_n C dR_joined_171 rfl ?_
                refine g_iload_n C dR_joined_172 rfl ?_
                refine g_icmp_ge C 180 dR_joined_173 (by decide) (fun hc => ?_) (fun hc => ?_)
                · replace h := h.1 hc
                  refine g_iconst C dR_joined_180 ?_
                  exact hR _ _ _ _ dR_joined_181 rfl h
                · replace h := h.2 hc
                  refine g_iconst C dR_joined_176 ?_
                  refine g_goto C 181 dR_joined_177 (by decide) ?_
                  exact hR _ _ _ _ dR_joined_181 rfl h
              · by_cases hc61 : wrap a1 = 61
                · refine g_tableIn C 193 dR_joined_1 (by omega) (by omega) (by rw [hc61] <;> rfl) (by decide) ?_
                  replace h := h.2.2.2.2.2.2.2.1 hc61
                  refine g_iload_n C dR_joined_193 rfl ?_
                  refine g_iload_n C dR_joined_194 rfl ?_
                  refine g_icmp_ne C 202 dR_joined_195 (by decide) (fun hc => ?_) (fun hc => ?_)
                  · replace h := h.1 hc
                    refine g_iconst C dR_joined_202 ?_
                    exact hR _ _ _ _ dR_joined_203 rfl h
                  · replace h := h.2 hc
                    refine g_iconst C dR_joined_198 ?_
                    refine g_goto C 203 dR_joined_199 (by decide) ?_
                    exact hR _ _ _ _ dR_joined_203 rfl h
                · by_cases hc62 : wrap a1 = 62
                  · refine g_tableIn C 182 dR_joined_1 (by omega) (by omega) (by rw [hc62] <;> rfl) (by decide) ?_
                    replace h := h.2.2.2.2.2.2.2.2.1 hc62
                    refine g_iload_n C dR_joined_182 rfl ?_
                    refine g_iload_n C dR_joined_183 rfl ?_
                    refine g_icmp_le C 191 dR_joined_184 (by decide) (fun hc => ?_) (fun hc => ?_)
                    · replace h := h.1 hc
                      refine g_iconst C dR_joined_191 ?_
                      exact hR _ _ _ _ dR_joined_192 rfl h
                    · replace h := h.2 hc
                      refine g_iconst C dR_joined_187 ?_
                      refine g_goto C 192 dR_joined_188 (by decide) ?_
                      exact hR _ _ _ _ dR_joined_192 rfl h
                  · by_cases hin : 37 ≤ wrap a1 ∧ wrap a1 ≤ 62
                    · refine g_tableIn C (off := 217) 218 dR_joined_1 hin.1 hin.2 ?_ (by decide) ?_
                      · have hj : (wrap a1 - 37).toNat < 26 := by omega
                        have hq37 : ¬ (wrap a1 - 37).toNat = 0 := by omega
                        have hq38 : ¬ (wrap a1 - 37).toNat = 1 := by omega
                        have hq42 : ¬ (wrap a1 - 37).toNat = 5 := by omega
                        have hq43 : ¬ (wrap a1 - 37).toNat = 6 := by omega
                        have hq45 : ¬ (wrap a1 - 37).toNat = 8 := by omega
                        have hq47 : ¬ (wrap a1 - 37).toNat = 10 := by omega
                        have hq60 : ¬ (wrap a1 - 37).toNat = 23 := by omega
                        have hq61 : ¬ (wrap a1 - 37).toNat = 24 := by omega
                        have hq62 : ¬ (wrap a1 - 37).toNat = 25 := by omega
                        generalize (wrap a1 - 37).toNat = j at *
                        have key : ∀ j : Nat, j < 26 → (¬ j = 0 ∧ ¬ j = 1 ∧ ¬ j = 5 ∧ ¬ j = 6 ∧ ¬ j = 8 ∧ ¬ j = 10 ∧ ¬ j = 23 ∧ ¬ j = 24 ∧ ¬ j = 25) → (#[153, 203, 217, 217, 217, 127, 119, 217, 123, 217, 131, 217, 217, 217, 217, 217, 217, 217, 217, 217, 217, 217, 217, 170, 192, 181] : Array Int)[j]? = some 217 := by decide
                        exact key j hj ⟨hq37, hq38, hq42, hq43, hq45, hq47, hq60, hq61, hq62⟩
                      · replace h := h.2.2.2.2.2.2.2.2.2 ⟨hc37, hc38, hc42, hc43, hc45, hc47, hc60, hc61, hc62⟩
                        refine g_iload_n C dR_joined_218 rfl ?_
                        refine g_if_ne C 226 dR_joined_219 (by decide) (fun hc => ?_) (fun hc => ?_)
                        · replace h := h.1 hc
                          refine g_iconst C dR_joined_226 ?_
                          refine g_goto C 231 dR_joined_227 (by decide) ?_
                          exact hR _ _ _ _ dR_joined_231 rfl h
                        · replace h := h.2 hc
                          refine g_iload_n C dR_joined_222 rfl ?_
                          refine g_if_eq C 230 dR_joined_223 (by decide) (fun hc => ?_) (fun hc => ?_)
                          · replace h := h.1 hc
                            refine g_iconst C dR_joined_230 ?_
                            exact hR _ _ _ _ dR_joined_231 rfl h
                          · replace h := h.2 hc
                            refine g_iconst C dR_joined_226 ?_
                            refine g_goto C 231 dR_joined_227 (by decide) ?_
                            exact hR _ _ _ _ dR_joined_231 rfl h
                    · refine g_tableOut C 218 dR_joined_1 (by omega) (by decide) ?_
                      replace h := h.2.2.2.2.2.2.2.2.2 ⟨hc37, hc38, hc42, hc43, hc45, hc47, hc60, hc61, hc62⟩
                      refine g_iload_n C dR_joined_218 rfl ?_
                      refine g_if_ne C 226 dR_joined_219 (by decide) (fun hc => ?_) (fun hc => ?_)
                      · replace h := h.1 hc
                        refine g_iconst C dR_joined_226 ?_
                        refine g_goto C 231 dR_joined_227 (by decide) ?_
                        exact hR _ _ _ _ dR_joined_231 rfl h
                      · replace h := h.2 hc
                        refine g_iload_n C dR_joined_222 rfl ?_
                        refine g_if_eq C 230 dR_joined_223 (by decide) (fun hc => ?_) (fun hc => ?_)
                        · replace h := h.1 hc
                          refine g_iconst C dR_joined_230 ?_
                          exact hR _ _ _ _ dR_joined_231 rfl h
                        · replace h := h.2 hc
                          refine g_iconst C dR_joined_226 ?_
                          refine g_goto C 231 dR_joined_227 (by decide) ?_
                          exact hR _ _ _ _ dR_joined_231 rfl h
def wB_Rworked_158 (a1 : Int) (k : Int → gSt → Prop) (r14 : Int → Int → Int → gSt → Prop) (X14_164 : gSt → Prop) (v2 : Int) (v3 : Int) (v4 : Int) (M : gSt) : Prop :=
r14 v2 v3 (v4 + 1) M
def wB_Rworked_88 (a1 : Int) (k : Int → gSt → Prop) (r14 : Int → Int → Int → gSt → Prop) (X14_164 : gSt → Prop) (v2 : Int) (v3 : Int) (v4 : Int) (s0 : Int) (s1 : Int) (M : gSt) : Prop :=
(0 ≤ s1 ∧ s1 < 64) ∧ (∀ M88 : gSt, M88 = wr M 7 s1 s0 → (wB_Rworked_158 a1 k r14 X14_164 v2 (v3 + 1) v4 M88))
def wB_Rworked_66 (a1 : Int) (k : Int → gSt → Prop) (r14 : Int → Int → Int → gSt → Prop) (X14_164 : gSt → Prop) (v2 : Int) (v3 : Int) (v4 : Int) (v5 : Int) (v6 : Int) (M : gSt) : Prop :=

  (¬ wrap v5 = 0 →
    (0 ≤ v6 ∧ v6 < 128) ∧ (wB_Rworked_88 a1 k r14 X14_164 v2 v3 v4 (M 6 v6) v3 M)) ∧
  (wrap v5 = 0 →
    wB_Rworked_88 a1 k r14 X14_164 v2 v3 v4 v6 v3 M)
def wB_Rworked_124 (a1 : Int) (k : Int → gSt → Prop) (r14 : Int → Int → Int → gSt → Prop) (X14_164 : gSt → Prop) (v2 : Int) (v3 : Int) (v4 : Int) (s0 : Int) (s1 : Int) (M : gSt) : Prop :=
(0 ≤ s1 ∧ s1 < 64) ∧ (∀ M124 : gSt, M124 = wr M 7 s1 s0 → (wB_Rworked_158 a1 k r14 X14_164 v2 v3 v4 M124))
def wC_Rworked_14 (a1 : Int) (k : Int → gSt → Prop) (r14 : Int → Int → Int → gSt → Prop) (X14_164 : gSt → Prop) (v2 : Int) (v3 : Int) (v4 : Int) (M : gSt) : Prop :=
(0 ≤ v2 ∧ v2 < 536) ∧ (
  (wrap (M 1 v2) ≤ wrap v4 →
    X14_164  M) ∧
  (wrap v4 < wrap (M 1 v2) →
    (0 ≤ (v2 + 1) + (2 * v4) ∧ (v2 + 1) + (2 * v4) < 536) ∧ (∀ x5_38 : Int, x5_38 = M 1 ((v2 + 1) + (2 * v4)) → ((0 ≤ (v2 + 2) + (2 * v4) ∧ (v2 + 2) + (2 * v4) < 536) ∧ (∀ x6_53 : Int, x6_53 = M 1 ((v2 + 2) + (2 * v4)) → (
    (wrap x5_38 = 0 →
      wB_Rworked_66 a1 k r14 X14_164 v2 v3 v4 x5_38 x6_53 M) ∧
    (¬ wrap x5_38 = 0 →

      (¬ wrap x5_38 = 1 →

        (¬ wrap x5_38 = 2 →
          (0 ≤ (v3 + (-1)) - 1 ∧ (v3 + (-1)) - 1 < 64) ∧ ((0 ≤ v3 + (-1) ∧ v3 + (-1) < 64) ∧ (w_Rjoined x6_53 (M 7 ((v3 + (-1)) - 1)) (M 7 (v3 + (-1))) M (fun r154c M154 => (0 ≤ (v3 + (-1)) - 1 ∧ (v3 + (-1)) - 1 < 64) ∧ (∀ M157 : gSt, M157 = wr M154 7 ((v3 + (-1)) - 1) r154c → (wB_Rworked_158 a1 k r14 X14_164 v2 (v3 + (-1)) v4 M157)))))) ∧
        (wrap x5_38 = 2 →
          (0 ≤ v3 - 1 ∧ v3 - 1 < 64) ∧ (
          (¬ wrap (M 7 (v3 - 1)) = 0 →
            wB_Rworked_124 a1 k r14 X14_164 v2 v3 v4 0 (v3 - 1) M) ∧
          (wrap (M 7 (v3 - 1)) = 0 →
            wB_Rworked_124 a1 k r14 X14_164 v2 v3 v4 1 (v3 - 1) M)))) ∧
      (wrap x5_38 = 1 →
        wB_Rworked_66 a1 k r14 X14_164 v2 v3 v4 x5_38 x6_53 M))))))))
def wL_Rworked_14 (a1 : Int) (k : Int → gSt → Prop)  (X14_164 : gSt → Prop) : Nat → Int → Int → Int → gSt → Prop
  | 0 => fun _ _ _ _ => False
  | n + 1 => fun v2 v3 v4 M => wC_Rworked_14 a1 k  (wL_Rworked_14 a1 k  X14_164 n) X14_164 v2 v3 v4 M
def w_Rworked (a1 : Int) (M : gSt) (k : Int → gSt → Prop) : Prop :=
∀ x2_8 : Int, x2_8 = 202 + (125 * a1) → (∃ n, wL_Rworked_14 a1 k  (fun  M14 =>
    k (M14 7 0) M14) n x2_8 0 0 M)
set_option maxHeartbeats 4000000 in
set_option maxRecDepth 100000 in
theorem m_Rworked {l : Launch} {D : va_G} {cl : List vw_C} {tys : List (ClassId × FieldType)} {ad : Nat → Nat} {cI : ClassId} {ci : Nat} {Z : (Nat → Prop) → State → Prop} (hci : cl[ci]? = some (RX9, TX9, 23)) {a1 : Int} {M : gSt} {k : Int → gSt → Prop} (h : w_Rworked a1 M k) : MOi l yX9_worked cX9_worked 7 .int (rmR 1 22) D cl ((cI, .int) :: tys) (wR ad cI ci) tR Z [.ref (ad 0), iv a1] M k := by
  refine moi_intro (by decide +kernel) (Nat.le_of_ble_eq_true rfl) wi_54 ?_
  intro p e s m args below meth c A Q C hR
  have pB158 : ∀ (r14 : Int → Int → Int → gSt → Prop) (X14_164 : gSt → Prop) (hr14 : ∀ (v2 : Int) (v3 : Int) (v4 : Int) (M : gSt), r14 v2 v3 v4 M → gG p l e (rmR 1 22) s m args below meth c Q D cl A (wR ad cI ci) 7 14 [(0, .ref (ad 0)), (2, iv v2), (3, iv v3), (4, iv v4)] [] M) (hX14_164 : ∀  (M : gSt), X14_164  M → gG p l e (rmR 1 22) s m args below meth c Q D cl A (wR ad cI ci) 7 164 [(0, .ref (ad 0))] [] M) (v2 : Int) (v3 : Int) (v4 : Int) (M : gSt), wB_Rworked_158 a1 k r14 X14_164 v2 v3 v4 M → gG p l e (rmR 1 22) s m args below meth c Q D cl A (wR ad cI ci) 7 158 [(0, .ref (ad 0)), (2, iv v2), (3, iv v3), (4, iv v4)] [] M := by
    intro r14 X14_164 hr14 hX14_164 v2 v3 v4 M h
    unfold wB_Rworked_158 at h
    refine g_iinc C dR_worked_158 rfl (by decide) rfl ?_
    refine g_locals (lv' := [(0, .ref (ad 0)), (2, iv v2), (3, iv v3), (4, iv (v4 + 1))]) rfl ?_
    refine g_goto C 14 dR_worked_161 (by decide) ?_
    refine g_locals (lv' := [(0, .ref (ad 0)), (2, iv v2), (3, iv v3), (4, iv (v4 + 1))]) rfl ?_
    exact hr14 _ _ _  _ h
  have pB88 : ∀ (r14 : Int → Int → Int → gSt → Prop) (X14_164 : gSt → Prop) (hr14 : ∀ (v2 : Int) (v3 : Int) (v4 : Int) (M : gSt), r14 v2 v3 v4 M → gG p l e (rmR 1 22) s m args below meth c Q D cl A (wR ad cI ci) 7 14 [(0, .ref (ad 0)), (2, iv v2), (3, iv v3), (4, iv v4)] [] M) (hX14_164 : ∀  (M : gSt), X14_164  M → gG p l e (rmR 1 22) s m args below meth c Q D cl A (wR ad cI ci) 7 164 [(0, .ref (ad 0))] [] M) (v2 : Int) (v3 : Int) (v4 : Int) (s0 : Int) (s1 : Int) (M : gSt), wB_Rworked_88 a1 k r14 X14_164 v2 v3 v4 s0 s1 M → gG p l e (rmR 1 22) s m args below meth c Q D cl A (wR ad cI ci) 7 88 [(0, .ref (ad 0)), (2, iv v2), (3, iv v3), (4, iv v4)] [iv s0, iv s1, .ref (ad 7)] M := by
    intro r14 X14_164 hr14 hX14_164 v2 v3 v4 s0 s1 M h
    unfold wB_Rworked_88 at h
    refine g_iast C (n := 64) dR_worked_88 rfl (by decide) h.1 ?_
    replace h := h.2
    refine g_memname (fun M88 hM88 => ?_)
    replace h := h M88 hM88
    refine g_iinc C dR_worked_89 rfl (by decide) rfl ?_
    refine g_locals (lv' := [(0, .ref (ad 0)), (2, iv v2), (3, iv (v3 + 1)), (4, iv v4)]) rfl ?_
    refine g_goto C 158 dR_worked_92 (by decide) ?_
    refine g_locals (lv' := [(0, .ref (ad 0)), (2, iv v2), (3, iv (v3 + 1)), (4, iv v4)]) rfl ?_
    exact pB158 r14 X14_164 hr14 hX14_164 _ _ _ _ h
  have pB66 : ∀ (r14 : Int → Int → Int → gSt → Prop) (X14_164 : gSt → Prop) (hr14 : ∀ (v2 : Int) (v3 : Int) (v4 : Int) (M : gSt), r14 v2 v3 v4 M → gG p l e (rmR 1 22) s m args below meth c Q D cl A (wR ad cI ci) 7 14 [(0, .ref (ad 0)), (2, iv v2), (3, iv v3), (4, iv v4)] [] M) (hX14_164 : ∀  (M : gSt), X14_164  M → gG p l e (rmR 1 22) s m args below meth c Q D cl A (wR ad cI ci) 7 164 [(0, .ref (ad 0))] [] M) (v2 : Int) (v3 : Int) (v4 : Int) (v5 : Int) (v6 : Int) (M : gSt), wB_Rworked_66 a1 k r14 X14_164 v2 v3 v4 v5 v6 M → gG p l e (rmR 1 22) s m args below meth c Q D cl A (wR ad cI ci) 7 66 [(0, .ref (ad 0)), (2, iv v2), (3, iv v3), (4, iv v4), (5, iv v5), (6, iv v6)] [] M := by
    intro r14 X14_164 hr14 hX14_164 v2 v3 v4 v5 v6 M h
    unfold wB_Rworked_66 at h
    refine g_aload_n C dR_worked_66 rfl ?_
    refine rf_pile C hci dR_worked_67 ?_
    refine g_iload_n C dR_worked_70 rfl ?_
    refine g_iload C dR_worked_71 rfl ?_
    refine g_if_ne C 81 dR_worked_73 (by decide) (fun hc => ?_) (fun hc => ?_)
    · replace h := h.1 hc
      refine g_aload_n C dR_worked_81 rfl ?_
      refine rf_named C hci dR_worked_82 ?_
      refine g_iload C dR_worked_85 rfl ?_
      refine g_iald C (n := 128) dR_worked_87 rfl (by decide) h.1 ?_
      replace h := h.2
      refine g_locals (lv' := [(0, .ref (ad 0)), (2, iv v2), (3, iv v3), (4, iv v4)]) rfl ?_
      exact pB88 r14 X14_164 hr14 hX14_164 _ _ _ _ _ _ h
    · replace h := h.2 hc
      refine g_iload C dR_worked_76 rfl ?_
      refine g_goto C 88 dR_worked_78 (by decide) ?_
      refine g_locals (lv' := [(0, .ref (ad 0)), (2, iv v2), (3, iv v3), (4, iv v4)]) rfl ?_
      exact pB88 r14 X14_164 hr14 hX14_164 _ _ _ _ _ _ h
  have pB124 : ∀ (r14 : Int → Int → Int → gSt → Prop) (X14_164 : gSt → Prop) (hr14 : ∀ (v2 : Int) (v3 : Int) (v4 : Int) (M : gSt), r14 v2 v3 v4 M → gG p l e (rmR 1 22) s m args below meth c Q D cl A (wR ad cI ci) 7 14 [(0, .ref (ad 0)), (2, iv v2), (3, iv v3), (4, iv v4)] [] M) (hX14_164 : ∀  (M : gSt), X14_164  M → gG p l e (rmR 1 22) s m args below meth c Q D cl A (wR ad cI ci) 7 164 [(0, .ref (ad 0))] [] M) (v2 : Int) (v3 : Int) (v4 : Int) (s0 : Int) (s1 : Int) (M : gSt), wB_Rworked_124 a1 k r14 X14_164 v2 v3 v4 s0 s1 M → gG p l e (rmR 1 22) s m args below meth c Q D cl A (wR ad cI ci) 7 124 [(0, .ref (ad 0)), (2, iv v2), (3, iv v3), (4, iv v4)] [iv s0, iv s1, .ref (ad 7)] M := by
    intro r14 X14_164 hr14 hX14_164 v2 v3 v4 s0 s1 M h
    unfold wB_Rworked_124 at h
    refine g_iast C (n := 64) dR_worked_124 rfl (by decide) h.1 ?_
    replace h := h.2
    refine g_memname (fun M124 hM124 => ?_)
    replace h := h M124 hM124
    refine g_goto C 158 dR_worked_125 (by decide) ?_
    refine g_locals (lv' := [(0, .ref (ad 0)), (2, iv v2), (3, iv v3), (4, iv v4)]) rfl ?_
    exact pB158 r14 X14_164 hr14 hX14_164 _ _ _ _ h
  have pC14 : ∀ (r14 : Int → Int → Int → gSt → Prop) (X14_164 : gSt → Prop) (hr14 : ∀ (v2 : Int) (v3 : Int) (v4 : Int) (M : gSt), r14 v2 v3 v4 M → gG p l e (rmR 1 22) s m args below meth c Q D cl A (wR ad cI ci) 7 14 [(0, .ref (ad 0)), (2, iv v2), (3, iv v3), (4, iv v4)] [] M) (hX14_164 : ∀  (M : gSt), X14_164  M → gG p l e (rmR 1 22) s m args below meth c Q D cl A (wR ad cI ci) 7 164 [(0, .ref (ad 0))] [] M) (v2 : Int) (v3 : Int) (v4 : Int) (M : gSt), wC_Rworked_14 a1 k r14 X14_164 v2 v3 v4 M → gG p l e (rmR 1 22) s m args below meth c Q D cl A (wR ad cI ci) 7 14 [(0, .ref (ad 0)), (2, iv v2), (3, iv v3), (4, iv v4)] [] M := by
    intro r14 X14_164 hr14 hX14_164 v2 v3 v4 M h
    unfold wC_Rworked_14 at h
    refine g_iload C dR_worked_14 rfl ?_
    refine g_aload_n C dR_worked_16 rfl ?_
    refine rf_s C hci dR_worked_17 ?_
    refine g_iload_n C dR_worked_20 rfl ?_
    refine g_iald C (n := 536) dR_worked_21 rfl (by decide) h.1 ?_
    replace h := h.2
    refine g_icmp_ge C 164 dR_worked_22 (by decide) (fun hc => ?_) (fun hc => ?_)
    · replace h := h.1 hc
      refine g_locals (lv' := [(0, .ref (ad 0))]) rfl ?_
      exact hX14_164  _ h
    · replace h := h.2 hc
      refine g_aload_n C dR_worked_25 rfl ?_
      refine rf_s C hci dR_worked_26 ?_
      refine g_iload_n C dR_worked_29 rfl ?_
      refine g_iconst C dR_worked_30 ?_
      refine g_iadd C dR_worked_31 ?_
      refine g_iconst C dR_worked_32 ?_
      refine g_iload C dR_worked_33 rfl ?_
      refine g_imul C dR_worked_35 ?_
      refine g_iadd C dR_worked_36 ?_
      refine g_iald C (n := 536) dR_worked_37 rfl (by decide) h.1 ?_
      replace h := h.2
      refine g_name (fun x5_38 hx5_38 => ?_)
      replace h := h x5_38 hx5_38
      refine g_istore C dR_worked_38 (by decide) rfl ?_
      refine g_locals (lv' := [(0, .ref (ad 0)), (2, iv v2), (3, iv v3), (4, iv v4), (5, iv x5_38)]) rfl ?_
      refine g_aload_n C dR_worked_40 rfl ?_
      refine rf_s C hci dR_worked_41 ?_
      refine g_iload_n C dR_worked_44 rfl ?_
      refine g_iconst C dR_worked_45 ?_
      refine g_iadd C dR_worked_46 ?_
      refine g_iconst C dR_worked_47 ?_
      refine g_iload C dR_worked_48 rfl ?_
      refine g_imul C dR_worked_50 ?_
      refine g_iadd C dR_worked_51 ?_
      refine g_iald C (n := 536) dR_worked_52 rfl (by decide) h.1 ?_
      replace h := h.2
      refine g_name (fun x6_53 hx6_53 => ?_)
      replace h := h x6_53 hx6_53
      refine g_istore C dR_worked_53 (by decide) rfl ?_
      refine g_locals (lv' := [(0, .ref (ad 0)), (2, iv v2), (3, iv v3), (4, iv v4), (5, iv x5_38), (6, iv x6_53)]) rfl ?_
      refine g_iload C dR_worked_55 rfl ?_
      refine g_if_eq C 66 dR_worked_57 (by decide) (fun hc => ?_) (fun hc => ?_)
      · replace h := h.1 hc
        refine g_locals (lv' := [(0, .ref (ad 0)), (2, iv v2), (3, iv v3), (4, iv v4), (5, iv x5_38), (6, iv x6_53)]) rfl ?_
        exact pB66 r14 X14_164 hr14 hX14_164 _ _ _ _ _ _ h
      · replace h := h.2 hc
        refine g_iload C dR_worked_60 rfl ?_
        refine g_iconst C dR_worked_62 ?_
        refine g_icmp_ne C 95 dR_worked_63 (by decide) (fun hc => ?_) (fun hc => ?_)
        · replace h := h.1 hc
          refine g_iload C dR_worked_95 rfl ?_
          refine g_iconst C dR_worked_97 ?_
          refine g_icmp_ne C 128 dR_worked_98 (by decide) (fun hc => ?_) (fun hc => ?_)
          · replace h := h.1 hc
            refine g_iinc C dR_worked_128 rfl (by decide) rfl ?_
            refine g_locals (lv' := [(0, .ref (ad 0)), (2, iv v2), (3, iv (v3 + (-1))), (4, iv v4), (5, iv x5_38), (6, iv x6_53)]) rfl ?_
            refine g_aload_n C dR_worked_131 rfl ?_
            refine rf_pile C hci dR_worked_132 ?_
            refine g_iload_n C dR_worked_135 rfl ?_
            refine g_iconst C dR_worked_136 ?_
            refine g_isub C dR_worked_137 ?_
            refine g_iload C dR_worked_138 rfl ?_
            refine g_aload_n C dR_worked_140 rfl ?_
            refine rf_pile C hci dR_worked_141 ?_
            refine g_iload_n C dR_worked_144 rfl ?_
            refine g_iconst C dR_worked_145 ?_
            refine g_isub C dR_worked_146 ?_
            refine g_iald C (n := 64) dR_worked_147 rfl (by decide) h.1 ?_
            replace h := h.2
            refine g_aload_n C dR_worked_148 rfl ?_
            refine rf_pile C hci dR_worked_149 ?_
            refine g_iload_n C dR_worked_152 rfl ?_
            refine g_iald C (n := 64) dR_worked_153 rfl (by decide) h.1 ?_
            replace h := h.2
            refine g_callSi C (nargs := 3) (st := [iv ((v3 + (-1)) - 1), .ref (ad 7)]) (m_Rjoined hci h) gd_joined (by decide +kernel) ⟨rfl, rfl⟩ dR_worked_154 ⟨by decide, by decide⟩ rfl rfl (Nat.le_of_ble_eq_true rfl) ?_
            intro r154c M154 hN
            replace h := hN
            clear hN
            refine g_iast C (n := 64) dR_worked_157 rfl (by decide) h.1 ?_
            replace h := h.2
            refine g_memname (fun M157 hM157 => ?_)
            replace h := h M157 hM157
            refine g_locals (lv' := [(0, .ref (ad 0)), (2, iv v2), (3, iv (v3 + (-1))), (4, iv v4)]) rfl ?_
            exact pB158 r14 X14_164 hr14 hX14_164 _ _ _ _ h
          · replace h := h.2 hc
            refine g_aload_n C dR_worked_101 rfl ?_
            refine rf_pile C hci dR_worked_102 ?_
            refine g_iload_n C dR_worked_105 rfl ?_
            refine g_iconst C dR_worked_106 ?_
            refine g_isub C dR_worked_107 ?_
            refine g_aload_n C dR_worked_108 rfl ?_
            refine rf_pile C hci dR_worked_109 ?_
            refine g_iload_n C dR_worked_112 rfl ?_
            refine g_iconst C dR_worked_113 ?_
            refine g_isub C dR_worked_114 ?_
            refine g_iald C (n := 64) dR_worked_115 rfl (by decide) h.1 ?_
            replace h := h.2
            refine g_if_ne C 123 dR_worked_116 (by decide) (fun hc => ?_) (fun hc => ?_)
            · replace h := h.1 hc
              refine g_iconst C dR_worked_123 ?_
              refine g_locals (lv' := [(0, .ref (ad 0)), (2, iv v2), (3, iv v3), (4, iv v4)]) rfl ?_
              exact pB124 r14 X14_164 hr14 hX14_164 _ _ _ _ _ _ h
            · replace h := h.2 hc
              refine g_iconst C dR_worked_119 ?_
              refine g_goto C 124 dR_worked_120 (by decide) ?_
              refine g_locals (lv' := [(0, .ref (ad 0)), (2, iv v2), (3, iv v3), (4, iv v4)]) rfl ?_
              exact pB124 r14 X14_164 hr14 hX14_164 _ _ _ _ _ _ h
        · replace h := h.2 hc
          refine g_locals (lv' := [(0, .ref (ad 0)), (2, iv v2), (3, iv v3), (4, iv v4), (5, iv x5_38), (6, iv x6_53)]) rfl ?_
          exact pB66 r14 X14_164 hr14 hX14_164 _ _ _ _ _ _ h
  have pL14 : ∀  (X14_164 : gSt → Prop) (hX14_164 : ∀  (M : gSt), X14_164  M → gG p l e (rmR 1 22) s m args below meth c Q D cl A (wR ad cI ci) 7 164 [(0, .ref (ad 0))] [] M) (n : Nat) (v2 : Int) (v3 : Int) (v4 : Int) (M : gSt), wL_Rworked_14 a1 k  X14_164 n v2 v3 v4 M → gG p l e (rmR 1 22) s m args below meth c Q D cl A (wR ad cI ci) 7 14 [(0, .ref (ad 0)), (2, iv v2), (3, iv v3), (4, iv v4)] [] M := by
    intro  X14_164 hX14_164 n
    induction n with
    | zero => intro v2 v3 v4 M h; exact h.elim
    | succ n ih =>
      intro v2 v3 v4 M h
      exact pC14  (wL_Rworked_14 a1 k  X14_164 n) X14_164 ih hX14_164 v2 v3 v4 M h
  refine g_locals (lv' := [(0, .ref (ad 0)), (1, iv a1)]) rfl ?_
  unfold w_Rworked at h
  refine g_sipush C dR_worked_0 rfl ?_
  refine g_bipush C dR_worked_3 rfl ?_
  refine g_iload_n C dR_worked_5 rfl ?_
  refine g_imul C dR_worked_6 ?_
  refine g_iadd C dR_worked_7 ?_
  refine g_name (fun x2_8 hx2_8 => ?_)
  replace h := h x2_8 hx2_8
  refine g_istore_n C dR_worked_8 (by decide) rfl ?_
  refine g_locals (lv' := [(0, .ref (ad 0)), (1, iv a1), (2, iv x2_8)]) rfl ?_
  refine g_iconst C dR_worked_9 ?_
  refine g_istore_n C dR_worked_10 (by decide) rfl ?_
  refine g_locals (lv' := [(0, .ref (ad 0)), (1, iv a1), (2, iv x2_8), (3, iv 0)]) rfl ?_
  refine g_iconst C dR_worked_11 ?_
  refine g_istore C dR_worked_12 (by decide) rfl ?_
  refine g_locals (lv' := [(0, .ref (ad 0)), (1, iv a1), (2, iv x2_8), (3, iv 0), (4, iv 0)]) rfl ?_
  refine g_locals (lv' := [(0, .ref (ad 0)), (2, iv x2_8), (3, iv 0), (4, iv 0)]) rfl ?_
  obtain ⟨n, h⟩ := h
  refine pL14 _ ?_ n _ _ _ _ h
  · intro  M14 hN
    replace h := hN
    clear hN
    refine g_aload_n C dR_worked_164 rfl ?_
    refine rf_pile C hci dR_worked_165 ?_
    refine g_iconst C dR_worked_168 ?_
    refine g_iald C (n := 64) dR_worked_169 rfl (by decide) ⟨by decide, by decide⟩ ?_
    exact hR _ _ _ _ dR_worked_170 rfl h
end
section
def w_Rrings (a1 : Int) (M : gSt) (k : Int → gSt → Prop) : Prop :=
w_Rthousandths a1 M (fun r2c M2 => w_RhasText 0 M2 (fun r8c M8 => 
  (¬ wrap r8c = 0 →
    w_Rits a1 2 M8 (fun r43c M43 => ∀ M46 : gSt, M46 = wr M43 6 103 r43c → (∀ M54 : gSt, M54 = wr M46 6 115 r2c → (w_Rits a1 1 M54 (fun r64c M64 => ∀ M67 : gSt, M67 = wr M64 6 109 r64c → (w_Rworked 0 M67 (fun r70c M70 => w_Rheld r70c 0 9999 M70 (fun r77c M77 => k r77c M77)))))))) ∧
  (wrap r8c = 0 →
    w_Rits a1 1 M8 (fun r22c M22 => w_Rheld ((1000 - r2c) + r22c) 0 9999 M22 (fun r30c M30 => k r30c M30)))))
set_option maxHeartbeats 4000000 in
set_option maxRecDepth 100000 in
theorem m_Rrings {l : Launch} {D : va_G} {cl : List vw_C} {tys : List (ClassId × FieldType)} {ad : Nat → Nat} {cI : ClassId} {ci : Nat} {Z : (Nat → Prop) → State → Prop} (hci : cl[ci]? = some (RX9, TX9, 23)) {a1 : Int} {M : gSt} {k : Int → gSt → Prop} (h : w_Rrings a1 M k) : MOi l yX9_rings cX9_rings 3 .int (rmR 2 48) D cl ((cI, .int) :: tys) (wR ad cI ci) tR Z [.ref (ad 0), iv a1] M k := by
  refine moi_intro (by decide +kernel) (Nat.le_of_ble_eq_true rfl) wi_66 ?_
  intro p e s m args below meth c A Q C hR
  refine g_locals (lv' := [(0, .ref (ad 0)), (1, iv a1)]) rfl ?_
  unfold w_Rrings at h
  refine g_aload_n C dR_rings_0 rfl ?_
  refine g_iload_n C dR_rings_1 rfl ?_
  refine g_callVi C (nargs := 1) (o := 0) (st := []) (m_Rthousandths hci h) rfl (by decide) hci rfl gd_thousandths (by decide +kernel) ⟨rfl, rfl⟩ dR_rings_2 ⟨by decide, by decide⟩ rfl rfl (Nat.le_of_ble_eq_true rfl) ?_
  intro r2c M2 hN
  replace h := hN
  clear hN
  refine g_istore_n C dR_rings_5 (by decide) rfl ?_
  refine g_locals (lv' := [(0, .ref (ad 0)), (1, iv a1), (2, iv r2c)]) rfl ?_
  refine g_aload_n C dR_rings_6 rfl ?_
  refine g_iconst C dR_rings_7 ?_
  refine g_callVi C (nargs := 1) (o := 0) (st := []) (m_RhasText hci h) rfl (by decide) hci rfl gd_hasText (by decide +kernel) ⟨rfl, rfl⟩ dR_rings_8 ⟨by decide, by decide⟩ rfl rfl (Nat.le_of_ble_eq_true rfl) ?_
  intro r8c M8 hN
  replace h := hN
  clear hN
  refine g_if_ne C 34 dR_rings_11 (by decide) (fun hc => ?_) (fun hc => ?_)
  · replace h := h.1 hc
    refine g_aload_n C dR_rings_34 rfl ?_
    refine rf_named C hci dR_rings_35 ?_
    refine g_bipush C dR_rings_38 rfl ?_
    refine g_aload_n C dR_rings_40 rfl ?_
    refine g_iload_n C dR_rings_41 rfl ?_
    refine g_iconst C dR_rings_42 ?_
    refine g_callVi C (nargs := 2) (o := 0) (st := [iv 103, .ref (ad 6)]) (m_Rits hci h) rfl (by decide) hci rfl gd_its (by decide +kernel) ⟨rfl, rfl⟩ dR_rings_43 ⟨by decide, by decide⟩ rfl rfl (Nat.le_of_ble_eq_true rfl) ?_
    intro r43c M43 hN
    replace h := hN
    clear hN
    refine g_iast C (n := 128) dR_rings_46 rfl (by decide) ⟨by decide, by decide⟩ ?_
    refine g_memname (fun M46 hM46 => ?_)
    replace h := h M46 hM46
    refine g_aload_n C dR_rings_47 rfl ?_
    refine rf_named C hci dR_rings_48 ?_
    refine g_bipush C dR_rings_51 rfl ?_
    refine g_iload_n C dR_rings_53 rfl ?_
    refine g_iast C (n := 128) dR_rings_54 rfl (by decide) ⟨by decide, by decide⟩ ?_
    refine g_memname (fun M54 hM54 => ?_)
    replace h := h M54 hM54
    refine g_aload_n C dR_rings_55 rfl ?_
    refine rf_named C hci dR_rings_56 ?_
    refine g_bipush C dR_rings_59 rfl ?_
    refine g_aload_n C dR_rings_61 rfl ?_
    refine g_iload_n C dR_rings_62 rfl ?_
    refine g_iconst C dR_rings_63 ?_
    refine g_callVi C (nargs := 2) (o := 0) (st := [iv 109, .ref (ad 6)]) (m_Rits hci h) rfl (by decide) hci rfl gd_its (by decide +kernel) ⟨rfl, rfl⟩ dR_rings_64 ⟨by decide, by decide⟩ rfl rfl (Nat.le_of_ble_eq_true rfl) ?_
    intro r64c M64 hN
    replace h := hN
    clear hN
    refine g_iast C (n := 128) dR_rings_67 rfl (by decide) ⟨by decide, by decide⟩ ?_
    refine g_memname (fun M67 hM67 => ?_)
    replace h := h M67 hM67
    refine g_aload_n C dR_rings_68 rfl ?_
    refine g_iconst C dR_rings_69 ?_
    refine g_callVi C (nargs := 1) (o := 0) (st := []) (m_Rworked hci h) rfl (by decide) hci rfl gd_worked (by decide +kernel) ⟨rfl, rfl⟩ dR_rings_70 ⟨by decide, by decide⟩ rfl rfl (Nat.le_of_ble_eq_true rfl) ?_
    intro r70c M70 hN
    replace h := hN
    clear hN
    refine g_iconst C dR_rings_73 ?_
    refine g_sipush C dR_rings_74 rfl ?_
    refine g_callSi C (nargs := 3) (st := []) (m_Rheld hci h) gd_held (by decide +kernel) ⟨rfl, rfl⟩ dR_rings_77 ⟨by decide, by decide⟩ rfl rfl (Nat.le_of_ble_eq_true rfl) ?_
    intro r77c M77 hN
    replace h := hN
    clear hN
    exact hR _ _ _ _ dR_rings_80 rfl h
  · replace h := h.2 hc
    refine g_sipush C dR_rings_14 rfl ?_
    refine g_iload_n C dR_rings_17 rfl ?_
    refine g_isub C dR_rings_18 ?_
    refine g_aload_n C dR_rings_19 rfl ?_
    refine g_iload_n C dR_rings_20 rfl ?_
    refine g_iconst C dR_rings_21 ?_
    refine g_callVi C (nargs := 2) (o := 0) (st := [iv (1000 - r2c)]) (m_Rits hci h) rfl (by decide) hci rfl gd_its (by decide +kernel) ⟨rfl, rfl⟩ dR_rings_22 ⟨by decide, by decide⟩ rfl rfl (Nat.le_of_ble_eq_true rfl) ?_
    intro r22c M22 hN
    replace h := hN
    clear hN
    refine g_iadd C dR_rings_25 ?_
    refine g_iconst C dR_rings_26 ?_
    refine g_sipush C dR_rings_27 rfl ?_
    refine g_callSi C (nargs := 3) (st := []) (m_Rheld hci h) gd_held (by decide +kernel) ⟨rfl, rfl⟩ dR_rings_30 ⟨by decide, by decide⟩ rfl rfl (Nat.le_of_ble_eq_true rfl) ?_
    intro r30c M30 hN
    replace h := hN
    clear hN
    exact hR _ _ _ _ dR_rings_33 rfl h
def w_Rtone (a1 : Int) (M : gSt) (k : Int → gSt → Prop) : Prop :=
w_Rthousandths a1 M (fun r5c M5 => ∀ x2_9 : Int, x2_9 = 1000 - r5c → (w_Rits a1 1 M5 (fun r13c M13 => w_Rits a1 0 M13 (fun r20c M20 => 
  (wrap r20c = 1 →
    w_Rrings a1 M20 (fun r62c M62 => k r62c M62)) ∧
  (wrap r20c = 2 →
    k ((Int.tdiv (wrap x2_9) 2) + r13c) M20) ∧
  (wrap r20c = 3 →
    k (x2_9 - (2 * r13c)) M20) ∧
  (wrap r20c = 4 →
    w_Rrings a1 M20 (fun r80c M80 => k (r80c + (2 * r13c)) M80)) ∧
  (wrap r20c = 5 →
    w_Rits a1 2 M20 (fun r96c M96 => k (((Int.tdiv (wrap x2_9) 2) + r13c) + (Int.tdiv (wrap r96c) 1000)) M96)) ∧
  (wrap r20c = 6 →
    k (0 - (x2_9 - (2 * r13c))) M20) ∧
  (¬ wrap r20c = 1 ∧ ¬ wrap r20c = 2 ∧ ¬ wrap r20c = 3 ∧ ¬ wrap r20c = 4 ∧ ¬ wrap r20c = 5 ∧ ¬ wrap r20c = 6 →
    k x2_9 M20)))))
set_option maxHeartbeats 4000000 in
set_option maxRecDepth 100000 in
theorem m_Rtone {l : Launch} {D : va_G} {cl : List vw_C} {tys : List (ClassId × FieldType)} {ad : Nat → Nat} {cI : ClassId} {ci : Nat} {Z : (Nat → Prop) → State → Prop} (hci : cl[ci]? = some (RX9, TX9, 23)) {a1 : Int} {M : gSt} {k : Int → gSt → Prop} (h : w_Rtone a1 M k) : MOi l yX9_tone cX9_tone 4 .int (rmR 3 70) D cl ((cI, .int) :: tys) (wR ad cI ci) tR Z [.ref (ad 0), iv a1] M k := by
  refine moi_intro (by decide +kernel) (Nat.le_of_ble_eq_true rfl) wi_70 ?_
  intro p e s m args below meth c A Q C hR
  refine g_locals (lv' := [(0, .ref (ad 0)), (1, iv a1)]) rfl ?_
  unfold w_Rtone at h
  refine g_sipush C dR_tone_0 rfl ?_
  refine g_aload_n C dR_tone_3 rfl ?_
  refine g_iload_n C dR_tone_4 rfl ?_
  refine g_callVi C (nargs := 1) (o := 0) (st := [iv 1000]) (m_Rthousandths hci h) rfl (by decide) hci rfl gd_thousandths (by decide +kernel) ⟨rfl, rfl⟩ dR_tone_5 ⟨by decide, by decide⟩ rfl rfl (Nat.le_of_ble_eq_true rfl) ?_
  intro r5c M5 hN
  replace h := hN
  clear hN
  refine g_isub C dR_tone_8 ?_
  refine g_name (fun x2_9 hx2_9 => ?_)
  replace h := h x2_9 hx2_9
  refine g_istore_n C dR_tone_9 (by decide) rfl ?_
  refine g_locals (lv' := [(0, .ref (ad 0)), (1, iv a1), (2, iv x2_9)]) rfl ?_
  refine g_aload_n C dR_tone_10 rfl ?_
  refine g_iload_n C dR_tone_11 rfl ?_
  refine g_iconst C dR_tone_12 ?_
  refine g_callVi C (nargs := 2) (o := 0) (st := []) (m_Rits hci h) rfl (by decide) hci rfl gd_its (by decide +kernel) ⟨rfl, rfl⟩ dR_tone_13 ⟨by decide, by decide⟩ rfl rfl (Nat.le_of_ble_eq_true rfl) ?_
  intro r13c M13 hN
  replace h := hN
  clear hN
  refine g_istore_n C dR_tone_16 (by decide) rfl ?_
  refine g_locals (lv' := [(0, .ref (ad 0)), (1, iv a1), (2, iv x2_9), (3, iv r13c)]) rfl ?_
  refine g_aload_n C dR_tone_17 rfl ?_
  refine g_iload_n C dR_tone_18 rfl ?_
  refine g_iconst C dR_tone_19 ?_
  refine g_callVi C (nargs := 2) (o := 0) (st := []) (m_Rits hci h) rfl (by decide) hci rfl gd_its (by decide +kernel) ⟨rfl, rfl⟩ dR_tone_20 ⟨by decide, by decide⟩ rfl rfl (Nat.le_of_ble_eq_true rfl) ?_
  intro r20c M20 hN
  replace h := hN
  clear hN
  by_cases hc1 : wrap r20c = 1
  · refine g_tableIn C 60 dR_tone_23 (by omega) (by omega) (by rw [hc1] <;> rfl) (by decide) ?_
    replace h := h.1 hc1
    refine g_aload_n C dR_tone_60 rfl ?_
    refine g_iload_n C dR_tone_61 rfl ?_
    refine g_callVi C (nargs := 1) (o := 0) (st := []) (m_Rrings hci h) rfl (by decide) hci rfl gd_rings (by decide +kernel) ⟨rfl, rfl⟩ dR_tone_62 ⟨by decide, by decide⟩ rfl rfl (Nat.le_of_ble_eq_true rfl) ?_
    intro r62c M62 hN
    replace h := hN
    clear hN
    exact hR _ _ _ _ dR_tone_65 rfl h
  · by_cases hc2 : wrap r20c = 2
    · refine g_tableIn C 66 dR_tone_23 (by omega) (by omega) (by rw [hc2] <;> rfl) (by decide) ?_
      replace h := h.2.1 hc2
      refine g_iload_n C dR_tone_66 rfl ?_
      refine g_iconst C dR_tone_67 ?_
      refine g_idiv C dR_tone_68 (by decide) ?_
      refine g_top (y := Int.tdiv (wrap x2_9) 2) rfl ?_
      refine g_iload_n C dR_tone_69 rfl ?_
      refine g_iadd C dR_tone_70 ?_
      exact hR _ _ _ _ dR_tone_71 rfl h
    · by_cases hc3 : wrap r20c = 3
      · refine g_tableIn C 72 dR_tone_23 (by omega) (by omega) (by rw [hc3] <;> rfl) (by decide) ?_
        replace h := h.2.2.1 hc3
        refine g_iload_n C dR_tone_72 rfl ?_
        refine g_iconst C dR_tone_73 ?_
        refine g_iload_n C dR_tone_74 rfl ?_
        refine g_imul C dR_tone_75 ?_
        refine g_isub C dR_tone_76 ?_
        exact hR _ _ _ _ dR_tone_77 rfl h
      · by_cases hc4 : wrap r20c = 4
        · refine g_tableIn C 78 dR_tone_23 (by omega) (by omega) (by rw [hc4] <;> rfl) (by decide) ?_
          replace h := h.2.2.2.1 hc4
          refine g_aload_n C dR_tone_78 rfl ?_
          refine g_iload_n C dR_tone_79 rfl ?_
          refine g_callVi C (nargs := 1) (o := 0) (st := []) (m_Rrings hci h) rfl (by decide) hci rfl gd_rings (by decide +kernel) ⟨rfl, rfl⟩ dR_tone_80 ⟨by decide, by decide⟩ rfl rfl (Nat.le_of_ble_eq_true rfl) ?_
          intro r80c M80 hN
          replace h := hN
          clear hN
          refine g_iconst C dR_tone_83 ?_
          refine g_iload_n C dR_tone_84 rfl ?_
          refine g_imul C dR_tone_85 ?_
          refine g_iadd C dR_tone_86 ?_
          exact hR _ _ _ _ dR_tone_87 rfl h
        · by_cases hc5 : wrap r20c = 5
          · refine g_tableIn C 88 dR_tone_23 (by omega) (by omega) (by rw [hc5] <;> rfl) (by decide) ?_
            replace h := h.2.2.2.2.1 hc5
            refine g_iload_n C dR_tone_88 rfl ?_
            refine g_iconst C dR_tone_89 ?_
            refine g_idiv C dR_tone_90 (by decide) ?_
            refine g_top (y := Int.tdiv (wrap x2_9) 2) rfl ?_
            refine g_iload_n C dR_tone_91 rfl ?_
            refine g_iadd C dR_tone_92 ?_
            refine g_aload_n C dR_tone_93 rfl ?_
            refine g_iload_n C dR_tone_94 rfl ?_
            refine g_iconst C dR_tone_95 ?_
            refine g_callVi C (nargs := 2) (o := 0) (st := [iv ((Int.tdiv (wrap x2_9) 2) + r13c)]) (m_Rits hci h) rfl (by decide) hci rfl gd_its (by decide +kernel) ⟨rfl, rfl⟩ dR_tone_96 ⟨by decide, by decide⟩ rfl rfl (Nat.le_of_ble_eq_true rfl) ?_
            intro r96c M96 hN
            replace h := hN
            clear hN
            refine g_sipush C dR_tone_99 rfl ?_
            refine g_idiv C dR_tone_102 (by decide) ?_
            refine g_top (y := Int.tdiv (wrap r96c) 1000) rfl ?_
            refine g_iadd C dR_tone_103 ?_
            exact hR _ _ _ _ dR_tone_104 rfl h
          · by_cases hc6 : wrap r20c = 6
            · refine g_tableIn C 105 dR_tone_23 (by omega) (by omega) (by rw [hc6] <;> rfl) (by decide) ?_
              replace h := h.2.2.2.2.2.1 hc6
              refine g_iconst C dR_tone_105 ?_
              refine g_iload_n C dR_tone_106 rfl ?_
              refine g_iconst C dR_tone_107 ?_
              refine g_iload_n C dR_tone_108 rfl ?_
              refine g_imul C dR_tone_109 ?_
              refine g_isub C dR_tone_110 ?_
              refine g_isub C dR_tone_111 ?_
              exact hR _ _ _ _ dR_tone_112 rfl h
            · refine g_tableOut C 113 dR_tone_23 (by omega) (by decide) ?_
              replace h := h.2.2.2.2.2.2 ⟨hc1, hc2, hc3, hc4, hc5, hc6⟩
              refine g_iload_n C dR_tone_113 rfl ?_
              exact hR _ _ _ _ dR_tone_114 rfl h
def w_Rtold1 (a1 : Int) (a2 : Int) (M : gSt) (k : Int → gSt → Prop) : Prop :=

  (¬ wrap a2 = 10 →
    w_Rits a1 a2 M (fun r17c M17 => k r17c M17)) ∧
  (wrap a2 = 10 →
    w_Rtone a1 M (fun r8c M8 => k r8c M8))
set_option maxHeartbeats 4000000 in
set_option maxRecDepth 100000 in
theorem m_Rtold1 {l : Launch} {D : va_G} {cl : List vw_C} {tys : List (ClassId × FieldType)} {ad : Nat → Nat} {cI : ClassId} {ci : Nat} {Z : (Nat → Prop) → State → Prop} (hci : cl[ci]? = some (RX9, TX9, 23)) {a1 : Int} {a2 : Int} {M : gSt} {k : Int → gSt → Prop} (h : w_Rtold1 a1 a2 M k) : MOi l yX9_told1 cX9_told1 3 .int (rmR 4 93) D cl ((cI, .int) :: tys) (wR ad cI ci) tR Z [.ref (ad 0), iv a1, iv a2] M k := by
  refine moi_intro (by decide +kernel) (Nat.le_of_ble_eq_true rfl) wi_74 ?_
  intro p e s m args below meth c A Q C hR
  refine g_locals (lv' := [(0, .ref (ad 0)), (1, iv a1), (2, iv a2)]) rfl ?_
  unfold w_Rtold1 at h
  refine g_iload_n C dR_told1_0 rfl ?_
  refine g_bipush C dR_told1_1 rfl ?_
  refine g_icmp_ne C 14 dR_told1_3 (by decide) (fun hc => ?_) (fun hc => ?_)
  · replace h := h.1 hc
    refine g_aload_n C dR_told1_14 rfl ?_
    refine g_iload_n C dR_told1_15 rfl ?_
    refine g_iload_n C dR_told1_16 rfl ?_
    refine g_callVi C (nargs := 2) (o := 0) (st := []) (m_Rits hci h) rfl (by decide) hci rfl gd_its (by decide +kernel) ⟨rfl, rfl⟩ dR_told1_17 ⟨by decide, by decide⟩ rfl rfl (Nat.le_of_ble_eq_true rfl) ?_
    intro r17c M17 hN
    replace h := hN
    clear hN
    exact hR _ _ _ _ dR_told1_20 rfl h
  · replace h := h.2 hc
    refine g_aload_n C dR_told1_6 rfl ?_
    refine g_iload_n C dR_told1_7 rfl ?_
    refine g_callVi C (nargs := 1) (o := 0) (st := []) (m_Rtone hci h) rfl (by decide) hci rfl gd_tone (by decide +kernel) ⟨rfl, rfl⟩ dR_told1_8 ⟨by decide, by decide⟩ rfl rfl (Nat.le_of_ble_eq_true rfl) ?_
    intro r8c M8 hN
    replace h := hN
    clear hN
    refine g_goto C 20 dR_told1_11 (by decide) ?_
    exact hR _ _ _ _ dR_told1_20 rfl h
def wB_RthingIs_27 (a1 : Int) (a2 : Int) (k : Int → gSt → Prop)   (M : gSt) : Prop :=
w_Rerror 1 M (fun r29c M29 => k r29c M29)
def w_RthingIs (a1 : Int) (a2 : Int) (M : gSt) (k : Int → gSt → Prop) : Prop :=
w_RisThing a1 M (fun r2c M2 => 
  (wrap r2c = 0 →
    wB_RthingIs_27 a1 a2 k   M2) ∧
  (¬ wrap r2c = 0 →
    w_Rin a2 0 10 M2 (fun r12c M12 => 
    (wrap r12c = 0 →
      wB_RthingIs_27 a1 a2 k   M12) ∧
    (¬ wrap r12c = 0 →
      w_Rtold1 a1 a2 M12 (fun r21c M21 => k r21c M21)))))
set_option maxHeartbeats 4000000 in
set_option maxRecDepth 100000 in
theorem m_RthingIs {l : Launch} {D : va_G} {cl : List vw_C} {tys : List (ClassId × FieldType)} {ad : Nat → Nat} {cI : ClassId} {ci : Nat} {Z : (Nat → Prop) → State → Prop} (hci : cl[ci]? = some (RX9, TX9, 23)) {a1 : Int} {a2 : Int} {M : gSt} {k : Int → gSt → Prop} (h : w_RthingIs a1 a2 M k) : MOi l yX9_thingIs cX9_thingIs 3 .int (rmR 5 115) D cl ((cI, .int) :: tys) (wR ad cI ci) tR Z [.ref (ad 0), iv a1, iv a2] M k := by
  refine moi_intro (by decide +kernel) (Nat.le_of_ble_eq_true rfl) wi_81 ?_
  intro p e s m args below meth c A Q C hR
  have pB27 : ∀    (M : gSt), wB_RthingIs_27 a1 a2 k   M → gG p l e (rmR 5 115) s m args below meth c Q D cl A (wR ad cI ci) 3 27 [(0, .ref (ad 0))] [] M := by
    intro    M h
    unfold wB_RthingIs_27 at h
    refine g_aload_n C dR_thingIs_27 rfl ?_
    refine g_iconst C dR_thingIs_28 ?_
    refine g_callVi C (nargs := 1) (o := 0) (st := []) (m_Rerror hci h) rfl (by decide) hci rfl gd_error (by decide +kernel) ⟨rfl, rfl⟩ dR_thingIs_29 ⟨by decide, by decide⟩ rfl rfl (Nat.le_of_ble_eq_true rfl) ?_
    intro r29c M29 hN
    replace h := hN
    clear hN
    exact hR _ _ _ _ dR_thingIs_32 rfl h
  refine g_locals (lv' := [(0, .ref (ad 0)), (1, iv a1), (2, iv a2)]) rfl ?_
  unfold w_RthingIs at h
  refine g_aload_n C dR_thingIs_0 rfl ?_
  refine g_iload_n C dR_thingIs_1 rfl ?_
  refine g_callVi C (nargs := 1) (o := 0) (st := []) (m_RisThing hci h) rfl (by decide) hci rfl gd_isThing (by decide +kernel) ⟨rfl, rfl⟩ dR_thingIs_2 ⟨by decide, by decide⟩ rfl rfl (Nat.le_of_ble_eq_true rfl) ?_
  intro r2c M2 hN
  replace h := hN
  clear hN
  refine g_if_eq C 27 dR_thingIs_5 (by decide) (fun hc => ?_) (fun hc => ?_)
  · replace h := h.1 hc
    refine g_locals (lv' := [(0, .ref (ad 0))]) rfl ?_
    exact pB27  _ h
  · replace h := h.2 hc
    refine g_iload_n C dR_thingIs_8 rfl ?_
    refine g_iconst C dR_thingIs_9 ?_
    refine g_bipush C dR_thingIs_10 rfl ?_
    refine g_callSi C (nargs := 3) (st := []) (m_Rin hci h) gd_in (by decide +kernel) ⟨rfl, rfl⟩ dR_thingIs_12 ⟨by decide, by decide⟩ rfl rfl (Nat.le_of_ble_eq_true rfl) ?_
    intro r12c M12 hN
    replace h := hN
    clear hN
    refine g_if_eq C 27 dR_thingIs_15 (by decide) (fun hc => ?_) (fun hc => ?_)
    · replace h := h.1 hc
      refine g_locals (lv' := [(0, .ref (ad 0))]) rfl ?_
      exact pB27  _ h
    · replace h := h.2 hc
      refine g_aload_n C dR_thingIs_18 rfl ?_
      refine g_iload_n C dR_thingIs_19 rfl ?_
      refine g_iload_n C dR_thingIs_20 rfl ?_
      refine g_callVi C (nargs := 2) (o := 0) (st := []) (m_Rtold1 hci h) rfl (by decide) hci rfl gd_told1 (by decide +kernel) ⟨rfl, rfl⟩ dR_thingIs_21 ⟨by decide, by decide⟩ rfl rfl (Nat.le_of_ble_eq_true rfl) ?_
      intro r21c M21 hN
      replace h := hN
      clear hN
      refine g_goto C 32 dR_thingIs_24 (by decide) ?_
      exact hR _ _ _ _ dR_thingIs_32 rfl h
def wB_RisUnder_29 (a1 : Int) (a2 : Int) (k : Int → gSt → Prop)   (M : gSt) : Prop :=

  (¬ wrap a2 = 3 →
    k 0 M) ∧
  (wrap a2 = 3 →

    (¬ wrap a1 = 6 →
      k 0 M) ∧
    (wrap a1 = 6 →
      k 1 M))
def wB_RisUnder_19 (a1 : Int) (a2 : Int) (k : Int → gSt → Prop)   (M : gSt) : Prop :=

  (¬ wrap a2 = 2 →
    wB_RisUnder_29 a1 a2 k   M) ∧
  (wrap a2 = 2 →

    (wrap a1 = 5 →
      k 1 M) ∧
    (¬ wrap a1 = 5 →
      wB_RisUnder_29 a1 a2 k   M))
def w_RisUnder (a1 : Int) (a2 : Int) (M : gSt) (k : Int → gSt → Prop) : Prop :=

  (wrap a2 = 0 →
    k 1 M) ∧
  (¬ wrap a2 = 0 →

    (wrap a1 = wrap a2 →
      k 1 M) ∧
    (¬ wrap a1 = wrap a2 →

      (¬ wrap a2 = 1 →
        wB_RisUnder_19 a1 a2 k   M) ∧
      (wrap a2 = 1 →

        (wrap a1 = 4 →
          k 1 M) ∧
        (¬ wrap a1 = 4 →
          wB_RisUnder_19 a1 a2 k   M))))
set_option maxHeartbeats 4000000 in
set_option maxRecDepth 100000 in
theorem m_RisUnder {l : Launch} {D : va_G} {cl : List vw_C} {tys : List (ClassId × FieldType)} {ad : Nat → Nat} {cI : ClassId} {ci : Nat} {Z : (Nat → Prop) → State → Prop} (hci : cl[ci]? = some (RX9, TX9, 23)) {a1 : Int} {a2 : Int} {M : gSt} {k : Int → gSt → Prop} (h : w_RisUnder a1 a2 M k) : MOi l yX9_isUnder cX9_isUnder 2 .boolean (rmR 0 0) D cl ((cI, .int) :: tys) (wR ad cI ci) tR Z [iv a1, iv a2] M k := by
  refine moi_intro (by decide +kernel) (Nat.le_of_ble_eq_true rfl) wi_82 ?_
  intro p e s m args below meth c A Q C hR
  have pB29 : ∀    (M : gSt), wB_RisUnder_29 a1 a2 k   M → gG p l e (rmR 0 0) s m args below meth c Q D cl A (wR ad cI ci) 2 29 [(0, iv a1), (1, iv a2)] [] M := by
    intro    M h
    unfold wB_RisUnder_29 at h
    refine g_iload_n C dR_isUnder_29 rfl ?_
    refine g_iconst C dR_isUnder_30 ?_
    refine g_icmp_ne C 44 dR_isUnder_31 (by decide) (fun hc => ?_) (fun hc => ?_)
    · replace h := h.1 hc
      refine g_iconst C dR_isUnder_44 ?_
      exact hR _ _ _ _ dR_isUnder_45 rfl h
    · replace h := h.2 hc
      refine g_iload_n C dR_isUnder_34 rfl ?_
      refine g_bipush C dR_isUnder_35 rfl ?_
      refine g_icmp_ne C 44 dR_isUnder_37 (by decide) (fun hc => ?_) (fun hc => ?_)
      · replace h := h.1 hc
        refine g_iconst C dR_isUnder_44 ?_
        exact hR _ _ _ _ dR_isUnder_45 rfl h
      · replace h := h.2 hc
        refine g_iconst C dR_isUnder_40 ?_
        refine g_goto C 45 dR_isUnder_41 (by decide) ?_
        exact hR _ _ _ _ dR_isUnder_45 rfl h
  have pB19 : ∀    (M : gSt), wB_RisUnder_19 a1 a2 k   M → gG p l e (rmR 0 0) s m args below meth c Q D cl A (wR ad cI ci) 2 19 [(0, iv a1), (1, iv a2)] [] M := by
    intro    M h
    unfold wB_RisUnder_19 at h
    refine g_iload_n C dR_isUnder_19 rfl ?_
    refine g_iconst C dR_isUnder_20 ?_
    refine g_icmp_ne C 29 dR_isUnder_21 (by decide) (fun hc => ?_) (fun hc => ?_)
    · replace h := h.1 hc
      refine g_locals (lv' := [(0, iv a1), (1, iv a2)]) rfl ?_
      exact pB29  _ h
    · replace h := h.2 hc
      refine g_iload_n C dR_isUnder_24 rfl ?_
      refine g_iconst C dR_isUnder_25 ?_
      refine g_icmp_eq C 40 dR_isUnder_26 (by decide) (fun hc => ?_) (fun hc => ?_)
      · replace h := h.1 hc
        refine g_iconst C dR_isUnder_40 ?_
        refine g_goto C 45 dR_isUnder_41 (by decide) ?_
        exact hR _ _ _ _ dR_isUnder_45 rfl h
      · replace h := h.2 hc
        refine g_locals (lv' := [(0, iv a1), (1, iv a2)]) rfl ?_
        exact pB29  _ h
  refine g_locals (lv' := [(0, iv a1), (1, iv a2)]) rfl ?_
  unfold w_RisUnder at h
  refine g_iload_n C dR_isUnder_0 rfl ?_
  refine g_if_eq C 40 dR_isUnder_1 (by decide) (fun hc => ?_) (fun hc => ?_)
  · replace h := h.1 hc
    refine g_iconst C dR_isUnder_40 ?_
    refine g_goto C 45 dR_isUnder_41 (by decide) ?_
    exact hR _ _ _ _ dR_isUnder_45 rfl h
  · replace h := h.2 hc
    refine g_iload_n C dR_isUnder_4 rfl ?_
    refine g_iload_n C dR_isUnder_5 rfl ?_
    refine g_icmp_eq C 40 dR_isUnder_6 (by decide) (fun hc => ?_) (fun hc => ?_)
    · replace h := h.1 hc
      refine g_iconst C dR_isUnder_40 ?_
      refine g_goto C 45 dR_isUnder_41 (by decide) ?_
      exact hR _ _ _ _ dR_isUnder_45 rfl h
    · replace h := h.2 hc
      refine g_iload_n C dR_isUnder_9 rfl ?_
      refine g_iconst C dR_isUnder_10 ?_
      refine g_icmp_ne C 19 dR_isUnder_11 (by decide) (fun hc => ?_) (fun hc => ?_)
      · replace h := h.1 hc
        refine g_locals (lv' := [(0, iv a1), (1, iv a2)]) rfl ?_
        exact pB19  _ h
      · replace h := h.2 hc
        refine g_iload_n C dR_isUnder_14 rfl ?_
        refine g_iconst C dR_isUnder_15 ?_
        refine g_icmp_eq C 40 dR_isUnder_16 (by decide) (fun hc => ?_) (fun hc => ?_)
        · replace h := h.1 hc
          refine g_iconst C dR_isUnder_40 ?_
          refine g_goto C 45 dR_isUnder_41 (by decide) ?_
          exact hR _ _ _ _ dR_isUnder_45 rfl h
        · replace h := h.2 hc
          refine g_locals (lv' := [(0, iv a1), (1, iv a2)]) rfl ?_
          exact pB19  _ h
def wB_Ras_18 (a1 : Int) (a2 : Int) (k : Int → gSt → Prop)   (M : gSt) : Prop :=
w_Rerror 1 M (fun r20c M20 => k r20c M20)
def w_Ras (a1 : Int) (a2 : Int) (M : gSt) (k : Int → gSt → Prop) : Prop :=
w_RisThing a1 M (fun r2c M2 => 
  (wrap r2c = 0 →
    wB_Ras_18 a1 a2 k   M2) ∧
  (¬ wrap r2c = 0 →
    w_Rin a2 0 6 M2 (fun r12c M12 => 
    (¬ wrap r12c = 0 →
      w_Rits a1 0 M12 (fun r27c M27 => w_RisUnder r27c a2 M27 (fun r31c M31 => 
      (wrap r31c = 0 →
        w_Rerror 5 M31 (fun r48c M48 => k r48c M48)) ∧
      (¬ wrap r31c = 0 →
        w_Rits a1 2 M31 (fun r40c M40 => k r40c M40))))) ∧
    (wrap r12c = 0 →
      wB_Ras_18 a1 a2 k   M12))))
set_option maxHeartbeats 4000000 in
set_option maxRecDepth 100000 in
theorem m_Ras {l : Launch} {D : va_G} {cl : List vw_C} {tys : List (ClassId × FieldType)} {ad : Nat → Nat} {cI : ClassId} {ci : Nat} {Z : (Nat → Prop) → State → Prop} (hci : cl[ci]? = some (RX9, TX9, 23)) {a1 : Int} {a2 : Int} {M : gSt} {k : Int → gSt → Prop} (h : w_Ras a1 a2 M k) : MOi l yX9_as cX9_as 3 .int (rmR 2 43) D cl ((cI, .int) :: tys) (wR ad cI ci) tR Z [.ref (ad 0), iv a1, iv a2] M k := by
  refine moi_intro (by decide +kernel) (Nat.le_of_ble_eq_true rfl) wi_85 ?_
  intro p e s m args below meth c A Q C hR
  have pB18 : ∀    (M : gSt), wB_Ras_18 a1 a2 k   M → gG p l e (rmR 2 43) s m args below meth c Q D cl A (wR ad cI ci) 3 18 [(0, .ref (ad 0))] [] M := by
    intro    M h
    unfold wB_Ras_18 at h
    refine g_aload_n C dR_as_18 rfl ?_
    refine g_iconst C dR_as_19 ?_
    refine g_callVi C (nargs := 1) (o := 0) (st := []) (m_Rerror hci h) rfl (by decide) hci rfl gd_error (by decide +kernel) ⟨rfl, rfl⟩ dR_as_20 ⟨by decide, by decide⟩ rfl rfl (Nat.le_of_ble_eq_true rfl) ?_
    intro r20c M20 hN
    replace h := hN
    clear hN
    exact hR _ _ _ _ dR_as_23 rfl h
  refine g_locals (lv' := [(0, .ref (ad 0)), (1, iv a1), (2, iv a2)]) rfl ?_
  unfold w_Ras at h
  refine g_aload_n C dR_as_0 rfl ?_
  refine g_iload_n C dR_as_1 rfl ?_
  refine g_callVi C (nargs := 1) (o := 0) (st := []) (m_RisThing hci h) rfl (by decide) hci rfl gd_isThing (by decide +kernel) ⟨rfl, rfl⟩ dR_as_2 ⟨by decide, by decide⟩ rfl rfl (Nat.le_of_ble_eq_true rfl) ?_
  intro r2c M2 hN
  replace h := hN
  clear hN
  refine g_if_eq C 18 dR_as_5 (by decide) (fun hc => ?_) (fun hc => ?_)
  · replace h := h.1 hc
    refine g_locals (lv' := [(0, .ref (ad 0))]) rfl ?_
    exact pB18  _ h
  · replace h := h.2 hc
    refine g_iload_n C dR_as_8 rfl ?_
    refine g_iconst C dR_as_9 ?_
    refine g_bipush C dR_as_10 rfl ?_
    refine g_callSi C (nargs := 3) (st := []) (m_Rin hci h) gd_in (by decide +kernel) ⟨rfl, rfl⟩ dR_as_12 ⟨by decide, by decide⟩ rfl rfl (Nat.le_of_ble_eq_true rfl) ?_
    intro r12c M12 hN
    replace h := hN
    clear hN
    refine g_if_ne C 24 dR_as_15 (by decide) (fun hc => ?_) (fun hc => ?_)
    · replace h := h.1 hc
      refine g_aload_n C dR_as_24 rfl ?_
      refine g_iload_n C dR_as_25 rfl ?_
      refine g_iconst C dR_as_26 ?_
      refine g_callVi C (nargs := 2) (o := 0) (st := []) (m_Rits hci h) rfl (by decide) hci rfl gd_its (by decide +kernel) ⟨rfl, rfl⟩ dR_as_27 ⟨by decide, by decide⟩ rfl rfl (Nat.le_of_ble_eq_true rfl) ?_
      intro r27c M27 hN
      replace h := hN
      clear hN
      refine g_iload_n C dR_as_30 rfl ?_
      refine g_callSi C (nargs := 2) (st := []) (m_RisUnder hci h) gd_isUnder (by decide +kernel) ⟨rfl, rfl⟩ dR_as_31 ⟨by decide, by decide⟩ rfl rfl (Nat.le_of_ble_eq_true rfl) ?_
      intro r31c M31 hN
      replace h := hN
      clear hN
      refine g_if_eq C 46 dR_as_34 (by decide) (fun hc => ?_) (fun hc => ?_)
      · replace h := h.1 hc
        refine g_aload_n C dR_as_46 rfl ?_
        refine g_iconst C dR_as_47 ?_
        refine g_callVi C (nargs := 1) (o := 0) (st := []) (m_Rerror hci h) rfl (by decide) hci rfl gd_error (by decide +kernel) ⟨rfl, rfl⟩ dR_as_48 ⟨by decide, by decide⟩ rfl rfl (Nat.le_of_ble_eq_true rfl) ?_
        intro r48c M48 hN
        replace h := hN
        clear hN
        exact hR _ _ _ _ dR_as_51 rfl h
      · replace h := h.2 hc
        refine g_aload_n C dR_as_37 rfl ?_
        refine g_iload_n C dR_as_38 rfl ?_
        refine g_iconst C dR_as_39 ?_
        refine g_callVi C (nargs := 2) (o := 0) (st := []) (m_Rits hci h) rfl (by decide) hci rfl gd_its (by decide +kernel) ⟨rfl, rfl⟩ dR_as_40 ⟨by decide, by decide⟩ rfl rfl (Nat.le_of_ble_eq_true rfl) ?_
        intro r40c M40 hN
        replace h := hN
        clear hN
        refine g_goto C 51 dR_as_43 (by decide) ?_
        exact hR _ _ _ _ dR_as_51 rfl h
    · replace h := h.2 hc
      refine g_locals (lv' := [(0, .ref (ad 0))]) rfl ?_
      exact pB18  _ h
def wB_Rset_22 (a1 : Int) (a2 : Int) (a3 : Int) (k : Int → gSt → Prop)   (M : gSt) : Prop :=
w_Rerror 1 M (fun r24c M24 => k r24c M24)
def wB_Rset_55 (a1 : Int) (a2 : Int) (a3 : Int) (k : Int → gSt → Prop)  (s0 : Int) (s1 : Int) (s2 : Int) (M : gSt) : Prop :=
w_Rin s2 s1 s0 M (fun r55c M55 => 
  (¬ wrap r55c = 0 →
    w_Rits a1 a2 M55 (fun r70c M70 => w_Rlays1 a1 a2 a3 M70 (fun M79 => k r70c M79))) ∧
  (wrap r55c = 0 →
    w_Rerror 1 M55 (fun r63c M63 => k r63c M63)))
def w_Rset (a1 : Int) (a2 : Int) (a3 : Int) (M : gSt) (k : Int → gSt → Prop) : Prop :=
w_RisThing a1 M (fun r2c M2 => 
  (wrap r2c = 0 →
    wB_Rset_22 a1 a2 a3 k   M2) ∧
  (¬ wrap r2c = 0 →
    w_Rin a2 0 5 M2 (fun r11c M11 => 
    (wrap r11c = 0 →
      wB_Rset_22 a1 a2 a3 k   M11) ∧
    (¬ wrap r11c = 0 →

      (¬ wrap a2 = 2 →

        (¬ wrap a2 = 0 →

          (¬ wrap a2 = 1 →
            w_Rits a1 2 M11 (fun r52c M52 => wB_Rset_55 a1 a2 a3 k  r52c 0 a3 M52)) ∧
          (wrap a2 = 1 →
            wB_Rset_55 a1 a2 a3 k  99 0 a3 M11)) ∧
        (wrap a2 = 0 →
          wB_Rset_55 a1 a2 a3 k  6 0 a3 M11)) ∧
      (wrap a2 = 2 →
        wB_Rset_22 a1 a2 a3 k   M11)))))
set_option maxHeartbeats 4000000 in
set_option maxRecDepth 100000 in
theorem m_Rset {l : Launch} {D : va_G} {cl : List vw_C} {tys : List (ClassId × FieldType)} {ad : Nat → Nat} {cI : ClassId} {ci : Nat} {Z : (Nat → Prop) → State → Prop} (hci : cl[ci]? = some (RX9, TX9, 23)) {a1 : Int} {a2 : Int} {a3 : Int} {M : gSt} {k : Int → gSt → Prop} (h : w_Rset a1 a2 a3 M k) : MOi l yX9_set cX9_set 5 .int (rmR 2 43) D cl ((cI, .int) :: tys) (wR ad cI ci) tR Z [.ref (ad 0), iv a1, iv a2, iv a3] M k := by
  refine moi_intro (by decide +kernel) (Nat.le_of_ble_eq_true rfl) wi_86 ?_
  intro p e s m args below meth c A Q C hR
  have pB22 : ∀    (M : gSt), wB_Rset_22 a1 a2 a3 k   M → gG p l e (rmR 2 43) s m args below meth c Q D cl A (wR ad cI ci) 5 22 [(0, .ref (ad 0))] [] M := by
    intro    M h
    unfold wB_Rset_22 at h
    refine g_aload_n C dR_set_22 rfl ?_
    refine g_iconst C dR_set_23 ?_
    refine g_callVi C (nargs := 1) (o := 0) (st := []) (m_Rerror hci h) rfl (by decide) hci rfl gd_error (by decide +kernel) ⟨rfl, rfl⟩ dR_set_24 ⟨by decide, by decide⟩ rfl rfl (Nat.le_of_ble_eq_true rfl) ?_
    intro r24c M24 hN
    replace h := hN
    clear hN
    exact hR _ _ _ _ dR_set_27 rfl h
  have pB55 : ∀   (s0 : Int) (s1 : Int) (s2 : Int) (M : gSt), wB_Rset_55 a1 a2 a3 k  s0 s1 s2 M → gG p l e (rmR 2 43) s m args below meth c Q D cl A (wR ad cI ci) 5 55 [(0, .ref (ad 0)), (1, iv a1), (2, iv a2), (3, iv a3)] [iv s0, iv s1, iv s2] M := by
    intro   s0 s1 s2 M h
    unfold wB_Rset_55 at h
    refine g_callSi C (nargs := 3) (st := []) (m_Rin hci h) gd_in (by decide +kernel) ⟨rfl, rfl⟩ dR_set_55 ⟨by decide, by decide⟩ rfl rfl (Nat.le_of_ble_eq_true rfl) ?_
    intro r55c M55 hN
    replace h := hN
    clear hN
    refine g_if_ne C 67 dR_set_58 (by decide) (fun hc => ?_) (fun hc => ?_)
    · replace h := h.1 hc
      refine g_aload_n C dR_set_67 rfl ?_
      refine g_iload_n C dR_set_68 rfl ?_
      refine g_iload_n C dR_set_69 rfl ?_
      refine g_callVi C (nargs := 2) (o := 0) (st := []) (m_Rits hci h) rfl (by decide) hci rfl gd_its (by decide +kernel) ⟨rfl, rfl⟩ dR_set_70 ⟨by decide, by decide⟩ rfl rfl (Nat.le_of_ble_eq_true rfl) ?_
      intro r70c M70 hN
      replace h := hN
      clear hN
      refine g_istore C dR_set_73 (by decide) rfl ?_
      refine g_locals (lv' := [(0, .ref (ad 0)), (1, iv a1), (2, iv a2), (3, iv a3), (4, iv r70c)]) rfl ?_
      refine g_aload_n C dR_set_75 rfl ?_
      refine g_iload_n C dR_set_76 rfl ?_
      refine g_iload_n C dR_set_77 rfl ?_
      refine g_iload_n C dR_set_78 rfl ?_
      refine g_callVv C (nargs := 3) (o := 0) (st := []) (m_Rlays1 hci h) rfl (by decide) hci rfl gd_lays1 (by decide +kernel) ⟨rfl, rfl⟩ dR_set_79 ⟨by decide, by decide⟩ rfl rfl (Nat.le_of_ble_eq_true rfl) ?_
      intro M79 hN
      replace h := hN
      clear hN
      refine g_iload C dR_set_82 rfl ?_
      exact hR _ _ _ _ dR_set_84 rfl h
    · replace h := h.2 hc
      refine g_aload_n C dR_set_61 rfl ?_
      refine g_iconst C dR_set_62 ?_
      refine g_callVi C (nargs := 1) (o := 0) (st := []) (m_Rerror hci h) rfl (by decide) hci rfl gd_error (by decide +kernel) ⟨rfl, rfl⟩ dR_set_63 ⟨by decide, by decide⟩ rfl rfl (Nat.le_of_ble_eq_true rfl) ?_
      intro r63c M63 hN
      replace h := hN
      clear hN
      exact hR _ _ _ _ dR_set_66 rfl h
  refine g_locals (lv' := [(0, .ref (ad 0)), (1, iv a1), (2, iv a2), (3, iv a3)]) rfl ?_
  unfold w_Rset at h
  refine g_aload_n C dR_set_0 rfl ?_
  refine g_iload_n C dR_set_1 rfl ?_
  refine g_callVi C (nargs := 1) (o := 0) (st := []) (m_RisThing hci h) rfl (by decide) hci rfl gd_isThing (by decide +kernel) ⟨rfl, rfl⟩ dR_set_2 ⟨by decide, by decide⟩ rfl rfl (Nat.le_of_ble_eq_true rfl) ?_
  intro r2c M2 hN
  replace h := hN
  clear hN
  refine g_if_eq C 22 dR_set_5 (by decide) (fun hc => ?_) (fun hc => ?_)
  · replace h := h.1 hc
    refine g_locals (lv' := [(0, .ref (ad 0))]) rfl ?_
    exact pB22  _ h
  · replace h := h.2 hc
    refine g_iload_n C dR_set_8 rfl ?_
    refine g_iconst C dR_set_9 ?_
    refine g_iconst C dR_set_10 ?_
    refine g_callSi C (nargs := 3) (st := []) (m_Rin hci h) gd_in (by decide +kernel) ⟨rfl, rfl⟩ dR_set_11 ⟨by decide, by decide⟩ rfl rfl (Nat.le_of_ble_eq_true rfl) ?_
    intro r11c M11 hN
    replace h := hN
    clear hN
    refine g_if_eq C 22 dR_set_14 (by decide) (fun hc => ?_) (fun hc => ?_)
    · replace h := h.1 hc
      refine g_locals (lv' := [(0, .ref (ad 0))]) rfl ?_
      exact pB22  _ h
    · replace h := h.2 hc
      refine g_iload_n C dR_set_17 rfl ?_
      refine g_iconst C dR_set_18 ?_
      refine g_icmp_ne C 28 dR_set_19 (by decide) (fun hc => ?_) (fun hc => ?_)
      · replace h := h.1 hc
        refine g_iload_n C dR_set_28 rfl ?_
        refine g_iconst C dR_set_29 ?_
        refine g_iload_n C dR_set_30 rfl ?_
        refine g_if_ne C 39 dR_set_31 (by decide) (fun hc => ?_) (fun hc => ?_)
        · replace h := h.1 hc
          refine g_iload_n C dR_set_39 rfl ?_
          refine g_iconst C dR_set_40 ?_
          refine g_icmp_ne C 49 dR_set_41 (by decide) (fun hc => ?_) (fun hc => ?_)
          · replace h := h.1 hc
            refine g_aload_n C dR_set_49 rfl ?_
            refine g_iload_n C dR_set_50 rfl ?_
            refine g_iconst C dR_set_51 ?_
            refine g_callVi C (nargs := 2) (o := 0) (st := [iv 0, iv a3]) (m_Rits hci h) rfl (by decide) hci rfl gd_its (by decide +kernel) ⟨rfl, rfl⟩ dR_set_52 ⟨by decide, by decide⟩ rfl rfl (Nat.le_of_ble_eq_true rfl) ?_
            intro r52c M52 hN
            replace h := hN
            clear hN
            refine g_locals (lv' := [(0, .ref (ad 0)), (1, iv a1), (2, iv a2), (3, iv a3)]) rfl ?_
            exact pB55 _ _ _ _ h
          · replace h := h.2 hc
            refine g_bipush C dR_set_44 rfl ?_
            refine g_goto C 55 dR_set_46 (by decide) ?_
            refine g_locals (lv' := [(0, .ref (ad 0)), (1, iv a1), (2, iv a2), (3, iv a3)]) rfl ?_
            exact pB55 _ _ _ _ h
        · replace h := h.2 hc
          refine g_bipush C dR_set_34 rfl ?_
          refine g_goto C 55 dR_set_36 (by decide) ?_
          refine g_locals (lv' := [(0, .ref (ad 0)), (1, iv a1), (2, iv a2), (3, iv a3)]) rfl ?_
          exact pB55 _ _ _ _ h
      · replace h := h.2 hc
        refine g_locals (lv' := [(0, .ref (ad 0))]) rfl ?_
        exact pB22  _ h
def wB_Rmoves_88 (a1 : Int) (a2 : Int) (a3 : Int) (k : gSt → Prop) (r29 : Int → Int → Int → gSt → Prop) (X29_97 : Int → Int → gSt → Prop) (v4 : Int) (v6 : Int) (v8 : Int) (s0 : Int) (s1 : Int) (s2 : Int) (M : gSt) : Prop :=
w_Rlays1 s2 s1 s0 M (fun M88 => r29 v4 v6 (v8 + 1) M88)
def wC_Rmoves_29 (a1 : Int) (a2 : Int) (a3 : Int) (k : gSt → Prop) (r29 : Int → Int → Int → gSt → Prop) (X29_97 : Int → Int → gSt → Prop) (v4 : Int) (v6 : Int) (v8 : Int) (M : gSt) : Prop :=

  (10 ≤ wrap v8 →
    X29_97 v4 v6 M) ∧
  (wrap v8 < 10 →
    w_Rits a1 v8 M (fun r42c M42 => w_Rits a2 v8 M42 (fun r53c M53 => ∀ x9_59 : Int, x9_59 = (v4 * (wrap r42c)) + (v6 * (wrap r53c)) → (
    (¬ wrap (ycmp (v4 + v6) 0) = 0 →
      (wrapL (v4 + v6) ≠ 0) ∧ (wB_Rmoves_88 a1 a2 a3 k r29 X29_97 v4 v6 v8 (Int.tdiv (wrapL x9_59) (wrapL (v4 + v6))) v8 a2 M53)) ∧
    (wrap (ycmp (v4 + v6) 0) = 0 →
      wB_Rmoves_88 a1 a2 a3 k r29 X29_97 v4 v6 v8 0 v8 a2 M53)))))
def wL_Rmoves_29 (a1 : Int) (a2 : Int) (a3 : Int) (k : gSt → Prop)  (X29_97 : Int → Int → gSt → Prop) : Nat → Int → Int → Int → gSt → Prop
  | 0 => fun _ _ _ _ => False
  | n + 1 => fun v4 v6 v8 M => wC_Rmoves_29 a1 a2 a3 k  (wL_Rmoves_29 a1 a2 a3 k  X29_97 n) X29_97 v4 v6 v8 M
def wC_Rmoves_134 (a1 : Int) (a2 : Int) (a3 : Int) (k : gSt → Prop) (r134 : Int → Int → Int → gSt → Prop) (X134_204 : Int → gSt → Prop) (v4 : Int) (v8 : Int) (v9 : Int) (M : gSt) : Prop :=

  (5 < wrap v9 →
    X134_204 v4 M) ∧
  (wrap v9 ≤ 5 →
    w_Rits a1 v9 M (fun r144c M144 => ∀ x10_156 : Int, x10_156 = Int.tdiv (wrapL ((wrap r144c) * (wrap a3))) 8 → (w_Rits a1 v9 M144 (fun r166c M166 => w_Rlays1 a1 v9 (r166c - x10_156) M166 (fun M172 => w_Rits a2 v9 M172 (fun r183c M183 => w_Rheld (r183c + x10_156) 0 v8 M183 (fun r192c M192 => w_Rlays1 a2 v9 r192c M192 (fun M195 => r134 v4 v8 (v9 + 1) M195))))))))
def wL_Rmoves_134 (a1 : Int) (a2 : Int) (a3 : Int) (k : gSt → Prop)  (X134_204 : Int → gSt → Prop) : Nat → Int → Int → Int → gSt → Prop
  | 0 => fun _ _ _ _ => False
  | n + 1 => fun v4 v8 v9 M => wC_Rmoves_134 a1 a2 a3 k  (wL_Rmoves_134 a1 a2 a3 k  X134_204 n) X134_204 v4 v8 v9 M
def wB_Rmoves_120 (a1 : Int) (a2 : Int) (a3 : Int) (k : gSt → Prop)  (v4 : Int) (s0 : Int) (M : gSt) : Prop :=
w_Rlays1 a2 2 s0 M (fun M128 => ∃ n, wL_Rmoves_134 a1 a2 a3 k  (fun u4_134 M134 =>
    w_Rits a1 2 M134 (fun r210c M210 => w_Rlays1 a1 2 (r210c - u4_134) M210 (fun M217 => k M217))) n v4 s0 3 M128)
def w_Rmoves (a1 : Int) (a2 : Int) (a3 : Int) (M : gSt) (k : gSt → Prop) : Prop :=
w_Rits a1 2 M (fun r3c M3 => ∀ x4_14 : Int, x4_14 = Int.tdiv (wrapL ((wrap r3c) * (wrap a3))) 8 → (w_Rits a2 2 M3 (fun r19c M19 => ∀ x6_23 : Int, x6_23 = wrap r19c → (∃ n, wL_Rmoves_29 a1 a2 a3 k  (fun u4_29 u6_29 M29 =>

    (wrap (ycmp (u4_29 + u6_29) 9999999) ≤ 0 →
      wB_Rmoves_120 a1 a2 a3 k  u4_29 (u4_29 + u6_29) M29) ∧
    (0 < wrap (ycmp (u4_29 + u6_29) 9999999) →
      wB_Rmoves_120 a1 a2 a3 k  u4_29 9999999 M29)) n x4_14 x6_23 6 M19))))
set_option maxHeartbeats 4000000 in
set_option maxRecDepth 100000 in
theorem m_Rmoves {l : Launch} {D : va_G} {cl : List vw_C} {tys : List (ClassId × FieldType)} {ad : Nat → Nat} {cI : ClassId} {ci : Nat} {Z : (Nat → Prop) → State → Prop} (hci : cl[ci]? = some (RX9, TX9, 23)) {a1 : Int} {a2 : Int} {a3 : Int} {M : gSt} {k : gSt → Prop} (h : w_Rmoves a1 a2 a3 M k) : MOv l yX9_moves cX9_moves 11 (rmR 1 23) D cl ((cI, .int) :: tys) (wR ad cI ci) tR Z [.ref (ad 0), iv a1, iv a2, iv a3] M k := by
  refine mov_intro (by decide +kernel) (Nat.le_of_ble_eq_true rfl) wi_89 ?_
  intro p e s m args below meth c A Q C hR
  have pB88 : ∀ (r29 : Int → Int → Int → gSt → Prop) (X29_97 : Int → Int → gSt → Prop) (hr29 : ∀ (v4 : Int) (v6 : Int) (v8 : Int) (M : gSt), r29 v4 v6 v8 M → gG p l e (rmR 1 23) s m args below meth c Q D cl A (wR ad cI ci) 11 29 [(0, .ref (ad 0)), (1, iv a1), (2, iv a2), (3, iv a3), (4, jv v4), (6, jv v6), (8, iv v8)] [] M) (hX29_97 : ∀ (v4 : Int) (v6 : Int) (M : gSt), X29_97 v4 v6 M → gG p l e (rmR 1 23) s m args below meth c Q D cl A (wR ad cI ci) 11 97 [(0, .ref (ad 0)), (1, iv a1), (2, iv a2), (3, iv a3), (4, jv v4), (6, jv v6)] [] M) (v4 : Int) (v6 : Int) (v8 : Int) (s0 : Int) (s1 : Int) (s2 : Int) (M : gSt), wB_Rmoves_88 a1 a2 a3 k r29 X29_97 v4 v6 v8 s0 s1 s2 M → gG p l e (rmR 1 23) s m args below meth c Q D cl A (wR ad cI ci) 11 88 [(0, .ref (ad 0)), (1, iv a1), (2, iv a2), (3, iv a3), (4, jv v4), (6, jv v6), (8, iv v8)] [iv s0, iv s1, iv s2, .ref (ad 0)] M := by
    intro r29 X29_97 hr29 hX29_97 v4 v6 v8 s0 s1 s2 M h
    unfold wB_Rmoves_88 at h
    refine g_callVv C (nargs := 3) (o := 0) (st := []) (m_Rlays1 hci h) rfl (by decide) hci rfl gd_lays1 (by decide +kernel) ⟨rfl, rfl⟩ dR_moves_88 ⟨by decide, by decide⟩ rfl rfl (Nat.le_of_ble_eq_true rfl) ?_
    intro M88 hN
    replace h := hN
    clear hN
    refine g_iinc C dR_moves_91 rfl (by decide) rfl ?_
    refine g_locals (lv' := [(0, .ref (ad 0)), (1, iv a1), (2, iv a2), (3, iv a3), (4, jv v4), (6, jv v6), (8, iv (v8 + 1))]) rfl ?_
    refine g_goto C 29 dR_moves_94 (by decide) ?_
    refine g_locals (lv' := [(0, .ref (ad 0)), (1, iv a1), (2, iv a2), (3, iv a3), (4, jv v4), (6, jv v6), (8, iv (v8 + 1))]) rfl ?_
    exact hr29 _ _ _  _ h
  have pC29 : ∀ (r29 : Int → Int → Int → gSt → Prop) (X29_97 : Int → Int → gSt → Prop) (hr29 : ∀ (v4 : Int) (v6 : Int) (v8 : Int) (M : gSt), r29 v4 v6 v8 M → gG p l e (rmR 1 23) s m args below meth c Q D cl A (wR ad cI ci) 11 29 [(0, .ref (ad 0)), (1, iv a1), (2, iv a2), (3, iv a3), (4, jv v4), (6, jv v6), (8, iv v8)] [] M) (hX29_97 : ∀ (v4 : Int) (v6 : Int) (M : gSt), X29_97 v4 v6 M → gG p l e (rmR 1 23) s m args below meth c Q D cl A (wR ad cI ci) 11 97 [(0, .ref (ad 0)), (1, iv a1), (2, iv a2), (3, iv a3), (4, jv v4), (6, jv v6)] [] M) (v4 : Int) (v6 : Int) (v8 : Int) (M : gSt), wC_Rmoves_29 a1 a2 a3 k r29 X29_97 v4 v6 v8 M → gG p l e (rmR 1 23) s m args below meth c Q D cl A (wR ad cI ci) 11 29 [(0, .ref (ad 0)), (1, iv a1), (2, iv a2), (3, iv a3), (4, jv v4), (6, jv v6), (8, iv v8)] [] M := by
    intro r29 X29_97 hr29 hX29_97 v4 v6 v8 M h
    unfold wC_Rmoves_29 at h
    refine g_iload C dR_moves_29 rfl ?_
    refine g_bipush C dR_moves_31 rfl ?_
    refine g_icmp_ge C 97 dR_moves_33 (by decide) (fun hc => ?_) (fun hc => ?_)
    · replace h := h.1 hc
      refine g_locals (lv' := [(0, .ref (ad 0)), (1, iv a1), (2, iv a2), (3, iv a3), (4, jv v4), (6, jv v6)]) rfl ?_
      exact hX29_97 _ _  _ h
    · replace h := h.2 hc
      refine g_lload C dR_moves_36 rfl ?_
      refine g_aload_n C dR_moves_38 rfl ?_
      refine g_iload_n C dR_moves_39 rfl ?_
      refine g_iload C dR_moves_40 rfl ?_
      refine g_callVi C (nargs := 2) (o := 0) (st := [jv v4]) (m_Rits hci h) rfl (by decide) hci rfl gd_its (by decide +kernel) ⟨rfl, rfl⟩ dR_moves_42 ⟨by decide, by decide⟩ rfl rfl (Nat.le_of_ble_eq_true rfl) ?_
      intro r42c M42 hN
      replace h := hN
      clear hN
      refine g_i2l C dR_moves_45 ?_
      refine g_lmul C dR_moves_46 ?_
      refine g_lload C dR_moves_47 rfl ?_
      refine g_aload_n C dR_moves_49 rfl ?_
      refine g_iload_n C dR_moves_50 rfl ?_
      refine g_iload C dR_moves_51 rfl ?_
      refine g_callVi C (nargs := 2) (o := 0) (st := [jv v6, jv (v4 * (wrap r42c))]) (m_Rits hci h) rfl (by decide) hci rfl gd_its (by decide +kernel) ⟨rfl, rfl⟩ dR_moves_53 ⟨by decide, by decide⟩ rfl rfl (Nat.le_of_ble_eq_true rfl) ?_
      intro r53c M53 hN
      replace h := hN
      clear hN
      refine g_i2l C dR_moves_56 ?_
      refine g_lmul C dR_moves_57 ?_
      refine g_ladd C dR_moves_58 ?_
      refine g_nameL (fun x9_59 hx9_59 => ?_)
      replace h := h x9_59 hx9_59
      refine g_lstore C dR_moves_59 (by decide) rfl ?_
      refine g_locals (lv' := [(0, .ref (ad 0)), (1, iv a1), (2, iv a2), (3, iv a3), (4, jv v4), (6, jv v6), (8, iv v8), (9, jv x9_59)]) rfl ?_
      refine g_aload_n C dR_moves_61 rfl ?_
      refine g_iload_n C dR_moves_62 rfl ?_
      refine g_iload C dR_moves_63 rfl ?_
      refine g_lload C dR_moves_65 rfl ?_
      refine g_lload C dR_moves_67 rfl ?_
      refine g_ladd C dR_moves_69 ?_
      refine g_lconst C 0 rfl dR_moves_70 ?_
      refine g_lcmp C dR_moves_71 ?_
      refine g_if_ne C 79 dR_moves_72 (by decide) (fun hc => ?_) (fun hc => ?_)
      · replace h := h.1 hc
        refine g_lload C dR_moves_79 rfl ?_
        refine g_lload C dR_moves_81 rfl ?_
        refine g_lload C dR_moves_83 rfl ?_
        refine g_ladd C dR_moves_85 ?_
        refine g_ldiv C dR_moves_86 h.1 ?_
        replace h := h.2
        refine g_topL (y := Int.tdiv (wrapL x9_59) (wrapL (v4 + v6))) rfl ?_
        refine g_l2i C dR_moves_87 ?_
        refine g_locals (lv' := [(0, .ref (ad 0)), (1, iv a1), (2, iv a2), (3, iv a3), (4, jv v4), (6, jv v6), (8, iv v8)]) rfl ?_
        exact pB88 r29 X29_97 hr29 hX29_97 _ _ _ _ _ _ _ h
      · replace h := h.2 hc
        refine g_iconst C dR_moves_75 ?_
        refine g_goto C 88 dR_moves_76 (by decide) ?_
        refine g_locals (lv' := [(0, .ref (ad 0)), (1, iv a1), (2, iv a2), (3, iv a3), (4, jv v4), (6, jv v6), (8, iv v8)]) rfl ?_
        exact pB88 r29 X29_97 hr29 hX29_97 _ _ _ _ _ _ _ h
  have pL29 : ∀  (X29_97 : Int → Int → gSt → Prop) (hX29_97 : ∀ (v4 : Int) (v6 : Int) (M : gSt), X29_97 v4 v6 M → gG p l e (rmR 1 23) s m args below meth c Q D cl A (wR ad cI ci) 11 97 [(0, .ref (ad 0)), (1, iv a1), (2, iv a2), (3, iv a3), (4, jv v4), (6, jv v6)] [] M) (n : Nat) (v4 : Int) (v6 : Int) (v8 : Int) (M : gSt), wL_Rmoves_29 a1 a2 a3 k  X29_97 n v4 v6 v8 M → gG p l e (rmR 1 23) s m args below meth c Q D cl A (wR ad cI ci) 11 29 [(0, .ref (ad 0)), (1, iv a1), (2, iv a2), (3, iv a3), (4, jv v4), (6, jv v6), (8, iv v8)] [] M := by
    intro  X29_97 hX29_97 n
    induction n with
    | zero => intro v4 v6 v8 M h; exact h.elim
    | succ n ih =>
      intro v4 v6 v8 M h
      exact pC29  (wL_Rmoves_29 a1 a2 a3 k  X29_97 n) X29_97 ih hX29_97 v4 v6 v8 M h
  have pC134 : ∀ (r134 : Int → Int → Int → gSt → Prop) (X134_204 : Int → gSt → Prop) (hr134 : ∀ (v4 : Int) (v8 : Int) (v9 : Int) (M : gSt), r134 v4 v8 v9 M → gG p l e (rmR 1 23) s m args below meth c Q D cl A (wR ad cI ci) 11 134 [(0, .ref (ad 0)), (1, iv a1), (2, iv a2), (3, iv a3), (4, jv v4), (8, iv v8), (9, iv v9)] [] M) (hX134_204 : ∀ (v4 : Int) (M : gSt), X134_204 v4 M → gG p l e (rmR 1 23) s m args below meth c Q D cl A (wR ad cI ci) 11 204 [(0, .ref (ad 0)), (1, iv a1), (4, jv v4)] [] M) (v4 : Int) (v8 : Int) (v9 : Int) (M : gSt), wC_Rmoves_134 a1 a2 a3 k r134 X134_204 v4 v8 v9 M → gG p l e (rmR 1 23) s m args below meth c Q D cl A (wR ad cI ci) 11 134 [(0, .ref (ad 0)), (1, iv a1), (2, iv a2), (3, iv a3), (4, jv v4), (8, iv v8), (9, iv v9)] [] M := by
    intro r134 X134_204 hr134 hX134_204 v4 v8 v9 M h
    unfold wC_Rmoves_134 at h
    refine g_iload C dR_moves_134 rfl ?_
    refine g_iconst C dR_moves_136 ?_
    refine g_icmp_gt C 204 dR_moves_137 (by decide) (fun hc => ?_) (fun hc => ?_)
    · replace h := h.1 hc
      refine g_locals (lv' := [(0, .ref (ad 0)), (1, iv a1), (4, jv v4)]) rfl ?_
      exact hX134_204 _  _ h
    · replace h := h.2 hc
      refine g_aload_n C dR_moves_140 rfl ?_
      refine g_iload_n C dR_moves_141 rfl ?_
      refine g_iload C dR_moves_142 rfl ?_
      refine g_callVi C (nargs := 2) (o := 0) (st := []) (m_Rits hci h) rfl (by decide) hci rfl gd_its (by decide +kernel) ⟨rfl, rfl⟩ dR_moves_144 ⟨by decide, by decide⟩ rfl rfl (Nat.le_of_ble_eq_true rfl) ?_
      intro r144c M144 hN
      replace h := hN
      clear hN
      refine g_i2l C dR_moves_147 ?_
      refine g_iload_n C dR_moves_148 rfl ?_
      refine g_i2l C dR_moves_149 ?_
      refine g_lmul C dR_moves_150 ?_
      refine g_ldc2 C 8 wi_87 rfl dR_moves_151 ?_
      refine g_ldiv C dR_moves_154 (by decide) ?_
      refine g_topL (y := Int.tdiv (wrapL ((wrap r144c) * (wrap a3))) 8) rfl ?_
      refine g_l2i C dR_moves_155 ?_
      refine g_name (fun x10_156 hx10_156 => ?_)
      replace h := h x10_156 hx10_156
      refine g_istore C dR_moves_156 (by decide) rfl ?_
      refine g_locals (lv' := [(0, .ref (ad 0)), (1, iv a1), (2, iv a2), (3, iv a3), (4, jv v4), (8, iv v8), (9, iv v9), (10, iv x10_156)]) rfl ?_
      refine g_aload_n C dR_moves_158 rfl ?_
      refine g_iload_n C dR_moves_159 rfl ?_
      refine g_iload C dR_moves_160 rfl ?_
      refine g_aload_n C dR_moves_162 rfl ?_
      refine g_iload_n C dR_moves_163 rfl ?_
      refine g_iload C dR_moves_164 rfl ?_
      refine g_callVi C (nargs := 2) (o := 0) (st := [iv v9, iv a1, .ref (ad 0)]) (m_Rits hci h) rfl (by decide) hci rfl gd_its (by decide +kernel) ⟨rfl, rfl⟩ dR_moves_166 ⟨by decide, by decide⟩ rfl rfl (Nat.le_of_ble_eq_true rfl) ?_
      intro r166c M166 hN
      replace h := hN
      clear hN
      refine g_iload C dR_moves_169 rfl ?_
      refine g_isub C dR_moves_171 ?_
      refine g_callVv C (nargs := 3) (o := 0) (st := []) (m_Rlays1 hci h) rfl (by decide) hci rfl gd_lays1 (by decide +kernel) ⟨rfl, rfl⟩ dR_moves_172 ⟨by decide, by decide⟩ rfl rfl (Nat.le_of_ble_eq_true rfl) ?_
      intro M172 hN
      replace h := hN
      clear hN
      refine g_aload_n C dR_moves_175 rfl ?_
      refine g_iload_n C dR_moves_176 rfl ?_
      refine g_iload C dR_moves_177 rfl ?_
      refine g_aload_n C dR_moves_179 rfl ?_
      refine g_iload_n C dR_moves_180 rfl ?_
      refine g_iload C dR_moves_181 rfl ?_
      refine g_callVi C (nargs := 2) (o := 0) (st := [iv v9, iv a2, .ref (ad 0)]) (m_Rits hci h) rfl (by decide) hci rfl gd_its (by decide +kernel) ⟨rfl, rfl⟩ dR_moves_183 ⟨by decide, by decide⟩ rfl rfl (Nat.le_of_ble_eq_true rfl) ?_
      intro r183c M183 hN
      replace h := hN
      clear hN
      refine g_iload C dR_moves_186 rfl ?_
      refine g_iadd C dR_moves_188 ?_
      refine g_iconst C dR_moves_189 ?_
      refine g_iload C dR_moves_190 rfl ?_
      refine g_callSi C (nargs := 3) (st := [iv v9, iv a2, .ref (ad 0)]) (m_Rheld hci h) gd_held (by decide +kernel) ⟨rfl, rfl⟩ dR_moves_192 ⟨by decide, by decide⟩ rfl rfl (Nat.le_of_ble_eq_true rfl) ?_
      intro r192c M192 hN
      replace h := hN
      clear hN
      refine g_callVv C (nargs := 3) (o := 0) (st := []) (m_Rlays1 hci h) rfl (by decide) hci rfl gd_lays1 (by decide +kernel) ⟨rfl, rfl⟩ dR_moves_195 ⟨by decide, by decide⟩ rfl rfl (Nat.le_of_ble_eq_true rfl) ?_
      intro M195 hN
      replace h := hN
      clear hN
      refine g_iinc C dR_moves_198 rfl (by decide) rfl ?_
      refine g_locals (lv' := [(0, .ref (ad 0)), (1, iv a1), (2, iv a2), (3, iv a3), (4, jv v4), (8, iv v8), (9, iv (v9 + 1)), (10, iv x10_156)]) rfl ?_
      refine g_goto C 134 dR_moves_201 (by decide) ?_
      refine g_locals (lv' := [(0, .ref (ad 0)), (1, iv a1), (2, iv a2), (3, iv a3), (4, jv v4), (8, iv v8), (9, iv (v9 + 1))]) rfl ?_
      exact hr134 _ _ _  _ h
  have pL134 : ∀  (X134_204 : Int → gSt → Prop) (hX134_204 : ∀ (v4 : Int) (M : gSt), X134_204 v4 M → gG p l e (rmR 1 23) s m args below meth c Q D cl A (wR ad cI ci) 11 204 [(0, .ref (ad 0)), (1, iv a1), (4, jv v4)] [] M) (n : Nat) (v4 : Int) (v8 : Int) (v9 : Int) (M : gSt), wL_Rmoves_134 a1 a2 a3 k  X134_204 n v4 v8 v9 M → gG p l e (rmR 1 23) s m args below meth c Q D cl A (wR ad cI ci) 11 134 [(0, .ref (ad 0)), (1, iv a1), (2, iv a2), (3, iv a3), (4, jv v4), (8, iv v8), (9, iv v9)] [] M := by
    intro  X134_204 hX134_204 n
    induction n with
    | zero => intro v4 v8 v9 M h; exact h.elim
    | succ n ih =>
      intro v4 v8 v9 M h
      exact pC134  (wL_Rmoves_134 a1 a2 a3 k  X134_204 n) X134_204 ih hX134_204 v4 v8 v9 M h
  have pB120 : ∀   (v4 : Int) (s0 : Int) (M : gSt), wB_Rmoves_120 a1 a2 a3 k  v4 s0 M → gG p l e (rmR 1 23) s m args below meth c Q D cl A (wR ad cI ci) 11 120 [(0, .ref (ad 0)), (1, iv a1), (2, iv a2), (3, iv a3), (4, jv v4)] [jv s0] M := by
    intro   v4 s0 M h
    unfold wB_Rmoves_120 at h
    refine g_l2i C dR_moves_120 ?_
    refine g_istore C dR_moves_121 (by decide) rfl ?_
    refine g_locals (lv' := [(0, .ref (ad 0)), (1, iv a1), (2, iv a2), (3, iv a3), (4, jv v4), (8, iv s0)]) rfl ?_
    refine g_aload_n C dR_moves_123 rfl ?_
    refine g_iload_n C dR_moves_124 rfl ?_
    refine g_iconst C dR_moves_125 ?_
    refine g_iload C dR_moves_126 rfl ?_
    refine g_callVv C (nargs := 3) (o := 0) (st := []) (m_Rlays1 hci h) rfl (by decide) hci rfl gd_lays1 (by decide +kernel) ⟨rfl, rfl⟩ dR_moves_128 ⟨by decide, by decide⟩ rfl rfl (Nat.le_of_ble_eq_true rfl) ?_
    intro M128 hN
    replace h := hN
    clear hN
    refine g_iconst C dR_moves_131 ?_
    refine g_istore C dR_moves_132 (by decide) rfl ?_
    refine g_locals (lv' := [(0, .ref (ad 0)), (1, iv a1), (2, iv a2), (3, iv a3), (4, jv v4), (8, iv s0), (9, iv 3)]) rfl ?_
    refine g_locals (lv' := [(0, .ref (ad 0)), (1, iv a1), (2, iv a2), (3, iv a3), (4, jv v4), (8, iv s0), (9, iv 3)]) rfl ?_
    obtain ⟨n, h⟩ := h
    refine pL134 _ ?_ n _ _ _ _ h
    · intro u4_134 M134 hN
      replace h := hN
      clear hN
      refine g_aload_n C dR_moves_204 rfl ?_
      refine g_iload_n C dR_moves_205 rfl ?_
      refine g_iconst C dR_moves_206 ?_
      refine g_aload_n C dR_moves_207 rfl ?_
      refine g_iload_n C dR_moves_208 rfl ?_
      refine g_iconst C dR_moves_209 ?_
      refine g_callVi C (nargs := 2) (o := 0) (st := [iv 2, iv a1, .ref (ad 0)]) (m_Rits hci h) rfl (by decide) hci rfl gd_its (by decide +kernel) ⟨rfl, rfl⟩ dR_moves_210 ⟨by decide, by decide⟩ rfl rfl (Nat.le_of_ble_eq_true rfl) ?_
      intro r210c M210 hN
      replace h := hN
      clear hN
      refine g_lload C dR_moves_213 rfl ?_
      refine g_l2i C dR_moves_215 ?_
      refine g_isub C dR_moves_216 ?_
      refine g_callVv C (nargs := 3) (o := 0) (st := []) (m_Rlays1 hci h) rfl (by decide) hci rfl gd_lays1 (by decide +kernel) ⟨rfl, rfl⟩ dR_moves_217 ⟨by decide, by decide⟩ rfl rfl (Nat.le_of_ble_eq_true rfl) ?_
      intro M217 hN
      replace h := hN
      clear hN
      exact hR _ _ _ dR_moves_220 h
  refine g_locals (lv' := [(0, .ref (ad 0)), (1, iv a1), (2, iv a2), (3, iv a3)]) rfl ?_
  unfold w_Rmoves at h
  refine g_aload_n C dR_moves_0 rfl ?_
  refine g_iload_n C dR_moves_1 rfl ?_
  refine g_iconst C dR_moves_2 ?_
  refine g_callVi C (nargs := 2) (o := 0) (st := []) (m_Rits hci h) rfl (by decide) hci rfl gd_its (by decide +kernel) ⟨rfl, rfl⟩ dR_moves_3 ⟨by decide, by decide⟩ rfl rfl (Nat.le_of_ble_eq_true rfl) ?_
  intro r3c M3 hN
  replace h := hN
  clear hN
  refine g_i2l C dR_moves_6 ?_
  refine g_iload_n C dR_moves_7 rfl ?_
  refine g_i2l C dR_moves_8 ?_
  refine g_lmul C dR_moves_9 ?_
  refine g_ldc2 C 8 wi_87 rfl dR_moves_10 ?_
  refine g_ldiv C dR_moves_13 (by decide) ?_
  refine g_topL (y := Int.tdiv (wrapL ((wrap r3c) * (wrap a3))) 8) rfl ?_
  refine g_nameL (fun x4_14 hx4_14 => ?_)
  replace h := h x4_14 hx4_14
  refine g_lstore C dR_moves_14 (by decide) rfl ?_
  refine g_locals (lv' := [(0, .ref (ad 0)), (1, iv a1), (2, iv a2), (3, iv a3), (4, jv x4_14)]) rfl ?_
  refine g_aload_n C dR_moves_16 rfl ?_
  refine g_iload_n C dR_moves_17 rfl ?_
  refine g_iconst C dR_moves_18 ?_
  refine g_callVi C (nargs := 2) (o := 0) (st := []) (m_Rits hci h) rfl (by decide) hci rfl gd_its (by decide +kernel) ⟨rfl, rfl⟩ dR_moves_19 ⟨by decide, by decide⟩ rfl rfl (Nat.le_of_ble_eq_true rfl) ?_
  intro r19c M19 hN
  replace h := hN
  clear hN
  refine g_i2l C dR_moves_22 ?_
  refine g_nameL (fun x6_23 hx6_23 => ?_)
  replace h := h x6_23 hx6_23
  refine g_lstore C dR_moves_23 (by decide) rfl ?_
  refine g_locals (lv' := [(0, .ref (ad 0)), (1, iv a1), (2, iv a2), (3, iv a3), (4, jv x4_14), (6, jv x6_23)]) rfl ?_
  refine g_bipush C dR_moves_25 rfl ?_
  refine g_istore C dR_moves_27 (by decide) rfl ?_
  refine g_locals (lv' := [(0, .ref (ad 0)), (1, iv a1), (2, iv a2), (3, iv a3), (4, jv x4_14), (6, jv x6_23), (8, iv 6)]) rfl ?_
  refine g_locals (lv' := [(0, .ref (ad 0)), (1, iv a1), (2, iv a2), (3, iv a3), (4, jv x4_14), (6, jv x6_23), (8, iv 6)]) rfl ?_
  obtain ⟨n, h⟩ := h
  refine pL29 _ ?_ n _ _ _ _ h
  · intro u4_29 u6_29 M29 hN
    replace h := hN
    clear hN
    refine g_lload C dR_moves_97 rfl ?_
    refine g_lload C dR_moves_99 rfl ?_
    refine g_ladd C dR_moves_101 ?_
    refine g_ldc2 C 9999999 wi_88 rfl dR_moves_102 ?_
    refine g_lcmp C dR_moves_105 ?_
    refine g_if_le C 115 dR_moves_106 (by decide) (fun hc => ?_) (fun hc => ?_)
    · replace h := h.1 hc
      refine g_lload C dR_moves_115 rfl ?_
      refine g_lload C dR_moves_117 rfl ?_
      refine g_ladd C dR_moves_119 ?_
      refine g_locals (lv' := [(0, .ref (ad 0)), (1, iv a1), (2, iv a2), (3, iv a3), (4, jv u4_29)]) rfl ?_
      exact pB120 _ _ _ h
    · replace h := h.2 hc
      refine g_ldc2 C 9999999 wi_88 rfl dR_moves_109 ?_
      refine g_goto C 120 dR_moves_112 (by decide) ?_
      refine g_locals (lv' := [(0, .ref (ad 0)), (1, iv a1), (2, iv a2), (3, iv a3), (4, jv u4_29)]) rfl ?_
      exact pB120 _ _ _ h
end
section
def wB_Rmelt_18 (a1 : Int) (a2 : Int) (k : Int → gSt → Prop)   (M : gSt) : Prop :=
w_Rerror 1 M (fun r20c M20 => k r20c M20)
def w_Rmelt (a1 : Int) (a2 : Int) (M : gSt) (k : Int → gSt → Prop) : Prop :=
w_RisThing a1 M (fun r2c M2 => 
  (wrap r2c = 0 →
    wB_Rmelt_18 a1 a2 k   M2) ∧
  (¬ wrap r2c = 0 →
    w_Rin a2 1 8 M2 (fun r12c M12 => 
    (¬ wrap r12c = 0 →
      w_Rits a1 2 M12 (fun r27c M27 => 
      (¬ wrap r27c = 0 →
        w_Rmoves a1 12 a2 M27 (fun M44 => w_Rits 12 2 M44 (fun r51c M51 => k r51c M51))) ∧
      (wrap r27c = 0 →
        w_Rerror 3 M27 (fun r35c M35 => k r35c M35)))) ∧
    (wrap r12c = 0 →
      wB_Rmelt_18 a1 a2 k   M12))))
set_option maxHeartbeats 4000000 in
set_option maxRecDepth 100000 in
theorem m_Rmelt {l : Launch} {D : va_G} {cl : List vw_C} {tys : List (ClassId × FieldType)} {ad : Nat → Nat} {cI : ClassId} {ci : Nat} {Z : (Nat → Prop) → State → Prop} (hci : cl[ci]? = some (RX9, TX9, 23)) {a1 : Int} {a2 : Int} {M : gSt} {k : Int → gSt → Prop} (h : w_Rmelt a1 a2 M k) : MOi l yX9_melt cX9_melt 3 .int (rmR 2 53) D cl ((cI, .int) :: tys) (wR ad cI ci) tR Z [.ref (ad 0), iv a1, iv a2] M k := by
  refine moi_intro (by decide +kernel) (Nat.le_of_ble_eq_true rfl) wi_93 ?_
  intro p e s m args below meth c A Q C hR
  have pB18 : ∀    (M : gSt), wB_Rmelt_18 a1 a2 k   M → gG p l e (rmR 2 53) s m args below meth c Q D cl A (wR ad cI ci) 3 18 [(0, .ref (ad 0))] [] M := by
    intro    M h
    unfold wB_Rmelt_18 at h
    refine g_aload_n C dR_melt_18 rfl ?_
    refine g_iconst C dR_melt_19 ?_
    refine g_callVi C (nargs := 1) (o := 0) (st := []) (m_Rerror hci h) rfl (by decide) hci rfl gd_error (by decide +kernel) ⟨rfl, rfl⟩ dR_melt_20 ⟨by decide, by decide⟩ rfl rfl (Nat.le_of_ble_eq_true rfl) ?_
    intro r20c M20 hN
    replace h := hN
    clear hN
    exact hR _ _ _ _ dR_melt_23 rfl h
  refine g_locals (lv' := [(0, .ref (ad 0)), (1, iv a1), (2, iv a2)]) rfl ?_
  unfold w_Rmelt at h
  refine g_aload_n C dR_melt_0 rfl ?_
  refine g_iload_n C dR_melt_1 rfl ?_
  refine g_callVi C (nargs := 1) (o := 0) (st := []) (m_RisThing hci h) rfl (by decide) hci rfl gd_isThing (by decide +kernel) ⟨rfl, rfl⟩ dR_melt_2 ⟨by decide, by decide⟩ rfl rfl (Nat.le_of_ble_eq_true rfl) ?_
  intro r2c M2 hN
  replace h := hN
  clear hN
  refine g_if_eq C 18 dR_melt_5 (by decide) (fun hc => ?_) (fun hc => ?_)
  · replace h := h.1 hc
    refine g_locals (lv' := [(0, .ref (ad 0))]) rfl ?_
    exact pB18  _ h
  · replace h := h.2 hc
    refine g_iload_n C dR_melt_8 rfl ?_
    refine g_iconst C dR_melt_9 ?_
    refine g_bipush C dR_melt_10 rfl ?_
    refine g_callSi C (nargs := 3) (st := []) (m_Rin hci h) gd_in (by decide +kernel) ⟨rfl, rfl⟩ dR_melt_12 ⟨by decide, by decide⟩ rfl rfl (Nat.le_of_ble_eq_true rfl) ?_
    intro r12c M12 hN
    replace h := hN
    clear hN
    refine g_if_ne C 24 dR_melt_15 (by decide) (fun hc => ?_) (fun hc => ?_)
    · replace h := h.1 hc
      refine g_aload_n C dR_melt_24 rfl ?_
      refine g_iload_n C dR_melt_25 rfl ?_
      refine g_iconst C dR_melt_26 ?_
      refine g_callVi C (nargs := 2) (o := 0) (st := []) (m_Rits hci h) rfl (by decide) hci rfl gd_its (by decide +kernel) ⟨rfl, rfl⟩ dR_melt_27 ⟨by decide, by decide⟩ rfl rfl (Nat.le_of_ble_eq_true rfl) ?_
      intro r27c M27 hN
      replace h := hN
      clear hN
      refine g_if_ne C 39 dR_melt_30 (by decide) (fun hc => ?_) (fun hc => ?_)
      · replace h := h.1 hc
        refine g_aload_n C dR_melt_39 rfl ?_
        refine g_iload_n C dR_melt_40 rfl ?_
        refine g_bipush C dR_melt_41 rfl ?_
        refine g_iload_n C dR_melt_43 rfl ?_
        refine g_callVv C (nargs := 3) (o := 0) (st := []) (m_Rmoves hci h) rfl (by decide) hci rfl gd_moves (by decide +kernel) ⟨rfl, rfl⟩ dR_melt_44 ⟨by decide, by decide⟩ rfl rfl (Nat.le_of_ble_eq_true rfl) ?_
        intro M44 hN
        replace h := hN
        clear hN
        refine g_aload_n C dR_melt_47 rfl ?_
        refine g_bipush C dR_melt_48 rfl ?_
        refine g_iconst C dR_melt_50 ?_
        refine g_callVi C (nargs := 2) (o := 0) (st := []) (m_Rits hci h) rfl (by decide) hci rfl gd_its (by decide +kernel) ⟨rfl, rfl⟩ dR_melt_51 ⟨by decide, by decide⟩ rfl rfl (Nat.le_of_ble_eq_true rfl) ?_
        intro r51c M51 hN
        replace h := hN
        clear hN
        exact hR _ _ _ _ dR_melt_54 rfl h
      · replace h := h.2 hc
        refine g_aload_n C dR_melt_33 rfl ?_
        refine g_iconst C dR_melt_34 ?_
        refine g_callVi C (nargs := 1) (o := 0) (st := []) (m_Rerror hci h) rfl (by decide) hci rfl gd_error (by decide +kernel) ⟨rfl, rfl⟩ dR_melt_35 ⟨by decide, by decide⟩ rfl rfl (Nat.le_of_ble_eq_true rfl) ?_
        intro r35c M35 hN
        replace h := hN
        clear hN
        exact hR _ _ _ _ dR_melt_38 rfl h
    · replace h := h.2 hc
      refine g_locals (lv' := [(0, .ref (ad 0))]) rfl ?_
      exact pB18  _ h
def w_Rcrucible (a1 : Int) (M : gSt) (k : Int → gSt → Prop) : Prop :=
w_Rin a1 2 9 M (fun r4c M4 => 
  (wrap r4c = 0 →
    w_Rerror 1 M4 (fun r22c M22 => k r22c M22)) ∧
  (¬ wrap r4c = 0 →
    w_Rits 12 a1 M4 (fun r14c M14 => k r14c M14)))
set_option maxHeartbeats 4000000 in
set_option maxRecDepth 100000 in
theorem m_Rcrucible {l : Launch} {D : va_G} {cl : List vw_C} {tys : List (ClassId × FieldType)} {ad : Nat → Nat} {cI : ClassId} {ci : Nat} {Z : (Nat → Prop) → State → Prop} (hci : cl[ci]? = some (RX9, TX9, 23)) {a1 : Int} {M : gSt} {k : Int → gSt → Prop} (h : w_Rcrucible a1 M k) : MOi l yX9_crucible cX9_crucible 2 .int (rmR 1 22) D cl ((cI, .int) :: tys) (wR ad cI ci) tR Z [.ref (ad 0), iv a1] M k := by
  refine moi_intro (by decide +kernel) (Nat.le_of_ble_eq_true rfl) wi_94 ?_
  intro p e s m args below meth c A Q C hR
  refine g_locals (lv' := [(0, .ref (ad 0)), (1, iv a1)]) rfl ?_
  unfold w_Rcrucible at h
  refine g_iload_n C dR_crucible_0 rfl ?_
  refine g_iconst C dR_crucible_1 ?_
  refine g_bipush C dR_crucible_2 rfl ?_
  refine g_callSi C (nargs := 3) (st := []) (m_Rin hci h) gd_in (by decide +kernel) ⟨rfl, rfl⟩ dR_crucible_4 ⟨by decide, by decide⟩ rfl rfl (Nat.le_of_ble_eq_true rfl) ?_
  intro r4c M4 hN
  replace h := hN
  clear hN
  refine g_if_eq C 20 dR_crucible_7 (by decide) (fun hc => ?_) (fun hc => ?_)
  · replace h := h.1 hc
    refine g_aload_n C dR_crucible_20 rfl ?_
    refine g_iconst C dR_crucible_21 ?_
    refine g_callVi C (nargs := 1) (o := 0) (st := []) (m_Rerror hci h) rfl (by decide) hci rfl gd_error (by decide +kernel) ⟨rfl, rfl⟩ dR_crucible_22 ⟨by decide, by decide⟩ rfl rfl (Nat.le_of_ble_eq_true rfl) ?_
    intro r22c M22 hN
    replace h := hN
    clear hN
    exact hR _ _ _ _ dR_crucible_25 rfl h
  · replace h := h.2 hc
    refine g_aload_n C dR_crucible_10 rfl ?_
    refine g_bipush C dR_crucible_11 rfl ?_
    refine g_iload_n C dR_crucible_13 rfl ?_
    refine g_callVi C (nargs := 2) (o := 0) (st := []) (m_Rits hci h) rfl (by decide) hci rfl gd_its (by decide +kernel) ⟨rfl, rfl⟩ dR_crucible_14 ⟨by decide, by decide⟩ rfl rfl (Nat.le_of_ble_eq_true rfl) ?_
    intro r14c M14 hN
    replace h := hN
    clear hN
    refine g_goto C 25 dR_crucible_17 (by decide) ?_
    exact hR _ _ _ _ dR_crucible_25 rfl h
def wC_Rcast_168 (a1 : Int) (a2 : Int) (a3 : Int) (k : Int → gSt → Prop) (r168 : Int → Int → Int → Int → Int → gSt → Prop) (X168_204 : Int → Int → gSt → Prop) (v5 : Int) (v6 : Int) (v7 : Int) (v8 : Int) (v9 : Int) (M : gSt) : Prop :=

  (10 ≤ wrap v9 →
    X168_204 v5 v6 M) ∧
  (wrap v9 < 10 →
    w_Rits 12 v9 M (fun r185c M185 => w_RpartOf r185c v7 v8 M185 (fun r192c M192 => w_Rlays1 12 v9 r192c M192 (fun M195 => r168 v5 v6 v7 v8 (v9 + 1) M195))))
def wL_Rcast_168 (a1 : Int) (a2 : Int) (a3 : Int) (k : Int → gSt → Prop)  (X168_204 : Int → Int → gSt → Prop) : Nat → Int → Int → Int → Int → Int → gSt → Prop
  | 0 => fun _ _ _ _ _ _ => False
  | n + 1 => fun v5 v6 v7 v8 v9 M => wC_Rcast_168 a1 a2 a3 k  (wL_Rcast_168 a1 a2 a3 k  X168_204 n) X168_204 v5 v6 v7 v8 v9 M
def wB_Rcast_347 (a1 : Int) (a2 : Int) (a3 : Int) (k : Int → gSt → Prop) (r232 : Int → Int → Int → Int → Int → gSt → Prop) (X232_362 : Int → gSt → Prop) (v5 : Int) (v6 : Int) (v9 : Int) (v10 : Int) (v11 : Int) (M : gSt) : Prop :=
w_Rlays1 12 v11 0 M (fun M353 => r232 v5 v6 v9 v10 (v11 + 1) M353)
def wB_Rcast_328 (a1 : Int) (a2 : Int) (a3 : Int) (k : Int → gSt → Prop) (r232 : Int → Int → Int → Int → Int → gSt → Prop) (X232_362 : Int → gSt → Prop) (v5 : Int) (v6 : Int) (v9 : Int) (v10 : Int) (v11 : Int) (v15 : Int) (s0 : Int) (s1 : Int) (s2 : Int) (M : gSt) : Prop :=
w_Rlays1 s2 s1 s0 M (fun M328 => 
  (wrap v10 = (-1) →
    wB_Rcast_347 a1 a2 a3 k r232 X232_362 v5 v6 v9 v10 v11 M328) ∧
  (¬ wrap v10 = (-1) →
    w_Rlays1 v10 v11 v15 M328 (fun M344 => wB_Rcast_347 a1 a2 a3 k r232 X232_362 v5 v6 v9 v10 v11 M344)))
def wB_Rcast_306 (a1 : Int) (a2 : Int) (a3 : Int) (k : Int → gSt → Prop) (r232 : Int → Int → Int → Int → Int → gSt → Prop) (X232_362 : Int → gSt → Prop) (v5 : Int) (v6 : Int) (v9 : Int) (v10 : Int) (v11 : Int) (v12 : Int) (v13 : Int) (v14 : Int) (s0 : Int) (M : gSt) : Prop :=

  (wrap v13 = 0 →
    wB_Rcast_328 a1 a2 a3 k r232 X232_362 v5 v6 v9 v10 v11 s0 (v14 - s0) v11 v9 M) ∧
  (¬ wrap v13 = 0 →
    wB_Rcast_328 a1 a2 a3 k r232 X232_362 v5 v6 v9 v10 v11 s0 v12 v11 v9 M)
def wB_Rcast_285 (a1 : Int) (a2 : Int) (a3 : Int) (k : Int → gSt → Prop) (r232 : Int → Int → Int → Int → Int → gSt → Prop) (X232_362 : Int → gSt → Prop) (v5 : Int) (v6 : Int) (v9 : Int) (v10 : Int) (v11 : Int) (v12 : Int) (v13 : Int) (s0 : Int) (M : gSt) : Prop :=

  (wrap v13 = 0 →
    w_RpartOf s0 v6 10 M (fun r303c M303 => wB_Rcast_306 a1 a2 a3 k r232 X232_362 v5 v6 v9 v10 v11 v12 v13 s0 r303c M303)) ∧
  (¬ wrap v13 = 0 →
    wB_Rcast_306 a1 a2 a3 k r232 X232_362 v5 v6 v9 v10 v11 v12 v13 s0 v12 M)
def wB_Rcast_261 (a1 : Int) (a2 : Int) (a3 : Int) (k : Int → gSt → Prop) (r232 : Int → Int → Int → Int → Int → gSt → Prop) (X232_362 : Int → gSt → Prop) (v5 : Int) (v6 : Int) (v9 : Int) (v10 : Int) (v11 : Int) (v12 : Int) (s0 : Int) (M : gSt) : Prop :=

  (wrap s0 = 0 →
    w_RpartOf v12 v5 100 M (fun r281c M281 => wB_Rcast_285 a1 a2 a3 k r232 X232_362 v5 v6 v9 v10 v11 v12 s0 (v12 - r281c) M281)) ∧
  (¬ wrap s0 = 0 →
    wB_Rcast_285 a1 a2 a3 k r232 X232_362 v5 v6 v9 v10 v11 v12 s0 v12 M)
def wC_Rcast_232 (a1 : Int) (a2 : Int) (a3 : Int) (k : Int → gSt → Prop) (r232 : Int → Int → Int → Int → Int → gSt → Prop) (X232_362 : Int → gSt → Prop) (v5 : Int) (v6 : Int) (v9 : Int) (v10 : Int) (v11 : Int) (M : gSt) : Prop :=

  (10 ≤ wrap v11 →
    X232_362 v9 M) ∧
  (wrap v11 < 10 →
    w_Rits 12 v11 M (fun r244c M244 => 
    (wrap v11 < 6 →
      wB_Rcast_261 a1 a2 a3 k r232 X232_362 v5 v6 v9 v10 v11 r244c 0 M244) ∧
    (6 ≤ wrap v11 →
      wB_Rcast_261 a1 a2 a3 k r232 X232_362 v5 v6 v9 v10 v11 r244c 1 M244)))
def wL_Rcast_232 (a1 : Int) (a2 : Int) (a3 : Int) (k : Int → gSt → Prop)  (X232_362 : Int → gSt → Prop) : Nat → Int → Int → Int → Int → Int → gSt → Prop
  | 0 => fun _ _ _ _ _ _ => False
  | n + 1 => fun v5 v6 v9 v10 v11 M => wC_Rcast_232 a1 a2 a3 k  (wL_Rcast_232 a1 a2 a3 k  X232_362 n) X232_362 v5 v6 v9 v10 v11 M
def wB_Rcast_227 (a1 : Int) (a2 : Int) (a3 : Int) (k : Int → gSt → Prop)  (v5 : Int) (v6 : Int) (v9 : Int) (s0 : Int) (M : gSt) : Prop :=
∃ n, wL_Rcast_232 a1 a2 a3 k  (fun u9_232 M232 =>
    k u9_232 M232) n v5 v6 v9 s0 2 M
def wB_Rcast_109 (a1 : Int) (a2 : Int) (a3 : Int) (k : Int → gSt → Prop)  (v5 : Int) (v6 : Int) (v7 : Int) (s0 : Int) (s1 : Int) (M : gSt) : Prop :=

  (wrap (s1 + s0) ≤ 12 →
    w_Rheld (v7 + a2) 0 9999999 M (fun r128c M128 => w_Rlays1 12 2 r128c M128 (fun M139 => w_Rits 12 3 M139 (fun r150c M150 => w_Rheld (r150c + a2) 0 r128c M150 (fun r158c M158 => w_Rlays1 12 3 r158c M158 (fun M161 => ∃ n, wL_Rcast_168 a1 a2 a3 k  (fun u5_168 u6_168 M168 =>
      w_RaddThing a1 M168 (fun r206c M206 => 
      (wrap u6_168 ≤ 0 →
        wB_Rcast_227 a1 a2 a3 k  u5_168 u6_168 r206c (-1) M206) ∧
      (0 < wrap u6_168 →
        w_RaddThing 600 M206 (fun r220c M220 => wB_Rcast_227 a1 a2 a3 k  u5_168 u6_168 r206c r220c M220)))) n v5 v6 v7 r128c 6 M161)))))) ∧
  (12 < wrap (s1 + s0) →
    w_Rerror 4 M (fun r117c M117 => k r117c M117))
def wB_Rcast_45 (a1 : Int) (a2 : Int) (a3 : Int) (k : Int → gSt → Prop)  (s0 : Int) (M : gSt) : Prop :=

  (¬ wrap s0 = 0 →
    ∀ x5_62 : Int, x5_62 = Int.tdiv (wrap a3) 100 → (∀ x6_71 : Int, x6_71 = Int.tmod (wrap (Int.tdiv (wrap a3) 10)) 10 → (w_Rits 12 2 M (fun r77c M77 => 
    (¬ wrap r77c = 0 →

      (wrap x6_71 ≤ 0 →
        wB_Rcast_109 a1 a2 a3 k  x5_62 x6_71 r77c 1 (M77 1 0) M77) ∧
      (0 < wrap x6_71 →
        wB_Rcast_109 a1 a2 a3 k  x5_62 x6_71 r77c 2 (M77 1 0) M77)) ∧
    (wrap r77c = 0 →
      w_Rerror 3 M77 (fun r89c M89 => k r89c M89)))))) ∧
  (wrap s0 = 0 →
    w_Rerror 1 M (fun r54c M54 => k r54c M54))
def wB_Rcast_44 (a1 : Int) (a2 : Int) (a3 : Int) (k : Int → gSt → Prop)   (M : gSt) : Prop :=
wB_Rcast_45 a1 a2 a3 k  0 M
def w_Rcast (a1 : Int) (a2 : Int) (a3 : Int) (M : gSt) (k : Int → gSt → Prop) : Prop :=
w_Rin a1 0 699 M (fun r5c M5 => 
  (wrap r5c = 0 →
    wB_Rcast_44 a1 a2 a3 k   M5) ∧
  (¬ wrap r5c = 0 →
    w_Rin a2 0 9999 M5 (fun r16c M16 => 
    (wrap r16c = 0 →
      wB_Rcast_44 a1 a2 a3 k   M16) ∧
    (¬ wrap r16c = 0 →
      w_Rin a3 0 990 M16 (fun r27c M27 => 
      (wrap r27c = 0 →
        wB_Rcast_44 a1 a2 a3 k   M27) ∧
      (¬ wrap r27c = 0 →

        (¬ wrap (Int.tmod (wrap a3) 10) = 0 →
          wB_Rcast_44 a1 a2 a3 k   M27) ∧
        (wrap (Int.tmod (wrap a3) 10) = 0 →
          wB_Rcast_45 a1 a2 a3 k  1 M27)))))))
set_option maxHeartbeats 4000000 in
set_option maxRecDepth 100000 in
theorem m_Rcast {l : Launch} {D : va_G} {cl : List vw_C} {tys : List (ClassId × FieldType)} {ad : Nat → Nat} {cI : ClassId} {ci : Nat} {Z : (Nat → Prop) → State → Prop} (hci : cl[ci]? = some (RX9, TX9, 23)) {a1 : Int} {a2 : Int} {a3 : Int} {M : gSt} {k : Int → gSt → Prop} (h : w_Rcast a1 a2 a3 M k) : MOi l yX9_cast cX9_cast 16 .int (rmR 2 46) D cl ((cI, .int) :: tys) (wR ad cI ci) tR Z [.ref (ad 0), iv a1, iv a2, iv a3] M k := by
  refine moi_intro (by decide +kernel) (Nat.le_of_ble_eq_true rfl) wi_95 ?_
  intro p e s m args below meth c A Q C hR
  have pC168 : ∀ (r168 : Int → Int → Int → Int → Int → gSt → Prop) (X168_204 : Int → Int → gSt → Prop) (hr168 : ∀ (v5 : Int) (v6 : Int) (v7 : Int) (v8 : Int) (v9 : Int) (M : gSt), r168 v5 v6 v7 v8 v9 M → gG p l e (rmR 2 46) s m args below meth c Q D cl A (wR ad cI ci) 16 168 [(0, .ref (ad 0)), (1, iv a1), (5, iv v5), (6, iv v6), (7, iv v7), (8, iv v8), (9, iv v9)] [] M) (hX168_204 : ∀ (v5 : Int) (v6 : Int) (M : gSt), X168_204 v5 v6 M → gG p l e (rmR 2 46) s m args below meth c Q D cl A (wR ad cI ci) 16 204 [(0, .ref (ad 0)), (1, iv a1), (5, iv v5), (6, iv v6)] [] M) (v5 : Int) (v6 : Int) (v7 : Int) (v8 : Int) (v9 : Int) (M : gSt), wC_Rcast_168 a1 a2 a3 k r168 X168_204 v5 v6 v7 v8 v9 M → gG p l e (rmR 2 46) s m args below meth c Q D cl A (wR ad cI ci) 16 168 [(0, .ref (ad 0)), (1, iv a1), (5, iv v5), (6, iv v6), (7, iv v7), (8, iv v8), (9, iv v9)] [] M := by
    intro r168 X168_204 hr168 hX168_204 v5 v6 v7 v8 v9 M h
    unfold wC_Rcast_168 at h
    refine g_iload C dR_cast_168 rfl ?_
    refine g_bipush C dR_cast_170 rfl ?_
    refine g_icmp_ge C 204 dR_cast_172 (by decide) (fun hc => ?_) (fun hc => ?_)
    · replace h := h.1 hc
      refine g_locals (lv' := [(0, .ref (ad 0)), (1, iv a1), (5, iv v5), (6, iv v6)]) rfl ?_
      exact hX168_204 _ _  _ h
    · replace h := h.2 hc
      refine g_aload_n C dR_cast_175 rfl ?_
      refine g_bipush C dR_cast_176 rfl ?_
      refine g_iload C dR_cast_178 rfl ?_
      refine g_aload_n C dR_cast_180 rfl ?_
      refine g_bipush C dR_cast_181 rfl ?_
      refine g_iload C dR_cast_183 rfl ?_
      refine g_callVi C (nargs := 2) (o := 0) (st := [iv v9, iv 12, .ref (ad 0)]) (m_Rits hci h) rfl (by decide) hci rfl gd_its (by decide +kernel) ⟨rfl, rfl⟩ dR_cast_185 ⟨by decide, by decide⟩ rfl rfl (Nat.le_of_ble_eq_true rfl) ?_
      intro r185c M185 hN
      replace h := hN
      clear hN
      refine g_iload C dR_cast_188 rfl ?_
      refine g_iload C dR_cast_190 rfl ?_
      refine g_callSi C (nargs := 3) (st := [iv v9, iv 12, .ref (ad 0)]) (m_RpartOf hci h) gd_partOf (by decide +kernel) ⟨rfl, rfl⟩ dR_cast_192 ⟨by decide, by decide⟩ rfl rfl (Nat.le_of_ble_eq_true rfl) ?_
      intro r192c M192 hN
      replace h := hN
      clear hN
      refine g_callVv C (nargs := 3) (o := 0) (st := []) (m_Rlays1 hci h) rfl (by decide) hci rfl gd_lays1 (by decide +kernel) ⟨rfl, rfl⟩ dR_cast_195 ⟨by decide, by decide⟩ rfl rfl (Nat.le_of_ble_eq_true rfl) ?_
      intro M195 hN
      replace h := hN
      clear hN
      refine g_iinc C dR_cast_198 rfl (by decide) rfl ?_
      refine g_locals (lv' := [(0, .ref (ad 0)), (1, iv a1), (5, iv v5), (6, iv v6), (7, iv v7), (8, iv v8), (9, iv (v9 + 1))]) rfl ?_
      refine g_goto C 168 dR_cast_201 (by decide) ?_
      refine g_locals (lv' := [(0, .ref (ad 0)), (1, iv a1), (5, iv v5), (6, iv v6), (7, iv v7), (8, iv v8), (9, iv (v9 + 1))]) rfl ?_
      exact hr168 _ _ _ _ _  _ h
  have pL168 : ∀  (X168_204 : Int → Int → gSt → Prop) (hX168_204 : ∀ (v5 : Int) (v6 : Int) (M : gSt), X168_204 v5 v6 M → gG p l e (rmR 2 46) s m args below meth c Q D cl A (wR ad cI ci) 16 204 [(0, .ref (ad 0)), (1, iv a1), (5, iv v5), (6, iv v6)] [] M) (n : Nat) (v5 : Int) (v6 : Int) (v7 : Int) (v8 : Int) (v9 : Int) (M : gSt), wL_Rcast_168 a1 a2 a3 k  X168_204 n v5 v6 v7 v8 v9 M → gG p l e (rmR 2 46) s m args below meth c Q D cl A (wR ad cI ci) 16 168 [(0, .ref (ad 0)), (1, iv a1), (5, iv v5), (6, iv v6), (7, iv v7), (8, iv v8), (9, iv v9)] [] M := by
    intro  X168_204 hX168_204 n
    induction n with
    | zero => intro v5 v6 v7 v8 v9 M h; exact h.elim
    | succ n ih =>
      intro v5 v6 v7 v8 v9 M h
      exact pC168  (wL_Rcast_168 a1 a2 a3 k  X168_204 n) X168_204 ih hX168_204 v5 v6 v7 v8 v9 M h
  have pB347 : ∀ (r232 : Int → Int → Int → Int → Int → gSt → Prop) (X232_362 : Int → gSt → Prop) (hr232 : ∀ (v5 : Int) (v6 : Int) (v9 : Int) (v10 : Int) (v11 : Int) (M : gSt), r232 v5 v6 v9 v10 v11 M → gG p l e (rmR 2 46) s m args below meth c Q D cl A (wR ad cI ci) 16 232 [(0, .ref (ad 0)), (5, iv v5), (6, iv v6), (9, iv v9), (10, iv v10), (11, iv v11)] [] M) (hX232_362 : ∀ (v9 : Int) (M : gSt), X232_362 v9 M → gG p l e (rmR 2 46) s m args below meth c Q D cl A (wR ad cI ci) 16 362 [(9, iv v9)] [] M) (v5 : Int) (v6 : Int) (v9 : Int) (v10 : Int) (v11 : Int) (M : gSt), wB_Rcast_347 a1 a2 a3 k r232 X232_362 v5 v6 v9 v10 v11 M → gG p l e (rmR 2 46) s m args below meth c Q D cl A (wR ad cI ci) 16 347 [(0, .ref (ad 0)), (5, iv v5), (6, iv v6), (9, iv v9), (10, iv v10), (11, iv v11)] [] M := by
    intro r232 X232_362 hr232 hX232_362 v5 v6 v9 v10 v11 M h
    unfold wB_Rcast_347 at h
    refine g_aload_n C dR_cast_347 rfl ?_
    refine g_bipush C dR_cast_348 rfl ?_
    refine g_iload C dR_cast_350 rfl ?_
    refine g_iconst C dR_cast_352 ?_
    refine g_callVv C (nargs := 3) (o := 0) (st := []) (m_Rlays1 hci h) rfl (by decide) hci rfl gd_lays1 (by decide +kernel) ⟨rfl, rfl⟩ dR_cast_353 ⟨by decide, by decide⟩ rfl rfl (Nat.le_of_ble_eq_true rfl) ?_
    intro M353 hN
    replace h := hN
    clear hN
    refine g_iinc C dR_cast_356 rfl (by decide) rfl ?_
    refine g_locals (lv' := [(0, .ref (ad 0)), (5, iv v5), (6, iv v6), (9, iv v9), (10, iv v10), (11, iv (v11 + 1))]) rfl ?_
    refine g_goto C 232 dR_cast_359 (by decide) ?_
    refine g_locals (lv' := [(0, .ref (ad 0)), (5, iv v5), (6, iv v6), (9, iv v9), (10, iv v10), (11, iv (v11 + 1))]) rfl ?_
    exact hr232 _ _ _ _ _  _ h
  have pB328 : ∀ (r232 : Int → Int → Int → Int → Int → gSt → Prop) (X232_362 : Int → gSt → Prop) (hr232 : ∀ (v5 : Int) (v6 : Int) (v9 : Int) (v10 : Int) (v11 : Int) (M : gSt), r232 v5 v6 v9 v10 v11 M → gG p l e (rmR 2 46) s m args below meth c Q D cl A (wR ad cI ci) 16 232 [(0, .ref (ad 0)), (5, iv v5), (6, iv v6), (9, iv v9), (10, iv v10), (11, iv v11)] [] M) (hX232_362 : ∀ (v9 : Int) (M : gSt), X232_362 v9 M → gG p l e (rmR 2 46) s m args below meth c Q D cl A (wR ad cI ci) 16 362 [(9, iv v9)] [] M) (v5 : Int) (v6 : Int) (v9 : Int) (v10 : Int) (v11 : Int) (v15 : Int) (s0 : Int) (s1 : Int) (s2 : Int) (M : gSt), wB_Rcast_328 a1 a2 a3 k r232 X232_362 v5 v6 v9 v10 v11 v15 s0 s1 s2 M → gG p l e (rmR 2 46) s m args below meth c Q D cl A (wR ad cI ci) 16 328 [(0, .ref (ad 0)), (5, iv v5), (6, iv v6), (9, iv v9), (10, iv v10), (11, iv v11), (15, iv v15)] [iv s0, iv s1, iv s2, .ref (ad 0)] M := by
    intro r232 X232_362 hr232 hX232_362 v5 v6 v9 v10 v11 v15 s0 s1 s2 M h
    unfold wB_Rcast_328 at h
    refine g_callVv C (nargs := 3) (o := 0) (st := []) (m_Rlays1 hci h) rfl (by decide) hci rfl gd_lays1 (by decide +kernel) ⟨rfl, rfl⟩ dR_cast_328 ⟨by decide, by decide⟩ rfl rfl (Nat.le_of_ble_eq_true rfl) ?_
    intro M328 hN
    replace h := hN
    clear hN
    refine g_iload C dR_cast_331 rfl ?_
    refine g_iconst C dR_cast_333 ?_
    refine g_icmp_eq C 347 dR_cast_334 (by decide) (fun hc => ?_) (fun hc => ?_)
    · replace h := h.1 hc
      refine g_locals (lv' := [(0, .ref (ad 0)), (5, iv v5), (6, iv v6), (9, iv v9), (10, iv v10), (11, iv v11)]) rfl ?_
      exact pB347 r232 X232_362 hr232 hX232_362 _ _ _ _ _ _ h
    · replace h := h.2 hc
      refine g_aload_n C dR_cast_337 rfl ?_
      refine g_iload C dR_cast_338 rfl ?_
      refine g_iload C dR_cast_340 rfl ?_
      refine g_iload C dR_cast_342 rfl ?_
      refine g_callVv C (nargs := 3) (o := 0) (st := []) (m_Rlays1 hci h) rfl (by decide) hci rfl gd_lays1 (by decide +kernel) ⟨rfl, rfl⟩ dR_cast_344 ⟨by decide, by decide⟩ rfl rfl (Nat.le_of_ble_eq_true rfl) ?_
      intro M344 hN
      replace h := hN
      clear hN
      refine g_locals (lv' := [(0, .ref (ad 0)), (5, iv v5), (6, iv v6), (9, iv v9), (10, iv v10), (11, iv v11)]) rfl ?_
      exact pB347 r232 X232_362 hr232 hX232_362 _ _ _ _ _ _ h
  have pB306 : ∀ (r232 : Int → Int → Int → Int → Int → gSt → Prop) (X232_362 : Int → gSt → Prop) (hr232 : ∀ (v5 : Int) (v6 : Int) (v9 : Int) (v10 : Int) (v11 : Int) (M : gSt), r232 v5 v6 v9 v10 v11 M → gG p l e (rmR 2 46) s m args below meth c Q D cl A (wR ad cI ci) 16 232 [(0, .ref (ad 0)), (5, iv v5), (6, iv v6), (9, iv v9), (10, iv v10), (11, iv v11)] [] M) (hX232_362 : ∀ (v9 : Int) (M : gSt), X232_362 v9 M → gG p l e (rmR 2 46) s m args below meth c Q D cl A (wR ad cI ci) 16 362 [(9, iv v9)] [] M) (v5 : Int) (v6 : Int) (v9 : Int) (v10 : Int) (v11 : Int) (v12 : Int) (v13 : Int) (v14 : Int) (s0 : Int) (M : gSt), wB_Rcast_306 a1 a2 a3 k r232 X232_362 v5 v6 v9 v10 v11 v12 v13 v14 s0 M → gG p l e (rmR 2 46) s m args below meth c Q D cl A (wR ad cI ci) 16 306 [(0, .ref (ad 0)), (5, iv v5), (6, iv v6), (9, iv v9), (10, iv v10), (11, iv v11), (12, iv v12), (13, iv v13), (14, iv v14)] [iv s0] M := by
    intro r232 X232_362 hr232 hX232_362 v5 v6 v9 v10 v11 v12 v13 v14 s0 M h
    unfold wB_Rcast_306 at h
    refine g_istore C dR_cast_306 (by decide) rfl ?_
    refine g_locals (lv' := [(0, .ref (ad 0)), (5, iv v5), (6, iv v6), (9, iv v9), (10, iv v10), (11, iv v11), (12, iv v12), (13, iv v13), (14, iv v14), (15, iv s0)]) rfl ?_
    refine g_aload_n C dR_cast_308 rfl ?_
    refine g_iload C dR_cast_309 rfl ?_
    refine g_iload C dR_cast_311 rfl ?_
    refine g_iload C dR_cast_313 rfl ?_
    refine g_if_eq C 323 dR_cast_315 (by decide) (fun hc => ?_) (fun hc => ?_)
    · replace h := h.1 hc
      refine g_iload C dR_cast_323 rfl ?_
      refine g_iload C dR_cast_325 rfl ?_
      refine g_isub C dR_cast_327 ?_
      refine g_locals (lv' := [(0, .ref (ad 0)), (5, iv v5), (6, iv v6), (9, iv v9), (10, iv v10), (11, iv v11), (15, iv s0)]) rfl ?_
      exact pB328 r232 X232_362 hr232 hX232_362 _ _ _ _ _ _ _ _ _ _ h
    · replace h := h.2 hc
      refine g_iload C dR_cast_318 rfl ?_
      refine g_goto C 328 dR_cast_320 (by decide) ?_
      refine g_locals (lv' := [(0, .ref (ad 0)), (5, iv v5), (6, iv v6), (9, iv v9), (10, iv v10), (11, iv v11), (15, iv s0)]) rfl ?_
      exact pB328 r232 X232_362 hr232 hX232_362 _ _ _ _ _ _ _ _ _ _ h
  have pB285 : ∀ (r232 : Int → Int → Int → Int → Int → gSt → Prop) (X232_362 : Int → gSt → Prop) (hr232 : ∀ (v5 : Int) (v6 : Int) (v9 : Int) (v10 : Int) (v11 : Int) (M : gSt), r232 v5 v6 v9 v10 v11 M → gG p l e (rmR 2 46) s m args below meth c Q D cl A (wR ad cI ci) 16 232 [(0, .ref (ad 0)), (5, iv v5), (6, iv v6), (9, iv v9), (10, iv v10), (11, iv v11)] [] M) (hX232_362 : ∀ (v9 : Int) (M : gSt), X232_362 v9 M → gG p l e (rmR 2 46) s m args below meth c Q D cl A (wR ad cI ci) 16 362 [(9, iv v9)] [] M) (v5 : Int) (v6 : Int) (v9 : Int) (v10 : Int) (v11 : Int) (v12 : Int) (v13 : Int) (s0 : Int) (M : gSt), wB_Rcast_285 a1 a2 a3 k r232 X232_362 v5 v6 v9 v10 v11 v12 v13 s0 M → gG p l e (rmR 2 46) s m args below meth c Q D cl A (wR ad cI ci) 16 285 [(0, .ref (ad 0)), (5, iv v5), (6, iv v6), (9, iv v9), (10, iv v10), (11, iv v11), (12, iv v12), (13, iv v13)] [iv s0] M := by
    intro r232 X232_362 hr232 hX232_362 v5 v6 v9 v10 v11 v12 v13 s0 M h
    unfold wB_Rcast_285 at h
    refine g_istore C dR_cast_285 (by decide) rfl ?_
    refine g_locals (lv' := [(0, .ref (ad 0)), (5, iv v5), (6, iv v6), (9, iv v9), (10, iv v10), (11, iv v11), (12, iv v12), (13, iv v13), (14, iv s0)]) rfl ?_
    refine g_iload C dR_cast_287 rfl ?_
    refine g_if_eq C 297 dR_cast_289 (by decide) (fun hc => ?_) (fun hc => ?_)
    · replace h := h.1 hc
      refine g_iload C dR_cast_297 rfl ?_
      refine g_iload C dR_cast_299 rfl ?_
      refine g_bipush C dR_cast_301 rfl ?_
      refine g_callSi C (nargs := 3) (st := []) (m_RpartOf hci h) gd_partOf (by decide +kernel) ⟨rfl, rfl⟩ dR_cast_303 ⟨by decide, by decide⟩ rfl rfl (Nat.le_of_ble_eq_true rfl) ?_
      intro r303c M303 hN
      replace h := hN
      clear hN
      refine g_locals (lv' := [(0, .ref (ad 0)), (5, iv v5), (6, iv v6), (9, iv v9), (10, iv v10), (11, iv v11), (12, iv v12), (13, iv v13), (14, iv s0)]) rfl ?_
      exact pB306 r232 X232_362 hr232 hX232_362 _ _ _ _ _ _ _ _ _ _ h
    · replace h := h.2 hc
      refine g_iload C dR_cast_292 rfl ?_
      refine g_goto C 306 dR_cast_294 (by decide) ?_
      refine g_locals (lv' := [(0, .ref (ad 0)), (5, iv v5), (6, iv v6), (9, iv v9), (10, iv v10), (11, iv v11), (12, iv v12), (13, iv v13), (14, iv s0)]) rfl ?_
      exact pB306 r232 X232_362 hr232 hX232_362 _ _ _ _ _ _ _ _ _ _ h
  have pB261 : ∀ (r232 : Int → Int → Int → Int → Int → gSt → Prop) (X232_362 : Int → gSt → Prop) (hr232 : ∀ (v5 : Int) (v6 : Int) (v9 : Int) (v10 : Int) (v11 : Int) (M : gSt), r232 v5 v6 v9 v10 v11 M → gG p l e (rmR 2 46) s m args below meth c Q D cl A (wR ad cI ci) 16 232 [(0, .ref (ad 0)), (5, iv v5), (6, iv v6), (9, iv v9), (10, iv v10), (11, iv v11)] [] M) (hX232_362 : ∀ (v9 : Int) (M : gSt), X232_362 v9 M → gG p l e (rmR 2 46) s m args below meth c Q D cl A (wR ad cI ci) 16 362 [(9, iv v9)] [] M) (v5 : Int) (v6 : Int) (v9 : Int) (v10 : Int) (v11 : Int) (v12 : Int) (s0 : Int) (M : gSt), wB_Rcast_261 a1 a2 a3 k r232 X232_362 v5 v6 v9 v10 v11 v12 s0 M → gG p l e (rmR 2 46) s m args below meth c Q D cl A (wR ad cI ci) 16 261 [(0, .ref (ad 0)), (5, iv v5), (6, iv v6), (9, iv v9), (10, iv v10), (11, iv v11), (12, iv v12)] [iv s0] M := by
    intro r232 X232_362 hr232 hX232_362 v5 v6 v9 v10 v11 v12 s0 M h
    unfold wB_Rcast_261 at h
    refine g_istore C dR_cast_261 (by decide) rfl ?_
    refine g_locals (lv' := [(0, .ref (ad 0)), (5, iv v5), (6, iv v6), (9, iv v9), (10, iv v10), (11, iv v11), (12, iv v12), (13, iv s0)]) rfl ?_
    refine g_iload C dR_cast_263 rfl ?_
    refine g_if_eq C 273 dR_cast_265 (by decide) (fun hc => ?_) (fun hc => ?_)
    · replace h := h.1 hc
      refine g_iload C dR_cast_273 rfl ?_
      refine g_iload C dR_cast_275 rfl ?_
      refine g_iload C dR_cast_277 rfl ?_
      refine g_bipush C dR_cast_279 rfl ?_
      refine g_callSi C (nargs := 3) (st := [iv v12]) (m_RpartOf hci h) gd_partOf (by decide +kernel) ⟨rfl, rfl⟩ dR_cast_281 ⟨by decide, by decide⟩ rfl rfl (Nat.le_of_ble_eq_true rfl) ?_
      intro r281c M281 hN
      replace h := hN
      clear hN
      refine g_isub C dR_cast_284 ?_
      refine g_locals (lv' := [(0, .ref (ad 0)), (5, iv v5), (6, iv v6), (9, iv v9), (10, iv v10), (11, iv v11), (12, iv v12), (13, iv s0)]) rfl ?_
      exact pB285 r232 X232_362 hr232 hX232_362 _ _ _ _ _ _ _ _ _ h
    · replace h := h.2 hc
      refine g_iload C dR_cast_268 rfl ?_
      refine g_goto C 285 dR_cast_270 (by decide) ?_
      refine g_locals (lv' := [(0, .ref (ad 0)), (5, iv v5), (6, iv v6), (9, iv v9), (10, iv v10), (11, iv v11), (12, iv v12), (13, iv s0)]) rfl ?_
      exact pB285 r232 X232_362 hr232 hX232_362 _ _ _ _ _ _ _ _ _ h
  have pC232 : ∀ (r232 : Int → Int → Int → Int → Int → gSt → Prop) (X232_362 : Int → gSt → Prop) (hr232 : ∀ (v5 : Int) (v6 : Int) (v9 : Int) (v10 : Int) (v11 : Int) (M : gSt), r232 v5 v6 v9 v10 v11 M → gG p l e (rmR 2 46) s m args below meth c Q D cl A (wR ad cI ci) 16 232 [(0, .ref (ad 0)), (5, iv v5), (6, iv v6), (9, iv v9), (10, iv v10), (11, iv v11)] [] M) (hX232_362 : ∀ (v9 : Int) (M : gSt), X232_362 v9 M → gG p l e (rmR 2 46) s m args below meth c Q D cl A (wR ad cI ci) 16 362 [(9, iv v9)] [] M) (v5 : Int) (v6 : Int) (v9 : Int) (v10 : Int) (v11 : Int) (M : gSt), wC_Rcast_232 a1 a2 a3 k r232 X232_362 v5 v6 v9 v10 v11 M → gG p l e (rmR 2 46) s m args below meth c Q D cl A (wR ad cI ci) 16 232 [(0, .ref (ad 0)), (5, iv v5), (6, iv v6), (9, iv v9), (10, iv v10), (11, iv v11)] [] M := by
    intro r232 X232_362 hr232 hX232_362 v5 v6 v9 v10 v11 M h
    unfold wC_Rcast_232 at h
    refine g_iload C dR_cast_232 rfl ?_
    refine g_bipush C dR_cast_234 rfl ?_
    refine g_icmp_ge C 362 dR_cast_236 (by decide) (fun hc => ?_) (fun hc => ?_)
    · replace h := h.1 hc
      refine g_locals (lv' := [(9, iv v9)]) rfl ?_
      exact hX232_362 _  _ h
    · replace h := h.2 hc
      refine g_aload_n C dR_cast_239 rfl ?_
      refine g_bipush C dR_cast_240 rfl ?_
      refine g_iload C dR_cast_242 rfl ?_
      refine g_callVi C (nargs := 2) (o := 0) (st := []) (m_Rits hci h) rfl (by decide) hci rfl gd_its (by decide +kernel) ⟨rfl, rfl⟩ dR_cast_244 ⟨by decide, by decide⟩ rfl rfl (Nat.le_of_ble_eq_true rfl) ?_
      intro r244c M244 hN
      replace h := hN
      clear hN
      refine g_istore C dR_cast_247 (by decide) rfl ?_
      refine g_locals (lv' := [(0, .ref (ad 0)), (5, iv v5), (6, iv v6), (9, iv v9), (10, iv v10), (11, iv v11), (12, iv r244c)]) rfl ?_
      refine g_iload C dR_cast_249 rfl ?_
      refine g_bipush C dR_cast_251 rfl ?_
      refine g_icmp_lt C 260 dR_cast_253 (by decide) (fun hc => ?_) (fun hc => ?_)
      · replace h := h.1 hc
        refine g_iconst C dR_cast_260 ?_
        refine g_locals (lv' := [(0, .ref (ad 0)), (5, iv v5), (6, iv v6), (9, iv v9), (10, iv v10), (11, iv v11), (12, iv r244c)]) rfl ?_
        exact pB261 r232 X232_362 hr232 hX232_362 _ _ _ _ _ _ _ _ h
      · replace h := h.2 hc
        refine g_iconst C dR_cast_256 ?_
        refine g_goto C 261 dR_cast_257 (by decide) ?_
        refine g_locals (lv' := [(0, .ref (ad 0)), (5, iv v5), (6, iv v6), (9, iv v9), (10, iv v10), (11, iv v11), (12, iv r244c)]) rfl ?_
        exact pB261 r232 X232_362 hr232 hX232_362 _ _ _ _ _ _ _ _ h
  have pL232 : ∀  (X232_362 : Int → gSt → Prop) (hX232_362 : ∀ (v9 : Int) (M : gSt), X232_362 v9 M → gG p l e (rmR 2 46) s m args below meth c Q D cl A (wR ad cI ci) 16 362 [(9, iv v9)] [] M) (n : Nat) (v5 : Int) (v6 : Int) (v9 : Int) (v10 : Int) (v11 : Int) (M : gSt), wL_Rcast_232 a1 a2 a3 k  X232_362 n v5 v6 v9 v10 v11 M → gG p l e (rmR 2 46) s m args below meth c Q D cl A (wR ad cI ci) 16 232 [(0, .ref (ad 0)), (5, iv v5), (6, iv v6), (9, iv v9), (10, iv v10), (11, iv v11)] [] M := by
    intro  X232_362 hX232_362 n
    induction n with
    | zero => intro v5 v6 v9 v10 v11 M h; exact h.elim
    | succ n ih =>
      intro v5 v6 v9 v10 v11 M h
      exact pC232  (wL_Rcast_232 a1 a2 a3 k  X232_362 n) X232_362 ih hX232_362 v5 v6 v9 v10 v11 M h
  have pB227 : ∀   (v5 : Int) (v6 : Int) (v9 : Int) (s0 : Int) (M : gSt), wB_Rcast_227 a1 a2 a3 k  v5 v6 v9 s0 M → gG p l e (rmR 2 46) s m args below meth c Q D cl A (wR ad cI ci) 16 227 [(0, .ref (ad 0)), (5, iv v5), (6, iv v6), (9, iv v9)] [iv s0] M := by
    intro   v5 v6 v9 s0 M h
    unfold wB_Rcast_227 at h
    refine g_istore C dR_cast_227 (by decide) rfl ?_
    refine g_locals (lv' := [(0, .ref (ad 0)), (5, iv v5), (6, iv v6), (9, iv v9), (10, iv s0)]) rfl ?_
    refine g_iconst C dR_cast_229 ?_
    refine g_istore C dR_cast_230 (by decide) rfl ?_
    refine g_locals (lv' := [(0, .ref (ad 0)), (5, iv v5), (6, iv v6), (9, iv v9), (10, iv s0), (11, iv 2)]) rfl ?_
    refine g_locals (lv' := [(0, .ref (ad 0)), (5, iv v5), (6, iv v6), (9, iv v9), (10, iv s0), (11, iv 2)]) rfl ?_
    obtain ⟨n, h⟩ := h
    refine pL232 _ ?_ n _ _ _ _ _ _ h
    · intro u9_232 M232 hN
      replace h := hN
      clear hN
      refine g_iload C dR_cast_362 rfl ?_
      exact hR _ _ _ _ dR_cast_364 rfl h
  have pB109 : ∀   (v5 : Int) (v6 : Int) (v7 : Int) (s0 : Int) (s1 : Int) (M : gSt), wB_Rcast_109 a1 a2 a3 k  v5 v6 v7 s0 s1 M → gG p l e (rmR 2 46) s m args below meth c Q D cl A (wR ad cI ci) 16 109 [(0, .ref (ad 0)), (1, iv a1), (2, iv a2), (5, iv v5), (6, iv v6), (7, iv v7)] [iv s0, iv s1] M := by
    intro   v5 v6 v7 s0 s1 M h
    unfold wB_Rcast_109 at h
    refine g_iadd C dR_cast_109 ?_
    refine g_bipush C dR_cast_110 rfl ?_
    refine g_icmp_le C 121 dR_cast_112 (by decide) (fun hc => ?_) (fun hc => ?_)
    · replace h := h.1 hc
      refine g_iload C dR_cast_121 rfl ?_
      refine g_iload_n C dR_cast_123 rfl ?_
      refine g_iadd C dR_cast_124 ?_
      refine g_iconst C dR_cast_125 ?_
      refine g_ldc C 9999999 wi_34 rfl dR_cast_126 ?_
      refine g_callSi C (nargs := 3) (st := []) (m_Rheld hci h) gd_held (by decide +kernel) ⟨rfl, rfl⟩ dR_cast_128 ⟨by decide, by decide⟩ rfl rfl (Nat.le_of_ble_eq_true rfl) ?_
      intro r128c M128 hN
      replace h := hN
      clear hN
      refine g_istore C dR_cast_131 (by decide) rfl ?_
      refine g_locals (lv' := [(0, .ref (ad 0)), (1, iv a1), (2, iv a2), (5, iv v5), (6, iv v6), (7, iv v7), (8, iv r128c)]) rfl ?_
      refine g_aload_n C dR_cast_133 rfl ?_
      refine g_bipush C dR_cast_134 rfl ?_
      refine g_iconst C dR_cast_136 ?_
      refine g_iload C dR_cast_137 rfl ?_
      refine g_callVv C (nargs := 3) (o := 0) (st := []) (m_Rlays1 hci h) rfl (by decide) hci rfl gd_lays1 (by decide +kernel) ⟨rfl, rfl⟩ dR_cast_139 ⟨by decide, by decide⟩ rfl rfl (Nat.le_of_ble_eq_true rfl) ?_
      intro M139 hN
      replace h := hN
      clear hN
      refine g_aload_n C dR_cast_142 rfl ?_
      refine g_bipush C dR_cast_143 rfl ?_
      refine g_iconst C dR_cast_145 ?_
      refine g_aload_n C dR_cast_146 rfl ?_
      refine g_bipush C dR_cast_147 rfl ?_
      refine g_iconst C dR_cast_149 ?_
      refine g_callVi C (nargs := 2) (o := 0) (st := [iv 3, iv 12, .ref (ad 0)]) (m_Rits hci h) rfl (by decide) hci rfl gd_its (by decide +kernel) ⟨rfl, rfl⟩ dR_cast_150 ⟨by decide, by decide⟩ rfl rfl (Nat.le_of_ble_eq_true rfl) ?_
      intro r150c M150 hN
      replace h := hN
      clear hN
      refine g_iload_n C dR_cast_153 rfl ?_
      refine g_iadd C dR_cast_154 ?_
      refine g_iconst C dR_cast_155 ?_
      refine g_iload C dR_cast_156 rfl ?_
      refine g_callSi C (nargs := 3) (st := [iv 3, iv 12, .ref (ad 0)]) (m_Rheld hci h) gd_held (by decide +kernel) ⟨rfl, rfl⟩ dR_cast_158 ⟨by decide, by decide⟩ rfl rfl (Nat.le_of_ble_eq_true rfl) ?_
      intro r158c M158 hN
      replace h := hN
      clear hN
      refine g_callVv C (nargs := 3) (o := 0) (st := []) (m_Rlays1 hci h) rfl (by decide) hci rfl gd_lays1 (by decide +kernel) ⟨rfl, rfl⟩ dR_cast_161 ⟨by decide, by decide⟩ rfl rfl (Nat.le_of_ble_eq_true rfl) ?_
      intro M161 hN
      replace h := hN
      clear hN
      refine g_bipush C dR_cast_164 rfl ?_
      refine g_istore C dR_cast_166 (by decide) rfl ?_
      refine g_locals (lv' := [(0, .ref (ad 0)), (1, iv a1), (2, iv a2), (5, iv v5), (6, iv v6), (7, iv v7), (8, iv r128c), (9, iv 6)]) rfl ?_
      refine g_locals (lv' := [(0, .ref (ad 0)), (1, iv a1), (5, iv v5), (6, iv v6), (7, iv v7), (8, iv r128c), (9, iv 6)]) rfl ?_
      obtain ⟨n, h⟩ := h
      refine pL168 _ ?_ n _ _ _ _ _ _ h
      · intro u5_168 u6_168 M168 hN
        replace h := hN
        clear hN
        refine g_aload_n C dR_cast_204 rfl ?_
        refine g_iload_n C dR_cast_205 rfl ?_
        refine g_callVi C (nargs := 1) (o := 0) (st := []) (m_RaddThing hci h) rfl (by decide) hci rfl gd_addThing (by decide +kernel) ⟨rfl, rfl⟩ dR_cast_206 ⟨by decide, by decide⟩ rfl rfl (Nat.le_of_ble_eq_true rfl) ?_
        intro r206c M206 hN
        replace h := hN
        clear hN
        refine g_istore C dR_cast_209 (by decide) rfl ?_
        refine g_locals (lv' := [(0, .ref (ad 0)), (1, iv a1), (5, iv u5_168), (6, iv u6_168), (9, iv r206c)]) rfl ?_
        refine g_iload C dR_cast_211 rfl ?_
        refine g_if_le C 226 dR_cast_213 (by decide) (fun hc => ?_) (fun hc => ?_)
        · replace h := h.1 hc
          refine g_iconst C dR_cast_226 ?_
          refine g_locals (lv' := [(0, .ref (ad 0)), (5, iv u5_168), (6, iv u6_168), (9, iv r206c)]) rfl ?_
          exact pB227 _ _ _ _ _ h
        · replace h := h.2 hc
          refine g_aload_n C dR_cast_216 rfl ?_
          refine g_sipush C dR_cast_217 rfl ?_
          refine g_callVi C (nargs := 1) (o := 0) (st := []) (m_RaddThing hci h) rfl (by decide) hci rfl gd_addThing (by decide +kernel) ⟨rfl, rfl⟩ dR_cast_220 ⟨by decide, by decide⟩ rfl rfl (Nat.le_of_ble_eq_true rfl) ?_
          intro r220c M220 hN
          replace h := hN
          clear hN
          refine g_goto C 227 dR_cast_223 (by decide) ?_
          refine g_locals (lv' := [(0, .ref (ad 0)), (5, iv u5_168), (6, iv u6_168), (9, iv r206c)]) rfl ?_
          exact pB227 _ _ _ _ _ h
    · replace h := h.2 hc
      refine g_aload_n C dR_cast_115 rfl ?_
      refine g_iconst C dR_cast_116 ?_
      refine g_callVi C (nargs := 1) (o := 0) (st := []) (m_Rerror hci h) rfl (by decide) hci rfl gd_error (by decide +kernel) ⟨rfl, rfl⟩ dR_cast_117 ⟨by decide, by decide⟩ rfl rfl (Nat.le_of_ble_eq_true rfl) ?_
      intro r117c M117 hN
      replace h := hN
      clear hN
      exact hR _ _ _ _ dR_cast_120 rfl h
  have pB45 : ∀   (s0 : Int) (M : gSt), wB_Rcast_45 a1 a2 a3 k  s0 M → gG p l e (rmR 2 46) s m args below meth c Q D cl A (wR ad cI ci) 16 45 [(0, .ref (ad 0)), (1, iv a1), (2, iv a2), (3, iv a3)] [iv s0] M := by
    intro   s0 M h
    unfold wB_Rcast_45 at h
    refine g_istore C dR_cast_45 (by decide) rfl ?_
    refine g_locals (lv' := [(0, .ref (ad 0)), (1, iv a1), (2, iv a2), (3, iv a3), (4, iv s0)]) rfl ?_
    refine g_iload C dR_cast_47 rfl ?_
    refine g_if_ne C 58 dR_cast_49 (by decide) (fun hc => ?_) (fun hc => ?_)
    · replace h := h.1 hc
      refine g_iload_n C dR_cast_58 rfl ?_
      refine g_bipush C dR_cast_59 rfl ?_
      refine g_idiv C dR_cast_61 (by decide) ?_
      refine g_top (y := Int.tdiv (wrap a3) 100) rfl ?_
      refine g_name (fun x5_62 hx5_62 => ?_)
      replace h := h x5_62 hx5_62
      refine g_istore C dR_cast_62 (by decide) rfl ?_
      refine g_locals (lv' := [(0, .ref (ad 0)), (1, iv a1), (2, iv a2), (3, iv a3), (4, iv s0), (5, iv x5_62)]) rfl ?_
      refine g_iload_n C dR_cast_64 rfl ?_
      refine g_bipush C dR_cast_65 rfl ?_
      refine g_idiv C dR_cast_67 (by decide) ?_
      refine g_top (y := Int.tdiv (wrap a3) 10) rfl ?_
      refine g_bipush C dR_cast_68 rfl ?_
      refine g_irem C dR_cast_70 (by decide) ?_
      refine g_top (y := Int.tmod (wrap (Int.tdiv (wrap a3) 10)) 10) rfl ?_
      refine g_name (fun x6_71 hx6_71 => ?_)
      replace h := h x6_71 hx6_71
      refine g_istore C dR_cast_71 (by decide) rfl ?_
      refine g_locals (lv' := [(0, .ref (ad 0)), (1, iv a1), (2, iv a2), (3, iv a3), (4, iv s0), (5, iv x5_62), (6, iv x6_71)]) rfl ?_
      refine g_aload_n C dR_cast_73 rfl ?_
      refine g_bipush C dR_cast_74 rfl ?_
      refine g_iconst C dR_cast_76 ?_
      refine g_callVi C (nargs := 2) (o := 0) (st := []) (m_Rits hci h) rfl (by decide) hci rfl gd_its (by decide +kernel) ⟨rfl, rfl⟩ dR_cast_77 ⟨by decide, by decide⟩ rfl rfl (Nat.le_of_ble_eq_true rfl) ?_
      intro r77c M77 hN
      replace h := hN
      clear hN
      refine g_istore C dR_cast_80 (by decide) rfl ?_
      refine g_locals (lv' := [(0, .ref (ad 0)), (1, iv a1), (2, iv a2), (3, iv a3), (4, iv s0), (5, iv x5_62), (6, iv x6_71), (7, iv r77c)]) rfl ?_
      refine g_iload C dR_cast_82 rfl ?_
      refine g_if_ne C 93 dR_cast_84 (by decide) (fun hc => ?_) (fun hc => ?_)
      · replace h := h.1 hc
        refine g_aload_n C dR_cast_93 rfl ?_
        refine rf_s C hci dR_cast_94 ?_
        refine g_iconst C dR_cast_97 ?_
        refine g_iald C (n := 536) dR_cast_98 rfl (by decide) ⟨by decide, by decide⟩ ?_
        refine g_iload C dR_cast_99 rfl ?_
        refine g_if_le C 108 dR_cast_101 (by decide) (fun hc => ?_) (fun hc => ?_)
        · replace h := h.1 hc
          refine g_iconst C dR_cast_108 ?_
          refine g_locals (lv' := [(0, .ref (ad 0)), (1, iv a1), (2, iv a2), (5, iv x5_62), (6, iv x6_71), (7, iv r77c)]) rfl ?_
          exact pB109 _ _ _ _ _ _ h
        · replace h := h.2 hc
          refine g_iconst C dR_cast_104 ?_
          refine g_goto C 109 dR_cast_105 (by decide) ?_
          refine g_locals (lv' := [(0, .ref (ad 0)), (1, iv a1), (2, iv a2), (5, iv x5_62), (6, iv x6_71), (7, iv r77c)]) rfl ?_
          exact pB109 _ _ _ _ _ _ h
      · replace h := h.2 hc
        refine g_aload_n C dR_cast_87 rfl ?_
        refine g_iconst C dR_cast_88 ?_
        refine g_callVi C (nargs := 1) (o := 0) (st := []) (m_Rerror hci h) rfl (by decide) hci rfl gd_error (by decide +kernel) ⟨rfl, rfl⟩ dR_cast_89 ⟨by decide, by decide⟩ rfl rfl (Nat.le_of_ble_eq_true rfl) ?_
        intro r89c M89 hN
        replace h := hN
        clear hN
        exact hR _ _ _ _ dR_cast_92 rfl h
    · replace h := h.2 hc
      refine g_aload_n C dR_cast_52 rfl ?_
      refine g_iconst C dR_cast_53 ?_
      refine g_callVi C (nargs := 1) (o := 0) (st := []) (m_Rerror hci h) rfl (by decide) hci rfl gd_error (by decide +kernel) ⟨rfl, rfl⟩ dR_cast_54 ⟨by decide, by decide⟩ rfl rfl (Nat.le_of_ble_eq_true rfl) ?_
      intro r54c M54 hN
      replace h := hN
      clear hN
      exact hR _ _ _ _ dR_cast_57 rfl h
  have pB44 : ∀    (M : gSt), wB_Rcast_44 a1 a2 a3 k   M → gG p l e (rmR 2 46) s m args below meth c Q D cl A (wR ad cI ci) 16 44 [(0, .ref (ad 0)), (1, iv a1), (2, iv a2), (3, iv a3)] [] M := by
    intro    M h
    unfold wB_Rcast_44 at h
    refine g_iconst C dR_cast_44 ?_
    refine g_locals (lv' := [(0, .ref (ad 0)), (1, iv a1), (2, iv a2), (3, iv a3)]) rfl ?_
    exact pB45 _ _ h
  refine g_locals (lv' := [(0, .ref (ad 0)), (1, iv a1), (2, iv a2), (3, iv a3)]) rfl ?_
  unfold w_Rcast at h
  refine g_iload_n C dR_cast_0 rfl ?_
  refine g_iconst C dR_cast_1 ?_
  refine g_sipush C dR_cast_2 rfl ?_
  refine g_callSi C (nargs := 3) (st := []) (m_Rin hci h) gd_in (by decide +kernel) ⟨rfl, rfl⟩ dR_cast_5 ⟨by decide, by decide⟩ rfl rfl (Nat.le_of_ble_eq_true rfl) ?_
  intro r5c M5 hN
  replace h := hN
  clear hN
  refine g_if_eq C 44 dR_cast_8 (by decide) (fun hc => ?_) (fun hc => ?_)
  · replace h := h.1 hc
    refine g_locals (lv' := [(0, .ref (ad 0)), (1, iv a1), (2, iv a2), (3, iv a3)]) rfl ?_
    exact pB44  _ h
  · replace h := h.2 hc
    refine g_iload_n C dR_cast_11 rfl ?_
    refine g_iconst C dR_cast_12 ?_
    refine g_sipush C dR_cast_13 rfl ?_
    refine g_callSi C (nargs := 3) (st := []) (m_Rin hci h) gd_in (by decide +kernel) ⟨rfl, rfl⟩ dR_cast_16 ⟨by decide, by decide⟩ rfl rfl (Nat.le_of_ble_eq_true rfl) ?_
    intro r16c M16 hN
    replace h := hN
    clear hN
    refine g_if_eq C 44 dR_cast_19 (by decide) (fun hc => ?_) (fun hc => ?_)
    · replace h := h.1 hc
      refine g_locals (lv' := [(0, .ref (ad 0)), (1, iv a1), (2, iv a2), (3, iv a3)]) rfl ?_
      exact pB44  _ h
    · replace h := h.2 hc
      refine g_iload_n C dR_cast_22 rfl ?_
      refine g_iconst C dR_cast_23 ?_
      refine g_sipush C dR_cast_24 rfl ?_
      refine g_callSi C (nargs := 3) (st := []) (m_Rin hci h) gd_in (by decide +kernel) ⟨rfl, rfl⟩ dR_cast_27 ⟨by decide, by decide⟩ rfl rfl (Nat.le_of_ble_eq_true rfl) ?_
      intro r27c M27 hN
      replace h := hN
      clear hN
      refine g_if_eq C 44 dR_cast_30 (by decide) (fun hc => ?_) (fun hc => ?_)
      · replace h := h.1 hc
        refine g_locals (lv' := [(0, .ref (ad 0)), (1, iv a1), (2, iv a2), (3, iv a3)]) rfl ?_
        exact pB44  _ h
      · replace h := h.2 hc
        refine g_iload_n C dR_cast_33 rfl ?_
        refine g_bipush C dR_cast_34 rfl ?_
        refine g_irem C dR_cast_36 (by decide) ?_
        refine g_top (y := Int.tmod (wrap a3) 10) rfl ?_
        refine g_if_ne C 44 dR_cast_37 (by decide) (fun hc => ?_) (fun hc => ?_)
        · replace h := h.1 hc
          refine g_locals (lv' := [(0, .ref (ad 0)), (1, iv a1), (2, iv a2), (3, iv a3)]) rfl ?_
          exact pB44  _ h
        · replace h := h.2 hc
          refine g_iconst C dR_cast_40 ?_
          refine g_goto C 45 dR_cast_41 (by decide) ?_
          refine g_locals (lv' := [(0, .ref (ad 0)), (1, iv a1), (2, iv a2), (3, iv a3)]) rfl ?_
          exact pB45 _ _ h
def w_Rdraw  (M : gSt) (k : Int → gSt → Prop) : Prop :=
∀ M20 : gSt, M20 = wr M 1 8 (((M 1 8) * 1103515245) + 12345) → (k (xushr (M20 1 8) 8) M20)
set_option maxHeartbeats 4000000 in
set_option maxRecDepth 100000 in
theorem m_Rdraw {l : Launch} {D : va_G} {cl : List vw_C} {tys : List (ClassId × FieldType)} {ad : Nat → Nat} {cI : ClassId} {ci : Nat} {Z : (Nat → Prop) → State → Prop} (hci : cl[ci]? = some (RX9, TX9, 23))  {M : gSt} {k : Int → gSt → Prop} (h : w_Rdraw  M k) : MOi l yX9_draw cX9_draw 1 .int (rmR 0 0) D cl ((cI, .int) :: tys) (wR ad cI ci) tR Z [.ref (ad 0)] M k := by
  refine moi_intro (by decide +kernel) (Nat.le_of_ble_eq_true rfl) wi_97 ?_
  intro p e s m args below meth c A Q C hR
  refine g_locals (lv' := [(0, .ref (ad 0))]) rfl ?_
  unfold w_Rdraw at h
  refine g_aload_n C dR_draw_0 rfl ?_
  refine rf_s C hci dR_draw_1 ?_
  refine g_bipush C dR_draw_4 rfl ?_
  refine g_aload_n C dR_draw_6 rfl ?_
  refine rf_s C hci dR_draw_7 ?_
  refine g_bipush C dR_draw_10 rfl ?_
  refine g_iald C (n := 536) dR_draw_12 rfl (by decide) ⟨by decide, by decide⟩ ?_
  refine g_ldc C 1103515245 wi_96 rfl dR_draw_13 ?_
  refine g_imul C dR_draw_15 ?_
  refine g_sipush C dR_draw_16 rfl ?_
  refine g_iadd C dR_draw_19 ?_
  refine g_iast C (n := 536) dR_draw_20 rfl (by decide) ⟨by decide, by decide⟩ ?_
  refine g_memname (fun M20 hM20 => ?_)
  replace h := h M20 hM20
  refine g_aload_n C dR_draw_21 rfl ?_
  refine rf_s C hci dR_draw_22 ?_
  refine g_bipush C dR_draw_25 rfl ?_
  refine g_iald C (n := 536) dR_draw_27 rfl (by decide) ⟨by decide, by decide⟩ ?_
  refine g_bipush C dR_draw_28 rfl ?_
  refine g_iushr C dR_draw_30 ?_
  exact hR _ _ _ _ dR_draw_31 rfl h
def wB_Ryear_63  (k : gSt → Prop) (r2 : Int → gSt → Prop) (X2_69 : gSt → Prop) (v1 : Int) (M : gSt) : Prop :=
r2 (v1 + 1) M
def wC_Ryear_30  (k : gSt → Prop) (r2 : Int → gSt → Prop) (X2_69 : gSt → Prop) (r30 : Int → Int → gSt → Prop) (X30_63 : Int → gSt → Prop) (v1 : Int) (v2 : Int) (M : gSt) : Prop :=

  (5 < wrap v2 →
    X30_63 v1 M) ∧
  (wrap v2 ≤ 5 →
    w_Rits v1 v2 M (fun r41c M41 => w_Rits v1 v2 M41 (fun r47c M47 => w_Rlays1 v1 v2 (r41c - (Int.tdiv (wrap r47c) 100)) M47 (fun M54 => r30 v1 (v2 + 1) M54))))
def wL_Ryear_30  (k : gSt → Prop) (r2 : Int → gSt → Prop) (X2_69 : gSt → Prop) (X30_63 : Int → gSt → Prop) : Nat → Int → Int → gSt → Prop
  | 0 => fun _ _ _ => False
  | n + 1 => fun v1 v2 M => wC_Ryear_30  k r2 X2_69 (wL_Ryear_30  k r2 X2_69 X30_63 n) X30_63 v1 v2 M
def wC_Ryear_2  (k : gSt → Prop) (r2 : Int → gSt → Prop) (X2_69 : gSt → Prop) (v1 : Int) (M : gSt) : Prop :=

  (wrap (M 1 0) ≤ wrap v1 →
    X2_69  M) ∧
  (wrap v1 < wrap (M 1 0) →
    w_Rdraw  M (fun r13c M13 => w_Rits v1 1 M13 (fun r22c M22 => 
    (wrap r22c ≤ wrap (Int.tmod (wrap r13c) 100) →
      wB_Ryear_63  k r2 X2_69 v1 M22) ∧
    (wrap (Int.tmod (wrap r13c) 100) < wrap r22c →
      ∃ n, wL_Ryear_30  k r2 X2_69 (fun u1_30 M30 =>
        wB_Ryear_63  k r2 X2_69 u1_30 M30) n v1 2 M22))))
def wL_Ryear_2  (k : gSt → Prop)  (X2_69 : gSt → Prop) : Nat → Int → gSt → Prop
  | 0 => fun _ _ => False
  | n + 1 => fun v1 M => wC_Ryear_2  k  (wL_Ryear_2  k  X2_69 n) X2_69 v1 M
def w_Ryear  (M : gSt) (k : gSt → Prop) : Prop :=
∃ n, wL_Ryear_2  k  (fun  M2 =>
    ∀ M78 : gSt, M78 = wr M2 1 5 ((M2 1 5) + 1) → (k M78)) n 0 M
set_option maxHeartbeats 4000000 in
set_option maxRecDepth 100000 in
theorem m_Ryear {l : Launch} {D : va_G} {cl : List vw_C} {tys : List (ClassId × FieldType)} {ad : Nat → Nat} {cI : ClassId} {ci : Nat} {Z : (Nat → Prop) → State → Prop} (hci : cl[ci]? = some (RX9, TX9, 23))  {M : gSt} {k : gSt → Prop} (h : w_Ryear  M k) : MOv l yX9_year cX9_year 3 (rmR 1 23) D cl ((cI, .int) :: tys) (wR ad cI ci) tR Z [.ref (ad 0)] M k := by
  refine mov_intro (by decide +kernel) (Nat.le_of_ble_eq_true rfl) wi_101 ?_
  intro p e s m args below meth c A Q C hR
  have pB63 : ∀ (r2 : Int → gSt → Prop) (X2_69 : gSt → Prop) (hr2 : ∀ (v1 : Int) (M : gSt), r2 v1 M → gG p l e (rmR 1 23) s m args below meth c Q D cl A (wR ad cI ci) 3 2 [(0, .ref (ad 0)), (1, iv v1)] [] M) (hX2_69 : ∀  (M : gSt), X2_69  M → gG p l e (rmR 1 23) s m args below meth c Q D cl A (wR ad cI ci) 3 69 [(0, .ref (ad 0))] [] M) (v1 : Int) (M : gSt), wB_Ryear_63  k r2 X2_69 v1 M → gG p l e (rmR 1 23) s m args below meth c Q D cl A (wR ad cI ci) 3 63 [(0, .ref (ad 0)), (1, iv v1)] [] M := by
    intro r2 X2_69 hr2 hX2_69 v1 M h
    unfold wB_Ryear_63 at h
    refine g_iinc C dR_year_63 rfl (by decide) rfl ?_
    refine g_locals (lv' := [(0, .ref (ad 0)), (1, iv (v1 + 1))]) rfl ?_
    refine g_goto C 2 dR_year_66 (by decide) ?_
    refine g_locals (lv' := [(0, .ref (ad 0)), (1, iv (v1 + 1))]) rfl ?_
    exact hr2 _  _ h
  have pC30 : ∀ (r2 : Int → gSt → Prop) (X2_69 : gSt → Prop) (r30 : Int → Int → gSt → Prop) (X30_63 : Int → gSt → Prop) (hr2 : ∀ (v1 : Int) (M : gSt), r2 v1 M → gG p l e (rmR 1 23) s m args below meth c Q D cl A (wR ad cI ci) 3 2 [(0, .ref (ad 0)), (1, iv v1)] [] M) (hX2_69 : ∀  (M : gSt), X2_69  M → gG p l e (rmR 1 23) s m args below meth c Q D cl A (wR ad cI ci) 3 69 [(0, .ref (ad 0))] [] M) (hr30 : ∀ (v1 : Int) (v2 : Int) (M : gSt), r30 v1 v2 M → gG p l e (rmR 1 23) s m args below meth c Q D cl A (wR ad cI ci) 3 30 [(0, .ref (ad 0)), (1, iv v1), (2, iv v2)] [] M) (hX30_63 : ∀ (v1 : Int) (M : gSt), X30_63 v1 M → gG p l e (rmR 1 23) s m args below meth c Q D cl A (wR ad cI ci) 3 63 [(0, .ref (ad 0)), (1, iv v1)] [] M) (v1 : Int) (v2 : Int) (M : gSt), wC_Ryear_30  k r2 X2_69 r30 X30_63 v1 v2 M → gG p l e (rmR 1 23) s m args below meth c Q D cl A (wR ad cI ci) 3 30 [(0, .ref (ad 0)), (1, iv v1), (2, iv v2)] [] M := by
    intro r2 X2_69 r30 X30_63 hr2 hX2_69 hr30 hX30_63 v1 v2 M h
    unfold wC_Ryear_30 at h
    refine g_iload_n C dR_year_30 rfl ?_
    refine g_iconst C dR_year_31 ?_
    refine g_icmp_gt C 63 dR_year_32 (by decide) (fun hc => ?_) (fun hc => ?_)
    · replace h := h.1 hc
      refine g_locals (lv' := [(0, .ref (ad 0)), (1, iv v1)]) rfl ?_
      exact hX30_63 _  _ h
    · replace h := h.2 hc
      refine g_aload_n C dR_year_35 rfl ?_
      refine g_iload_n C dR_year_36 rfl ?_
      refine g_iload_n C dR_year_37 rfl ?_
      refine g_aload_n C dR_year_38 rfl ?_
      refine g_iload_n C dR_year_39 rfl ?_
      refine g_iload_n C dR_year_40 rfl ?_
      refine g_callVi C (nargs := 2) (o := 0) (st := [iv v2, iv v1, .ref (ad 0)]) (m_Rits hci h) rfl (by decide) hci rfl gd_its (by decide +kernel) ⟨rfl, rfl⟩ dR_year_41 ⟨by decide, by decide⟩ rfl rfl (Nat.le_of_ble_eq_true rfl) ?_
      intro r41c M41 hN
      replace h := hN
      clear hN
      refine g_aload_n C dR_year_44 rfl ?_
      refine g_iload_n C dR_year_45 rfl ?_
      refine g_iload_n C dR_year_46 rfl ?_
      refine g_callVi C (nargs := 2) (o := 0) (st := [iv r41c, iv v2, iv v1, .ref (ad 0)]) (m_Rits hci h) rfl (by decide) hci rfl gd_its (by decide +kernel) ⟨rfl, rfl⟩ dR_year_47 ⟨by decide, by decide⟩ rfl rfl (Nat.le_of_ble_eq_true rfl) ?_
      intro r47c M47 hN
      replace h := hN
      clear hN
      refine g_bipush C dR_year_50 rfl ?_
      refine g_idiv C dR_year_52 (by decide) ?_
      refine g_top (y := Int.tdiv (wrap r47c) 100) rfl ?_
      refine g_isub C dR_year_53 ?_
      refine g_callVv C (nargs := 3) (o := 0) (st := []) (m_Rlays1 hci h) rfl (by decide) hci rfl gd_lays1 (by decide +kernel) ⟨rfl, rfl⟩ dR_year_54 ⟨by decide, by decide⟩ rfl rfl (Nat.le_of_ble_eq_true rfl) ?_
      intro M54 hN
      replace h := hN
      clear hN
      refine g_iinc C dR_year_57 rfl (by decide) rfl ?_
      refine g_locals (lv' := [(0, .ref (ad 0)), (1, iv v1), (2, iv (v2 + 1))]) rfl ?_
      refine g_goto C 30 dR_year_60 (by decide) ?_
      refine g_locals (lv' := [(0, .ref (ad 0)), (1, iv v1), (2, iv (v2 + 1))]) rfl ?_
      exact hr30 _ _  _ h
  have pL30 : ∀ (r2 : Int → gSt → Prop) (X2_69 : gSt → Prop) (X30_63 : Int → gSt → Prop) (hr2 : ∀ (v1 : Int) (M : gSt), r2 v1 M → gG p l e (rmR 1 23) s m args below meth c Q D cl A (wR ad cI ci) 3 2 [(0, .ref (ad 0)), (1, iv v1)] [] M) (hX2_69 : ∀  (M : gSt), X2_69  M → gG p l e (rmR 1 23) s m args below meth c Q D cl A (wR ad cI ci) 3 69 [(0, .ref (ad 0))] [] M) (hX30_63 : ∀ (v1 : Int) (M : gSt), X30_63 v1 M → gG p l e (rmR 1 23) s m args below meth c Q D cl A (wR ad cI ci) 3 63 [(0, .ref (ad 0)), (1, iv v1)] [] M) (n : Nat) (v1 : Int) (v2 : Int) (M : gSt), wL_Ryear_30  k r2 X2_69 X30_63 n v1 v2 M → gG p l e (rmR 1 23) s m args below meth c Q D cl A (wR ad cI ci) 3 30 [(0, .ref (ad 0)), (1, iv v1), (2, iv v2)] [] M := by
    intro r2 X2_69 X30_63 hr2 hX2_69 hX30_63 n
    induction n with
    | zero => intro v1 v2 M h; exact h.elim
    | succ n ih =>
      intro v1 v2 M h
      exact pC30 r2 X2_69 (wL_Ryear_30  k r2 X2_69 X30_63 n) X30_63 hr2 hX2_69 ih hX30_63 v1 v2 M h
  have pC2 : ∀ (r2 : Int → gSt → Prop) (X2_69 : gSt → Prop) (hr2 : ∀ (v1 : Int) (M : gSt), r2 v1 M → gG p l e (rmR 1 23) s m args below meth c Q D cl A (wR ad cI ci) 3 2 [(0, .ref (ad 0)), (1, iv v1)] [] M) (hX2_69 : ∀  (M : gSt), X2_69  M → gG p l e (rmR 1 23) s m args below meth c Q D cl A (wR ad cI ci) 3 69 [(0, .ref (ad 0))] [] M) (v1 : Int) (M : gSt), wC_Ryear_2  k r2 X2_69 v1 M → gG p l e (rmR 1 23) s m args below meth c Q D cl A (wR ad cI ci) 3 2 [(0, .ref (ad 0)), (1, iv v1)] [] M := by
    intro r2 X2_69 hr2 hX2_69 v1 M h
    unfold wC_Ryear_2 at h
    refine g_iload_n C dR_year_2 rfl ?_
    refine g_aload_n C dR_year_3 rfl ?_
    refine rf_s C hci dR_year_4 ?_
    refine g_iconst C dR_year_7 ?_
    refine g_iald C (n := 536) dR_year_8 rfl (by decide) ⟨by decide, by decide⟩ ?_
    refine g_icmp_ge C 69 dR_year_9 (by decide) (fun hc => ?_) (fun hc => ?_)
    · replace h := h.1 hc
      refine g_locals (lv' := [(0, .ref (ad 0))]) rfl ?_
      exact hX2_69  _ h
    · replace h := h.2 hc
      refine g_aload_n C dR_year_12 rfl ?_
      refine g_callVi C (nargs := 0) (o := 0) (st := []) (m_Rdraw hci h) rfl (by decide) hci rfl gd_draw (by decide +kernel) ⟨rfl, rfl⟩ dR_year_13 ⟨by decide, by decide⟩ rfl rfl (Nat.le_of_ble_eq_true rfl) ?_
      intro r13c M13 hN
      replace h := hN
      clear hN
      refine g_bipush C dR_year_16 rfl ?_
      refine g_irem C dR_year_18 (by decide) ?_
      refine g_top (y := Int.tmod (wrap r13c) 100) rfl ?_
      refine g_aload_n C dR_year_19 rfl ?_
      refine g_iload_n C dR_year_20 rfl ?_
      refine g_iconst C dR_year_21 ?_
      refine g_callVi C (nargs := 2) (o := 0) (st := [iv (Int.tmod (wrap r13c) 100)]) (m_Rits hci h) rfl (by decide) hci rfl gd_its (by decide +kernel) ⟨rfl, rfl⟩ dR_year_22 ⟨by decide, by decide⟩ rfl rfl (Nat.le_of_ble_eq_true rfl) ?_
      intro r22c M22 hN
      replace h := hN
      clear hN
      refine g_icmp_ge C 63 dR_year_25 (by decide) (fun hc => ?_) (fun hc => ?_)
      · replace h := h.1 hc
        refine g_locals (lv' := [(0, .ref (ad 0)), (1, iv v1)]) rfl ?_
        exact pB63 r2 X2_69 hr2 hX2_69 _ _ h
      · replace h := h.2 hc
        refine g_iconst C dR_year_28 ?_
        refine g_istore_n C dR_year_29 (by decide) rfl ?_
        refine g_locals (lv' := [(0, .ref (ad 0)), (1, iv v1), (2, iv 2)]) rfl ?_
        refine g_locals (lv' := [(0, .ref (ad 0)), (1, iv v1), (2, iv 2)]) rfl ?_
        obtain ⟨n, h⟩ := h
        refine pL30 r2 X2_69 _ hr2 hX2_69 ?_ n _ _ _ h
        · intro u1_30 M30 hN
          replace h := hN
          clear hN
          refine g_locals (lv' := [(0, .ref (ad 0)), (1, iv u1_30)]) rfl ?_
          exact pB63 r2 X2_69 hr2 hX2_69 _ _ h
  have pL2 : ∀  (X2_69 : gSt → Prop) (hX2_69 : ∀  (M : gSt), X2_69  M → gG p l e (rmR 1 23) s m args below meth c Q D cl A (wR ad cI ci) 3 69 [(0, .ref (ad 0))] [] M) (n : Nat) (v1 : Int) (M : gSt), wL_Ryear_2  k  X2_69 n v1 M → gG p l e (rmR 1 23) s m args below meth c Q D cl A (wR ad cI ci) 3 2 [(0, .ref (ad 0)), (1, iv v1)] [] M := by
    intro  X2_69 hX2_69 n
    induction n with
    | zero => intro v1 M h; exact h.elim
    | succ n ih =>
      intro v1 M h
      exact pC2  (wL_Ryear_2  k  X2_69 n) X2_69 ih hX2_69 v1 M h
  refine g_locals (lv' := [(0, .ref (ad 0))]) rfl ?_
  unfold w_Ryear at h
  refine g_iconst C dR_year_0 ?_
  refine g_istore_n C dR_year_1 (by decide) rfl ?_
  refine g_locals (lv' := [(0, .ref (ad 0)), (1, iv 0)]) rfl ?_
  refine g_locals (lv' := [(0, .ref (ad 0)), (1, iv 0)]) rfl ?_
  obtain ⟨n, h⟩ := h
  refine pL2 _ ?_ n _ _ h
  · intro  M2 hN
    replace h := hN
    clear hN
    refine g_aload_n C dR_year_69 rfl ?_
    refine rf_s C hci dR_year_70 ?_
    refine g_iconst C dR_year_73 ?_
    refine g_dup2 C dR_year_74 rfl rfl ?_
    refine g_iald C (n := 536) dR_year_75 rfl (by decide) ⟨by decide, by decide⟩ ?_
    refine g_iconst C dR_year_76 ?_
    refine g_iadd C dR_year_77 ?_
    refine g_iast C (n := 536) dR_year_78 rfl (by decide) ⟨by decide, by decide⟩ ?_
    refine g_memname (fun M78 hM78 => ?_)
    replace h := h M78 hM78
    exact hR _ _ _ dR_year_79 h
def wC_Rgo_2 (a1 : Int) (k : gSt → Prop) (r2 : Int → gSt → Prop) (X2_17 : gSt → Prop) (v2 : Int) (M : gSt) : Prop :=

  (wrap a1 ≤ wrap v2 →
    X2_17  M) ∧
  (wrap v2 < wrap a1 →
    w_Ryear  M (fun M8 => r2 (v2 + 1) M8))
def wL_Rgo_2 (a1 : Int) (k : gSt → Prop)  (X2_17 : gSt → Prop) : Nat → Int → gSt → Prop
  | 0 => fun _ _ => False
  | n + 1 => fun v2 M => wC_Rgo_2 a1 k  (wL_Rgo_2 a1 k  X2_17 n) X2_17 v2 M
def w_Rgo (a1 : Int) (M : gSt) (k : gSt → Prop) : Prop :=
∃ n, wL_Rgo_2 a1 k  (fun  M2 =>
    k M2) n 0 M
set_option maxHeartbeats 4000000 in
set_option maxRecDepth 100000 in
theorem m_Rgo {l : Launch} {D : va_G} {cl : List vw_C} {tys : List (ClassId × FieldType)} {ad : Nat → Nat} {cI : ClassId} {ci : Nat} {Z : (Nat → Prop) → State → Prop} (hci : cl[ci]? = some (RX9, TX9, 23)) {a1 : Int} {M : gSt} {k : gSt → Prop} (h : w_Rgo a1 M k) : MOv l yX9_go cX9_go 3 (rmR 2 45) D cl ((cI, .int) :: tys) (wR ad cI ci) tR Z [.ref (ad 0), iv a1] M k := by
  refine mov_intro (by decide +kernel) (Nat.le_of_ble_eq_true rfl) wi_105 ?_
  intro p e s m args below meth c A Q C hR
  have pC2 : ∀ (r2 : Int → gSt → Prop) (X2_17 : gSt → Prop) (hr2 : ∀ (v2 : Int) (M : gSt), r2 v2 M → gG p l e (rmR 2 45) s m args below meth c Q D cl A (wR ad cI ci) 3 2 [(0, .ref (ad 0)), (1, iv a1), (2, iv v2)] [] M) (hX2_17 : ∀  (M : gSt), X2_17  M → gG p l e (rmR 2 45) s m args below meth c Q D cl A (wR ad cI ci) 3 17 [] [] M) (v2 : Int) (M : gSt), wC_Rgo_2 a1 k r2 X2_17 v2 M → gG p l e (rmR 2 45) s m args below meth c Q D cl A (wR ad cI ci) 3 2 [(0, .ref (ad 0)), (1, iv a1), (2, iv v2)] [] M := by
    intro r2 X2_17 hr2 hX2_17 v2 M h
    unfold wC_Rgo_2 at h
    refine g_iload_n C dR_go_2 rfl ?_
    refine g_iload_n C dR_go_3 rfl ?_
    refine g_icmp_ge C 17 dR_go_4 (by decide) (fun hc => ?_) (fun hc => ?_)
    · replace h := h.1 hc
      refine g_locals (lv' := []) rfl ?_
      exact hX2_17  _ h
    · replace h := h.2 hc
      refine g_aload_n C dR_go_7 rfl ?_
      refine g_callVv C (nargs := 0) (o := 0) (st := []) (m_Ryear hci h) rfl (by decide) hci rfl gd_year (by decide +kernel) ⟨rfl, rfl⟩ dR_go_8 ⟨by decide, by decide⟩ rfl rfl (Nat.le_of_ble_eq_true rfl) ?_
      intro M8 hN
      replace h := hN
      clear hN
      refine g_iinc C dR_go_11 rfl (by decide) rfl ?_
      refine g_locals (lv' := [(0, .ref (ad 0)), (1, iv a1), (2, iv (v2 + 1))]) rfl ?_
      refine g_goto C 2 dR_go_14 (by decide) ?_
      refine g_locals (lv' := [(0, .ref (ad 0)), (1, iv a1), (2, iv (v2 + 1))]) rfl ?_
      exact hr2 _  _ h
  have pL2 : ∀  (X2_17 : gSt → Prop) (hX2_17 : ∀  (M : gSt), X2_17  M → gG p l e (rmR 2 45) s m args below meth c Q D cl A (wR ad cI ci) 3 17 [] [] M) (n : Nat) (v2 : Int) (M : gSt), wL_Rgo_2 a1 k  X2_17 n v2 M → gG p l e (rmR 2 45) s m args below meth c Q D cl A (wR ad cI ci) 3 2 [(0, .ref (ad 0)), (1, iv a1), (2, iv v2)] [] M := by
    intro  X2_17 hX2_17 n
    induction n with
    | zero => intro v2 M h; exact h.elim
    | succ n ih =>
      intro v2 M h
      exact pC2  (wL_Rgo_2 a1 k  X2_17 n) X2_17 ih hX2_17 v2 M h
  refine g_locals (lv' := [(0, .ref (ad 0)), (1, iv a1)]) rfl ?_
  unfold w_Rgo at h
  refine g_iconst C dR_go_0 ?_
  refine g_istore_n C dR_go_1 (by decide) rfl ?_
  refine g_locals (lv' := [(0, .ref (ad 0)), (1, iv a1), (2, iv 0)]) rfl ?_
  refine g_locals (lv' := [(0, .ref (ad 0)), (1, iv a1), (2, iv 0)]) rfl ?_
  obtain ⟨n, h⟩ := h
  refine pL2 _ ?_ n _ _ h
  · intro  M2 hN
    replace h := hN
    clear hN
    exact hR _ _ _ dR_go_17 h
def wC_RallGrams_4  (k : Int → gSt → Prop) (r4 : Int → Int → gSt → Prop) (X4_29 : Int → gSt → Prop) (v1 : Int) (v2 : Int) (M : gSt) : Prop :=

  (wrap (M 1 0) ≤ wrap v2 →
    X4_29 v1 M) ∧
  (wrap v2 < wrap (M 1 0) →
    w_Rits v2 2 M (fun r18c M18 => ∀ x1_22 : Int, x1_22 = v1 + r18c → (r4 x1_22 (v2 + 1) M18)))
def wL_RallGrams_4  (k : Int → gSt → Prop)  (X4_29 : Int → gSt → Prop) : Nat → Int → Int → gSt → Prop
  | 0 => fun _ _ _ => False
  | n + 1 => fun v1 v2 M => wC_RallGrams_4  k  (wL_RallGrams_4  k  X4_29 n) X4_29 v1 v2 M
def w_RallGrams  (M : gSt) (k : Int → gSt → Prop) : Prop :=
∃ n, wL_RallGrams_4  k  (fun u1_4 M4 =>
    k u1_4 M4) n 0 0 M
set_option maxHeartbeats 4000000 in
set_option maxRecDepth 100000 in
theorem m_RallGrams {l : Launch} {D : va_G} {cl : List vw_C} {tys : List (ClassId × FieldType)} {ad : Nat → Nat} {cI : ClassId} {ci : Nat} {Z : (Nat → Prop) → State → Prop} (hci : cl[ci]? = some (RX9, TX9, 23))  {M : gSt} {k : Int → gSt → Prop} (h : w_RallGrams  M k) : MOi l yX9_allGrams cX9_allGrams 3 .int (rmR 1 22) D cl ((cI, .int) :: tys) (wR ad cI ci) tR Z [.ref (ad 0)] M k := by
  refine moi_intro (by decide +kernel) (Nat.le_of_ble_eq_true rfl) wi_106 ?_
  intro p e s m args below meth c A Q C hR
  have pC4 : ∀ (r4 : Int → Int → gSt → Prop) (X4_29 : Int → gSt → Prop) (hr4 : ∀ (v1 : Int) (v2 : Int) (M : gSt), r4 v1 v2 M → gG p l e (rmR 1 22) s m args below meth c Q D cl A (wR ad cI ci) 3 4 [(0, .ref (ad 0)), (1, iv v1), (2, iv v2)] [] M) (hX4_29 : ∀ (v1 : Int) (M : gSt), X4_29 v1 M → gG p l e (rmR 1 22) s m args below meth c Q D cl A (wR ad cI ci) 3 29 [(1, iv v1)] [] M) (v1 : Int) (v2 : Int) (M : gSt), wC_RallGrams_4  k r4 X4_29 v1 v2 M → gG p l e (rmR 1 22) s m args below meth c Q D cl A (wR ad cI ci) 3 4 [(0, .ref (ad 0)), (1, iv v1), (2, iv v2)] [] M := by
    intro r4 X4_29 hr4 hX4_29 v1 v2 M h
    unfold wC_RallGrams_4 at h
    refine g_iload_n C dR_allGrams_4 rfl ?_
    refine g_aload_n C dR_allGrams_5 rfl ?_
    refine rf_s C hci dR_allGrams_6 ?_
    refine g_iconst C dR_allGrams_9 ?_
    refine g_iald C (n := 536) dR_allGrams_10 rfl (by decide) ⟨by decide, by decide⟩ ?_
    refine g_icmp_ge C 29 dR_allGrams_11 (by decide) (fun hc => ?_) (fun hc => ?_)
    · replace h := h.1 hc
      refine g_locals (lv' := [(1, iv v1)]) rfl ?_
      exact hX4_29 _  _ h
    · replace h := h.2 hc
      refine g_iload_n C dR_allGrams_14 rfl ?_
      refine g_aload_n C dR_allGrams_15 rfl ?_
      refine g_iload_n C dR_allGrams_16 rfl ?_
      refine g_iconst C dR_allGrams_17 ?_
      refine g_callVi C (nargs := 2) (o := 0) (st := [iv v1]) (m_Rits hci h) rfl (by decide) hci rfl gd_its (by decide +kernel) ⟨rfl, rfl⟩ dR_allGrams_18 ⟨by decide, by decide⟩ rfl rfl (Nat.le_of_ble_eq_true rfl) ?_
      intro r18c M18 hN
      replace h := hN
      clear hN
      refine g_iadd C dR_allGrams_21 ?_
      refine g_name (fun x1_22 hx1_22 => ?_)
      replace h := h x1_22 hx1_22
      refine g_istore_n C dR_allGrams_22 (by decide) rfl ?_
      refine g_locals (lv' := [(0, .ref (ad 0)), (1, iv x1_22), (2, iv v2)]) rfl ?_
      refine g_iinc C dR_allGrams_23 rfl (by decide) rfl ?_
      refine g_locals (lv' := [(0, .ref (ad 0)), (1, iv x1_22), (2, iv (v2 + 1))]) rfl ?_
      refine g_goto C 4 dR_allGrams_26 (by decide) ?_
      refine g_locals (lv' := [(0, .ref (ad 0)), (1, iv x1_22), (2, iv (v2 + 1))]) rfl ?_
      exact hr4 _ _  _ h
  have pL4 : ∀  (X4_29 : Int → gSt → Prop) (hX4_29 : ∀ (v1 : Int) (M : gSt), X4_29 v1 M → gG p l e (rmR 1 22) s m args below meth c Q D cl A (wR ad cI ci) 3 29 [(1, iv v1)] [] M) (n : Nat) (v1 : Int) (v2 : Int) (M : gSt), wL_RallGrams_4  k  X4_29 n v1 v2 M → gG p l e (rmR 1 22) s m args below meth c Q D cl A (wR ad cI ci) 3 4 [(0, .ref (ad 0)), (1, iv v1), (2, iv v2)] [] M := by
    intro  X4_29 hX4_29 n
    induction n with
    | zero => intro v1 v2 M h; exact h.elim
    | succ n ih =>
      intro v1 v2 M h
      exact pC4  (wL_RallGrams_4  k  X4_29 n) X4_29 ih hX4_29 v1 v2 M h
  refine g_locals (lv' := [(0, .ref (ad 0))]) rfl ?_
  unfold w_RallGrams at h
  refine g_iconst C dR_allGrams_0 ?_
  refine g_istore_n C dR_allGrams_1 (by decide) rfl ?_
  refine g_locals (lv' := [(0, .ref (ad 0)), (1, iv 0)]) rfl ?_
  refine g_iconst C dR_allGrams_2 ?_
  refine g_istore_n C dR_allGrams_3 (by decide) rfl ?_
  refine g_locals (lv' := [(0, .ref (ad 0)), (1, iv 0), (2, iv 0)]) rfl ?_
  refine g_locals (lv' := [(0, .ref (ad 0)), (1, iv 0), (2, iv 0)]) rfl ?_
  obtain ⟨n, h⟩ := h
  refine pL4 _ ?_ n _ _ _ h
  · intro u1_4 M4 hN
    replace h := hN
    clear hN
    refine g_iload_n C dR_allGrams_29 rfl ?_
    exact hR _ _ _ _ dR_allGrams_30 rfl h
end
section
def w_Ryears (a1 : Int) (M : gSt) (k : Int → gSt → Prop) : Prop :=
w_Rin a1 1 60 M (fun r4c M4 => 
  (¬ wrap r4c = 0 →

    (wrap ((M4 1 5) + a1) ≤ 9999 →
      w_Rgo a1 M4 (fun M38 => w_RallGrams  M38 (fun r42c M42 => k r42c M42))) ∧
    (9999 < wrap ((M4 1 5) + a1) →
      w_Rerror 3 M4 (fun r32c M32 => k r32c M32))) ∧
  (wrap r4c = 0 →
    w_Rerror 1 M4 (fun r12c M12 => k r12c M12)))
set_option maxHeartbeats 4000000 in
set_option maxRecDepth 100000 in
theorem m_Ryears {l : Launch} {D : va_G} {cl : List vw_C} {tys : List (ClassId × FieldType)} {ad : Nat → Nat} {cI : ClassId} {ci : Nat} {Z : (Nat → Prop) → State → Prop} (hci : cl[ci]? = some (RX9, TX9, 23)) {a1 : Int} {M : gSt} {k : Int → gSt → Prop} (h : w_Ryears a1 M k) : MOi l yX9_years cX9_years 2 .int (rmR 3 67) D cl ((cI, .int) :: tys) (wR ad cI ci) tR Z [.ref (ad 0), iv a1] M k := by
  refine moi_intro (by decide +kernel) (Nat.le_of_ble_eq_true rfl) wi_113 ?_
  intro p e s m args below meth c A Q C hR
  refine g_locals (lv' := [(0, .ref (ad 0)), (1, iv a1)]) rfl ?_
  unfold w_Ryears at h
  refine g_iload_n C dR_years_0 rfl ?_
  refine g_iconst C dR_years_1 ?_
  refine g_bipush C dR_years_2 rfl ?_
  refine g_callSi C (nargs := 3) (st := []) (m_Rin hci h) gd_in (by decide +kernel) ⟨rfl, rfl⟩ dR_years_4 ⟨by decide, by decide⟩ rfl rfl (Nat.le_of_ble_eq_true rfl) ?_
  intro r4c M4 hN
  replace h := hN
  clear hN
  refine g_if_ne C 16 dR_years_7 (by decide) (fun hc => ?_) (fun hc => ?_)
  · replace h := h.1 hc
    refine g_aload_n C dR_years_16 rfl ?_
    refine rf_s C hci dR_years_17 ?_
    refine g_iconst C dR_years_20 ?_
    refine g_iald C (n := 536) dR_years_21 rfl (by decide) ⟨by decide, by decide⟩ ?_
    refine g_iload_n C dR_years_22 rfl ?_
    refine g_iadd C dR_years_23 ?_
    refine g_sipush C dR_years_24 rfl ?_
    refine g_icmp_le C 36 dR_years_27 (by decide) (fun hc => ?_) (fun hc => ?_)
    · replace h := h.1 hc
      refine g_aload_n C dR_years_36 rfl ?_
      refine g_iload_n C dR_years_37 rfl ?_
      refine g_callVv C (nargs := 1) (o := 0) (st := []) (m_Rgo hci h) rfl (by decide) hci rfl gd_go (by decide +kernel) ⟨rfl, rfl⟩ dR_years_38 ⟨by decide, by decide⟩ rfl rfl (Nat.le_of_ble_eq_true rfl) ?_
      intro M38 hN
      replace h := hN
      clear hN
      refine g_aload_n C dR_years_41 rfl ?_
      refine g_callVi C (nargs := 0) (o := 0) (st := []) (m_RallGrams hci h) rfl (by decide) hci rfl gd_allGrams (by decide +kernel) ⟨rfl, rfl⟩ dR_years_42 ⟨by decide, by decide⟩ rfl rfl (Nat.le_of_ble_eq_true rfl) ?_
      intro r42c M42 hN
      replace h := hN
      clear hN
      exact hR _ _ _ _ dR_years_45 rfl h
    · replace h := h.2 hc
      refine g_aload_n C dR_years_30 rfl ?_
      refine g_iconst C dR_years_31 ?_
      refine g_callVi C (nargs := 1) (o := 0) (st := []) (m_Rerror hci h) rfl (by decide) hci rfl gd_error (by decide +kernel) ⟨rfl, rfl⟩ dR_years_32 ⟨by decide, by decide⟩ rfl rfl (Nat.le_of_ble_eq_true rfl) ?_
      intro r32c M32 hN
      replace h := hN
      clear hN
      exact hR _ _ _ _ dR_years_35 rfl h
  · replace h := h.2 hc
    refine g_aload_n C dR_years_10 rfl ?_
    refine g_iconst C dR_years_11 ?_
    refine g_callVi C (nargs := 1) (o := 0) (st := []) (m_Rerror hci h) rfl (by decide) hci rfl gd_error (by decide +kernel) ⟨rfl, rfl⟩ dR_years_12 ⟨by decide, by decide⟩ rfl rfl (Nat.le_of_ble_eq_true rfl) ?_
    intro r12c M12 hN
    replace h := hN
    clear hN
    exact hR _ _ _ _ dR_years_15 rfl h
def wB_Rthen_28 (a1 : Int) (a2 : Int) (a3 : Int) (k : Int → gSt → Prop)   (M : gSt) : Prop :=
w_Rerror 1 M (fun r30c M30 => k r30c M30)
def w_Rthen (a1 : Int) (a2 : Int) (a3 : Int) (M : gSt) (k : Int → gSt → Prop) : Prop :=
w_Rin a1 0 60 M (fun r4c M4 => 
  (wrap r4c = 0 →
    wB_Rthen_28 a1 a2 a3 k   M4) ∧
  (¬ wrap r4c = 0 →
    w_RisThing a2 M4 (fun r12c M12 => 
    (wrap r12c = 0 →
      wB_Rthen_28 a1 a2 a3 k   M12) ∧
    (¬ wrap r12c = 0 →
      w_Rin a3 0 10 M12 (fun r22c M22 => 
      (¬ wrap r22c = 0 →
        w_Rcarry 1 3 M22 (fun M42 => w_Rgo a1 M42 (fun M47 => w_Rtold1 a2 a3 M47 (fun r53c M53 => w_Rcarry 3 1 M53 (fun M66 => k r53c M66))))) ∧
      (wrap r22c = 0 →
        wB_Rthen_28 a1 a2 a3 k   M22))))))
set_option maxHeartbeats 4000000 in
set_option maxRecDepth 100000 in
theorem m_Rthen {l : Launch} {D : va_G} {cl : List vw_C} {tys : List (ClassId × FieldType)} {ad : Nat → Nat} {cI : ClassId} {ci : Nat} {Z : (Nat → Prop) → State → Prop} (hci : cl[ci]? = some (RX9, TX9, 23)) {a1 : Int} {a2 : Int} {a3 : Int} {M : gSt} {k : Int → gSt → Prop} (h : w_Rthen a1 a2 a3 M k) : MOi l yX9_then cX9_then 5 .int (rmR 5 115) D cl ((cI, .int) :: tys) (wR ad cI ci) tR Z [.ref (ad 0), iv a1, iv a2, iv a3] M k := by
  refine moi_intro (by decide +kernel) (Nat.le_of_ble_eq_true rfl) wi_116 ?_
  intro p e s m args below meth c A Q C hR
  have pB28 : ∀    (M : gSt), wB_Rthen_28 a1 a2 a3 k   M → gG p l e (rmR 5 115) s m args below meth c Q D cl A (wR ad cI ci) 5 28 [(0, .ref (ad 0))] [] M := by
    intro    M h
    unfold wB_Rthen_28 at h
    refine g_aload_n C dR_then_28 rfl ?_
    refine g_iconst C dR_then_29 ?_
    refine g_callVi C (nargs := 1) (o := 0) (st := []) (m_Rerror hci h) rfl (by decide) hci rfl gd_error (by decide +kernel) ⟨rfl, rfl⟩ dR_then_30 ⟨by decide, by decide⟩ rfl rfl (Nat.le_of_ble_eq_true rfl) ?_
    intro r30c M30 hN
    replace h := hN
    clear hN
    exact hR _ _ _ _ dR_then_33 rfl h
  refine g_locals (lv' := [(0, .ref (ad 0)), (1, iv a1), (2, iv a2), (3, iv a3)]) rfl ?_
  unfold w_Rthen at h
  refine g_iload_n C dR_then_0 rfl ?_
  refine g_iconst C dR_then_1 ?_
  refine g_bipush C dR_then_2 rfl ?_
  refine g_callSi C (nargs := 3) (st := []) (m_Rin hci h) gd_in (by decide +kernel) ⟨rfl, rfl⟩ dR_then_4 ⟨by decide, by decide⟩ rfl rfl (Nat.le_of_ble_eq_true rfl) ?_
  intro r4c M4 hN
  replace h := hN
  clear hN
  refine g_if_eq C 28 dR_then_7 (by decide) (fun hc => ?_) (fun hc => ?_)
  · replace h := h.1 hc
    refine g_locals (lv' := [(0, .ref (ad 0))]) rfl ?_
    exact pB28  _ h
  · replace h := h.2 hc
    refine g_aload_n C dR_then_10 rfl ?_
    refine g_iload_n C dR_then_11 rfl ?_
    refine g_callVi C (nargs := 1) (o := 0) (st := []) (m_RisThing hci h) rfl (by decide) hci rfl gd_isThing (by decide +kernel) ⟨rfl, rfl⟩ dR_then_12 ⟨by decide, by decide⟩ rfl rfl (Nat.le_of_ble_eq_true rfl) ?_
    intro r12c M12 hN
    replace h := hN
    clear hN
    refine g_if_eq C 28 dR_then_15 (by decide) (fun hc => ?_) (fun hc => ?_)
    · replace h := h.1 hc
      refine g_locals (lv' := [(0, .ref (ad 0))]) rfl ?_
      exact pB28  _ h
    · replace h := h.2 hc
      refine g_iload_n C dR_then_18 rfl ?_
      refine g_iconst C dR_then_19 ?_
      refine g_bipush C dR_then_20 rfl ?_
      refine g_callSi C (nargs := 3) (st := []) (m_Rin hci h) gd_in (by decide +kernel) ⟨rfl, rfl⟩ dR_then_22 ⟨by decide, by decide⟩ rfl rfl (Nat.le_of_ble_eq_true rfl) ?_
      intro r22c M22 hN
      replace h := hN
      clear hN
      refine g_if_ne C 34 dR_then_25 (by decide) (fun hc => ?_) (fun hc => ?_)
      · replace h := h.1 hc
        refine g_aload_n C dR_then_34 rfl ?_
        refine rf_s C hci dR_then_35 ?_
        refine g_aload_n C dR_then_38 rfl ?_
        refine rf_put C hci dR_then_39 ?_
        refine g_callSv C (nargs := 2) (st := []) (m_Rcarry hci h) gd_carry (by decide +kernel) ⟨rfl, rfl⟩ dR_then_42 ⟨by decide, by decide⟩ rfl rfl (Nat.le_of_ble_eq_true rfl) ?_
        intro M42 hN
        replace h := hN
        clear hN
        refine g_aload_n C dR_then_45 rfl ?_
        refine g_iload_n C dR_then_46 rfl ?_
        refine g_callVv C (nargs := 1) (o := 0) (st := []) (m_Rgo hci h) rfl (by decide) hci rfl gd_go (by decide +kernel) ⟨rfl, rfl⟩ dR_then_47 ⟨by decide, by decide⟩ rfl rfl (Nat.le_of_ble_eq_true rfl) ?_
        intro M47 hN
        replace h := hN
        clear hN
        refine g_aload_n C dR_then_50 rfl ?_
        refine g_iload_n C dR_then_51 rfl ?_
        refine g_iload_n C dR_then_52 rfl ?_
        refine g_callVi C (nargs := 2) (o := 0) (st := []) (m_Rtold1 hci h) rfl (by decide) hci rfl gd_told1 (by decide +kernel) ⟨rfl, rfl⟩ dR_then_53 ⟨by decide, by decide⟩ rfl rfl (Nat.le_of_ble_eq_true rfl) ?_
        intro r53c M53 hN
        replace h := hN
        clear hN
        refine g_istore C dR_then_56 (by decide) rfl ?_
        refine g_locals (lv' := [(0, .ref (ad 0)), (1, iv a1), (2, iv a2), (3, iv a3), (4, iv r53c)]) rfl ?_
        refine g_aload_n C dR_then_58 rfl ?_
        refine rf_put C hci dR_then_59 ?_
        refine g_aload_n C dR_then_62 rfl ?_
        refine rf_s C hci dR_then_63 ?_
        refine g_callSv C (nargs := 2) (st := []) (m_Rcarry hci h) gd_carry (by decide +kernel) ⟨rfl, rfl⟩ dR_then_66 ⟨by decide, by decide⟩ rfl rfl (Nat.le_of_ble_eq_true rfl) ?_
        intro M66 hN
        replace h := hN
        clear hN
        refine g_iload C dR_then_69 rfl ?_
        exact hR _ _ _ _ dR_then_71 rfl h
      · replace h := h.2 hc
        refine g_locals (lv' := [(0, .ref (ad 0))]) rfl ?_
        exact pB28  _ h
def w_Rseed (a1 : Int) (M : gSt) (k : Int → gSt → Prop) : Prop :=
∀ x2_7 : Int, x2_7 = M 1 8 → (∀ M15 : gSt, M15 = wr M 1 8 a1 → (k x2_7 M15))
set_option maxHeartbeats 4000000 in
set_option maxRecDepth 100000 in
theorem m_Rseed {l : Launch} {D : va_G} {cl : List vw_C} {tys : List (ClassId × FieldType)} {ad : Nat → Nat} {cI : ClassId} {ci : Nat} {Z : (Nat → Prop) → State → Prop} (hci : cl[ci]? = some (RX9, TX9, 23)) {a1 : Int} {M : gSt} {k : Int → gSt → Prop} (h : w_Rseed a1 M k) : MOi l yX9_seed cX9_seed 3 .int (rmR 0 0) D cl ((cI, .int) :: tys) (wR ad cI ci) tR Z [.ref (ad 0), iv a1] M k := by
  refine moi_intro (by decide +kernel) (Nat.le_of_ble_eq_true rfl) wi_117 ?_
  intro p e s m args below meth c A Q C hR
  refine g_locals (lv' := [(0, .ref (ad 0)), (1, iv a1)]) rfl ?_
  unfold w_Rseed at h
  refine g_aload_n C dR_seed_0 rfl ?_
  refine rf_s C hci dR_seed_1 ?_
  refine g_bipush C dR_seed_4 rfl ?_
  refine g_iald C (n := 536) dR_seed_6 rfl (by decide) ⟨by decide, by decide⟩ ?_
  refine g_name (fun x2_7 hx2_7 => ?_)
  replace h := h x2_7 hx2_7
  refine g_istore_n C dR_seed_7 (by decide) rfl ?_
  refine g_locals (lv' := [(0, .ref (ad 0)), (1, iv a1), (2, iv x2_7)]) rfl ?_
  refine g_aload_n C dR_seed_8 rfl ?_
  refine rf_s C hci dR_seed_9 ?_
  refine g_bipush C dR_seed_12 rfl ?_
  refine g_iload_n C dR_seed_14 rfl ?_
  refine g_iast C (n := 536) dR_seed_15 rfl (by decide) ⟨by decide, by decide⟩ ?_
  refine g_memname (fun M15 hM15 => ?_)
  replace h := h M15 hM15
  refine g_iload_n C dR_seed_16 rfl ?_
  exact hR _ _ _ _ dR_seed_17 rfl h
def wC_Rfeed_39 (a1 : Int) (a2 : Int) (k : Int → gSt → Prop) (r39 : Int → gSt → Prop) (X39_90 : gSt → Prop) (v4 : Int) (M : gSt) : Prop :=

  (wrap a2 ≤ wrap v4 →
    X39_90  M) ∧
  (wrap v4 < wrap a2 →
    (0 ≤ 452 + (M 1 6) ∧ 452 + (M 1 6) < 536) ∧ (∀ M72 : gSt, M72 = wr M 1 (452 + (M 1 6)) (yand (yshr a1 (8 * v4)) 255) → (∀ M83 : gSt, M83 = wr M72 1 6 ((M72 1 6) + 1) → (r39 (v4 + 1) M83))))
def wL_Rfeed_39 (a1 : Int) (a2 : Int) (k : Int → gSt → Prop)  (X39_90 : gSt → Prop) : Nat → Int → gSt → Prop
  | 0 => fun _ _ => False
  | n + 1 => fun v4 M => wC_Rfeed_39 a1 a2 k  (wL_Rfeed_39 a1 a2 k  X39_90 n) X39_90 v4 M
def w_Rfeed (a1 : Int) (a2 : Int) (M : gSt) (k : Int → gSt → Prop) : Prop :=
w_Rin a2 1 8 M (fun r4c M4 => 
  (¬ wrap r4c = 0 →

    (wrap ((M4 1 6) + a2) ≤ 60 →
      ∃ n, wL_Rfeed_39 a1 a2 k  (fun  M39 =>
        k (M39 1 6) M39) n 0 M4) ∧
    (60 < wrap ((M4 1 6) + a2) →
      w_Rerror 4 M4 (fun r32c M32 => k r32c M32))) ∧
  (wrap r4c = 0 →
    w_Rerror 1 M4 (fun r12c M12 => k r12c M12)))
set_option maxHeartbeats 4000000 in
set_option maxRecDepth 100000 in
theorem m_Rfeed {l : Launch} {D : va_G} {cl : List vw_C} {tys : List (ClassId × FieldType)} {ad : Nat → Nat} {cI : ClassId} {ci : Nat} {Z : (Nat → Prop) → State → Prop} (hci : cl[ci]? = some (RX9, TX9, 23)) {a1 : Int} {a2 : Int} {M : gSt} {k : Int → gSt → Prop} (h : w_Rfeed a1 a2 M k) : MOi l yX9_feed cX9_feed 5 .int (rmR 1 22) D cl ((cI, .int) :: tys) (wR ad cI ci) tR Z [.ref (ad 0), jv a1, iv a2] M k := by
  refine moi_intro (by decide +kernel) (Nat.le_of_ble_eq_true rfl) wi_119 ?_
  intro p e s m args below meth c A Q C hR
  have pC39 : ∀ (r39 : Int → gSt → Prop) (X39_90 : gSt → Prop) (hr39 : ∀ (v4 : Int) (M : gSt), r39 v4 M → gG p l e (rmR 1 22) s m args below meth c Q D cl A (wR ad cI ci) 5 39 [(0, .ref (ad 0)), (1, jv a1), (3, iv a2), (4, iv v4)] [] M) (hX39_90 : ∀  (M : gSt), X39_90  M → gG p l e (rmR 1 22) s m args below meth c Q D cl A (wR ad cI ci) 5 90 [(0, .ref (ad 0))] [] M) (v4 : Int) (M : gSt), wC_Rfeed_39 a1 a2 k r39 X39_90 v4 M → gG p l e (rmR 1 22) s m args below meth c Q D cl A (wR ad cI ci) 5 39 [(0, .ref (ad 0)), (1, jv a1), (3, iv a2), (4, iv v4)] [] M := by
    intro r39 X39_90 hr39 hX39_90 v4 M h
    unfold wC_Rfeed_39 at h
    refine g_iload C dR_feed_39 rfl ?_
    refine g_iload_n C dR_feed_41 rfl ?_
    refine g_icmp_ge C 90 dR_feed_42 (by decide) (fun hc => ?_) (fun hc => ?_)
    · replace h := h.1 hc
      refine g_locals (lv' := [(0, .ref (ad 0))]) rfl ?_
      exact hX39_90  _ h
    · replace h := h.2 hc
      refine g_aload_n C dR_feed_45 rfl ?_
      refine rf_s C hci dR_feed_46 ?_
      refine g_sipush C dR_feed_49 rfl ?_
      refine g_aload_n C dR_feed_52 rfl ?_
      refine rf_s C hci dR_feed_53 ?_
      refine g_bipush C dR_feed_56 rfl ?_
      refine g_iald C (n := 536) dR_feed_58 rfl (by decide) ⟨by decide, by decide⟩ ?_
      refine g_iadd C dR_feed_59 ?_
      refine g_lload_n C dR_feed_60 rfl ?_
      refine g_bipush C dR_feed_61 rfl ?_
      refine g_iload C dR_feed_63 rfl ?_
      refine g_imul C dR_feed_65 ?_
      refine g_lshr C dR_feed_66 ?_
      refine g_ldc2 C 255 wi_118 rfl dR_feed_67 ?_
      refine g_land C dR_feed_70 ?_
      refine g_l2i C dR_feed_71 ?_
      refine g_iast C (n := 536) dR_feed_72 rfl (by decide) h.1 ?_
      replace h := h.2
      refine g_memname (fun M72 hM72 => ?_)
      replace h := h M72 hM72
      refine g_aload_n C dR_feed_73 rfl ?_
      refine rf_s C hci dR_feed_74 ?_
      refine g_bipush C dR_feed_77 rfl ?_
      refine g_dup2 C dR_feed_79 rfl rfl ?_
      refine g_iald C (n := 536) dR_feed_80 rfl (by decide) ⟨by decide, by decide⟩ ?_
      refine g_iconst C dR_feed_81 ?_
      refine g_iadd C dR_feed_82 ?_
      refine g_iast C (n := 536) dR_feed_83 rfl (by decide) ⟨by decide, by decide⟩ ?_
      refine g_memname (fun M83 hM83 => ?_)
      replace h := h M83 hM83
      refine g_iinc C dR_feed_84 rfl (by decide) rfl ?_
      refine g_locals (lv' := [(0, .ref (ad 0)), (1, jv a1), (3, iv a2), (4, iv (v4 + 1))]) rfl ?_
      refine g_goto C 39 dR_feed_87 (by decide) ?_
      refine g_locals (lv' := [(0, .ref (ad 0)), (1, jv a1), (3, iv a2), (4, iv (v4 + 1))]) rfl ?_
      exact hr39 _  _ h
  have pL39 : ∀  (X39_90 : gSt → Prop) (hX39_90 : ∀  (M : gSt), X39_90  M → gG p l e (rmR 1 22) s m args below meth c Q D cl A (wR ad cI ci) 5 90 [(0, .ref (ad 0))] [] M) (n : Nat) (v4 : Int) (M : gSt), wL_Rfeed_39 a1 a2 k  X39_90 n v4 M → gG p l e (rmR 1 22) s m args below meth c Q D cl A (wR ad cI ci) 5 39 [(0, .ref (ad 0)), (1, jv a1), (3, iv a2), (4, iv v4)] [] M := by
    intro  X39_90 hX39_90 n
    induction n with
    | zero => intro v4 M h; exact h.elim
    | succ n ih =>
      intro v4 M h
      exact pC39  (wL_Rfeed_39 a1 a2 k  X39_90 n) X39_90 ih hX39_90 v4 M h
  refine g_locals (lv' := [(0, .ref (ad 0)), (1, jv a1), (3, iv a2)]) rfl ?_
  unfold w_Rfeed at h
  refine g_iload_n C dR_feed_0 rfl ?_
  refine g_iconst C dR_feed_1 ?_
  refine g_bipush C dR_feed_2 rfl ?_
  refine g_callSi C (nargs := 3) (st := []) (m_Rin hci h) gd_in (by decide +kernel) ⟨rfl, rfl⟩ dR_feed_4 ⟨by decide, by decide⟩ rfl rfl (Nat.le_of_ble_eq_true rfl) ?_
  intro r4c M4 hN
  replace h := hN
  clear hN
  refine g_if_ne C 16 dR_feed_7 (by decide) (fun hc => ?_) (fun hc => ?_)
  · replace h := h.1 hc
    refine g_aload_n C dR_feed_16 rfl ?_
    refine rf_s C hci dR_feed_17 ?_
    refine g_bipush C dR_feed_20 rfl ?_
    refine g_iald C (n := 536) dR_feed_22 rfl (by decide) ⟨by decide, by decide⟩ ?_
    refine g_iload_n C dR_feed_23 rfl ?_
    refine g_iadd C dR_feed_24 ?_
    refine g_bipush C dR_feed_25 rfl ?_
    refine g_icmp_le C 36 dR_feed_27 (by decide) (fun hc => ?_) (fun hc => ?_)
    · replace h := h.1 hc
      refine g_iconst C dR_feed_36 ?_
      refine g_istore C dR_feed_37 (by decide) rfl ?_
      refine g_locals (lv' := [(0, .ref (ad 0)), (1, jv a1), (3, iv a2), (4, iv 0)]) rfl ?_
      refine g_locals (lv' := [(0, .ref (ad 0)), (1, jv a1), (3, iv a2), (4, iv 0)]) rfl ?_
      obtain ⟨n, h⟩ := h
      refine pL39 _ ?_ n _ _ h
      · intro  M39 hN
        replace h := hN
        clear hN
        refine g_aload_n C dR_feed_90 rfl ?_
        refine rf_s C hci dR_feed_91 ?_
        refine g_bipush C dR_feed_94 rfl ?_
        refine g_iald C (n := 536) dR_feed_96 rfl (by decide) ⟨by decide, by decide⟩ ?_
        exact hR _ _ _ _ dR_feed_97 rfl h
    · replace h := h.2 hc
      refine g_aload_n C dR_feed_30 rfl ?_
      refine g_iconst C dR_feed_31 ?_
      refine g_callVi C (nargs := 1) (o := 0) (st := []) (m_Rerror hci h) rfl (by decide) hci rfl gd_error (by decide +kernel) ⟨rfl, rfl⟩ dR_feed_32 ⟨by decide, by decide⟩ rfl rfl (Nat.le_of_ble_eq_true rfl) ?_
      intro r32c M32 hN
      replace h := hN
      clear hN
      exact hR _ _ _ _ dR_feed_35 rfl h
  · replace h := h.2 hc
    refine g_aload_n C dR_feed_10 rfl ?_
    refine g_iconst C dR_feed_11 ?_
    refine g_callVi C (nargs := 1) (o := 0) (st := []) (m_Rerror hci h) rfl (by decide) hci rfl gd_error (by decide +kernel) ⟨rfl, rfl⟩ dR_feed_12 ⟨by decide, by decide⟩ rfl rfl (Nat.le_of_ble_eq_true rfl) ?_
    intro r12c M12 hN
    replace h := hN
    clear hN
    exact hR _ _ _ _ dR_feed_15 rfl h
def w_Rlook  (M : gSt) (k : Int → gSt → Prop) : Prop :=

  (wrap (M 1 6) ≤ wrap (M 0 5) →
    k (-1) M) ∧
  (wrap (M 0 5) < wrap (M 1 6) →
    (0 ≤ 452 + (M 0 5) ∧ 452 + (M 0 5) < 536) ∧ (k (M 1 (452 + (M 0 5))) M))
set_option maxHeartbeats 4000000 in
set_option maxRecDepth 100000 in
theorem m_Rlook {l : Launch} {D : va_G} {cl : List vw_C} {tys : List (ClassId × FieldType)} {ad : Nat → Nat} {cI : ClassId} {ci : Nat} {Z : (Nat → Prop) → State → Prop} (hci : cl[ci]? = some (RX9, TX9, 23))  {M : gSt} {k : Int → gSt → Prop} (h : w_Rlook  M k) : MOi l yX9_look cX9_look 1 .int (rmR 0 0) D cl ((cI, .int) :: tys) (wR ad cI ci) tR Z [.ref (ad 0)] M k := by
  refine moi_intro (by decide +kernel) (Nat.le_of_ble_eq_true rfl) wi_121 ?_
  intro p e s m args below meth c A Q C hR
  refine g_locals (lv' := [(0, .ref (ad 0))]) rfl ?_
  unfold w_Rlook at h
  refine g_aload_n C dR_look_0 rfl ?_
  refine rf_at C hci dR_look_1 ?_
  refine g_aload_n C dR_look_4 rfl ?_
  refine rf_s C hci dR_look_5 ?_
  refine g_bipush C dR_look_8 rfl ?_
  refine g_iald C (n := 536) dR_look_10 rfl (by decide) ⟨by decide, by decide⟩ ?_
  refine g_icmp_ge C 30 dR_look_11 (by decide) (fun hc => ?_) (fun hc => ?_)
  · replace h := h.1 hc
    refine g_iconst C dR_look_30 ?_
    exact hR _ _ _ _ dR_look_31 rfl h
  · replace h := h.2 hc
    refine g_aload_n C dR_look_14 rfl ?_
    refine rf_s C hci dR_look_15 ?_
    refine g_sipush C dR_look_18 rfl ?_
    refine g_aload_n C dR_look_21 rfl ?_
    refine rf_at C hci dR_look_22 ?_
    refine g_iadd C dR_look_25 ?_
    refine g_iald C (n := 536) dR_look_26 rfl (by decide) h.1 ?_
    replace h := h.2
    refine g_goto C 31 dR_look_27 (by decide) ?_
    exact hR _ _ _ _ dR_look_31 rfl h
def w_RisName (a1 : Int) (M : gSt) (k : Int → gSt → Prop) : Prop :=

  (¬ wrap a1 = 103 →

    (¬ wrap (M 0 8) = 0 →

      (wrap a1 = 99 →
        k 1 M) ∧
      (¬ wrap a1 = 99 →

        (¬ wrap a1 = 110 →
          k 0 M) ∧
        (wrap a1 = 110 →
          k 1 M))) ∧
    (wrap (M 0 8) = 0 →

      (wrap a1 = 115 →
        k 1 M) ∧
      (¬ wrap a1 = 115 →

        (¬ wrap a1 = 109 →
          k 0 M) ∧
        (wrap a1 = 109 →
          k 1 M)))) ∧
  (wrap a1 = 103 →
    k 1 M)
set_option maxHeartbeats 4000000 in
set_option maxRecDepth 100000 in
theorem m_RisName {l : Launch} {D : va_G} {cl : List vw_C} {tys : List (ClassId × FieldType)} {ad : Nat → Nat} {cI : ClassId} {ci : Nat} {Z : (Nat → Prop) → State → Prop} (hci : cl[ci]? = some (RX9, TX9, 23)) {a1 : Int} {M : gSt} {k : Int → gSt → Prop} (h : w_RisName a1 M k) : MOi l yX9_isName cX9_isName 2 .boolean (rmR 0 0) D cl ((cI, .int) :: tys) (wR ad cI ci) tR Z [.ref (ad 0), iv a1] M k := by
  refine moi_intro (by decide +kernel) (Nat.le_of_ble_eq_true rfl) wi_123 ?_
  intro p e s m args below meth c A Q C hR
  refine g_locals (lv' := [(0, .ref (ad 0)), (1, iv a1)]) rfl ?_
  unfold w_RisName at h
  refine g_iload_n C dR_isName_0 rfl ?_
  refine g_bipush C dR_isName_1 rfl ?_
  refine g_icmp_ne C 8 dR_isName_3 (by decide) (fun hc => ?_) (fun hc => ?_)
  · replace h := h.1 hc
    refine g_aload_n C dR_isName_8 rfl ?_
    refine rf_use C hci dR_isName_9 ?_
    refine g_if_ne C 35 dR_isName_12 (by decide) (fun hc => ?_) (fun hc => ?_)
    · replace h := h.1 hc
      refine g_iload_n C dR_isName_35 rfl ?_
      refine g_bipush C dR_isName_36 rfl ?_
      refine g_icmp_eq C 47 dR_isName_38 (by decide) (fun hc => ?_) (fun hc => ?_)
      · replace h := h.1 hc
        refine g_iconst C dR_isName_47 ?_
        refine g_goto C 52 dR_isName_48 (by decide) ?_
        exact hR _ _ _ _ dR_isName_52 rfl h
      · replace h := h.2 hc
        refine g_iload_n C dR_isName_41 rfl ?_
        refine g_bipush C dR_isName_42 rfl ?_
        refine g_icmp_ne C 51 dR_isName_44 (by decide) (fun hc => ?_) (fun hc => ?_)
        · replace h := h.1 hc
          refine g_iconst C dR_isName_51 ?_
          exact hR _ _ _ _ dR_isName_52 rfl h
        · replace h := h.2 hc
          refine g_iconst C dR_isName_47 ?_
          refine g_goto C 52 dR_isName_48 (by decide) ?_
          exact hR _ _ _ _ dR_isName_52 rfl h
    · replace h := h.2 hc
      refine g_iload_n C dR_isName_15 rfl ?_
      refine g_bipush C dR_isName_16 rfl ?_
      refine g_icmp_eq C 27 dR_isName_18 (by decide) (fun hc => ?_) (fun hc => ?_)
      · replace h := h.1 hc
        refine g_iconst C dR_isName_27 ?_
        refine g_goto C 52 dR_isName_28 (by decide) ?_
        exact hR _ _ _ _ dR_isName_52 rfl h
      · replace h := h.2 hc
        refine g_iload_n C dR_isName_21 rfl ?_
        refine g_bipush C dR_isName_22 rfl ?_
        refine g_icmp_ne C 31 dR_isName_24 (by decide) (fun hc => ?_) (fun hc => ?_)
        · replace h := h.1 hc
          refine g_iconst C dR_isName_31 ?_
          refine g_goto C 52 dR_isName_32 (by decide) ?_
          exact hR _ _ _ _ dR_isName_52 rfl h
        · replace h := h.2 hc
          refine g_iconst C dR_isName_27 ?_
          refine g_goto C 52 dR_isName_28 (by decide) ?_
          exact hR _ _ _ _ dR_isName_52 rfl h
  · replace h := h.2 hc
    refine g_iconst C dR_isName_6 ?_
    exact hR _ _ _ _ dR_isName_7 rfl h
def w_Rlays (a1 : Int) (a2 : Int) (M : gSt) (k : gSt → Prop) : Prop :=
(0 ≤ 2 * (M 0 7) ∧ 2 * (M 0 7) < 124) ∧ (∀ M11 : gSt, M11 = wr M 5 (2 * (M 0 7)) a1 → ((0 ≤ (2 * (M11 0 7)) + 1 ∧ (2 * (M11 0 7)) + 1 < 124) ∧ (∀ M25 : gSt, M25 = wr M11 5 ((2 * (M11 0 7)) + 1) a2 → (∀ M33 : gSt, M33 = wr M25 0 7 ((M25 0 7) + 1) → (k M33)))))
set_option maxHeartbeats 4000000 in
set_option maxRecDepth 100000 in
theorem m_Rlays {l : Launch} {D : va_G} {cl : List vw_C} {tys : List (ClassId × FieldType)} {ad : Nat → Nat} {cI : ClassId} {ci : Nat} {Z : (Nat → Prop) → State → Prop} (hci : cl[ci]? = some (RX9, TX9, 23)) {a1 : Int} {a2 : Int} {M : gSt} {k : gSt → Prop} (h : w_Rlays a1 a2 M k) : MOv l yX9_lays cX9_lays 3 (rmR 0 0) D cl ((cI, .int) :: tys) (wR ad cI ci) tR Z [.ref (ad 0), iv a1, iv a2] M k := by
  refine mov_intro (by decide +kernel) (Nat.le_of_ble_eq_true rfl) wi_125 ?_
  intro p e s m args below meth c A Q C hR
  refine g_locals (lv' := [(0, .ref (ad 0)), (1, iv a1), (2, iv a2)]) rfl ?_
  unfold w_Rlays at h
  refine g_aload_n C dR_lays_0 rfl ?_
  refine rf_step C hci dR_lays_1 ?_
  refine g_iconst C dR_lays_4 ?_
  refine g_aload_n C dR_lays_5 rfl ?_
  refine rf_steps C hci dR_lays_6 ?_
  refine g_imul C dR_lays_9 ?_
  refine g_iload_n C dR_lays_10 rfl ?_
  refine g_iast C (n := 124) dR_lays_11 rfl (by decide) h.1 ?_
  replace h := h.2
  refine g_memname (fun M11 hM11 => ?_)
  replace h := h M11 hM11
  refine g_aload_n C dR_lays_12 rfl ?_
  refine rf_step C hci dR_lays_13 ?_
  refine g_iconst C dR_lays_16 ?_
  refine g_aload_n C dR_lays_17 rfl ?_
  refine rf_steps C hci dR_lays_18 ?_
  refine g_imul C dR_lays_21 ?_
  refine g_iconst C dR_lays_22 ?_
  refine g_iadd C dR_lays_23 ?_
  refine g_iload_n C dR_lays_24 rfl ?_
  refine g_iast C (n := 124) dR_lays_25 rfl (by decide) h.1 ?_
  replace h := h.2
  refine g_memname (fun M25 hM25 => ?_)
  replace h := h M25 hM25
  refine g_aload_n C dR_lays_26 rfl ?_
  refine g_dup C dR_lays_27 rfl ?_
  refine rf_steps C hci dR_lays_28 ?_
  refine g_iconst C dR_lays_31 ?_
  refine g_iadd C dR_lays_32 ?_
  refine rp_steps C hci dR_lays_33 ?_
  refine g_memname (fun M33 hM33 => ?_)
  replace h := h M33 hM33
  exact hR _ _ _ dR_lays_36 h
def w_Ropens  (M : gSt) (k : Int → gSt → Prop) : Prop :=

  (¬ wrap (M 0 6) = 5 →
    ∀ M17 : gSt, M17 = wr M 0 6 ((M 0 6) + 1) → (∀ M27 : gSt, M27 = wr M17 0 5 ((M17 0 5) + 1) → (k 1 M27))) ∧
  (wrap (M 0 6) = 5 →
    k 0 M)
set_option maxHeartbeats 4000000 in
set_option maxRecDepth 100000 in
theorem m_Ropens {l : Launch} {D : va_G} {cl : List vw_C} {tys : List (ClassId × FieldType)} {ad : Nat → Nat} {cI : ClassId} {ci : Nat} {Z : (Nat → Prop) → State → Prop} (hci : cl[ci]? = some (RX9, TX9, 23))  {M : gSt} {k : Int → gSt → Prop} (h : w_Ropens  M k) : MOi l yX9_opens cX9_opens 1 .boolean (rmR 0 0) D cl ((cI, .int) :: tys) (wR ad cI ci) tR Z [.ref (ad 0)] M k := by
  refine moi_intro (by decide +kernel) (Nat.le_of_ble_eq_true rfl) wi_127 ?_
  intro p e s m args below meth c A Q C hR
  refine g_locals (lv' := [(0, .ref (ad 0))]) rfl ?_
  unfold w_Ropens at h
  refine g_aload_n C dR_opens_0 rfl ?_
  refine rf_open C hci dR_opens_1 ?_
  refine g_iconst C dR_opens_4 ?_
  refine g_icmp_ne C 10 dR_opens_5 (by decide) (fun hc => ?_) (fun hc => ?_)
  · replace h := h.1 hc
    refine g_aload_n C dR_opens_10 rfl ?_
    refine g_dup C dR_opens_11 rfl ?_
    refine rf_open C hci dR_opens_12 ?_
    refine g_iconst C dR_opens_15 ?_
    refine g_iadd C dR_opens_16 ?_
    refine rp_open C hci dR_opens_17 ?_
    refine g_memname (fun M17 hM17 => ?_)
    replace h := h M17 hM17
    refine g_aload_n C dR_opens_20 rfl ?_
    refine g_dup C dR_opens_21 rfl ?_
    refine rf_at C hci dR_opens_22 ?_
    refine g_iconst C dR_opens_25 ?_
    refine g_iadd C dR_opens_26 ?_
    refine rp_at C hci dR_opens_27 ?_
    refine g_memname (fun M27 hM27 => ?_)
    replace h := h M27 hM27
    refine g_iconst C dR_opens_30 ?_
    exact hR _ _ _ _ dR_opens_31 rfl h
  · replace h := h.2 hc
    refine g_iconst C dR_opens_8 ?_
    exact hR _ _ _ _ dR_opens_9 rfl h
def wB_Runtell_28 (a1 : Int) (k : Int → gSt → Prop)  (s0 : Int) (M : gSt) : Prop :=
(0 ≤ 202 + (125 * a1) ∧ 202 + (125 * a1) < 536) ∧ (∀ M42 : gSt, M42 = wr M 1 (202 + (125 * a1)) 0 → (k s0 M42))
def w_Runtell (a1 : Int) (M : gSt) (k : Int → gSt → Prop) : Prop :=
w_Rin a1 0 1 M (fun r3c M3 => 
  (¬ wrap r3c = 0 →
    w_RhasText a1 M3 (fun r17c M17 => 
    (wrap r17c = 0 →
      wB_Runtell_28 a1 k  0 M17) ∧
    (¬ wrap r17c = 0 →
      wB_Runtell_28 a1 k  1 M17))) ∧
  (wrap r3c = 0 →
    w_Rerror 1 M3 (fun r11c M11 => k r11c M11)))
set_option maxHeartbeats 4000000 in
set_option maxRecDepth 100000 in
theorem m_Runtell {l : Launch} {D : va_G} {cl : List vw_C} {tys : List (ClassId × FieldType)} {ad : Nat → Nat} {cI : ClassId} {ci : Nat} {Z : (Nat → Prop) → State → Prop} (hci : cl[ci]? = some (RX9, TX9, 23)) {a1 : Int} {M : gSt} {k : Int → gSt → Prop} (h : w_Runtell a1 M k) : MOi l yX9_untell cX9_untell 3 .int (rmR 1 22) D cl ((cI, .int) :: tys) (wR ad cI ci) tR Z [.ref (ad 0), iv a1] M k := by
  refine moi_intro (by decide +kernel) (Nat.le_of_ble_eq_true rfl) wi_165 ?_
  intro p e s m args below meth c A Q C hR
  have pB28 : ∀   (s0 : Int) (M : gSt), wB_Runtell_28 a1 k  s0 M → gG p l e (rmR 1 22) s m args below meth c Q D cl A (wR ad cI ci) 3 28 [(0, .ref (ad 0)), (1, iv a1)] [iv s0] M := by
    intro   s0 M h
    unfold wB_Runtell_28 at h
    refine g_istore_n C dR_untell_28 (by decide) rfl ?_
    refine g_locals (lv' := [(0, .ref (ad 0)), (1, iv a1), (2, iv s0)]) rfl ?_
    refine g_aload_n C dR_untell_29 rfl ?_
    refine rf_s C hci dR_untell_30 ?_
    refine g_sipush C dR_untell_33 rfl ?_
    refine g_bipush C dR_untell_36 rfl ?_
    refine g_iload_n C dR_untell_38 rfl ?_
    refine g_imul C dR_untell_39 ?_
    refine g_iadd C dR_untell_40 ?_
    refine g_iconst C dR_untell_41 ?_
    refine g_iast C (n := 536) dR_untell_42 rfl (by decide) h.1 ?_
    replace h := h.2
    refine g_memname (fun M42 hM42 => ?_)
    replace h := h M42 hM42
    refine g_iload_n C dR_untell_43 rfl ?_
    exact hR _ _ _ _ dR_untell_44 rfl h
  refine g_locals (lv' := [(0, .ref (ad 0)), (1, iv a1)]) rfl ?_
  unfold w_Runtell at h
  refine g_iload_n C dR_untell_0 rfl ?_
  refine g_iconst C dR_untell_1 ?_
  refine g_iconst C dR_untell_2 ?_
  refine g_callSi C (nargs := 3) (st := []) (m_Rin hci h) gd_in (by decide +kernel) ⟨rfl, rfl⟩ dR_untell_3 ⟨by decide, by decide⟩ rfl rfl (Nat.le_of_ble_eq_true rfl) ?_
  intro r3c M3 hN
  replace h := hN
  clear hN
  refine g_if_ne C 15 dR_untell_6 (by decide) (fun hc => ?_) (fun hc => ?_)
  · replace h := h.1 hc
    refine g_aload_n C dR_untell_15 rfl ?_
    refine g_iload_n C dR_untell_16 rfl ?_
    refine g_callVi C (nargs := 1) (o := 0) (st := []) (m_RhasText hci h) rfl (by decide) hci rfl gd_hasText (by decide +kernel) ⟨rfl, rfl⟩ dR_untell_17 ⟨by decide, by decide⟩ rfl rfl (Nat.le_of_ble_eq_true rfl) ?_
    intro r17c M17 hN
    replace h := hN
    clear hN
    refine g_if_eq C 27 dR_untell_20 (by decide) (fun hc => ?_) (fun hc => ?_)
    · replace h := h.1 hc
      refine g_iconst C dR_untell_27 ?_
      refine g_locals (lv' := [(0, .ref (ad 0)), (1, iv a1)]) rfl ?_
      exact pB28 _ _ h
    · replace h := h.2 hc
      refine g_iconst C dR_untell_23 ?_
      refine g_goto C 28 dR_untell_24 (by decide) ?_
      refine g_locals (lv' := [(0, .ref (ad 0)), (1, iv a1)]) rfl ?_
      exact pB28 _ _ h
  · replace h := h.2 hc
    refine g_aload_n C dR_untell_9 rfl ?_
    refine g_iconst C dR_untell_10 ?_
    refine g_callVi C (nargs := 1) (o := 0) (st := []) (m_Rerror hci h) rfl (by decide) hci rfl gd_error (by decide +kernel) ⟨rfl, rfl⟩ dR_untell_11 ⟨by decide, by decide⟩ rfl rfl (Nat.le_of_ble_eq_true rfl) ?_
    intro r11c M11 hN
    replace h := hN
    clear hN
    exact hR _ _ _ _ dR_untell_14 rfl h
def w_RisClaim (a1 : Int) (M : gSt) (k : Int → gSt → Prop) : Prop :=
w_Rin a1 0 ((M 1 2) - 1) M (fun r10c M10 => (r10c = 0 ∨ r10c = 1) ∧ (k r10c M10))
set_option maxHeartbeats 4000000 in
set_option maxRecDepth 100000 in
theorem m_RisClaim {l : Launch} {D : va_G} {cl : List vw_C} {tys : List (ClassId × FieldType)} {ad : Nat → Nat} {cI : ClassId} {ci : Nat} {Z : (Nat → Prop) → State → Prop} (hci : cl[ci]? = some (RX9, TX9, 23)) {a1 : Int} {M : gSt} {k : Int → gSt → Prop} (h : w_RisClaim a1 M k) : MOi l yX9_isClaim cX9_isClaim 2 .boolean (rmR 1 22) D cl ((cI, .int) :: tys) (wR ad cI ci) tR Z [.ref (ad 0), iv a1] M k := by
  refine moi_intro (by decide +kernel) (Nat.le_of_ble_eq_true rfl) wi_166 ?_
  intro p e s m args below meth c A Q C hR
  refine g_locals (lv' := [(0, .ref (ad 0)), (1, iv a1)]) rfl ?_
  unfold w_RisClaim at h
  refine g_iload_n C dR_isClaim_0 rfl ?_
  refine g_iconst C dR_isClaim_1 ?_
  refine g_aload_n C dR_isClaim_2 rfl ?_
  refine rf_s C hci dR_isClaim_3 ?_
  refine g_iconst C dR_isClaim_6 ?_
  refine g_iald C (n := 536) dR_isClaim_7 rfl (by decide) ⟨by decide, by decide⟩ ?_
  refine g_iconst C dR_isClaim_8 ?_
  refine g_isub C dR_isClaim_9 ?_
  refine g_callSi C (nargs := 3) (st := []) (m_Rin hci h) gd_in (by decide +kernel) ⟨rfl, rfl⟩ dR_isClaim_10 ⟨by decide, by decide⟩ rfl rfl (Nat.le_of_ble_eq_true rfl) ?_
  intro r10c M10 hN
  replace h := hN
  clear hN
  exact hR _ _ _ _ dR_isClaim_13 (zn_bool h.1).1 h.2
def w_Rof (a1 : Int) (a2 : Int) (M : gSt) (k : Int → gSt → Prop) : Prop :=
(0 ≤ (140 + (2 * a1)) + a2 ∧ (140 + (2 * a1)) + a2 < 536) ∧ (k (M 1 ((140 + (2 * a1)) + a2)) M)
set_option maxHeartbeats 4000000 in
set_option maxRecDepth 100000 in
theorem m_Rof {l : Launch} {D : va_G} {cl : List vw_C} {tys : List (ClassId × FieldType)} {ad : Nat → Nat} {cI : ClassId} {ci : Nat} {Z : (Nat → Prop) → State → Prop} (hci : cl[ci]? = some (RX9, TX9, 23)) {a1 : Int} {a2 : Int} {M : gSt} {k : Int → gSt → Prop} (h : w_Rof a1 a2 M k) : MOi l yX9_of cX9_of 3 .int (rmR 0 0) D cl ((cI, .int) :: tys) (wR ad cI ci) tR Z [.ref (ad 0), iv a1, iv a2] M k := by
  refine moi_intro (by decide +kernel) (Nat.le_of_ble_eq_true rfl) wi_167 ?_
  intro p e s m args below meth c A Q C hR
  refine g_locals (lv' := [(0, .ref (ad 0)), (1, iv a1), (2, iv a2)]) rfl ?_
  unfold w_Rof at h
  refine g_aload_n C dR_of_0 rfl ?_
  refine rf_s C hci dR_of_1 ?_
  refine g_sipush C dR_of_4 rfl ?_
  refine g_iconst C dR_of_7 ?_
  refine g_iload_n C dR_of_8 rfl ?_
  refine g_imul C dR_of_9 ?_
  refine g_iadd C dR_of_10 ?_
  refine g_iload_n C dR_of_11 rfl ?_
  refine g_iadd C dR_of_12 ?_
  refine g_iald C (n := 536) dR_of_13 rfl (by decide) h.1 ?_
  replace h := h.2
  exact hR _ _ _ _ dR_of_14 rfl h
def wB_RmanyOn_30 (a1 : Int) (k : Int → gSt → Prop) (r4 : Int → Int → gSt → Prop) (X4_38 : Int → gSt → Prop) (v3 : Int) (s0 : Int) (s1 : Int) (M : gSt) : Prop :=
∀ x2_31 : Int, x2_31 = s1 + s0 → (r4 x2_31 (v3 + 1) M)
def wC_RmanyOn_4 (a1 : Int) (k : Int → gSt → Prop) (r4 : Int → Int → gSt → Prop) (X4_38 : Int → gSt → Prop) (v2 : Int) (v3 : Int) (M : gSt) : Prop :=

  (wrap (M 1 2) ≤ wrap v3 →
    X4_38 v2 M) ∧
  (wrap v3 < wrap (M 1 2) →
    w_Rof v3 0 M (fun r18c M18 => 
    (¬ wrap r18c = wrap a1 →
      wB_RmanyOn_30 a1 k r4 X4_38 v3 0 v2 M18) ∧
    (wrap r18c = wrap a1 →
      wB_RmanyOn_30 a1 k r4 X4_38 v3 1 v2 M18)))
def wL_RmanyOn_4 (a1 : Int) (k : Int → gSt → Prop)  (X4_38 : Int → gSt → Prop) : Nat → Int → Int → gSt → Prop
  | 0 => fun _ _ _ => False
  | n + 1 => fun v2 v3 M => wC_RmanyOn_4 a1 k  (wL_RmanyOn_4 a1 k  X4_38 n) X4_38 v2 v3 M
def w_RmanyOn (a1 : Int) (M : gSt) (k : Int → gSt → Prop) : Prop :=
∃ n, wL_RmanyOn_4 a1 k  (fun u2_4 M4 =>
    k u2_4 M4) n 0 0 M
set_option maxHeartbeats 4000000 in
set_option maxRecDepth 100000 in
theorem m_RmanyOn {l : Launch} {D : va_G} {cl : List vw_C} {tys : List (ClassId × FieldType)} {ad : Nat → Nat} {cI : ClassId} {ci : Nat} {Z : (Nat → Prop) → State → Prop} (hci : cl[ci]? = some (RX9, TX9, 23)) {a1 : Int} {M : gSt} {k : Int → gSt → Prop} (h : w_RmanyOn a1 M k) : MOi l yX9_manyOn cX9_manyOn 4 .int (rmR 1 22) D cl ((cI, .int) :: tys) (wR ad cI ci) tR Z [.ref (ad 0), iv a1] M k := by
  refine moi_intro (by decide +kernel) (Nat.le_of_ble_eq_true rfl) wi_171 ?_
  intro p e s m args below meth c A Q C hR
  have pB30 : ∀ (r4 : Int → Int → gSt → Prop) (X4_38 : Int → gSt → Prop) (hr4 : ∀ (v2 : Int) (v3 : Int) (M : gSt), r4 v2 v3 M → gG p l e (rmR 1 22) s m args below meth c Q D cl A (wR ad cI ci) 4 4 [(0, .ref (ad 0)), (1, iv a1), (2, iv v2), (3, iv v3)] [] M) (hX4_38 : ∀ (v2 : Int) (M : gSt), X4_38 v2 M → gG p l e (rmR 1 22) s m args below meth c Q D cl A (wR ad cI ci) 4 38 [(2, iv v2)] [] M) (v3 : Int) (s0 : Int) (s1 : Int) (M : gSt), wB_RmanyOn_30 a1 k r4 X4_38 v3 s0 s1 M → gG p l e (rmR 1 22) s m args below meth c Q D cl A (wR ad cI ci) 4 30 [(0, .ref (ad 0)), (1, iv a1), (3, iv v3)] [iv s0, iv s1] M := by
    intro r4 X4_38 hr4 hX4_38 v3 s0 s1 M h
    unfold wB_RmanyOn_30 at h
    refine g_iadd C dR_manyOn_30 ?_
    refine g_name (fun x2_31 hx2_31 => ?_)
    replace h := h x2_31 hx2_31
    refine g_istore_n C dR_manyOn_31 (by decide) rfl ?_
    refine g_locals (lv' := [(0, .ref (ad 0)), (1, iv a1), (2, iv x2_31), (3, iv v3)]) rfl ?_
    refine g_iinc C dR_manyOn_32 rfl (by decide) rfl ?_
    refine g_locals (lv' := [(0, .ref (ad 0)), (1, iv a1), (2, iv x2_31), (3, iv (v3 + 1))]) rfl ?_
    refine g_goto C 4 dR_manyOn_35 (by decide) ?_
    refine g_locals (lv' := [(0, .ref (ad 0)), (1, iv a1), (2, iv x2_31), (3, iv (v3 + 1))]) rfl ?_
    exact hr4 _ _  _ h
  have pC4 : ∀ (r4 : Int → Int → gSt → Prop) (X4_38 : Int → gSt → Prop) (hr4 : ∀ (v2 : Int) (v3 : Int) (M : gSt), r4 v2 v3 M → gG p l e (rmR 1 22) s m args below meth c Q D cl A (wR ad cI ci) 4 4 [(0, .ref (ad 0)), (1, iv a1), (2, iv v2), (3, iv v3)] [] M) (hX4_38 : ∀ (v2 : Int) (M : gSt), X4_38 v2 M → gG p l e (rmR 1 22) s m args below meth c Q D cl A (wR ad cI ci) 4 38 [(2, iv v2)] [] M) (v2 : Int) (v3 : Int) (M : gSt), wC_RmanyOn_4 a1 k r4 X4_38 v2 v3 M → gG p l e (rmR 1 22) s m args below meth c Q D cl A (wR ad cI ci) 4 4 [(0, .ref (ad 0)), (1, iv a1), (2, iv v2), (3, iv v3)] [] M := by
    intro r4 X4_38 hr4 hX4_38 v2 v3 M h
    unfold wC_RmanyOn_4 at h
    refine g_iload_n C dR_manyOn_4 rfl ?_
    refine g_aload_n C dR_manyOn_5 rfl ?_
    refine rf_s C hci dR_manyOn_6 ?_
    refine g_iconst C dR_manyOn_9 ?_
    refine g_iald C (n := 536) dR_manyOn_10 rfl (by decide) ⟨by decide, by decide⟩ ?_
    refine g_icmp_ge C 38 dR_manyOn_11 (by decide) (fun hc => ?_) (fun hc => ?_)
    · replace h := h.1 hc
      refine g_locals (lv' := [(2, iv v2)]) rfl ?_
      exact hX4_38 _  _ h
    · replace h := h.2 hc
      refine g_iload_n C dR_manyOn_14 rfl ?_
      refine g_aload_n C dR_manyOn_15 rfl ?_
      refine g_iload_n C dR_manyOn_16 rfl ?_
      refine g_iconst C dR_manyOn_17 ?_
      refine g_callVi C (nargs := 2) (o := 0) (st := [iv v2]) (m_Rof hci h) rfl (by decide) hci rfl gd_of (by decide +kernel) ⟨rfl, rfl⟩ dR_manyOn_18 ⟨by decide, by decide⟩ rfl rfl (Nat.le_of_ble_eq_true rfl) ?_
      intro r18c M18 hN
      replace h := hN
      clear hN
      refine g_iload_n C dR_manyOn_21 rfl ?_
      refine g_icmp_ne C 29 dR_manyOn_22 (by decide) (fun hc => ?_) (fun hc => ?_)
      · replace h := h.1 hc
        refine g_iconst C dR_manyOn_29 ?_
        refine g_locals (lv' := [(0, .ref (ad 0)), (1, iv a1), (3, iv v3)]) rfl ?_
        exact pB30 r4 X4_38 hr4 hX4_38 _ _ _ _ h
      · replace h := h.2 hc
        refine g_iconst C dR_manyOn_25 ?_
        refine g_goto C 30 dR_manyOn_26 (by decide) ?_
        refine g_locals (lv' := [(0, .ref (ad 0)), (1, iv a1), (3, iv v3)]) rfl ?_
        exact pB30 r4 X4_38 hr4 hX4_38 _ _ _ _ h
  have pL4 : ∀  (X4_38 : Int → gSt → Prop) (hX4_38 : ∀ (v2 : Int) (M : gSt), X4_38 v2 M → gG p l e (rmR 1 22) s m args below meth c Q D cl A (wR ad cI ci) 4 38 [(2, iv v2)] [] M) (n : Nat) (v2 : Int) (v3 : Int) (M : gSt), wL_RmanyOn_4 a1 k  X4_38 n v2 v3 M → gG p l e (rmR 1 22) s m args below meth c Q D cl A (wR ad cI ci) 4 4 [(0, .ref (ad 0)), (1, iv a1), (2, iv v2), (3, iv v3)] [] M := by
    intro  X4_38 hX4_38 n
    induction n with
    | zero => intro v2 v3 M h; exact h.elim
    | succ n ih =>
      intro v2 v3 M h
      exact pC4  (wL_RmanyOn_4 a1 k  X4_38 n) X4_38 ih hX4_38 v2 v3 M h
  refine g_locals (lv' := [(0, .ref (ad 0)), (1, iv a1)]) rfl ?_
  unfold w_RmanyOn at h
  refine g_iconst C dR_manyOn_0 ?_
  refine g_istore_n C dR_manyOn_1 (by decide) rfl ?_
  refine g_locals (lv' := [(0, .ref (ad 0)), (1, iv a1), (2, iv 0)]) rfl ?_
  refine g_iconst C dR_manyOn_2 ?_
  refine g_istore_n C dR_manyOn_3 (by decide) rfl ?_
  refine g_locals (lv' := [(0, .ref (ad 0)), (1, iv a1), (2, iv 0), (3, iv 0)]) rfl ?_
  refine g_locals (lv' := [(0, .ref (ad 0)), (1, iv a1), (2, iv 0), (3, iv 0)]) rfl ?_
  obtain ⟨n, h⟩ := h
  refine pL4 _ ?_ n _ _ _ h
  · intro u2_4 M4 hN
    replace h := hN
    clear hN
    refine g_iload_n C dR_manyOn_38 rfl ?_
    exact hR _ _ _ _ dR_manyOn_39 rfl h
def w_Rcounts (a1 : Int) (M : gSt) (k : Int → gSt → Prop) : Prop :=
w_Rof a1 1 M (fun r3c M3 => w_RhasText 1 M3 (fun r9c M9 => 
  (¬ wrap r9c = 0 →
    ∀ M24 : gSt, M24 = wr M9 6 99 r3c → (w_Rof a1 0 M24 (fun r35c M35 => w_Rits r35c 2 M35 (fun r39c M39 => ∀ M42 : gSt, M42 = wr M39 6 103 r39c → (w_Rof a1 0 M42 (fun r53c M53 => w_RmanyOn r53c M53 (fun r56c M56 => ∀ M59 : gSt, M59 = wr M56 6 110 r56c → (w_Rworked 1 M59 (fun r62c M62 => w_Rheld r62c 0 r3c M62 (fun r67c M67 => k r67c M67)))))))))) ∧
  (wrap r9c = 0 →
    k r3c M9)))
set_option maxHeartbeats 4000000 in
set_option maxRecDepth 100000 in
theorem m_Rcounts {l : Launch} {D : va_G} {cl : List vw_C} {tys : List (ClassId × FieldType)} {ad : Nat → Nat} {cI : ClassId} {ci : Nat} {Z : (Nat → Prop) → State → Prop} (hci : cl[ci]? = some (RX9, TX9, 23)) {a1 : Int} {M : gSt} {k : Int → gSt → Prop} (h : w_Rcounts a1 M k) : MOi l yX9_counts cX9_counts 3 .int (rmR 2 48) D cl ((cI, .int) :: tys) (wR ad cI ci) tR Z [.ref (ad 0), iv a1] M k := by
  refine moi_intro (by decide +kernel) (Nat.le_of_ble_eq_true rfl) wi_175 ?_
  intro p e s m args below meth c A Q C hR
  refine g_locals (lv' := [(0, .ref (ad 0)), (1, iv a1)]) rfl ?_
  unfold w_Rcounts at h
  refine g_aload_n C dR_counts_0 rfl ?_
  refine g_iload_n C dR_counts_1 rfl ?_
  refine g_iconst C dR_counts_2 ?_
  refine g_callVi C (nargs := 2) (o := 0) (st := []) (m_Rof hci h) rfl (by decide) hci rfl gd_of (by decide +kernel) ⟨rfl, rfl⟩ dR_counts_3 ⟨by decide, by decide⟩ rfl rfl (Nat.le_of_ble_eq_true rfl) ?_
  intro r3c M3 hN
  replace h := hN
  clear hN
  refine g_istore_n C dR_counts_6 (by decide) rfl ?_
  refine g_locals (lv' := [(0, .ref (ad 0)), (1, iv a1), (2, iv r3c)]) rfl ?_
  refine g_aload_n C dR_counts_7 rfl ?_
  refine g_iconst C dR_counts_8 ?_
  refine g_callVi C (nargs := 1) (o := 0) (st := []) (m_RhasText hci h) rfl (by decide) hci rfl gd_hasText (by decide +kernel) ⟨rfl, rfl⟩ dR_counts_9 ⟨by decide, by decide⟩ rfl rfl (Nat.le_of_ble_eq_true rfl) ?_
  intro r9c M9 hN
  replace h := hN
  clear hN
  refine g_if_ne C 17 dR_counts_12 (by decide) (fun hc => ?_) (fun hc => ?_)
  · replace h := h.1 hc
    refine g_aload_n C dR_counts_17 rfl ?_
    refine rf_named C hci dR_counts_18 ?_
    refine g_bipush C dR_counts_21 rfl ?_
    refine g_iload_n C dR_counts_23 rfl ?_
    refine g_iast C (n := 128) dR_counts_24 rfl (by decide) ⟨by decide, by decide⟩ ?_
    refine g_memname (fun M24 hM24 => ?_)
    replace h := h M24 hM24
    refine g_aload_n C dR_counts_25 rfl ?_
    refine rf_named C hci dR_counts_26 ?_
    refine g_bipush C dR_counts_29 rfl ?_
    refine g_aload_n C dR_counts_31 rfl ?_
    refine g_aload_n C dR_counts_32 rfl ?_
    refine g_iload_n C dR_counts_33 rfl ?_
    refine g_iconst C dR_counts_34 ?_
    refine g_callVi C (nargs := 2) (o := 0) (st := [.ref (ad 0), iv 103, .ref (ad 6)]) (m_Rof hci h) rfl (by decide) hci rfl gd_of (by decide +kernel) ⟨rfl, rfl⟩ dR_counts_35 ⟨by decide, by decide⟩ rfl rfl (Nat.le_of_ble_eq_true rfl) ?_
    intro r35c M35 hN
    replace h := hN
    clear hN
    refine g_iconst C dR_counts_38 ?_
    refine g_callVi C (nargs := 2) (o := 0) (st := [iv 103, .ref (ad 6)]) (m_Rits hci h) rfl (by decide) hci rfl gd_its (by decide +kernel) ⟨rfl, rfl⟩ dR_counts_39 ⟨by decide, by decide⟩ rfl rfl (Nat.le_of_ble_eq_true rfl) ?_
    intro r39c M39 hN
    replace h := hN
    clear hN
    refine g_iast C (n := 128) dR_counts_42 rfl (by decide) ⟨by decide, by decide⟩ ?_
    refine g_memname (fun M42 hM42 => ?_)
    replace h := h M42 hM42
    refine g_aload_n C dR_counts_43 rfl ?_
    refine rf_named C hci dR_counts_44 ?_
    refine g_bipush C dR_counts_47 rfl ?_
    refine g_aload_n C dR_counts_49 rfl ?_
    refine g_aload_n C dR_counts_50 rfl ?_
    refine g_iload_n C dR_counts_51 rfl ?_
    refine g_iconst C dR_counts_52 ?_
    refine g_callVi C (nargs := 2) (o := 0) (st := [.ref (ad 0), iv 110, .ref (ad 6)]) (m_Rof hci h) rfl (by decide) hci rfl gd_of (by decide +kernel) ⟨rfl, rfl⟩ dR_counts_53 ⟨by decide, by decide⟩ rfl rfl (Nat.le_of_ble_eq_true rfl) ?_
    intro r53c M53 hN
    replace h := hN
    clear hN
    refine g_callVi C (nargs := 1) (o := 0) (st := [iv 110, .ref (ad 6)]) (m_RmanyOn hci h) rfl (by decide) hci rfl gd_manyOn (by decide +kernel) ⟨rfl, rfl⟩ dR_counts_56 ⟨by decide, by decide⟩ rfl rfl (Nat.le_of_ble_eq_true rfl) ?_
    intro r56c M56 hN
    replace h := hN
    clear hN
    refine g_iast C (n := 128) dR_counts_59 rfl (by decide) ⟨by decide, by decide⟩ ?_
    refine g_memname (fun M59 hM59 => ?_)
    replace h := h M59 hM59
    refine g_aload_n C dR_counts_60 rfl ?_
    refine g_iconst C dR_counts_61 ?_
    refine g_callVi C (nargs := 1) (o := 0) (st := []) (m_Rworked hci h) rfl (by decide) hci rfl gd_worked (by decide +kernel) ⟨rfl, rfl⟩ dR_counts_62 ⟨by decide, by decide⟩ rfl rfl (Nat.le_of_ble_eq_true rfl) ?_
    intro r62c M62 hN
    replace h := hN
    clear hN
    refine g_iconst C dR_counts_65 ?_
    refine g_iload_n C dR_counts_66 rfl ?_
    refine g_callSi C (nargs := 3) (st := []) (m_Rheld hci h) gd_held (by decide +kernel) ⟨rfl, rfl⟩ dR_counts_67 ⟨by decide, by decide⟩ rfl rfl (Nat.le_of_ble_eq_true rfl) ?_
    intro r67c M67 hN
    replace h := hN
    clear hN
    exact hR _ _ _ _ dR_counts_70 rfl h
  · replace h := h.2 hc
    refine g_iload_n C dR_counts_15 rfl ?_
    exact hR _ _ _ _ dR_counts_16 rfl h
def wB_Rclaim_18 (a1 : Int) (a2 : Int) (k : Int → gSt → Prop)   (M : gSt) : Prop :=
w_Rerror 1 M (fun r20c M20 => k r20c M20)
def w_Rclaim (a1 : Int) (a2 : Int) (M : gSt) (k : Int → gSt → Prop) : Prop :=
w_RisThing a1 M (fun r2c M2 => 
  (wrap r2c = 0 →
    wB_Rclaim_18 a1 a2 k   M2) ∧
  (¬ wrap r2c = 0 →
    w_Rin a2 1 99999 M2 (fun r12c M12 => 
    (¬ wrap r12c = 0 →

      (¬ wrap (M12 1 2) = 10 →
        (0 ≤ 140 + (2 * (M12 1 2)) ∧ 140 + (2 * (M12 1 2)) < 536) ∧ (∀ M58 : gSt, M58 = wr M12 1 (140 + (2 * (M12 1 2))) a1 → ((0 ≤ (140 + (2 * (M58 1 2))) + 1 ∧ (140 + (2 * (M58 1 2))) + 1 < 536) ∧ (∀ M78 : gSt, M78 = wr M58 1 ((140 + (2 * (M58 1 2))) + 1) a2 → (∀ M88 : gSt, M88 = wr M78 1 2 ((M78 1 2) + 1) → (k ((M88 1 2) - 1) M88)))))) ∧
      (wrap (M12 1 2) = 10 →
        w_Rerror 4 M12 (fun r37c M37 => k r37c M37))) ∧
    (wrap r12c = 0 →
      wB_Rclaim_18 a1 a2 k   M12))))
set_option maxHeartbeats 4000000 in
set_option maxRecDepth 100000 in
theorem m_Rclaim {l : Launch} {D : va_G} {cl : List vw_C} {tys : List (ClassId × FieldType)} {ad : Nat → Nat} {cI : ClassId} {ci : Nat} {Z : (Nat → Prop) → State → Prop} (hci : cl[ci]? = some (RX9, TX9, 23)) {a1 : Int} {a2 : Int} {M : gSt} {k : Int → gSt → Prop} (h : w_Rclaim a1 a2 M k) : MOi l yX9_claim cX9_claim 3 .int (rmR 2 43) D cl ((cI, .int) :: tys) (wR ad cI ci) tR Z [.ref (ad 0), iv a1, iv a2] M k := by
  refine moi_intro (by decide +kernel) (Nat.le_of_ble_eq_true rfl) wi_177 ?_
  intro p e s m args below meth c A Q C hR
  have pB18 : ∀    (M : gSt), wB_Rclaim_18 a1 a2 k   M → gG p l e (rmR 2 43) s m args below meth c Q D cl A (wR ad cI ci) 3 18 [(0, .ref (ad 0))] [] M := by
    intro    M h
    unfold wB_Rclaim_18 at h
    refine g_aload_n C dR_claim_18 rfl ?_
    refine g_iconst C dR_claim_19 ?_
    refine g_callVi C (nargs := 1) (o := 0) (st := []) (m_Rerror hci h) rfl (by decide) hci rfl gd_error (by decide +kernel) ⟨rfl, rfl⟩ dR_claim_20 ⟨by decide, by decide⟩ rfl rfl (Nat.le_of_ble_eq_true rfl) ?_
    intro r20c M20 hN
    replace h := hN
    clear hN
    exact hR _ _ _ _ dR_claim_23 rfl h
  refine g_locals (lv' := [(0, .ref (ad 0)), (1, iv a1), (2, iv a2)]) rfl ?_
  unfold w_Rclaim at h
  refine g_aload_n C dR_claim_0 rfl ?_
  refine g_iload_n C dR_claim_1 rfl ?_
  refine g_callVi C (nargs := 1) (o := 0) (st := []) (m_RisThing hci h) rfl (by decide) hci rfl gd_isThing (by decide +kernel) ⟨rfl, rfl⟩ dR_claim_2 ⟨by decide, by decide⟩ rfl rfl (Nat.le_of_ble_eq_true rfl) ?_
  intro r2c M2 hN
  replace h := hN
  clear hN
  refine g_if_eq C 18 dR_claim_5 (by decide) (fun hc => ?_) (fun hc => ?_)
  · replace h := h.1 hc
    refine g_locals (lv' := [(0, .ref (ad 0))]) rfl ?_
    exact pB18  _ h
  · replace h := h.2 hc
    refine g_iload_n C dR_claim_8 rfl ?_
    refine g_iconst C dR_claim_9 ?_
    refine g_ldc C 99999 wi_176 rfl dR_claim_10 ?_
    refine g_callSi C (nargs := 3) (st := []) (m_Rin hci h) gd_in (by decide +kernel) ⟨rfl, rfl⟩ dR_claim_12 ⟨by decide, by decide⟩ rfl rfl (Nat.le_of_ble_eq_true rfl) ?_
    intro r12c M12 hN
    replace h := hN
    clear hN
    refine g_if_ne C 24 dR_claim_15 (by decide) (fun hc => ?_) (fun hc => ?_)
    · replace h := h.1 hc
      refine g_aload_n C dR_claim_24 rfl ?_
      refine rf_s C hci dR_claim_25 ?_
      refine g_iconst C dR_claim_28 ?_
      refine g_iald C (n := 536) dR_claim_29 rfl (by decide) ⟨by decide, by decide⟩ ?_
      refine g_bipush C dR_claim_30 rfl ?_
      refine g_icmp_ne C 41 dR_claim_32 (by decide) (fun hc => ?_) (fun hc => ?_)
      · replace h := h.1 hc
        refine g_aload_n C dR_claim_41 rfl ?_
        refine rf_s C hci dR_claim_42 ?_
        refine g_sipush C dR_claim_45 rfl ?_
        refine g_iconst C dR_claim_48 ?_
        refine g_aload_n C dR_claim_49 rfl ?_
        refine rf_s C hci dR_claim_50 ?_
        refine g_iconst C dR_claim_53 ?_
        refine g_iald C (n := 536) dR_claim_54 rfl (by decide) ⟨by decide, by decide⟩ ?_
        refine g_imul C dR_claim_55 ?_
        refine g_iadd C dR_claim_56 ?_
        refine g_iload_n C dR_claim_57 rfl ?_
        refine g_iast C (n := 536) dR_claim_58 rfl (by decide) h.1 ?_
        replace h := h.2
        refine g_memname (fun M58 hM58 => ?_)
        replace h := h M58 hM58
        refine g_aload_n C dR_claim_59 rfl ?_
        refine rf_s C hci dR_claim_60 ?_
        refine g_sipush C dR_claim_63 rfl ?_
        refine g_iconst C dR_claim_66 ?_
        refine g_aload_n C dR_claim_67 rfl ?_
        refine rf_s C hci dR_claim_68 ?_
        refine g_iconst C dR_claim_71 ?_
        refine g_iald C (n := 536) dR_claim_72 rfl (by decide) ⟨by decide, by decide⟩ ?_
        refine g_imul C dR_claim_73 ?_
        refine g_iadd C dR_claim_74 ?_
        refine g_iconst C dR_claim_75 ?_
        refine g_iadd C dR_claim_76 ?_
        refine g_iload_n C dR_claim_77 rfl ?_
        refine g_iast C (n := 536) dR_claim_78 rfl (by decide) h.1 ?_
        replace h := h.2
        refine g_memname (fun M78 hM78 => ?_)
        replace h := h M78 hM78
        refine g_aload_n C dR_claim_79 rfl ?_
        refine rf_s C hci dR_claim_80 ?_
        refine g_iconst C dR_claim_83 ?_
        refine g_dup2 C dR_claim_84 rfl rfl ?_
        refine g_iald C (n := 536) dR_claim_85 rfl (by decide) ⟨by decide, by decide⟩ ?_
        refine g_iconst C dR_claim_86 ?_
        refine g_iadd C dR_claim_87 ?_
        refine g_iast C (n := 536) dR_claim_88 rfl (by decide) ⟨by decide, by decide⟩ ?_
        refine g_memname (fun M88 hM88 => ?_)
        replace h := h M88 hM88
        refine g_aload_n C dR_claim_89 rfl ?_
        refine rf_s C hci dR_claim_90 ?_
        refine g_iconst C dR_claim_93 ?_
        refine g_iald C (n := 536) dR_claim_94 rfl (by decide) ⟨by decide, by decide⟩ ?_
        refine g_iconst C dR_claim_95 ?_
        refine g_isub C dR_claim_96 ?_
        exact hR _ _ _ _ dR_claim_97 rfl h
      · replace h := h.2 hc
        refine g_aload_n C dR_claim_35 rfl ?_
        refine g_iconst C dR_claim_36 ?_
        refine g_callVi C (nargs := 1) (o := 0) (st := []) (m_Rerror hci h) rfl (by decide) hci rfl gd_error (by decide +kernel) ⟨rfl, rfl⟩ dR_claim_37 ⟨by decide, by decide⟩ rfl rfl (Nat.le_of_ble_eq_true rfl) ?_
        intro r37c M37 hN
        replace h := hN
        clear hN
        exact hR _ _ _ _ dR_claim_40 rfl h
    · replace h := h.2 hc
      refine g_locals (lv' := [(0, .ref (ad 0))]) rfl ?_
      exact pB18  _ h
end
section
def wB_RclaimIs_17 (a1 : Int) (a2 : Int) (k : Int → gSt → Prop)   (M : gSt) : Prop :=
w_Rerror 1 M (fun r19c M19 => k r19c M19)
def w_RclaimIs (a1 : Int) (a2 : Int) (M : gSt) (k : Int → gSt → Prop) : Prop :=
w_RisClaim a1 M (fun r2c M2 => 
  (wrap r2c = 0 →
    wB_RclaimIs_17 a1 a2 k   M2) ∧
  (¬ wrap r2c = 0 →
    w_Rin a2 0 2 M2 (fun r11c M11 => 
    (¬ wrap r11c = 0 →

      (¬ wrap a2 = 2 →
        w_Rof a1 a2 M11 (fun r39c M39 => k r39c M39)) ∧
      (wrap a2 = 2 →
        w_Rcounts a1 M11 (fun r30c M30 => k r30c M30))) ∧
    (wrap r11c = 0 →
      wB_RclaimIs_17 a1 a2 k   M11))))
set_option maxHeartbeats 4000000 in
set_option maxRecDepth 100000 in
theorem m_RclaimIs {l : Launch} {D : va_G} {cl : List vw_C} {tys : List (ClassId × FieldType)} {ad : Nat → Nat} {cI : ClassId} {ci : Nat} {Z : (Nat → Prop) → State → Prop} (hci : cl[ci]? = some (RX9, TX9, 23)) {a1 : Int} {a2 : Int} {M : gSt} {k : Int → gSt → Prop} (h : w_RclaimIs a1 a2 M k) : MOi l yX9_claimIs cX9_claimIs 3 .int (rmR 3 70) D cl ((cI, .int) :: tys) (wR ad cI ci) tR Z [.ref (ad 0), iv a1, iv a2] M k := by
  refine moi_intro (by decide +kernel) (Nat.le_of_ble_eq_true rfl) wi_184 ?_
  intro p e s m args below meth c A Q C hR
  have pB17 : ∀    (M : gSt), wB_RclaimIs_17 a1 a2 k   M → gG p l e (rmR 3 70) s m args below meth c Q D cl A (wR ad cI ci) 3 17 [(0, .ref (ad 0))] [] M := by
    intro    M h
    unfold wB_RclaimIs_17 at h
    refine g_aload_n C dR_claimIs_17 rfl ?_
    refine g_iconst C dR_claimIs_18 ?_
    refine g_callVi C (nargs := 1) (o := 0) (st := []) (m_Rerror hci h) rfl (by decide) hci rfl gd_error (by decide +kernel) ⟨rfl, rfl⟩ dR_claimIs_19 ⟨by decide, by decide⟩ rfl rfl (Nat.le_of_ble_eq_true rfl) ?_
    intro r19c M19 hN
    replace h := hN
    clear hN
    exact hR _ _ _ _ dR_claimIs_22 rfl h
  refine g_locals (lv' := [(0, .ref (ad 0)), (1, iv a1), (2, iv a2)]) rfl ?_
  unfold w_RclaimIs at h
  refine g_aload_n C dR_claimIs_0 rfl ?_
  refine g_iload_n C dR_claimIs_1 rfl ?_
  refine g_callVi C (nargs := 1) (o := 0) (st := []) (m_RisClaim hci h) rfl (by decide) hci rfl gd_isClaim (by decide +kernel) ⟨rfl, rfl⟩ dR_claimIs_2 ⟨by decide, by decide⟩ rfl rfl (Nat.le_of_ble_eq_true rfl) ?_
  intro r2c M2 hN
  replace h := hN
  clear hN
  refine g_if_eq C 17 dR_claimIs_5 (by decide) (fun hc => ?_) (fun hc => ?_)
  · replace h := h.1 hc
    refine g_locals (lv' := [(0, .ref (ad 0))]) rfl ?_
    exact pB17  _ h
  · replace h := h.2 hc
    refine g_iload_n C dR_claimIs_8 rfl ?_
    refine g_iconst C dR_claimIs_9 ?_
    refine g_iconst C dR_claimIs_10 ?_
    refine g_callSi C (nargs := 3) (st := []) (m_Rin hci h) gd_in (by decide +kernel) ⟨rfl, rfl⟩ dR_claimIs_11 ⟨by decide, by decide⟩ rfl rfl (Nat.le_of_ble_eq_true rfl) ?_
    intro r11c M11 hN
    replace h := hN
    clear hN
    refine g_if_ne C 23 dR_claimIs_14 (by decide) (fun hc => ?_) (fun hc => ?_)
    · replace h := h.1 hc
      refine g_iload_n C dR_claimIs_23 rfl ?_
      refine g_iconst C dR_claimIs_24 ?_
      refine g_icmp_ne C 36 dR_claimIs_25 (by decide) (fun hc => ?_) (fun hc => ?_)
      · replace h := h.1 hc
        refine g_aload_n C dR_claimIs_36 rfl ?_
        refine g_iload_n C dR_claimIs_37 rfl ?_
        refine g_iload_n C dR_claimIs_38 rfl ?_
        refine g_callVi C (nargs := 2) (o := 0) (st := []) (m_Rof hci h) rfl (by decide) hci rfl gd_of (by decide +kernel) ⟨rfl, rfl⟩ dR_claimIs_39 ⟨by decide, by decide⟩ rfl rfl (Nat.le_of_ble_eq_true rfl) ?_
        intro r39c M39 hN
        replace h := hN
        clear hN
        exact hR _ _ _ _ dR_claimIs_42 rfl h
      · replace h := h.2 hc
        refine g_aload_n C dR_claimIs_28 rfl ?_
        refine g_iload_n C dR_claimIs_29 rfl ?_
        refine g_callVi C (nargs := 1) (o := 0) (st := []) (m_Rcounts hci h) rfl (by decide) hci rfl gd_counts (by decide +kernel) ⟨rfl, rfl⟩ dR_claimIs_30 ⟨by decide, by decide⟩ rfl rfl (Nat.le_of_ble_eq_true rfl) ?_
        intro r30c M30 hN
        replace h := hN
        clear hN
        refine g_goto C 42 dR_claimIs_33 (by decide) ?_
        exact hR _ _ _ _ dR_claimIs_42 rfl h
    · replace h := h.2 hc
      refine g_locals (lv' := [(0, .ref (ad 0))]) rfl ?_
      exact pB17  _ h
def wB_RcountsBelow_33 (a1 : Int) (a2 : Int) (k : Int → gSt → Prop) (r5 : Int → Int → gSt → Prop) (X5_41 : Int → gSt → Prop) (v4 : Int) (s0 : Int) (s1 : Int) (M : gSt) : Prop :=
∀ x3_34 : Int, x3_34 = s1 + s0 → (r5 x3_34 (v4 + 1) M)
def wC_RcountsBelow_5 (a1 : Int) (a2 : Int) (k : Int → gSt → Prop) (r5 : Int → Int → gSt → Prop) (X5_41 : Int → gSt → Prop) (v3 : Int) (v4 : Int) (M : gSt) : Prop :=

  (wrap a2 ≤ wrap v4 →
    X5_41 v3 M) ∧
  (wrap v4 < wrap a2 →
    w_Rof v4 0 M (fun r16c M16 => 
    (¬ wrap r16c = wrap a1 →
      wB_RcountsBelow_33 a1 a2 k r5 X5_41 v4 0 v3 M16) ∧
    (wrap r16c = wrap a1 →
      w_Rcounts v4 M16 (fun r26c M26 => wB_RcountsBelow_33 a1 a2 k r5 X5_41 v4 r26c v3 M26))))
def wL_RcountsBelow_5 (a1 : Int) (a2 : Int) (k : Int → gSt → Prop)  (X5_41 : Int → gSt → Prop) : Nat → Int → Int → gSt → Prop
  | 0 => fun _ _ _ => False
  | n + 1 => fun v3 v4 M => wC_RcountsBelow_5 a1 a2 k  (wL_RcountsBelow_5 a1 a2 k  X5_41 n) X5_41 v3 v4 M
def w_RcountsBelow (a1 : Int) (a2 : Int) (M : gSt) (k : Int → gSt → Prop) : Prop :=
∃ n, wL_RcountsBelow_5 a1 a2 k  (fun u3_5 M5 =>
    k u3_5 M5) n 0 0 M
set_option maxHeartbeats 4000000 in
set_option maxRecDepth 100000 in
theorem m_RcountsBelow {l : Launch} {D : va_G} {cl : List vw_C} {tys : List (ClassId × FieldType)} {ad : Nat → Nat} {cI : ClassId} {ci : Nat} {Z : (Nat → Prop) → State → Prop} (hci : cl[ci]? = some (RX9, TX9, 23)) {a1 : Int} {a2 : Int} {M : gSt} {k : Int → gSt → Prop} (h : w_RcountsBelow a1 a2 M k) : MOi l yX9_countsBelow cX9_countsBelow 5 .int (rmR 3 70) D cl ((cI, .int) :: tys) (wR ad cI ci) tR Z [.ref (ad 0), iv a1, iv a2] M k := by
  refine moi_intro (by decide +kernel) (Nat.le_of_ble_eq_true rfl) wi_185 ?_
  intro p e s m args below meth c A Q C hR
  have pB33 : ∀ (r5 : Int → Int → gSt → Prop) (X5_41 : Int → gSt → Prop) (hr5 : ∀ (v3 : Int) (v4 : Int) (M : gSt), r5 v3 v4 M → gG p l e (rmR 3 70) s m args below meth c Q D cl A (wR ad cI ci) 5 5 [(0, .ref (ad 0)), (1, iv a1), (2, iv a2), (3, iv v3), (4, iv v4)] [] M) (hX5_41 : ∀ (v3 : Int) (M : gSt), X5_41 v3 M → gG p l e (rmR 3 70) s m args below meth c Q D cl A (wR ad cI ci) 5 41 [(3, iv v3)] [] M) (v4 : Int) (s0 : Int) (s1 : Int) (M : gSt), wB_RcountsBelow_33 a1 a2 k r5 X5_41 v4 s0 s1 M → gG p l e (rmR 3 70) s m args below meth c Q D cl A (wR ad cI ci) 5 33 [(0, .ref (ad 0)), (1, iv a1), (2, iv a2), (4, iv v4)] [iv s0, iv s1] M := by
    intro r5 X5_41 hr5 hX5_41 v4 s0 s1 M h
    unfold wB_RcountsBelow_33 at h
    refine g_iadd C dR_countsBelow_33 ?_
    refine g_name (fun x3_34 hx3_34 => ?_)
    replace h := h x3_34 hx3_34
    refine g_istore_n C dR_countsBelow_34 (by decide) rfl ?_
    refine g_locals (lv' := [(0, .ref (ad 0)), (1, iv a1), (2, iv a2), (3, iv x3_34), (4, iv v4)]) rfl ?_
    refine g_iinc C dR_countsBelow_35 rfl (by decide) rfl ?_
    refine g_locals (lv' := [(0, .ref (ad 0)), (1, iv a1), (2, iv a2), (3, iv x3_34), (4, iv (v4 + 1))]) rfl ?_
    refine g_goto C 5 dR_countsBelow_38 (by decide) ?_
    refine g_locals (lv' := [(0, .ref (ad 0)), (1, iv a1), (2, iv a2), (3, iv x3_34), (4, iv (v4 + 1))]) rfl ?_
    exact hr5 _ _  _ h
  have pC5 : ∀ (r5 : Int → Int → gSt → Prop) (X5_41 : Int → gSt → Prop) (hr5 : ∀ (v3 : Int) (v4 : Int) (M : gSt), r5 v3 v4 M → gG p l e (rmR 3 70) s m args below meth c Q D cl A (wR ad cI ci) 5 5 [(0, .ref (ad 0)), (1, iv a1), (2, iv a2), (3, iv v3), (4, iv v4)] [] M) (hX5_41 : ∀ (v3 : Int) (M : gSt), X5_41 v3 M → gG p l e (rmR 3 70) s m args below meth c Q D cl A (wR ad cI ci) 5 41 [(3, iv v3)] [] M) (v3 : Int) (v4 : Int) (M : gSt), wC_RcountsBelow_5 a1 a2 k r5 X5_41 v3 v4 M → gG p l e (rmR 3 70) s m args below meth c Q D cl A (wR ad cI ci) 5 5 [(0, .ref (ad 0)), (1, iv a1), (2, iv a2), (3, iv v3), (4, iv v4)] [] M := by
    intro r5 X5_41 hr5 hX5_41 v3 v4 M h
    unfold wC_RcountsBelow_5 at h
    refine g_iload C dR_countsBelow_5 rfl ?_
    refine g_iload_n C dR_countsBelow_7 rfl ?_
    refine g_icmp_ge C 41 dR_countsBelow_8 (by decide) (fun hc => ?_) (fun hc => ?_)
    · replace h := h.1 hc
      refine g_locals (lv' := [(3, iv v3)]) rfl ?_
      exact hX5_41 _  _ h
    · replace h := h.2 hc
      refine g_iload_n C dR_countsBelow_11 rfl ?_
      refine g_aload_n C dR_countsBelow_12 rfl ?_
      refine g_iload C dR_countsBelow_13 rfl ?_
      refine g_iconst C dR_countsBelow_15 ?_
      refine g_callVi C (nargs := 2) (o := 0) (st := [iv v3]) (m_Rof hci h) rfl (by decide) hci rfl gd_of (by decide +kernel) ⟨rfl, rfl⟩ dR_countsBelow_16 ⟨by decide, by decide⟩ rfl rfl (Nat.le_of_ble_eq_true rfl) ?_
      intro r16c M16 hN
      replace h := hN
      clear hN
      refine g_iload_n C dR_countsBelow_19 rfl ?_
      refine g_icmp_ne C 32 dR_countsBelow_20 (by decide) (fun hc => ?_) (fun hc => ?_)
      · replace h := h.1 hc
        refine g_iconst C dR_countsBelow_32 ?_
        refine g_locals (lv' := [(0, .ref (ad 0)), (1, iv a1), (2, iv a2), (4, iv v4)]) rfl ?_
        exact pB33 r5 X5_41 hr5 hX5_41 _ _ _ _ h
      · replace h := h.2 hc
        refine g_aload_n C dR_countsBelow_23 rfl ?_
        refine g_iload C dR_countsBelow_24 rfl ?_
        refine g_callVi C (nargs := 1) (o := 0) (st := [iv v3]) (m_Rcounts hci h) rfl (by decide) hci rfl gd_counts (by decide +kernel) ⟨rfl, rfl⟩ dR_countsBelow_26 ⟨by decide, by decide⟩ rfl rfl (Nat.le_of_ble_eq_true rfl) ?_
        intro r26c M26 hN
        replace h := hN
        clear hN
        refine g_goto C 33 dR_countsBelow_29 (by decide) ?_
        refine g_locals (lv' := [(0, .ref (ad 0)), (1, iv a1), (2, iv a2), (4, iv v4)]) rfl ?_
        exact pB33 r5 X5_41 hr5 hX5_41 _ _ _ _ h
  have pL5 : ∀  (X5_41 : Int → gSt → Prop) (hX5_41 : ∀ (v3 : Int) (M : gSt), X5_41 v3 M → gG p l e (rmR 3 70) s m args below meth c Q D cl A (wR ad cI ci) 5 41 [(3, iv v3)] [] M) (n : Nat) (v3 : Int) (v4 : Int) (M : gSt), wL_RcountsBelow_5 a1 a2 k  X5_41 n v3 v4 M → gG p l e (rmR 3 70) s m args below meth c Q D cl A (wR ad cI ci) 5 5 [(0, .ref (ad 0)), (1, iv a1), (2, iv a2), (3, iv v3), (4, iv v4)] [] M := by
    intro  X5_41 hX5_41 n
    induction n with
    | zero => intro v3 v4 M h; exact h.elim
    | succ n ih =>
      intro v3 v4 M h
      exact pC5  (wL_RcountsBelow_5 a1 a2 k  X5_41 n) X5_41 ih hX5_41 v3 v4 M h
  refine g_locals (lv' := [(0, .ref (ad 0)), (1, iv a1), (2, iv a2)]) rfl ?_
  unfold w_RcountsBelow at h
  refine g_iconst C dR_countsBelow_0 ?_
  refine g_istore_n C dR_countsBelow_1 (by decide) rfl ?_
  refine g_locals (lv' := [(0, .ref (ad 0)), (1, iv a1), (2, iv a2), (3, iv 0)]) rfl ?_
  refine g_iconst C dR_countsBelow_2 ?_
  refine g_istore C dR_countsBelow_3 (by decide) rfl ?_
  refine g_locals (lv' := [(0, .ref (ad 0)), (1, iv a1), (2, iv a2), (3, iv 0), (4, iv 0)]) rfl ?_
  refine g_locals (lv' := [(0, .ref (ad 0)), (1, iv a1), (2, iv a2), (3, iv 0), (4, iv 0)]) rfl ?_
  obtain ⟨n, h⟩ := h
  refine pL5 _ ?_ n _ _ _ h
  · intro u3_5 M5 hN
    replace h := hN
    clear hN
    refine g_iload_n C dR_countsBelow_41 rfl ?_
    exact hR _ _ _ _ dR_countsBelow_42 rfl h
def w_RshareOf (a1 : Int) (a2 : Int) (M : gSt) (k : Int → gSt → Prop) : Prop :=
w_Rof a1 0 M (fun r3c M3 => w_Rits r3c 2 M3 (fun r10c M10 => w_Rcounts a1 M10 (fun r17c M17 => 
  (¬ wrap a2 = 0 →

    (¬ wrap a2 = 1 →
      w_RcountsBelow r3c a1 M17 (fun r89c M89 => w_Rheld (r10c - r89c) 0 9999999 M89 (fun r96c M96 => w_Rheld r17c 0 r96c M96 (fun r99c M99 => k r99c M99)))) ∧
    (wrap a2 = 1 →
      w_RcountsBelow r3c (M17 1 2) M17 (fun r54c M54 => 
      (wrap r10c < wrap r54c →
        w_RpartOf r17c r10c r54c M54 (fun r77c M77 => k r77c M77)) ∧
      (wrap r54c ≤ wrap r10c →
        k r17c M54)))) ∧
  (wrap a2 = 0 →
    w_RmanyOn r3c M17 (fun r33c M33 => (wrap r33c ≠ 0) ∧ (w_Rheld r17c 0 (Int.tdiv (wrap r10c) (wrap r33c)) M33 (fun r37c M37 => k r37c M37)))))))
set_option maxHeartbeats 4000000 in
set_option maxRecDepth 100000 in
theorem m_RshareOf {l : Launch} {D : va_G} {cl : List vw_C} {tys : List (ClassId × FieldType)} {ad : Nat → Nat} {cI : ClassId} {ci : Nat} {Z : (Nat → Prop) → State → Prop} (hci : cl[ci]? = some (RX9, TX9, 23)) {a1 : Int} {a2 : Int} {M : gSt} {k : Int → gSt → Prop} (h : w_RshareOf a1 a2 M k) : MOi l yX9_shareOf cX9_shareOf 7 .int (rmR 4 94) D cl ((cI, .int) :: tys) (wR ad cI ci) tR Z [.ref (ad 0), iv a1, iv a2] M k := by
  refine moi_intro (by decide +kernel) (Nat.le_of_ble_eq_true rfl) wi_189 ?_
  intro p e s m args below meth c A Q C hR
  refine g_locals (lv' := [(0, .ref (ad 0)), (1, iv a1), (2, iv a2)]) rfl ?_
  unfold w_RshareOf at h
  refine g_aload_n C dR_shareOf_0 rfl ?_
  refine g_iload_n C dR_shareOf_1 rfl ?_
  refine g_iconst C dR_shareOf_2 ?_
  refine g_callVi C (nargs := 2) (o := 0) (st := []) (m_Rof hci h) rfl (by decide) hci rfl gd_of (by decide +kernel) ⟨rfl, rfl⟩ dR_shareOf_3 ⟨by decide, by decide⟩ rfl rfl (Nat.le_of_ble_eq_true rfl) ?_
  intro r3c M3 hN
  replace h := hN
  clear hN
  refine g_istore_n C dR_shareOf_6 (by decide) rfl ?_
  refine g_locals (lv' := [(0, .ref (ad 0)), (1, iv a1), (2, iv a2), (3, iv r3c)]) rfl ?_
  refine g_aload_n C dR_shareOf_7 rfl ?_
  refine g_iload_n C dR_shareOf_8 rfl ?_
  refine g_iconst C dR_shareOf_9 ?_
  refine g_callVi C (nargs := 2) (o := 0) (st := []) (m_Rits hci h) rfl (by decide) hci rfl gd_its (by decide +kernel) ⟨rfl, rfl⟩ dR_shareOf_10 ⟨by decide, by decide⟩ rfl rfl (Nat.le_of_ble_eq_true rfl) ?_
  intro r10c M10 hN
  replace h := hN
  clear hN
  refine g_istore C dR_shareOf_13 (by decide) rfl ?_
  refine g_locals (lv' := [(0, .ref (ad 0)), (1, iv a1), (2, iv a2), (3, iv r3c), (4, iv r10c)]) rfl ?_
  refine g_aload_n C dR_shareOf_15 rfl ?_
  refine g_iload_n C dR_shareOf_16 rfl ?_
  refine g_callVi C (nargs := 1) (o := 0) (st := []) (m_Rcounts hci h) rfl (by decide) hci rfl gd_counts (by decide +kernel) ⟨rfl, rfl⟩ dR_shareOf_17 ⟨by decide, by decide⟩ rfl rfl (Nat.le_of_ble_eq_true rfl) ?_
  intro r17c M17 hN
  replace h := hN
  clear hN
  refine g_istore C dR_shareOf_20 (by decide) rfl ?_
  refine g_locals (lv' := [(0, .ref (ad 0)), (1, iv a1), (2, iv a2), (3, iv r3c), (4, iv r10c), (5, iv r17c)]) rfl ?_
  refine g_iload_n C dR_shareOf_22 rfl ?_
  refine g_if_ne C 41 dR_shareOf_23 (by decide) (fun hc => ?_) (fun hc => ?_)
  · replace h := h.1 hc
    refine g_iload_n C dR_shareOf_41 rfl ?_
    refine g_iconst C dR_shareOf_42 ?_
    refine g_icmp_ne C 81 dR_shareOf_43 (by decide) (fun hc => ?_) (fun hc => ?_)
    · replace h := h.1 hc
      refine g_iload C dR_shareOf_81 rfl ?_
      refine g_iconst C dR_shareOf_83 ?_
      refine g_iload C dR_shareOf_84 rfl ?_
      refine g_aload_n C dR_shareOf_86 rfl ?_
      refine g_iload_n C dR_shareOf_87 rfl ?_
      refine g_iload_n C dR_shareOf_88 rfl ?_
      refine g_callVi C (nargs := 2) (o := 0) (st := [iv r10c, iv 0, iv r17c]) (m_RcountsBelow hci h) rfl (by decide) hci rfl gd_countsBelow (by decide +kernel) ⟨rfl, rfl⟩ dR_shareOf_89 ⟨by decide, by decide⟩ rfl rfl (Nat.le_of_ble_eq_true rfl) ?_
      intro r89c M89 hN
      replace h := hN
      clear hN
      refine g_isub C dR_shareOf_92 ?_
      refine g_iconst C dR_shareOf_93 ?_
      refine g_ldc C 9999999 wi_34 rfl dR_shareOf_94 ?_
      refine g_callSi C (nargs := 3) (st := [iv 0, iv r17c]) (m_Rheld hci h) gd_held (by decide +kernel) ⟨rfl, rfl⟩ dR_shareOf_96 ⟨by decide, by decide⟩ rfl rfl (Nat.le_of_ble_eq_true rfl) ?_
      intro r96c M96 hN
      replace h := hN
      clear hN
      refine g_callSi C (nargs := 3) (st := []) (m_Rheld hci h) gd_held (by decide +kernel) ⟨rfl, rfl⟩ dR_shareOf_99 ⟨by decide, by decide⟩ rfl rfl (Nat.le_of_ble_eq_true rfl) ?_
      intro r99c M99 hN
      replace h := hN
      clear hN
      exact hR _ _ _ _ dR_shareOf_102 rfl h
    · replace h := h.2 hc
      refine g_aload_n C dR_shareOf_46 rfl ?_
      refine g_iload_n C dR_shareOf_47 rfl ?_
      refine g_aload_n C dR_shareOf_48 rfl ?_
      refine rf_s C hci dR_shareOf_49 ?_
      refine g_iconst C dR_shareOf_52 ?_
      refine g_iald C (n := 536) dR_shareOf_53 rfl (by decide) ⟨by decide, by decide⟩ ?_
      refine g_callVi C (nargs := 2) (o := 0) (st := []) (m_RcountsBelow hci h) rfl (by decide) hci rfl gd_countsBelow (by decide +kernel) ⟨rfl, rfl⟩ dR_shareOf_54 ⟨by decide, by decide⟩ rfl rfl (Nat.le_of_ble_eq_true rfl) ?_
      intro r54c M54 hN
      replace h := hN
      clear hN
      refine g_istore C dR_shareOf_57 (by decide) rfl ?_
      refine g_locals (lv' := [(0, .ref (ad 0)), (1, iv a1), (2, iv a2), (3, iv r3c), (4, iv r10c), (5, iv r17c), (6, iv r54c)]) rfl ?_
      refine g_iload C dR_shareOf_59 rfl ?_
      refine g_iload C dR_shareOf_61 rfl ?_
      refine g_icmp_gt C 71 dR_shareOf_63 (by decide) (fun hc => ?_) (fun hc => ?_)
      · replace h := h.1 hc
        refine g_iload C dR_shareOf_71 rfl ?_
        refine g_iload C dR_shareOf_73 rfl ?_
        refine g_iload C dR_shareOf_75 rfl ?_
        refine g_callSi C (nargs := 3) (st := []) (m_RpartOf hci h) gd_partOf (by decide +kernel) ⟨rfl, rfl⟩ dR_shareOf_77 ⟨by decide, by decide⟩ rfl rfl (Nat.le_of_ble_eq_true rfl) ?_
        intro r77c M77 hN
        replace h := hN
        clear hN
        exact hR _ _ _ _ dR_shareOf_80 rfl h
      · replace h := h.2 hc
        refine g_iload C dR_shareOf_66 rfl ?_
        refine g_goto C 80 dR_shareOf_68 (by decide) ?_
        exact hR _ _ _ _ dR_shareOf_80 rfl h
  · replace h := h.2 hc
    refine g_iload C dR_shareOf_26 rfl ?_
    refine g_iconst C dR_shareOf_28 ?_
    refine g_iload C dR_shareOf_29 rfl ?_
    refine g_aload_n C dR_shareOf_31 rfl ?_
    refine g_iload_n C dR_shareOf_32 rfl ?_
    refine g_callVi C (nargs := 1) (o := 0) (st := [iv r10c, iv 0, iv r17c]) (m_RmanyOn hci h) rfl (by decide) hci rfl gd_manyOn (by decide +kernel) ⟨rfl, rfl⟩ dR_shareOf_33 ⟨by decide, by decide⟩ rfl rfl (Nat.le_of_ble_eq_true rfl) ?_
    intro r33c M33 hN
    replace h := hN
    clear hN
    refine g_idiv C dR_shareOf_36 h.1 ?_
    replace h := h.2
    refine g_top (y := Int.tdiv (wrap r10c) (wrap r33c)) rfl ?_
    refine g_callSi C (nargs := 3) (st := []) (m_Rheld hci h) gd_held (by decide +kernel) ⟨rfl, rfl⟩ dR_shareOf_37 ⟨by decide, by decide⟩ rfl rfl (Nat.le_of_ble_eq_true rfl) ?_
    intro r37c M37 hN
    replace h := hN
    clear hN
    exact hR _ _ _ _ dR_shareOf_40 rfl h
def w_RisLaw (a1 : Int) (M : gSt) (k : Int → gSt → Prop) : Prop :=
w_Rin a1 0 2 M (fun r3c M3 => (r3c = 0 ∨ r3c = 1) ∧ (k r3c M3))
set_option maxHeartbeats 4000000 in
set_option maxRecDepth 100000 in
theorem m_RisLaw {l : Launch} {D : va_G} {cl : List vw_C} {tys : List (ClassId × FieldType)} {ad : Nat → Nat} {cI : ClassId} {ci : Nat} {Z : (Nat → Prop) → State → Prop} (hci : cl[ci]? = some (RX9, TX9, 23)) {a1 : Int} {M : gSt} {k : Int → gSt → Prop} (h : w_RisLaw a1 M k) : MOi l yX9_isLaw cX9_isLaw 1 .boolean (rmR 1 22) D cl ((cI, .int) :: tys) (wR ad cI ci) tR Z [iv a1] M k := by
  refine moi_intro (by decide +kernel) (Nat.le_of_ble_eq_true rfl) wi_190 ?_
  intro p e s m args below meth c A Q C hR
  refine g_locals (lv' := [(0, iv a1)]) rfl ?_
  unfold w_RisLaw at h
  refine g_iload_n C dR_isLaw_0 rfl ?_
  refine g_iconst C dR_isLaw_1 ?_
  refine g_iconst C dR_isLaw_2 ?_
  refine g_callSi C (nargs := 3) (st := []) (m_Rin hci h) gd_in (by decide +kernel) ⟨rfl, rfl⟩ dR_isLaw_3 ⟨by decide, by decide⟩ rfl rfl (Nat.le_of_ble_eq_true rfl) ?_
  intro r3c M3 hN
  replace h := hN
  clear hN
  exact hR _ _ _ _ dR_isLaw_6 (zn_bool h.1).1 h.2
def wB_Rshare_24 (a1 : Int) (a2 : Int) (k : Int → gSt → Prop)   (M : gSt) : Prop :=
w_Rerror 1 M (fun r26c M26 => k r26c M26)
def w_Rshare (a1 : Int) (a2 : Int) (M : gSt) (k : Int → gSt → Prop) : Prop :=
w_RisClaim a1 M (fun r2c M2 => 
  (wrap r2c = 0 →
    wB_Rshare_24 a1 a2 k   M2) ∧
  (¬ wrap r2c = 0 →
    w_RisLaw a2 M2 (fun r9c M9 => 
    (wrap r9c = 0 →
      wB_Rshare_24 a1 a2 k   M9) ∧
    (¬ wrap r9c = 0 →
      w_RshareOf a1 a2 M9 (fun r18c M18 => k r18c M18)))))
set_option maxHeartbeats 4000000 in
set_option maxRecDepth 100000 in
theorem m_Rshare {l : Launch} {D : va_G} {cl : List vw_C} {tys : List (ClassId × FieldType)} {ad : Nat → Nat} {cI : ClassId} {ci : Nat} {Z : (Nat → Prop) → State → Prop} (hci : cl[ci]? = some (RX9, TX9, 23)) {a1 : Int} {a2 : Int} {M : gSt} {k : Int → gSt → Prop} (h : w_Rshare a1 a2 M k) : MOi l yX9_share cX9_share 3 .int (rmR 5 120) D cl ((cI, .int) :: tys) (wR ad cI ci) tR Z [.ref (ad 0), iv a1, iv a2] M k := by
  refine moi_intro (by decide +kernel) (Nat.le_of_ble_eq_true rfl) wi_196 ?_
  intro p e s m args below meth c A Q C hR
  have pB24 : ∀    (M : gSt), wB_Rshare_24 a1 a2 k   M → gG p l e (rmR 5 120) s m args below meth c Q D cl A (wR ad cI ci) 3 24 [(0, .ref (ad 0))] [] M := by
    intro    M h
    unfold wB_Rshare_24 at h
    refine g_aload_n C dR_share_24 rfl ?_
    refine g_iconst C dR_share_25 ?_
    refine g_callVi C (nargs := 1) (o := 0) (st := []) (m_Rerror hci h) rfl (by decide) hci rfl gd_error (by decide +kernel) ⟨rfl, rfl⟩ dR_share_26 ⟨by decide, by decide⟩ rfl rfl (Nat.le_of_ble_eq_true rfl) ?_
    intro r26c M26 hN
    replace h := hN
    clear hN
    exact hR _ _ _ _ dR_share_29 rfl h
  refine g_locals (lv' := [(0, .ref (ad 0)), (1, iv a1), (2, iv a2)]) rfl ?_
  unfold w_Rshare at h
  refine g_aload_n C dR_share_0 rfl ?_
  refine g_iload_n C dR_share_1 rfl ?_
  refine g_callVi C (nargs := 1) (o := 0) (st := []) (m_RisClaim hci h) rfl (by decide) hci rfl gd_isClaim (by decide +kernel) ⟨rfl, rfl⟩ dR_share_2 ⟨by decide, by decide⟩ rfl rfl (Nat.le_of_ble_eq_true rfl) ?_
  intro r2c M2 hN
  replace h := hN
  clear hN
  refine g_if_eq C 24 dR_share_5 (by decide) (fun hc => ?_) (fun hc => ?_)
  · replace h := h.1 hc
    refine g_locals (lv' := [(0, .ref (ad 0))]) rfl ?_
    exact pB24  _ h
  · replace h := h.2 hc
    refine g_iload_n C dR_share_8 rfl ?_
    refine g_callSi C (nargs := 1) (st := []) (m_RisLaw hci h) gd_isLaw (by decide +kernel) ⟨rfl, rfl⟩ dR_share_9 ⟨by decide, by decide⟩ rfl rfl (Nat.le_of_ble_eq_true rfl) ?_
    intro r9c M9 hN
    replace h := hN
    clear hN
    refine g_if_eq C 24 dR_share_12 (by decide) (fun hc => ?_) (fun hc => ?_)
    · replace h := h.1 hc
      refine g_locals (lv' := [(0, .ref (ad 0))]) rfl ?_
      exact pB24  _ h
    · replace h := h.2 hc
      refine g_aload_n C dR_share_15 rfl ?_
      refine g_iload_n C dR_share_16 rfl ?_
      refine g_iload_n C dR_share_17 rfl ?_
      refine g_callVi C (nargs := 2) (o := 0) (st := []) (m_RshareOf hci h) rfl (by decide) hci rfl gd_shareOf (by decide +kernel) ⟨rfl, rfl⟩ dR_share_18 ⟨by decide, by decide⟩ rfl rfl (Nat.le_of_ble_eq_true rfl) ?_
      intro r18c M18 hN
      replace h := hN
      clear hN
      refine g_goto C 29 dR_share_21 (by decide) ?_
      exact hR _ _ _ _ dR_share_29 rfl h
def wB_Rleft_15 (a1 : Int) (a2 : Int) (k : Int → gSt → Prop)   (M : gSt) : Prop :=
w_Rerror 1 M (fun r17c M17 => k r17c M17)
def wB_Rleft_65 (a1 : Int) (a2 : Int) (k : Int → gSt → Prop) (r31 : Int → Int → gSt → Prop) (X31_73 : Int → gSt → Prop) (v4 : Int) (s0 : Int) (s1 : Int) (M : gSt) : Prop :=
∀ x3_66 : Int, x3_66 = s1 - s0 → (r31 x3_66 (v4 + 1) M)
def wC_Rleft_31 (a1 : Int) (a2 : Int) (k : Int → gSt → Prop) (r31 : Int → Int → gSt → Prop) (X31_73 : Int → gSt → Prop) (v3 : Int) (v4 : Int) (M : gSt) : Prop :=

  (wrap (M 1 2) ≤ wrap v4 →
    X31_73 v3 M) ∧
  (wrap v4 < wrap (M 1 2) →
    w_Rof v4 0 M (fun r47c M47 => 
    (¬ wrap r47c = wrap a1 →
      wB_Rleft_65 a1 a2 k r31 X31_73 v4 0 v3 M47) ∧
    (wrap r47c = wrap a1 →
      w_RshareOf v4 a2 M47 (fun r58c M58 => wB_Rleft_65 a1 a2 k r31 X31_73 v4 r58c v3 M58))))
def wL_Rleft_31 (a1 : Int) (a2 : Int) (k : Int → gSt → Prop)  (X31_73 : Int → gSt → Prop) : Nat → Int → Int → gSt → Prop
  | 0 => fun _ _ _ => False
  | n + 1 => fun v3 v4 M => wC_Rleft_31 a1 a2 k  (wL_Rleft_31 a1 a2 k  X31_73 n) X31_73 v3 v4 M
def w_Rleft (a1 : Int) (a2 : Int) (M : gSt) (k : Int → gSt → Prop) : Prop :=
w_RisThing a1 M (fun r2c M2 => 
  (wrap r2c = 0 →
    wB_Rleft_15 a1 a2 k   M2) ∧
  (¬ wrap r2c = 0 →
    w_RisLaw a2 M2 (fun r9c M9 => 
    (¬ wrap r9c = 0 →
      w_Rits a1 2 M9 (fun r24c M24 => ∃ n, wL_Rleft_31 a1 a2 k  (fun u3_31 M31 =>
        k u3_31 M31) n r24c 0 M24)) ∧
    (wrap r9c = 0 →
      wB_Rleft_15 a1 a2 k   M9))))
set_option maxHeartbeats 4000000 in
set_option maxRecDepth 100000 in
theorem m_Rleft {l : Launch} {D : va_G} {cl : List vw_C} {tys : List (ClassId × FieldType)} {ad : Nat → Nat} {cI : ClassId} {ci : Nat} {Z : (Nat → Prop) → State → Prop} (hci : cl[ci]? = some (RX9, TX9, 23)) {a1 : Int} {a2 : Int} {M : gSt} {k : Int → gSt → Prop} (h : w_Rleft a1 a2 M k) : MOi l yX9_left cX9_left 5 .int (rmR 5 120) D cl ((cI, .int) :: tys) (wR ad cI ci) tR Z [.ref (ad 0), iv a1, iv a2] M k := by
  refine moi_intro (by decide +kernel) (Nat.le_of_ble_eq_true rfl) wi_197 ?_
  intro p e s m args below meth c A Q C hR
  have pB15 : ∀    (M : gSt), wB_Rleft_15 a1 a2 k   M → gG p l e (rmR 5 120) s m args below meth c Q D cl A (wR ad cI ci) 5 15 [(0, .ref (ad 0))] [] M := by
    intro    M h
    unfold wB_Rleft_15 at h
    refine g_aload_n C dR_left_15 rfl ?_
    refine g_iconst C dR_left_16 ?_
    refine g_callVi C (nargs := 1) (o := 0) (st := []) (m_Rerror hci h) rfl (by decide) hci rfl gd_error (by decide +kernel) ⟨rfl, rfl⟩ dR_left_17 ⟨by decide, by decide⟩ rfl rfl (Nat.le_of_ble_eq_true rfl) ?_
    intro r17c M17 hN
    replace h := hN
    clear hN
    exact hR _ _ _ _ dR_left_20 rfl h
  have pB65 : ∀ (r31 : Int → Int → gSt → Prop) (X31_73 : Int → gSt → Prop) (hr31 : ∀ (v3 : Int) (v4 : Int) (M : gSt), r31 v3 v4 M → gG p l e (rmR 5 120) s m args below meth c Q D cl A (wR ad cI ci) 5 31 [(0, .ref (ad 0)), (1, iv a1), (2, iv a2), (3, iv v3), (4, iv v4)] [] M) (hX31_73 : ∀ (v3 : Int) (M : gSt), X31_73 v3 M → gG p l e (rmR 5 120) s m args below meth c Q D cl A (wR ad cI ci) 5 73 [(3, iv v3)] [] M) (v4 : Int) (s0 : Int) (s1 : Int) (M : gSt), wB_Rleft_65 a1 a2 k r31 X31_73 v4 s0 s1 M → gG p l e (rmR 5 120) s m args below meth c Q D cl A (wR ad cI ci) 5 65 [(0, .ref (ad 0)), (1, iv a1), (2, iv a2), (4, iv v4)] [iv s0, iv s1] M := by
    intro r31 X31_73 hr31 hX31_73 v4 s0 s1 M h
    unfold wB_Rleft_65 at h
    refine g_isub C dR_left_65 ?_
    refine g_name (fun x3_66 hx3_66 => ?_)
    replace h := h x3_66 hx3_66
    refine g_istore_n C dR_left_66 (by decide) rfl ?_
    refine g_locals (lv' := [(0, .ref (ad 0)), (1, iv a1), (2, iv a2), (3, iv x3_66), (4, iv v4)]) rfl ?_
    refine g_iinc C dR_left_67 rfl (by decide) rfl ?_
    refine g_locals (lv' := [(0, .ref (ad 0)), (1, iv a1), (2, iv a2), (3, iv x3_66), (4, iv (v4 + 1))]) rfl ?_
    refine g_goto C 31 dR_left_70 (by decide) ?_
    refine g_locals (lv' := [(0, .ref (ad 0)), (1, iv a1), (2, iv a2), (3, iv x3_66), (4, iv (v4 + 1))]) rfl ?_
    exact hr31 _ _  _ h
  have pC31 : ∀ (r31 : Int → Int → gSt → Prop) (X31_73 : Int → gSt → Prop) (hr31 : ∀ (v3 : Int) (v4 : Int) (M : gSt), r31 v3 v4 M → gG p l e (rmR 5 120) s m args below meth c Q D cl A (wR ad cI ci) 5 31 [(0, .ref (ad 0)), (1, iv a1), (2, iv a2), (3, iv v3), (4, iv v4)] [] M) (hX31_73 : ∀ (v3 : Int) (M : gSt), X31_73 v3 M → gG p l e (rmR 5 120) s m args below meth c Q D cl A (wR ad cI ci) 5 73 [(3, iv v3)] [] M) (v3 : Int) (v4 : Int) (M : gSt), wC_Rleft_31 a1 a2 k r31 X31_73 v3 v4 M → gG p l e (rmR 5 120) s m args below meth c Q D cl A (wR ad cI ci) 5 31 [(0, .ref (ad 0)), (1, iv a1), (2, iv a2), (3, iv v3), (4, iv v4)] [] M := by
    intro r31 X31_73 hr31 hX31_73 v3 v4 M h
    unfold wC_Rleft_31 at h
    refine g_iload C dR_left_31 rfl ?_
    refine g_aload_n C dR_left_33 rfl ?_
    refine rf_s C hci dR_left_34 ?_
    refine g_iconst C dR_left_37 ?_
    refine g_iald C (n := 536) dR_left_38 rfl (by decide) ⟨by decide, by decide⟩ ?_
    refine g_icmp_ge C 73 dR_left_39 (by decide) (fun hc => ?_) (fun hc => ?_)
    · replace h := h.1 hc
      refine g_locals (lv' := [(3, iv v3)]) rfl ?_
      exact hX31_73 _  _ h
    · replace h := h.2 hc
      refine g_iload_n C dR_left_42 rfl ?_
      refine g_aload_n C dR_left_43 rfl ?_
      refine g_iload C dR_left_44 rfl ?_
      refine g_iconst C dR_left_46 ?_
      refine g_callVi C (nargs := 2) (o := 0) (st := [iv v3]) (m_Rof hci h) rfl (by decide) hci rfl gd_of (by decide +kernel) ⟨rfl, rfl⟩ dR_left_47 ⟨by decide, by decide⟩ rfl rfl (Nat.le_of_ble_eq_true rfl) ?_
      intro r47c M47 hN
      replace h := hN
      clear hN
      refine g_iload_n C dR_left_50 rfl ?_
      refine g_icmp_ne C 64 dR_left_51 (by decide) (fun hc => ?_) (fun hc => ?_)
      · replace h := h.1 hc
        refine g_iconst C dR_left_64 ?_
        refine g_locals (lv' := [(0, .ref (ad 0)), (1, iv a1), (2, iv a2), (4, iv v4)]) rfl ?_
        exact pB65 r31 X31_73 hr31 hX31_73 _ _ _ _ h
      · replace h := h.2 hc
        refine g_aload_n C dR_left_54 rfl ?_
        refine g_iload C dR_left_55 rfl ?_
        refine g_iload_n C dR_left_57 rfl ?_
        refine g_callVi C (nargs := 2) (o := 0) (st := [iv v3]) (m_RshareOf hci h) rfl (by decide) hci rfl gd_shareOf (by decide +kernel) ⟨rfl, rfl⟩ dR_left_58 ⟨by decide, by decide⟩ rfl rfl (Nat.le_of_ble_eq_true rfl) ?_
        intro r58c M58 hN
        replace h := hN
        clear hN
        refine g_goto C 65 dR_left_61 (by decide) ?_
        refine g_locals (lv' := [(0, .ref (ad 0)), (1, iv a1), (2, iv a2), (4, iv v4)]) rfl ?_
        exact pB65 r31 X31_73 hr31 hX31_73 _ _ _ _ h
  have pL31 : ∀  (X31_73 : Int → gSt → Prop) (hX31_73 : ∀ (v3 : Int) (M : gSt), X31_73 v3 M → gG p l e (rmR 5 120) s m args below meth c Q D cl A (wR ad cI ci) 5 73 [(3, iv v3)] [] M) (n : Nat) (v3 : Int) (v4 : Int) (M : gSt), wL_Rleft_31 a1 a2 k  X31_73 n v3 v4 M → gG p l e (rmR 5 120) s m args below meth c Q D cl A (wR ad cI ci) 5 31 [(0, .ref (ad 0)), (1, iv a1), (2, iv a2), (3, iv v3), (4, iv v4)] [] M := by
    intro  X31_73 hX31_73 n
    induction n with
    | zero => intro v3 v4 M h; exact h.elim
    | succ n ih =>
      intro v3 v4 M h
      exact pC31  (wL_Rleft_31 a1 a2 k  X31_73 n) X31_73 ih hX31_73 v3 v4 M h
  refine g_locals (lv' := [(0, .ref (ad 0)), (1, iv a1), (2, iv a2)]) rfl ?_
  unfold w_Rleft at h
  refine g_aload_n C dR_left_0 rfl ?_
  refine g_iload_n C dR_left_1 rfl ?_
  refine g_callVi C (nargs := 1) (o := 0) (st := []) (m_RisThing hci h) rfl (by decide) hci rfl gd_isThing (by decide +kernel) ⟨rfl, rfl⟩ dR_left_2 ⟨by decide, by decide⟩ rfl rfl (Nat.le_of_ble_eq_true rfl) ?_
  intro r2c M2 hN
  replace h := hN
  clear hN
  refine g_if_eq C 15 dR_left_5 (by decide) (fun hc => ?_) (fun hc => ?_)
  · replace h := h.1 hc
    refine g_locals (lv' := [(0, .ref (ad 0))]) rfl ?_
    exact pB15  _ h
  · replace h := h.2 hc
    refine g_iload_n C dR_left_8 rfl ?_
    refine g_callSi C (nargs := 1) (st := []) (m_RisLaw hci h) gd_isLaw (by decide +kernel) ⟨rfl, rfl⟩ dR_left_9 ⟨by decide, by decide⟩ rfl rfl (Nat.le_of_ble_eq_true rfl) ?_
    intro r9c M9 hN
    replace h := hN
    clear hN
    refine g_if_ne C 21 dR_left_12 (by decide) (fun hc => ?_) (fun hc => ?_)
    · replace h := h.1 hc
      refine g_aload_n C dR_left_21 rfl ?_
      refine g_iload_n C dR_left_22 rfl ?_
      refine g_iconst C dR_left_23 ?_
      refine g_callVi C (nargs := 2) (o := 0) (st := []) (m_Rits hci h) rfl (by decide) hci rfl gd_its (by decide +kernel) ⟨rfl, rfl⟩ dR_left_24 ⟨by decide, by decide⟩ rfl rfl (Nat.le_of_ble_eq_true rfl) ?_
      intro r24c M24 hN
      replace h := hN
      clear hN
      refine g_istore_n C dR_left_27 (by decide) rfl ?_
      refine g_locals (lv' := [(0, .ref (ad 0)), (1, iv a1), (2, iv a2), (3, iv r24c)]) rfl ?_
      refine g_iconst C dR_left_28 ?_
      refine g_istore C dR_left_29 (by decide) rfl ?_
      refine g_locals (lv' := [(0, .ref (ad 0)), (1, iv a1), (2, iv a2), (3, iv r24c), (4, iv 0)]) rfl ?_
      refine g_locals (lv' := [(0, .ref (ad 0)), (1, iv a1), (2, iv a2), (3, iv r24c), (4, iv 0)]) rfl ?_
      obtain ⟨n, h⟩ := h
      refine pL31 _ ?_ n _ _ _ h
      · intro u3_31 M31 hN
        replace h := hN
        clear hN
        refine g_iload_n C dR_left_73 rfl ?_
        exact hR _ _ _ _ dR_left_74 rfl h
    · replace h := h.2 hc
      refine g_locals (lv' := [(0, .ref (ad 0))]) rfl ?_
      exact pB15  _ h
def w_RisPaper (a1 : Int) (a2 : Int) (a3 : Int) (M : gSt) (k : Int → gSt → Prop) : Prop :=
w_RisThing a1 M (fun r2c M2 => 
  (wrap r2c = 0 →
    k 0 M2) ∧
  (¬ wrap r2c = 0 →
    w_RisThing a2 M2 (fun r10c M10 => 
    (wrap r10c = 0 →
      k 0 M10) ∧
    (¬ wrap r10c = 0 →

      (wrap a1 = wrap a2 →
        k 0 M10) ∧
      (¬ wrap a1 = wrap a2 →
        w_Rin a3 1 8 M10 (fun r25c M25 => 
        (wrap r25c = 0 →
          k 0 M25) ∧
        (¬ wrap r25c = 0 →
          k 1 M25)))))))
set_option maxHeartbeats 4000000 in
set_option maxRecDepth 100000 in
theorem m_RisPaper {l : Launch} {D : va_G} {cl : List vw_C} {tys : List (ClassId × FieldType)} {ad : Nat → Nat} {cI : ClassId} {ci : Nat} {Z : (Nat → Prop) → State → Prop} (hci : cl[ci]? = some (RX9, TX9, 23)) {a1 : Int} {a2 : Int} {a3 : Int} {M : gSt} {k : Int → gSt → Prop} (h : w_RisPaper a1 a2 a3 M k) : MOi l yX9_isPaper cX9_isPaper 4 .boolean (rmR 2 43) D cl ((cI, .int) :: tys) (wR ad cI ci) tR Z [.ref (ad 0), iv a1, iv a2, iv a3] M k := by
  refine moi_intro (by decide +kernel) (Nat.le_of_ble_eq_true rfl) wi_198 ?_
  intro p e s m args below meth c A Q C hR
  refine g_locals (lv' := [(0, .ref (ad 0)), (1, iv a1), (2, iv a2), (3, iv a3)]) rfl ?_
  unfold w_RisPaper at h
  refine g_aload_n C dR_isPaper_0 rfl ?_
  refine g_iload_n C dR_isPaper_1 rfl ?_
  refine g_callVi C (nargs := 1) (o := 0) (st := []) (m_RisThing hci h) rfl (by decide) hci rfl gd_isThing (by decide +kernel) ⟨rfl, rfl⟩ dR_isPaper_2 ⟨by decide, by decide⟩ rfl rfl (Nat.le_of_ble_eq_true rfl) ?_
  intro r2c M2 hN
  replace h := hN
  clear hN
  refine g_if_eq C 35 dR_isPaper_5 (by decide) (fun hc => ?_) (fun hc => ?_)
  · replace h := h.1 hc
    refine g_iconst C dR_isPaper_35 ?_
    exact hR _ _ _ _ dR_isPaper_36 rfl h
  · replace h := h.2 hc
    refine g_aload_n C dR_isPaper_8 rfl ?_
    refine g_iload_n C dR_isPaper_9 rfl ?_
    refine g_callVi C (nargs := 1) (o := 0) (st := []) (m_RisThing hci h) rfl (by decide) hci rfl gd_isThing (by decide +kernel) ⟨rfl, rfl⟩ dR_isPaper_10 ⟨by decide, by decide⟩ rfl rfl (Nat.le_of_ble_eq_true rfl) ?_
    intro r10c M10 hN
    replace h := hN
    clear hN
    refine g_if_eq C 35 dR_isPaper_13 (by decide) (fun hc => ?_) (fun hc => ?_)
    · replace h := h.1 hc
      refine g_iconst C dR_isPaper_35 ?_
      exact hR _ _ _ _ dR_isPaper_36 rfl h
    · replace h := h.2 hc
      refine g_iload_n C dR_isPaper_16 rfl ?_
      refine g_iload_n C dR_isPaper_17 rfl ?_
      refine g_icmp_eq C 35 dR_isPaper_18 (by decide) (fun hc => ?_) (fun hc => ?_)
      · replace h := h.1 hc
        refine g_iconst C dR_isPaper_35 ?_
        exact hR _ _ _ _ dR_isPaper_36 rfl h
      · replace h := h.2 hc
        refine g_iload_n C dR_isPaper_21 rfl ?_
        refine g_iconst C dR_isPaper_22 ?_
        refine g_bipush C dR_isPaper_23 rfl ?_
        refine g_callSi C (nargs := 3) (st := []) (m_Rin hci h) gd_in (by decide +kernel) ⟨rfl, rfl⟩ dR_isPaper_25 ⟨by decide, by decide⟩ rfl rfl (Nat.le_of_ble_eq_true rfl) ?_
        intro r25c M25 hN
        replace h := hN
        clear hN
        refine g_if_eq C 35 dR_isPaper_28 (by decide) (fun hc => ?_) (fun hc => ?_)
        · replace h := h.1 hc
          refine g_iconst C dR_isPaper_35 ?_
          exact hR _ _ _ _ dR_isPaper_36 rfl h
        · replace h := h.2 hc
          refine g_iconst C dR_isPaper_31 ?_
          refine g_goto C 36 dR_isPaper_32 (by decide) ?_
          exact hR _ _ _ _ dR_isPaper_36 rfl h
def w_RaddPaper (a1 : Int) (a2 : Int) (a3 : Int) (M : gSt) (k : gSt → Prop) : Prop :=
∀ x4_12 : Int, x4_12 = 160 + (3 * (M 1 3)) → ((0 ≤ x4_12 ∧ x4_12 < 536) ∧ (∀ M21 : gSt, M21 = wr M 1 x4_12 a1 → ((0 ≤ x4_12 + 1 ∧ x4_12 + 1 < 536) ∧ (∀ M31 : gSt, M31 = wr M21 1 (x4_12 + 1) a2 → ((0 ≤ x4_12 + 2 ∧ x4_12 + 2 < 536) ∧ (∀ M41 : gSt, M41 = wr M31 1 (x4_12 + 2) a3 → (∀ M51 : gSt, M51 = wr M41 1 3 ((M41 1 3) + 1) → (k M51))))))))
set_option maxHeartbeats 4000000 in
set_option maxRecDepth 100000 in
theorem m_RaddPaper {l : Launch} {D : va_G} {cl : List vw_C} {tys : List (ClassId × FieldType)} {ad : Nat → Nat} {cI : ClassId} {ci : Nat} {Z : (Nat → Prop) → State → Prop} (hci : cl[ci]? = some (RX9, TX9, 23)) {a1 : Int} {a2 : Int} {a3 : Int} {M : gSt} {k : gSt → Prop} (h : w_RaddPaper a1 a2 a3 M k) : MOv l yX9_addPaper cX9_addPaper 5 (rmR 0 0) D cl ((cI, .int) :: tys) (wR ad cI ci) tR Z [.ref (ad 0), iv a1, iv a2, iv a3] M k := by
  refine mov_intro (by decide +kernel) (Nat.le_of_ble_eq_true rfl) wi_199 ?_
  intro p e s m args below meth c A Q C hR
  refine g_locals (lv' := [(0, .ref (ad 0)), (1, iv a1), (2, iv a2), (3, iv a3)]) rfl ?_
  unfold w_RaddPaper at h
  refine g_sipush C dR_addPaper_0 rfl ?_
  refine g_iconst C dR_addPaper_3 ?_
  refine g_aload_n C dR_addPaper_4 rfl ?_
  refine rf_s C hci dR_addPaper_5 ?_
  refine g_iconst C dR_addPaper_8 ?_
  refine g_iald C (n := 536) dR_addPaper_9 rfl (by decide) ⟨by decide, by decide⟩ ?_
  refine g_imul C dR_addPaper_10 ?_
  refine g_iadd C dR_addPaper_11 ?_
  refine g_name (fun x4_12 hx4_12 => ?_)
  replace h := h x4_12 hx4_12
  refine g_istore C dR_addPaper_12 (by decide) rfl ?_
  refine g_locals (lv' := [(0, .ref (ad 0)), (1, iv a1), (2, iv a2), (3, iv a3), (4, iv x4_12)]) rfl ?_
  refine g_aload_n C dR_addPaper_14 rfl ?_
  refine rf_s C hci dR_addPaper_15 ?_
  refine g_iload C dR_addPaper_18 rfl ?_
  refine g_iload_n C dR_addPaper_20 rfl ?_
  refine g_iast C (n := 536) dR_addPaper_21 rfl (by decide) h.1 ?_
  replace h := h.2
  refine g_memname (fun M21 hM21 => ?_)
  replace h := h M21 hM21
  refine g_aload_n C dR_addPaper_22 rfl ?_
  refine rf_s C hci dR_addPaper_23 ?_
  refine g_iload C dR_addPaper_26 rfl ?_
  refine g_iconst C dR_addPaper_28 ?_
  refine g_iadd C dR_addPaper_29 ?_
  refine g_iload_n C dR_addPaper_30 rfl ?_
  refine g_iast C (n := 536) dR_addPaper_31 rfl (by decide) h.1 ?_
  replace h := h.2
  refine g_memname (fun M31 hM31 => ?_)
  replace h := h M31 hM31
  refine g_aload_n C dR_addPaper_32 rfl ?_
  refine rf_s C hci dR_addPaper_33 ?_
  refine g_iload C dR_addPaper_36 rfl ?_
  refine g_iconst C dR_addPaper_38 ?_
  refine g_iadd C dR_addPaper_39 ?_
  refine g_iload_n C dR_addPaper_40 rfl ?_
  refine g_iast C (n := 536) dR_addPaper_41 rfl (by decide) h.1 ?_
  replace h := h.2
  refine g_memname (fun M41 hM41 => ?_)
  replace h := h M41 hM41
  refine g_aload_n C dR_addPaper_42 rfl ?_
  refine rf_s C hci dR_addPaper_43 ?_
  refine g_iconst C dR_addPaper_46 ?_
  refine g_dup2 C dR_addPaper_47 rfl rfl ?_
  refine g_iald C (n := 536) dR_addPaper_48 rfl (by decide) ⟨by decide, by decide⟩ ?_
  refine g_iconst C dR_addPaper_49 ?_
  refine g_iadd C dR_addPaper_50 ?_
  refine g_iast C (n := 536) dR_addPaper_51 rfl (by decide) ⟨by decide, by decide⟩ ?_
  refine g_memname (fun M51 hM51 => ?_)
  replace h := h M51 hM51
  exact hR _ _ _ dR_addPaper_52 h
def w_Rpaper (a1 : Int) (a2 : Int) (a3 : Int) (M : gSt) (k : Int → gSt → Prop) : Prop :=
w_RisPaper a1 a2 a3 M (fun r4c M4 => 
  (¬ wrap r4c = 0 →

    (¬ wrap (M4 1 3) = 6 →
      w_RaddPaper a1 a2 a3 M4 (fun M37 => k ((M37 1 3) - 1) M37)) ∧
    (wrap (M4 1 3) = 6 →
      w_Rerror 4 M4 (fun r29c M29 => k r29c M29))) ∧
  (wrap r4c = 0 →
    w_Rerror 1 M4 (fun r12c M12 => k r12c M12)))
set_option maxHeartbeats 4000000 in
set_option maxRecDepth 100000 in
theorem m_Rpaper {l : Launch} {D : va_G} {cl : List vw_C} {tys : List (ClassId × FieldType)} {ad : Nat → Nat} {cI : ClassId} {ci : Nat} {Z : (Nat → Prop) → State → Prop} (hci : cl[ci]? = some (RX9, TX9, 23)) {a1 : Int} {a2 : Int} {a3 : Int} {M : gSt} {k : Int → gSt → Prop} (h : w_Rpaper a1 a2 a3 M k) : MOi l yX9_paper cX9_paper 4 .int (rmR 3 66) D cl ((cI, .int) :: tys) (wR ad cI ci) tR Z [.ref (ad 0), iv a1, iv a2, iv a3] M k := by
  refine moi_intro (by decide +kernel) (Nat.le_of_ble_eq_true rfl) wi_206 ?_
  intro p e s m args below meth c A Q C hR
  refine g_locals (lv' := [(0, .ref (ad 0)), (1, iv a1), (2, iv a2), (3, iv a3)]) rfl ?_
  unfold w_Rpaper at h
  refine g_aload_n C dR_paper_0 rfl ?_
  refine g_iload_n C dR_paper_1 rfl ?_
  refine g_iload_n C dR_paper_2 rfl ?_
  refine g_iload_n C dR_paper_3 rfl ?_
  refine g_callVi C (nargs := 3) (o := 0) (st := []) (m_RisPaper hci h) rfl (by decide) hci rfl gd_isPaper (by decide +kernel) ⟨rfl, rfl⟩ dR_paper_4 ⟨by decide, by decide⟩ rfl rfl (Nat.le_of_ble_eq_true rfl) ?_
  intro r4c M4 hN
  replace h := hN
  clear hN
  refine g_if_ne C 16 dR_paper_7 (by decide) (fun hc => ?_) (fun hc => ?_)
  · replace h := h.1 hc
    refine g_aload_n C dR_paper_16 rfl ?_
    refine rf_s C hci dR_paper_17 ?_
    refine g_iconst C dR_paper_20 ?_
    refine g_iald C (n := 536) dR_paper_21 rfl (by decide) ⟨by decide, by decide⟩ ?_
    refine g_bipush C dR_paper_22 rfl ?_
    refine g_icmp_ne C 33 dR_paper_24 (by decide) (fun hc => ?_) (fun hc => ?_)
    · replace h := h.1 hc
      refine g_aload_n C dR_paper_33 rfl ?_
      refine g_iload_n C dR_paper_34 rfl ?_
      refine g_iload_n C dR_paper_35 rfl ?_
      refine g_iload_n C dR_paper_36 rfl ?_
      refine g_callVv C (nargs := 3) (o := 0) (st := []) (m_RaddPaper hci h) rfl (by decide) hci rfl gd_addPaper (by decide +kernel) ⟨rfl, rfl⟩ dR_paper_37 ⟨by decide, by decide⟩ rfl rfl (Nat.le_of_ble_eq_true rfl) ?_
      intro M37 hN
      replace h := hN
      clear hN
      refine g_aload_n C dR_paper_40 rfl ?_
      refine rf_s C hci dR_paper_41 ?_
      refine g_iconst C dR_paper_44 ?_
      refine g_iald C (n := 536) dR_paper_45 rfl (by decide) ⟨by decide, by decide⟩ ?_
      refine g_iconst C dR_paper_46 ?_
      refine g_isub C dR_paper_47 ?_
      exact hR _ _ _ _ dR_paper_48 rfl h
    · replace h := h.2 hc
      refine g_aload_n C dR_paper_27 rfl ?_
      refine g_iconst C dR_paper_28 ?_
      refine g_callVi C (nargs := 1) (o := 0) (st := []) (m_Rerror hci h) rfl (by decide) hci rfl gd_error (by decide +kernel) ⟨rfl, rfl⟩ dR_paper_29 ⟨by decide, by decide⟩ rfl rfl (Nat.le_of_ble_eq_true rfl) ?_
      intro r29c M29 hN
      replace h := hN
      clear hN
      exact hR _ _ _ _ dR_paper_32 rfl h
  · replace h := h.2 hc
    refine g_aload_n C dR_paper_10 rfl ?_
    refine g_iconst C dR_paper_11 ?_
    refine g_callVi C (nargs := 1) (o := 0) (st := []) (m_Rerror hci h) rfl (by decide) hci rfl gd_error (by decide +kernel) ⟨rfl, rfl⟩ dR_paper_12 ⟨by decide, by decide⟩ rfl rfl (Nat.le_of_ble_eq_true rfl) ?_
    intro r12c M12 hN
    replace h := hN
    clear hN
    exact hR _ _ _ _ dR_paper_15 rfl h
def wB_Rweigh_28 (a1 : Int) (a2 : Int) (a3 : Int) (k : Int → gSt → Prop)   (M : gSt) : Prop :=
w_Rerror 1 M (fun r30c M30 => k r30c M30)
def w_Rweigh (a1 : Int) (a2 : Int) (a3 : Int) (M : gSt) (k : Int → gSt → Prop) : Prop :=
w_RisThing a1 M (fun r2c M2 => 
  (wrap r2c = 0 →
    wB_Rweigh_28 a1 a2 a3 k   M2) ∧
  (¬ wrap r2c = 0 →
    w_Rin a2 0 9999999 M2 (fun r12c M12 => 
    (wrap r12c = 0 →
      wB_Rweigh_28 a1 a2 a3 k   M12) ∧
    (¬ wrap r12c = 0 →
      w_Rin a3 0 99 M12 (fun r22c M22 => 
      (¬ wrap r22c = 0 →

        (¬ wrap (M22 1 4) = 8 →
          ∀ x4_63 : Int, x4_63 = 178 + (3 * (M22 1 4)) → ((0 ≤ x4_63 ∧ x4_63 < 536) ∧ (∀ M72 : gSt, M72 = wr M22 1 x4_63 a1 → ((0 ≤ x4_63 + 1 ∧ x4_63 + 1 < 536) ∧ (∀ M82 : gSt, M82 = wr M72 1 (x4_63 + 1) a2 → ((0 ≤ x4_63 + 2 ∧ x4_63 + 2 < 536) ∧ (∀ M92 : gSt, M92 = wr M82 1 (x4_63 + 2) a3 → (∀ M102 : gSt, M102 = wr M92 1 4 ((M92 1 4) + 1) → (k ((M102 1 4) - 1) M102))))))))) ∧
        (wrap (M22 1 4) = 8 →
          w_Rerror 4 M22 (fun r47c M47 => k r47c M47))) ∧
      (wrap r22c = 0 →
        wB_Rweigh_28 a1 a2 a3 k   M22))))))
set_option maxHeartbeats 4000000 in
set_option maxRecDepth 100000 in
theorem m_Rweigh {l : Launch} {D : va_G} {cl : List vw_C} {tys : List (ClassId × FieldType)} {ad : Nat → Nat} {cI : ClassId} {ci : Nat} {Z : (Nat → Prop) → State → Prop} (hci : cl[ci]? = some (RX9, TX9, 23)) {a1 : Int} {a2 : Int} {a3 : Int} {M : gSt} {k : Int → gSt → Prop} (h : w_Rweigh a1 a2 a3 M k) : MOi l yX9_weigh cX9_weigh 5 .int (rmR 2 43) D cl ((cI, .int) :: tys) (wR ad cI ci) tR Z [.ref (ad 0), iv a1, iv a2, iv a3] M k := by
  refine moi_intro (by decide +kernel) (Nat.le_of_ble_eq_true rfl) wi_207 ?_
  intro p e s m args below meth c A Q C hR
  have pB28 : ∀    (M : gSt), wB_Rweigh_28 a1 a2 a3 k   M → gG p l e (rmR 2 43) s m args below meth c Q D cl A (wR ad cI ci) 5 28 [(0, .ref (ad 0))] [] M := by
    intro    M h
    unfold wB_Rweigh_28 at h
    refine g_aload_n C dR_weigh_28 rfl ?_
    refine g_iconst C dR_weigh_29 ?_
    refine g_callVi C (nargs := 1) (o := 0) (st := []) (m_Rerror hci h) rfl (by decide) hci rfl gd_error (by decide +kernel) ⟨rfl, rfl⟩ dR_weigh_30 ⟨by decide, by decide⟩ rfl rfl (Nat.le_of_ble_eq_true rfl) ?_
    intro r30c M30 hN
    replace h := hN
    clear hN
    exact hR _ _ _ _ dR_weigh_33 rfl h
  refine g_locals (lv' := [(0, .ref (ad 0)), (1, iv a1), (2, iv a2), (3, iv a3)]) rfl ?_
  unfold w_Rweigh at h
  refine g_aload_n C dR_weigh_0 rfl ?_
  refine g_iload_n C dR_weigh_1 rfl ?_
  refine g_callVi C (nargs := 1) (o := 0) (st := []) (m_RisThing hci h) rfl (by decide) hci rfl gd_isThing (by decide +kernel) ⟨rfl, rfl⟩ dR_weigh_2 ⟨by decide, by decide⟩ rfl rfl (Nat.le_of_ble_eq_true rfl) ?_
  intro r2c M2 hN
  replace h := hN
  clear hN
  refine g_if_eq C 28 dR_weigh_5 (by decide) (fun hc => ?_) (fun hc => ?_)
  · replace h := h.1 hc
    refine g_locals (lv' := [(0, .ref (ad 0))]) rfl ?_
    exact pB28  _ h
  · replace h := h.2 hc
    refine g_iload_n C dR_weigh_8 rfl ?_
    refine g_iconst C dR_weigh_9 ?_
    refine g_ldc C 9999999 wi_34 rfl dR_weigh_10 ?_
    refine g_callSi C (nargs := 3) (st := []) (m_Rin hci h) gd_in (by decide +kernel) ⟨rfl, rfl⟩ dR_weigh_12 ⟨by decide, by decide⟩ rfl rfl (Nat.le_of_ble_eq_true rfl) ?_
    intro r12c M12 hN
    replace h := hN
    clear hN
    refine g_if_eq C 28 dR_weigh_15 (by decide) (fun hc => ?_) (fun hc => ?_)
    · replace h := h.1 hc
      refine g_locals (lv' := [(0, .ref (ad 0))]) rfl ?_
      exact pB28  _ h
    · replace h := h.2 hc
      refine g_iload_n C dR_weigh_18 rfl ?_
      refine g_iconst C dR_weigh_19 ?_
      refine g_bipush C dR_weigh_20 rfl ?_
      refine g_callSi C (nargs := 3) (st := []) (m_Rin hci h) gd_in (by decide +kernel) ⟨rfl, rfl⟩ dR_weigh_22 ⟨by decide, by decide⟩ rfl rfl (Nat.le_of_ble_eq_true rfl) ?_
      intro r22c M22 hN
      replace h := hN
      clear hN
      refine g_if_ne C 34 dR_weigh_25 (by decide) (fun hc => ?_) (fun hc => ?_)
      · replace h := h.1 hc
        refine g_aload_n C dR_weigh_34 rfl ?_
        refine rf_s C hci dR_weigh_35 ?_
        refine g_iconst C dR_weigh_38 ?_
        refine g_iald C (n := 536) dR_weigh_39 rfl (by decide) ⟨by decide, by decide⟩ ?_
        refine g_bipush C dR_weigh_40 rfl ?_
        refine g_icmp_ne C 51 dR_weigh_42 (by decide) (fun hc => ?_) (fun hc => ?_)
        · replace h := h.1 hc
          refine g_sipush C dR_weigh_51 rfl ?_
          refine g_iconst C dR_weigh_54 ?_
          refine g_aload_n C dR_weigh_55 rfl ?_
          refine rf_s C hci dR_weigh_56 ?_
          refine g_iconst C dR_weigh_59 ?_
          refine g_iald C (n := 536) dR_weigh_60 rfl (by decide) ⟨by decide, by decide⟩ ?_
          refine g_imul C dR_weigh_61 ?_
          refine g_iadd C dR_weigh_62 ?_
          refine g_name (fun x4_63 hx4_63 => ?_)
          replace h := h x4_63 hx4_63
          refine g_istore C dR_weigh_63 (by decide) rfl ?_
          refine g_locals (lv' := [(0, .ref (ad 0)), (1, iv a1), (2, iv a2), (3, iv a3), (4, iv x4_63)]) rfl ?_
          refine g_aload_n C dR_weigh_65 rfl ?_
          refine rf_s C hci dR_weigh_66 ?_
          refine g_iload C dR_weigh_69 rfl ?_
          refine g_iload_n C dR_weigh_71 rfl ?_
          refine g_iast C (n := 536) dR_weigh_72 rfl (by decide) h.1 ?_
          replace h := h.2
          refine g_memname (fun M72 hM72 => ?_)
          replace h := h M72 hM72
          refine g_aload_n C dR_weigh_73 rfl ?_
          refine rf_s C hci dR_weigh_74 ?_
          refine g_iload C dR_weigh_77 rfl ?_
          refine g_iconst C dR_weigh_79 ?_
          refine g_iadd C dR_weigh_80 ?_
          refine g_iload_n C dR_weigh_81 rfl ?_
          refine g_iast C (n := 536) dR_weigh_82 rfl (by decide) h.1 ?_
          replace h := h.2
          refine g_memname (fun M82 hM82 => ?_)
          replace h := h M82 hM82
          refine g_aload_n C dR_weigh_83 rfl ?_
          refine rf_s C hci dR_weigh_84 ?_
          refine g_iload C dR_weigh_87 rfl ?_
          refine g_iconst C dR_weigh_89 ?_
          refine g_iadd C dR_weigh_90 ?_
          refine g_iload_n C dR_weigh_91 rfl ?_
          refine g_iast C (n := 536) dR_weigh_92 rfl (by decide) h.1 ?_
          replace h := h.2
          refine g_memname (fun M92 hM92 => ?_)
          replace h := h M92 hM92
          refine g_aload_n C dR_weigh_93 rfl ?_
          refine rf_s C hci dR_weigh_94 ?_
          refine g_iconst C dR_weigh_97 ?_
          refine g_dup2 C dR_weigh_98 rfl rfl ?_
          refine g_iald C (n := 536) dR_weigh_99 rfl (by decide) ⟨by decide, by decide⟩ ?_
          refine g_iconst C dR_weigh_100 ?_
          refine g_iadd C dR_weigh_101 ?_
          refine g_iast C (n := 536) dR_weigh_102 rfl (by decide) ⟨by decide, by decide⟩ ?_
          refine g_memname (fun M102 hM102 => ?_)
          replace h := h M102 hM102
          refine g_aload_n C dR_weigh_103 rfl ?_
          refine rf_s C hci dR_weigh_104 ?_
          refine g_iconst C dR_weigh_107 ?_
          refine g_iald C (n := 536) dR_weigh_108 rfl (by decide) ⟨by decide, by decide⟩ ?_
          refine g_iconst C dR_weigh_109 ?_
          refine g_isub C dR_weigh_110 ?_
          exact hR _ _ _ _ dR_weigh_111 rfl h
        · replace h := h.2 hc
          refine g_aload_n C dR_weigh_45 rfl ?_
          refine g_iconst C dR_weigh_46 ?_
          refine g_callVi C (nargs := 1) (o := 0) (st := []) (m_Rerror hci h) rfl (by decide) hci rfl gd_error (by decide +kernel) ⟨rfl, rfl⟩ dR_weigh_47 ⟨by decide, by decide⟩ rfl rfl (Nat.le_of_ble_eq_true rfl) ?_
          intro r47c M47 hN
          replace h := hN
          clear hN
          exact hR _ _ _ _ dR_weigh_50 rfl h
      · replace h := h.2 hc
        refine g_locals (lv' := [(0, .ref (ad 0))]) rfl ?_
        exact pB28  _ h
def w_Rforget (a1 : Int) (M : gSt) (k : Int → gSt → Prop) : Prop :=
w_Rin a1 0 1 M (fun r3c M3 => 
  (¬ wrap r3c = 0 →
    (0 ≤ 3 + a1 ∧ 3 + a1 < 536) ∧ (∀ x2_23 : Int, x2_23 = M3 1 (3 + a1) → ((0 ≤ 3 + a1 ∧ 3 + a1 < 536) ∧ (∀ M32 : gSt, M32 = wr M3 1 (3 + a1) 0 → (k x2_23 M32))))) ∧
  (wrap r3c = 0 →
    w_Rerror 1 M3 (fun r11c M11 => k r11c M11)))
set_option maxHeartbeats 4000000 in
set_option maxRecDepth 100000 in
theorem m_Rforget {l : Launch} {D : va_G} {cl : List vw_C} {tys : List (ClassId × FieldType)} {ad : Nat → Nat} {cI : ClassId} {ci : Nat} {Z : (Nat → Prop) → State → Prop} (hci : cl[ci]? = some (RX9, TX9, 23)) {a1 : Int} {M : gSt} {k : Int → gSt → Prop} (h : w_Rforget a1 M k) : MOi l yX9_forget cX9_forget 3 .int (rmR 1 22) D cl ((cI, .int) :: tys) (wR ad cI ci) tR Z [.ref (ad 0), iv a1] M k := by
  refine moi_intro (by decide +kernel) (Nat.le_of_ble_eq_true rfl) wi_208 ?_
  intro p e s m args below meth c A Q C hR
  refine g_locals (lv' := [(0, .ref (ad 0)), (1, iv a1)]) rfl ?_
  unfold w_Rforget at h
  refine g_iload_n C dR_forget_0 rfl ?_
  refine g_iconst C dR_forget_1 ?_
  refine g_iconst C dR_forget_2 ?_
  refine g_callSi C (nargs := 3) (st := []) (m_Rin hci h) gd_in (by decide +kernel) ⟨rfl, rfl⟩ dR_forget_3 ⟨by decide, by decide⟩ rfl rfl (Nat.le_of_ble_eq_true rfl) ?_
  intro r3c M3 hN
  replace h := hN
  clear hN
  refine g_if_ne C 15 dR_forget_6 (by decide) (fun hc => ?_) (fun hc => ?_)
  · replace h := h.1 hc
    refine g_aload_n C dR_forget_15 rfl ?_
    refine rf_s C hci dR_forget_16 ?_
    refine g_iconst C dR_forget_19 ?_
    refine g_iload_n C dR_forget_20 rfl ?_
    refine g_iadd C dR_forget_21 ?_
    refine g_iald C (n := 536) dR_forget_22 rfl (by decide) h.1 ?_
    replace h := h.2
    refine g_name (fun x2_23 hx2_23 => ?_)
    replace h := h x2_23 hx2_23
    refine g_istore_n C dR_forget_23 (by decide) rfl ?_
    refine g_locals (lv' := [(0, .ref (ad 0)), (1, iv a1), (2, iv x2_23)]) rfl ?_
    refine g_aload_n C dR_forget_24 rfl ?_
    refine rf_s C hci dR_forget_25 ?_
    refine g_iconst C dR_forget_28 ?_
    refine g_iload_n C dR_forget_29 rfl ?_
    refine g_iadd C dR_forget_30 ?_
    refine g_iconst C dR_forget_31 ?_
    refine g_iast C (n := 536) dR_forget_32 rfl (by decide) h.1 ?_
    replace h := h.2
    refine g_memname (fun M32 hM32 => ?_)
    replace h := h M32 hM32
    refine g_iload_n C dR_forget_33 rfl ?_
    exact hR _ _ _ _ dR_forget_34 rfl h
  · replace h := h.2 hc
    refine g_aload_n C dR_forget_9 rfl ?_
    refine g_iconst C dR_forget_10 ?_
    refine g_callVi C (nargs := 1) (o := 0) (st := []) (m_Rerror hci h) rfl (by decide) hci rfl gd_error (by decide +kernel) ⟨rfl, rfl⟩ dR_forget_11 ⟨by decide, by decide⟩ rfl rfl (Nat.le_of_ble_eq_true rfl) ?_
    intro r11c M11 hN
    replace h := hN
    clear hN
    exact hR _ _ _ _ dR_forget_14 rfl h
end
section
def w_RallPapers  (M : gSt) (k : Int → gSt → Prop) : Prop :=
k ((xshl 1 (M 1 3)) - 1) M
set_option maxHeartbeats 4000000 in
set_option maxRecDepth 100000 in
theorem m_RallPapers {l : Launch} {D : va_G} {cl : List vw_C} {tys : List (ClassId × FieldType)} {ad : Nat → Nat} {cI : ClassId} {ci : Nat} {Z : (Nat → Prop) → State → Prop} (hci : cl[ci]? = some (RX9, TX9, 23))  {M : gSt} {k : Int → gSt → Prop} (h : w_RallPapers  M k) : MOi l yX9_allPapers cX9_allPapers 1 .int (rmR 0 0) D cl ((cI, .int) :: tys) (wR ad cI ci) tR Z [.ref (ad 0)] M k := by
  refine moi_intro (by decide +kernel) (Nat.le_of_ble_eq_true rfl) wi_209 ?_
  intro p e s m args below meth c A Q C hR
  refine g_locals (lv' := [(0, .ref (ad 0))]) rfl ?_
  unfold w_RallPapers at h
  refine g_iconst C dR_allPapers_0 ?_
  refine g_aload_n C dR_allPapers_1 rfl ?_
  refine rf_s C hci dR_allPapers_2 ?_
  refine g_iconst C dR_allPapers_5 ?_
  refine g_iald C (n := 536) dR_allPapers_6 rfl (by decide) ⟨by decide, by decide⟩ ?_
  refine g_ishl C dR_allPapers_7 ?_
  refine g_iconst C dR_allPapers_8 ?_
  refine g_isub C dR_allPapers_9 ?_
  exact hR _ _ _ _ dR_allPapers_10 rfl h
def w_RisHistory (a1 : Int) (M : gSt) (k : Int → gSt → Prop) : Prop :=
w_RallPapers  M (fun r3c M3 => w_Rin a1 0 r3c M3 (fun r6c M6 => (r6c = 0 ∨ r6c = 1) ∧ (k r6c M6)))
set_option maxHeartbeats 4000000 in
set_option maxRecDepth 100000 in
theorem m_RisHistory {l : Launch} {D : va_G} {cl : List vw_C} {tys : List (ClassId × FieldType)} {ad : Nat → Nat} {cI : ClassId} {ci : Nat} {Z : (Nat → Prop) → State → Prop} (hci : cl[ci]? = some (RX9, TX9, 23)) {a1 : Int} {M : gSt} {k : Int → gSt → Prop} (h : w_RisHistory a1 M k) : MOi l yX9_isHistory cX9_isHistory 2 .boolean (rmR 1 22) D cl ((cI, .int) :: tys) (wR ad cI ci) tR Z [.ref (ad 0), iv a1] M k := by
  refine moi_intro (by decide +kernel) (Nat.le_of_ble_eq_true rfl) wi_213 ?_
  intro p e s m args below meth c A Q C hR
  refine g_locals (lv' := [(0, .ref (ad 0)), (1, iv a1)]) rfl ?_
  unfold w_RisHistory at h
  refine g_iload_n C dR_isHistory_0 rfl ?_
  refine g_iconst C dR_isHistory_1 ?_
  refine g_aload_n C dR_isHistory_2 rfl ?_
  refine g_callVi C (nargs := 0) (o := 0) (st := [iv 0, iv a1]) (m_RallPapers hci h) rfl (by decide) hci rfl gd_allPapers (by decide +kernel) ⟨rfl, rfl⟩ dR_isHistory_3 ⟨by decide, by decide⟩ rfl rfl (Nat.le_of_ble_eq_true rfl) ?_
  intro r3c M3 hN
  replace h := hN
  clear hN
  refine g_callSi C (nargs := 3) (st := []) (m_Rin hci h) gd_in (by decide +kernel) ⟨rfl, rfl⟩ dR_isHistory_6 ⟨by decide, by decide⟩ rfl rfl (Nat.le_of_ble_eq_true rfl) ?_
  intro r6c M6 hN
  replace h := hN
  clear hN
  exact hR _ _ _ _ dR_isHistory_9 (zn_bool h.1).1 h.2
def wB_RgoesBy_65 (a1 : Int) (k : gSt → Prop) (r2 : Int → gSt → Prop) (X2_71 : gSt → Prop) (v2 : Int) (M : gSt) : Prop :=
r2 (v2 + 1) M
def wC_RgoesBy_2 (a1 : Int) (k : gSt → Prop) (r2 : Int → gSt → Prop) (X2_71 : gSt → Prop) (v2 : Int) (M : gSt) : Prop :=

  (wrap (M 1 3) ≤ wrap v2 →
    X2_71  M) ∧
  (wrap v2 < wrap (M 1 3) →

    (¬ wrap (xand (xshr a1 v2) 1) = 1 →
      wB_RgoesBy_65 a1 k r2 X2_71 v2 M) ∧
    (wrap (xand (xshr a1 v2) 1) = 1 →
      (0 ≤ 160 + (3 * v2) ∧ 160 + (3 * v2) < 536) ∧ ((0 ≤ (160 + (3 * v2)) + 1 ∧ (160 + (3 * v2)) + 1 < 536) ∧ ((0 ≤ (160 + (3 * v2)) + 2 ∧ (160 + (3 * v2)) + 2 < 536) ∧ (w_Rmoves (M 1 (160 + (3 * v2))) (M 1 ((160 + (3 * v2)) + 1)) (M 1 ((160 + (3 * v2)) + 2)) M (fun M62 => wB_RgoesBy_65 a1 k r2 X2_71 v2 M62))))))
def wL_RgoesBy_2 (a1 : Int) (k : gSt → Prop)  (X2_71 : gSt → Prop) : Nat → Int → gSt → Prop
  | 0 => fun _ _ => False
  | n + 1 => fun v2 M => wC_RgoesBy_2 a1 k  (wL_RgoesBy_2 a1 k  X2_71 n) X2_71 v2 M
def w_RgoesBy (a1 : Int) (M : gSt) (k : gSt → Prop) : Prop :=
∃ n, wL_RgoesBy_2 a1 k  (fun  M2 =>
    k M2) n 0 M
set_option maxHeartbeats 4000000 in
set_option maxRecDepth 100000 in
theorem m_RgoesBy {l : Launch} {D : va_G} {cl : List vw_C} {tys : List (ClassId × FieldType)} {ad : Nat → Nat} {cI : ClassId} {ci : Nat} {Z : (Nat → Prop) → State → Prop} (hci : cl[ci]? = some (RX9, TX9, 23)) {a1 : Int} {M : gSt} {k : gSt → Prop} (h : w_RgoesBy a1 M k) : MOv l yX9_goesBy cX9_goesBy 3 (rmR 2 53) D cl ((cI, .int) :: tys) (wR ad cI ci) tR Z [.ref (ad 0), iv a1] M k := by
  refine mov_intro (by decide +kernel) (Nat.le_of_ble_eq_true rfl) wi_214 ?_
  intro p e s m args below meth c A Q C hR
  have pB65 : ∀ (r2 : Int → gSt → Prop) (X2_71 : gSt → Prop) (hr2 : ∀ (v2 : Int) (M : gSt), r2 v2 M → gG p l e (rmR 2 53) s m args below meth c Q D cl A (wR ad cI ci) 3 2 [(0, .ref (ad 0)), (1, iv a1), (2, iv v2)] [] M) (hX2_71 : ∀  (M : gSt), X2_71  M → gG p l e (rmR 2 53) s m args below meth c Q D cl A (wR ad cI ci) 3 71 [] [] M) (v2 : Int) (M : gSt), wB_RgoesBy_65 a1 k r2 X2_71 v2 M → gG p l e (rmR 2 53) s m args below meth c Q D cl A (wR ad cI ci) 3 65 [(0, .ref (ad 0)), (1, iv a1), (2, iv v2)] [] M := by
    intro r2 X2_71 hr2 hX2_71 v2 M h
    unfold wB_RgoesBy_65 at h
    refine g_iinc C dR_goesBy_65 rfl (by decide) rfl ?_
    refine g_locals (lv' := [(0, .ref (ad 0)), (1, iv a1), (2, iv (v2 + 1))]) rfl ?_
    refine g_goto C 2 dR_goesBy_68 (by decide) ?_
    refine g_locals (lv' := [(0, .ref (ad 0)), (1, iv a1), (2, iv (v2 + 1))]) rfl ?_
    exact hr2 _  _ h
  have pC2 : ∀ (r2 : Int → gSt → Prop) (X2_71 : gSt → Prop) (hr2 : ∀ (v2 : Int) (M : gSt), r2 v2 M → gG p l e (rmR 2 53) s m args below meth c Q D cl A (wR ad cI ci) 3 2 [(0, .ref (ad 0)), (1, iv a1), (2, iv v2)] [] M) (hX2_71 : ∀  (M : gSt), X2_71  M → gG p l e (rmR 2 53) s m args below meth c Q D cl A (wR ad cI ci) 3 71 [] [] M) (v2 : Int) (M : gSt), wC_RgoesBy_2 a1 k r2 X2_71 v2 M → gG p l e (rmR 2 53) s m args below meth c Q D cl A (wR ad cI ci) 3 2 [(0, .ref (ad 0)), (1, iv a1), (2, iv v2)] [] M := by
    intro r2 X2_71 hr2 hX2_71 v2 M h
    unfold wC_RgoesBy_2 at h
    refine g_iload_n C dR_goesBy_2 rfl ?_
    refine g_aload_n C dR_goesBy_3 rfl ?_
    refine rf_s C hci dR_goesBy_4 ?_
    refine g_iconst C dR_goesBy_7 ?_
    refine g_iald C (n := 536) dR_goesBy_8 rfl (by decide) ⟨by decide, by decide⟩ ?_
    refine g_icmp_ge C 71 dR_goesBy_9 (by decide) (fun hc => ?_) (fun hc => ?_)
    · replace h := h.1 hc
      refine g_locals (lv' := []) rfl ?_
      exact hX2_71  _ h
    · replace h := h.2 hc
      refine g_iload_n C dR_goesBy_12 rfl ?_
      refine g_iload_n C dR_goesBy_13 rfl ?_
      refine g_ishr C dR_goesBy_14 ?_
      refine g_iconst C dR_goesBy_15 ?_
      refine g_iand C dR_goesBy_16 ?_
      refine g_iconst C dR_goesBy_17 ?_
      refine g_icmp_ne C 65 dR_goesBy_18 (by decide) (fun hc => ?_) (fun hc => ?_)
      · replace h := h.1 hc
        refine g_locals (lv' := [(0, .ref (ad 0)), (1, iv a1), (2, iv v2)]) rfl ?_
        exact pB65 r2 X2_71 hr2 hX2_71 _ _ h
      · replace h := h.2 hc
        refine g_aload_n C dR_goesBy_21 rfl ?_
        refine g_aload_n C dR_goesBy_22 rfl ?_
        refine rf_s C hci dR_goesBy_23 ?_
        refine g_sipush C dR_goesBy_26 rfl ?_
        refine g_iconst C dR_goesBy_29 ?_
        refine g_iload_n C dR_goesBy_30 rfl ?_
        refine g_imul C dR_goesBy_31 ?_
        refine g_iadd C dR_goesBy_32 ?_
        refine g_iald C (n := 536) dR_goesBy_33 rfl (by decide) h.1 ?_
        replace h := h.2
        refine g_aload_n C dR_goesBy_34 rfl ?_
        refine rf_s C hci dR_goesBy_35 ?_
        refine g_sipush C dR_goesBy_38 rfl ?_
        refine g_iconst C dR_goesBy_41 ?_
        refine g_iload_n C dR_goesBy_42 rfl ?_
        refine g_imul C dR_goesBy_43 ?_
        refine g_iadd C dR_goesBy_44 ?_
        refine g_iconst C dR_goesBy_45 ?_
        refine g_iadd C dR_goesBy_46 ?_
        refine g_iald C (n := 536) dR_goesBy_47 rfl (by decide) h.1 ?_
        replace h := h.2
        refine g_aload_n C dR_goesBy_48 rfl ?_
        refine rf_s C hci dR_goesBy_49 ?_
        refine g_sipush C dR_goesBy_52 rfl ?_
        refine g_iconst C dR_goesBy_55 ?_
        refine g_iload_n C dR_goesBy_56 rfl ?_
        refine g_imul C dR_goesBy_57 ?_
        refine g_iadd C dR_goesBy_58 ?_
        refine g_iconst C dR_goesBy_59 ?_
        refine g_iadd C dR_goesBy_60 ?_
        refine g_iald C (n := 536) dR_goesBy_61 rfl (by decide) h.1 ?_
        replace h := h.2
        refine g_callVv C (nargs := 3) (o := 0) (st := []) (m_Rmoves hci h) rfl (by decide) hci rfl gd_moves (by decide +kernel) ⟨rfl, rfl⟩ dR_goesBy_62 ⟨by decide, by decide⟩ rfl rfl (Nat.le_of_ble_eq_true rfl) ?_
        intro M62 hN
        replace h := hN
        clear hN
        refine g_locals (lv' := [(0, .ref (ad 0)), (1, iv a1), (2, iv v2)]) rfl ?_
        exact pB65 r2 X2_71 hr2 hX2_71 _ _ h
  have pL2 : ∀  (X2_71 : gSt → Prop) (hX2_71 : ∀  (M : gSt), X2_71  M → gG p l e (rmR 2 53) s m args below meth c Q D cl A (wR ad cI ci) 3 71 [] [] M) (n : Nat) (v2 : Int) (M : gSt), wL_RgoesBy_2 a1 k  X2_71 n v2 M → gG p l e (rmR 2 53) s m args below meth c Q D cl A (wR ad cI ci) 3 2 [(0, .ref (ad 0)), (1, iv a1), (2, iv v2)] [] M := by
    intro  X2_71 hX2_71 n
    induction n with
    | zero => intro v2 M h; exact h.elim
    | succ n ih =>
      intro v2 M h
      exact pC2  (wL_RgoesBy_2 a1 k  X2_71 n) X2_71 ih hX2_71 v2 M h
  refine g_locals (lv' := [(0, .ref (ad 0)), (1, iv a1)]) rfl ?_
  unfold w_RgoesBy at h
  refine g_iconst C dR_goesBy_0 ?_
  refine g_istore_n C dR_goesBy_1 (by decide) rfl ?_
  refine g_locals (lv' := [(0, .ref (ad 0)), (1, iv a1), (2, iv 0)]) rfl ?_
  refine g_locals (lv' := [(0, .ref (ad 0)), (1, iv a1), (2, iv 0)]) rfl ?_
  obtain ⟨n, h⟩ := h
  refine pL2 _ ?_ n _ _ h
  · intro  M2 hN
    replace h := hN
    clear hN
    exact hR _ _ _ dR_goesBy_71 h
def w_Rafter (a1 : Int) (a2 : Int) (a3 : Int) (M : gSt) (k : Int → gSt → Prop) : Prop :=
w_Rcarry 1 3 M (fun M8 => w_RgoesBy a1 M8 (fun M13 => w_Rits a2 a3 M13 (fun r19c M19 => w_Rcarry 3 1 M19 (fun M32 => k r19c M32))))
set_option maxHeartbeats 4000000 in
set_option maxRecDepth 100000 in
theorem m_Rafter {l : Launch} {D : va_G} {cl : List vw_C} {tys : List (ClassId × FieldType)} {ad : Nat → Nat} {cI : ClassId} {ci : Nat} {Z : (Nat → Prop) → State → Prop} (hci : cl[ci]? = some (RX9, TX9, 23)) {a1 : Int} {a2 : Int} {a3 : Int} {M : gSt} {k : Int → gSt → Prop} (h : w_Rafter a1 a2 a3 M k) : MOi l yX9_after cX9_after 5 .int (rmR 3 75) D cl ((cI, .int) :: tys) (wR ad cI ci) tR Z [.ref (ad 0), iv a1, iv a2, iv a3] M k := by
  refine moi_intro (by decide +kernel) (Nat.le_of_ble_eq_true rfl) wi_218 ?_
  intro p e s m args below meth c A Q C hR
  refine g_locals (lv' := [(0, .ref (ad 0)), (1, iv a1), (2, iv a2), (3, iv a3)]) rfl ?_
  unfold w_Rafter at h
  refine g_aload_n C dR_after_0 rfl ?_
  refine rf_s C hci dR_after_1 ?_
  refine g_aload_n C dR_after_4 rfl ?_
  refine rf_put C hci dR_after_5 ?_
  refine g_callSv C (nargs := 2) (st := []) (m_Rcarry hci h) gd_carry (by decide +kernel) ⟨rfl, rfl⟩ dR_after_8 ⟨by decide, by decide⟩ rfl rfl (Nat.le_of_ble_eq_true rfl) ?_
  intro M8 hN
  replace h := hN
  clear hN
  refine g_aload_n C dR_after_11 rfl ?_
  refine g_iload_n C dR_after_12 rfl ?_
  refine g_callVv C (nargs := 1) (o := 0) (st := []) (m_RgoesBy hci h) rfl (by decide) hci rfl gd_goesBy (by decide +kernel) ⟨rfl, rfl⟩ dR_after_13 ⟨by decide, by decide⟩ rfl rfl (Nat.le_of_ble_eq_true rfl) ?_
  intro M13 hN
  replace h := hN
  clear hN
  refine g_aload_n C dR_after_16 rfl ?_
  refine g_iload_n C dR_after_17 rfl ?_
  refine g_iload_n C dR_after_18 rfl ?_
  refine g_callVi C (nargs := 2) (o := 0) (st := []) (m_Rits hci h) rfl (by decide) hci rfl gd_its (by decide +kernel) ⟨rfl, rfl⟩ dR_after_19 ⟨by decide, by decide⟩ rfl rfl (Nat.le_of_ble_eq_true rfl) ?_
  intro r19c M19 hN
  replace h := hN
  clear hN
  refine g_istore C dR_after_22 (by decide) rfl ?_
  refine g_locals (lv' := [(0, .ref (ad 0)), (1, iv a1), (2, iv a2), (3, iv a3), (4, iv r19c)]) rfl ?_
  refine g_aload_n C dR_after_24 rfl ?_
  refine rf_put C hci dR_after_25 ?_
  refine g_aload_n C dR_after_28 rfl ?_
  refine rf_s C hci dR_after_29 ?_
  refine g_callSv C (nargs := 2) (st := []) (m_Rcarry hci h) gd_carry (by decide +kernel) ⟨rfl, rfl⟩ dR_after_32 ⟨by decide, by decide⟩ rfl rfl (Nat.le_of_ble_eq_true rfl) ?_
  intro M32 hN
  replace h := hN
  clear hN
  refine g_iload C dR_after_35 rfl ?_
  exact hR _ _ _ _ dR_after_37 rfl h
def wB_Rby_26 (a1 : Int) (a2 : Int) (a3 : Int) (k : Int → gSt → Prop)   (M : gSt) : Prop :=
w_Rerror 1 M (fun r28c M28 => k r28c M28)
def w_Rby (a1 : Int) (a2 : Int) (a3 : Int) (M : gSt) (k : Int → gSt → Prop) : Prop :=
w_RisHistory a1 M (fun r2c M2 => 
  (wrap r2c = 0 →
    wB_Rby_26 a1 a2 a3 k   M2) ∧
  (¬ wrap r2c = 0 →
    w_RisThing a2 M2 (fun r10c M10 => 
    (wrap r10c = 0 →
      wB_Rby_26 a1 a2 a3 k   M10) ∧
    (¬ wrap r10c = 0 →
      w_Rin a3 2 9 M10 (fun r20c M20 => 
      (¬ wrap r20c = 0 →
        w_Rafter a1 a2 a3 M20 (fun r36c M36 => k r36c M36)) ∧
      (wrap r20c = 0 →
        wB_Rby_26 a1 a2 a3 k   M20))))))
set_option maxHeartbeats 4000000 in
set_option maxRecDepth 100000 in
theorem m_Rby {l : Launch} {D : va_G} {cl : List vw_C} {tys : List (ClassId × FieldType)} {ad : Nat → Nat} {cI : ClassId} {ci : Nat} {Z : (Nat → Prop) → State → Prop} (hci : cl[ci]? = some (RX9, TX9, 23)) {a1 : Int} {a2 : Int} {a3 : Int} {M : gSt} {k : Int → gSt → Prop} (h : w_Rby a1 a2 a3 M k) : MOi l yX9_by cX9_by 4 .int (rmR 4 99) D cl ((cI, .int) :: tys) (wR ad cI ci) tR Z [.ref (ad 0), iv a1, iv a2, iv a3] M k := by
  refine moi_intro (by decide +kernel) (Nat.le_of_ble_eq_true rfl) wi_225 ?_
  intro p e s m args below meth c A Q C hR
  have pB26 : ∀    (M : gSt), wB_Rby_26 a1 a2 a3 k   M → gG p l e (rmR 4 99) s m args below meth c Q D cl A (wR ad cI ci) 4 26 [(0, .ref (ad 0))] [] M := by
    intro    M h
    unfold wB_Rby_26 at h
    refine g_aload_n C dR_by_26 rfl ?_
    refine g_iconst C dR_by_27 ?_
    refine g_callVi C (nargs := 1) (o := 0) (st := []) (m_Rerror hci h) rfl (by decide) hci rfl gd_error (by decide +kernel) ⟨rfl, rfl⟩ dR_by_28 ⟨by decide, by decide⟩ rfl rfl (Nat.le_of_ble_eq_true rfl) ?_
    intro r28c M28 hN
    replace h := hN
    clear hN
    exact hR _ _ _ _ dR_by_31 rfl h
  refine g_locals (lv' := [(0, .ref (ad 0)), (1, iv a1), (2, iv a2), (3, iv a3)]) rfl ?_
  unfold w_Rby at h
  refine g_aload_n C dR_by_0 rfl ?_
  refine g_iload_n C dR_by_1 rfl ?_
  refine g_callVi C (nargs := 1) (o := 0) (st := []) (m_RisHistory hci h) rfl (by decide) hci rfl gd_isHistory (by decide +kernel) ⟨rfl, rfl⟩ dR_by_2 ⟨by decide, by decide⟩ rfl rfl (Nat.le_of_ble_eq_true rfl) ?_
  intro r2c M2 hN
  replace h := hN
  clear hN
  refine g_if_eq C 26 dR_by_5 (by decide) (fun hc => ?_) (fun hc => ?_)
  · replace h := h.1 hc
    refine g_locals (lv' := [(0, .ref (ad 0))]) rfl ?_
    exact pB26  _ h
  · replace h := h.2 hc
    refine g_aload_n C dR_by_8 rfl ?_
    refine g_iload_n C dR_by_9 rfl ?_
    refine g_callVi C (nargs := 1) (o := 0) (st := []) (m_RisThing hci h) rfl (by decide) hci rfl gd_isThing (by decide +kernel) ⟨rfl, rfl⟩ dR_by_10 ⟨by decide, by decide⟩ rfl rfl (Nat.le_of_ble_eq_true rfl) ?_
    intro r10c M10 hN
    replace h := hN
    clear hN
    refine g_if_eq C 26 dR_by_13 (by decide) (fun hc => ?_) (fun hc => ?_)
    · replace h := h.1 hc
      refine g_locals (lv' := [(0, .ref (ad 0))]) rfl ?_
      exact pB26  _ h
    · replace h := h.2 hc
      refine g_iload_n C dR_by_16 rfl ?_
      refine g_iconst C dR_by_17 ?_
      refine g_bipush C dR_by_18 rfl ?_
      refine g_callSi C (nargs := 3) (st := []) (m_Rin hci h) gd_in (by decide +kernel) ⟨rfl, rfl⟩ dR_by_20 ⟨by decide, by decide⟩ rfl rfl (Nat.le_of_ble_eq_true rfl) ?_
      intro r20c M20 hN
      replace h := hN
      clear hN
      refine g_if_ne C 32 dR_by_23 (by decide) (fun hc => ?_) (fun hc => ?_)
      · replace h := h.1 hc
        refine g_aload_n C dR_by_32 rfl ?_
        refine g_iload_n C dR_by_33 rfl ?_
        refine g_iload_n C dR_by_34 rfl ?_
        refine g_iload_n C dR_by_35 rfl ?_
        refine g_callVi C (nargs := 3) (o := 0) (st := []) (m_Rafter hci h) rfl (by decide) hci rfl gd_after (by decide +kernel) ⟨rfl, rfl⟩ dR_by_36 ⟨by decide, by decide⟩ rfl rfl (Nat.le_of_ble_eq_true rfl) ?_
        intro r36c M36 hN
        replace h := hN
        clear hN
        exact hR _ _ _ _ dR_by_39 rfl h
      · replace h := h.2 hc
        refine g_locals (lv' := [(0, .ref (ad 0))]) rfl ?_
        exact pB26  _ h
def wC_RdoesFit_20 (a1 : Int) (k : Int → gSt → Prop) (r20 : Int → Int → gSt → Prop) (X20_101 : Int → gSt → Prop) (v2 : Int) (v3 : Int) (M : gSt) : Prop :=

  (wrap (M 1 4) ≤ wrap v3 →
    X20_101 v2 M) ∧
  (wrap v3 < wrap (M 1 4) →

    (wrap v2 = 0 →
      X20_101 v2 M) ∧
    (¬ wrap v2 = 0 →
      (0 ≤ 178 + (3 * v3) ∧ 178 + (3 * v3) < 536) ∧ (w_Rits (M 1 (178 + (3 * v3))) 2 M (fun r48c M48 => (0 ≤ (178 + (3 * v3)) + 1 ∧ (178 + (3 * v3)) + 1 < 536) ∧ (∀ x4_66 : Int, x4_66 = r48c - (M48 1 ((178 + (3 * v3)) + 1)) → ((0 ≤ (178 + (3 * v3)) + 2 ∧ (178 + (3 * v3)) + 2 < 536) ∧ (∀ x5_82 : Int, x5_82 = M48 1 ((178 + (3 * v3)) + 2) → (w_Rin x4_66 (-x5_82) x5_82 M48 (fun r91c M91 => r20 r91c (v3 + 1) M91)))))))))
def wL_RdoesFit_20 (a1 : Int) (k : Int → gSt → Prop)  (X20_101 : Int → gSt → Prop) : Nat → Int → Int → gSt → Prop
  | 0 => fun _ _ _ => False
  | n + 1 => fun v2 v3 M => wC_RdoesFit_20 a1 k  (wL_RdoesFit_20 a1 k  X20_101 n) X20_101 v2 v3 M
def wB_RdoesFit_101 (a1 : Int) (k : Int → gSt → Prop)  (v2 : Int) (M : gSt) : Prop :=
w_Rcarry 3 1 M (fun M109 => (v2 = 0 ∨ v2 = 1) ∧ (k v2 M109))
def w_RdoesFit (a1 : Int) (M : gSt) (k : Int → gSt → Prop) : Prop :=
w_Rcarry 1 3 M (fun M8 => w_RgoesBy a1 M8 (fun M13 => ∃ n, wL_RdoesFit_20 a1 k  (fun u2_20 M20 =>
    wB_RdoesFit_101 a1 k  u2_20 M20) n 1 0 M13))
set_option maxHeartbeats 4000000 in
set_option maxRecDepth 100000 in
theorem m_RdoesFit {l : Launch} {D : va_G} {cl : List vw_C} {tys : List (ClassId × FieldType)} {ad : Nat → Nat} {cI : ClassId} {ci : Nat} {Z : (Nat → Prop) → State → Prop} (hci : cl[ci]? = some (RX9, TX9, 23)) {a1 : Int} {M : gSt} {k : Int → gSt → Prop} (h : w_RdoesFit a1 M k) : MOi l yX9_doesFit cX9_doesFit 6 .boolean (rmR 3 75) D cl ((cI, .int) :: tys) (wR ad cI ci) tR Z [.ref (ad 0), iv a1] M k := by
  refine moi_intro (by decide +kernel) (Nat.le_of_ble_eq_true rfl) wi_226 ?_
  intro p e s m args below meth c A Q C hR
  have pC20 : ∀ (r20 : Int → Int → gSt → Prop) (X20_101 : Int → gSt → Prop) (hr20 : ∀ (v2 : Int) (v3 : Int) (M : gSt), r20 v2 v3 M → gG p l e (rmR 3 75) s m args below meth c Q D cl A (wR ad cI ci) 6 20 [(0, .ref (ad 0)), (2, iv v2), (3, iv v3)] [] M) (hX20_101 : ∀ (v2 : Int) (M : gSt), X20_101 v2 M → gG p l e (rmR 3 75) s m args below meth c Q D cl A (wR ad cI ci) 6 101 [(0, .ref (ad 0)), (2, iv v2)] [] M) (v2 : Int) (v3 : Int) (M : gSt), wC_RdoesFit_20 a1 k r20 X20_101 v2 v3 M → gG p l e (rmR 3 75) s m args below meth c Q D cl A (wR ad cI ci) 6 20 [(0, .ref (ad 0)), (2, iv v2), (3, iv v3)] [] M := by
    intro r20 X20_101 hr20 hX20_101 v2 v3 M h
    unfold wC_RdoesFit_20 at h
    refine g_iload_n C dR_doesFit_20 rfl ?_
    refine g_aload_n C dR_doesFit_21 rfl ?_
    refine rf_s C hci dR_doesFit_22 ?_
    refine g_iconst C dR_doesFit_25 ?_
    refine g_iald C (n := 536) dR_doesFit_26 rfl (by decide) ⟨by decide, by decide⟩ ?_
    refine g_icmp_ge C 101 dR_doesFit_27 (by decide) (fun hc => ?_) (fun hc => ?_)
    · replace h := h.1 hc
      refine g_locals (lv' := [(0, .ref (ad 0)), (2, iv v2)]) rfl ?_
      exact hX20_101 _  _ h
    · replace h := h.2 hc
      refine g_iload_n C dR_doesFit_30 rfl ?_
      refine g_if_eq C 101 dR_doesFit_31 (by decide) (fun hc => ?_) (fun hc => ?_)
      · replace h := h.1 hc
        refine g_locals (lv' := [(0, .ref (ad 0)), (2, iv v2)]) rfl ?_
        exact hX20_101 _  _ h
      · replace h := h.2 hc
        refine g_aload_n C dR_doesFit_34 rfl ?_
        refine g_aload_n C dR_doesFit_35 rfl ?_
        refine rf_s C hci dR_doesFit_36 ?_
        refine g_sipush C dR_doesFit_39 rfl ?_
        refine g_iconst C dR_doesFit_42 ?_
        refine g_iload_n C dR_doesFit_43 rfl ?_
        refine g_imul C dR_doesFit_44 ?_
        refine g_iadd C dR_doesFit_45 ?_
        refine g_iald C (n := 536) dR_doesFit_46 rfl (by decide) h.1 ?_
        replace h := h.2
        refine g_iconst C dR_doesFit_47 ?_
        refine g_callVi C (nargs := 2) (o := 0) (st := []) (m_Rits hci h) rfl (by decide) hci rfl gd_its (by decide +kernel) ⟨rfl, rfl⟩ dR_doesFit_48 ⟨by decide, by decide⟩ rfl rfl (Nat.le_of_ble_eq_true rfl) ?_
        intro r48c M48 hN
        replace h := hN
        clear hN
        refine g_aload_n C dR_doesFit_51 rfl ?_
        refine rf_s C hci dR_doesFit_52 ?_
        refine g_sipush C dR_doesFit_55 rfl ?_
        refine g_iconst C dR_doesFit_58 ?_
        refine g_iload_n C dR_doesFit_59 rfl ?_
        refine g_imul C dR_doesFit_60 ?_
        refine g_iadd C dR_doesFit_61 ?_
        refine g_iconst C dR_doesFit_62 ?_
        refine g_iadd C dR_doesFit_63 ?_
        refine g_iald C (n := 536) dR_doesFit_64 rfl (by decide) h.1 ?_
        replace h := h.2
        refine g_isub C dR_doesFit_65 ?_
        refine g_name (fun x4_66 hx4_66 => ?_)
        replace h := h x4_66 hx4_66
        refine g_istore C dR_doesFit_66 (by decide) rfl ?_
        refine g_locals (lv' := [(0, .ref (ad 0)), (2, iv v2), (3, iv v3), (4, iv x4_66)]) rfl ?_
        refine g_aload_n C dR_doesFit_68 rfl ?_
        refine rf_s C hci dR_doesFit_69 ?_
        refine g_sipush C dR_doesFit_72 rfl ?_
        refine g_iconst C dR_doesFit_75 ?_
        refine g_iload_n C dR_doesFit_76 rfl ?_
        refine g_imul C dR_doesFit_77 ?_
        refine g_iadd C dR_doesFit_78 ?_
        refine g_iconst C dR_doesFit_79 ?_
        refine g_iadd C dR_doesFit_80 ?_
        refine g_iald C (n := 536) dR_doesFit_81 rfl (by decide) h.1 ?_
        replace h := h.2
        refine g_name (fun x5_82 hx5_82 => ?_)
        replace h := h x5_82 hx5_82
        refine g_istore C dR_doesFit_82 (by decide) rfl ?_
        refine g_locals (lv' := [(0, .ref (ad 0)), (2, iv v2), (3, iv v3), (4, iv x4_66), (5, iv x5_82)]) rfl ?_
        refine g_iload C dR_doesFit_84 rfl ?_
        refine g_iload C dR_doesFit_86 rfl ?_
        refine g_ineg C dR_doesFit_88 ?_
        refine g_iload C dR_doesFit_89 rfl ?_
        refine g_callSi C (nargs := 3) (st := []) (m_Rin hci h) gd_in (by decide +kernel) ⟨rfl, rfl⟩ dR_doesFit_91 ⟨by decide, by decide⟩ rfl rfl (Nat.le_of_ble_eq_true rfl) ?_
        intro r91c M91 hN
        replace h := hN
        clear hN
        refine g_istore_n C dR_doesFit_94 (by decide) rfl ?_
        refine g_locals (lv' := [(0, .ref (ad 0)), (2, iv r91c), (3, iv v3), (4, iv x4_66), (5, iv x5_82)]) rfl ?_
        refine g_iinc C dR_doesFit_95 rfl (by decide) rfl ?_
        refine g_locals (lv' := [(0, .ref (ad 0)), (2, iv r91c), (3, iv (v3 + 1)), (4, iv x4_66), (5, iv x5_82)]) rfl ?_
        refine g_goto C 20 dR_doesFit_98 (by decide) ?_
        refine g_locals (lv' := [(0, .ref (ad 0)), (2, iv r91c), (3, iv (v3 + 1))]) rfl ?_
        exact hr20 _ _  _ h
  have pL20 : ∀  (X20_101 : Int → gSt → Prop) (hX20_101 : ∀ (v2 : Int) (M : gSt), X20_101 v2 M → gG p l e (rmR 3 75) s m args below meth c Q D cl A (wR ad cI ci) 6 101 [(0, .ref (ad 0)), (2, iv v2)] [] M) (n : Nat) (v2 : Int) (v3 : Int) (M : gSt), wL_RdoesFit_20 a1 k  X20_101 n v2 v3 M → gG p l e (rmR 3 75) s m args below meth c Q D cl A (wR ad cI ci) 6 20 [(0, .ref (ad 0)), (2, iv v2), (3, iv v3)] [] M := by
    intro  X20_101 hX20_101 n
    induction n with
    | zero => intro v2 v3 M h; exact h.elim
    | succ n ih =>
      intro v2 v3 M h
      exact pC20  (wL_RdoesFit_20 a1 k  X20_101 n) X20_101 ih hX20_101 v2 v3 M h
  have pB101 : ∀   (v2 : Int) (M : gSt), wB_RdoesFit_101 a1 k  v2 M → gG p l e (rmR 3 75) s m args below meth c Q D cl A (wR ad cI ci) 6 101 [(0, .ref (ad 0)), (2, iv v2)] [] M := by
    intro   v2 M h
    unfold wB_RdoesFit_101 at h
    refine g_aload_n C dR_doesFit_101 rfl ?_
    refine rf_put C hci dR_doesFit_102 ?_
    refine g_aload_n C dR_doesFit_105 rfl ?_
    refine rf_s C hci dR_doesFit_106 ?_
    refine g_callSv C (nargs := 2) (st := []) (m_Rcarry hci h) gd_carry (by decide +kernel) ⟨rfl, rfl⟩ dR_doesFit_109 ⟨by decide, by decide⟩ rfl rfl (Nat.le_of_ble_eq_true rfl) ?_
    intro M109 hN
    replace h := hN
    clear hN
    refine g_iload_n C dR_doesFit_112 rfl ?_
    exact hR _ _ _ _ dR_doesFit_113 (zn_bool h.1).1 h.2
  refine g_locals (lv' := [(0, .ref (ad 0)), (1, iv a1)]) rfl ?_
  unfold w_RdoesFit at h
  refine g_aload_n C dR_doesFit_0 rfl ?_
  refine rf_s C hci dR_doesFit_1 ?_
  refine g_aload_n C dR_doesFit_4 rfl ?_
  refine rf_put C hci dR_doesFit_5 ?_
  refine g_callSv C (nargs := 2) (st := []) (m_Rcarry hci h) gd_carry (by decide +kernel) ⟨rfl, rfl⟩ dR_doesFit_8 ⟨by decide, by decide⟩ rfl rfl (Nat.le_of_ble_eq_true rfl) ?_
  intro M8 hN
  replace h := hN
  clear hN
  refine g_aload_n C dR_doesFit_11 rfl ?_
  refine g_iload_n C dR_doesFit_12 rfl ?_
  refine g_callVv C (nargs := 1) (o := 0) (st := []) (m_RgoesBy hci h) rfl (by decide) hci rfl gd_goesBy (by decide +kernel) ⟨rfl, rfl⟩ dR_doesFit_13 ⟨by decide, by decide⟩ rfl rfl (Nat.le_of_ble_eq_true rfl) ?_
  intro M13 hN
  replace h := hN
  clear hN
  refine g_iconst C dR_doesFit_16 ?_
  refine g_istore_n C dR_doesFit_17 (by decide) rfl ?_
  refine g_locals (lv' := [(0, .ref (ad 0)), (1, iv a1), (2, iv 1)]) rfl ?_
  refine g_iconst C dR_doesFit_18 ?_
  refine g_istore_n C dR_doesFit_19 (by decide) rfl ?_
  refine g_locals (lv' := [(0, .ref (ad 0)), (1, iv a1), (2, iv 1), (3, iv 0)]) rfl ?_
  refine g_locals (lv' := [(0, .ref (ad 0)), (2, iv 1), (3, iv 0)]) rfl ?_
  obtain ⟨n, h⟩ := h
  refine pL20 _ ?_ n _ _ _ h
  · intro u2_20 M20 hN
    replace h := hN
    clear hN
    refine g_locals (lv' := [(0, .ref (ad 0)), (2, iv u2_20)]) rfl ?_
    exact pB101 _ _ h
def wB_RfindFits_43  (k : gSt → Prop) (r7 : Int → gSt → Prop) (X7_49 : gSt → Prop) (v1 : Int) (M : gSt) : Prop :=
r7 (v1 + 1) M
def wC_RfindFits_7  (k : gSt → Prop) (r7 : Int → gSt → Prop) (X7_49 : gSt → Prop) (v1 : Int) (M : gSt) : Prop :=
w_RallPapers  M (fun r9c M9 => 
  (wrap r9c < wrap v1 →
    X7_49  M9) ∧
  (wrap v1 ≤ wrap r9c →
    w_RdoesFit v1 M9 (fun r17c M17 => 
    (wrap r17c = 0 →
      wB_RfindFits_43  k r7 X7_49 v1 M17) ∧
    (¬ wrap r17c = 0 →
      (0 ≤ M17 0 13 ∧ M17 0 13 < 64) ∧ (∀ M32 : gSt, M32 = wr M17 8 (M17 0 13) v1 → (∀ M40 : gSt, M40 = wr M32 0 13 ((M32 0 13) + 1) → (wB_RfindFits_43  k r7 X7_49 v1 M40)))))))
def wL_RfindFits_7  (k : gSt → Prop)  (X7_49 : gSt → Prop) : Nat → Int → gSt → Prop
  | 0 => fun _ _ => False
  | n + 1 => fun v1 M => wC_RfindFits_7  k  (wL_RfindFits_7  k  X7_49 n) X7_49 v1 M
def w_RfindFits  (M : gSt) (k : gSt → Prop) : Prop :=
∀ M2 : gSt, M2 = wr M 0 13 0 → (∃ n, wL_RfindFits_7  k  (fun  M7 =>
    k M7) n 0 M2)
set_option maxHeartbeats 4000000 in
set_option maxRecDepth 100000 in
theorem m_RfindFits {l : Launch} {D : va_G} {cl : List vw_C} {tys : List (ClassId × FieldType)} {ad : Nat → Nat} {cI : ClassId} {ci : Nat} {Z : (Nat → Prop) → State → Prop} (hci : cl[ci]? = some (RX9, TX9, 23))  {M : gSt} {k : gSt → Prop} (h : w_RfindFits  M k) : MOv l yX9_findFits cX9_findFits 2 (rmR 4 100) D cl ((cI, .int) :: tys) (wR ad cI ci) tR Z [.ref (ad 0)] M k := by
  refine mov_intro (by decide +kernel) (Nat.le_of_ble_eq_true rfl) wi_231 ?_
  intro p e s m args below meth c A Q C hR
  have pB43 : ∀ (r7 : Int → gSt → Prop) (X7_49 : gSt → Prop) (hr7 : ∀ (v1 : Int) (M : gSt), r7 v1 M → gG p l e (rmR 4 100) s m args below meth c Q D cl A (wR ad cI ci) 2 7 [(0, .ref (ad 0)), (1, iv v1)] [] M) (hX7_49 : ∀  (M : gSt), X7_49  M → gG p l e (rmR 4 100) s m args below meth c Q D cl A (wR ad cI ci) 2 49 [] [] M) (v1 : Int) (M : gSt), wB_RfindFits_43  k r7 X7_49 v1 M → gG p l e (rmR 4 100) s m args below meth c Q D cl A (wR ad cI ci) 2 43 [(0, .ref (ad 0)), (1, iv v1)] [] M := by
    intro r7 X7_49 hr7 hX7_49 v1 M h
    unfold wB_RfindFits_43 at h
    refine g_iinc C dR_findFits_43 rfl (by decide) rfl ?_
    refine g_locals (lv' := [(0, .ref (ad 0)), (1, iv (v1 + 1))]) rfl ?_
    refine g_goto C 7 dR_findFits_46 (by decide) ?_
    refine g_locals (lv' := [(0, .ref (ad 0)), (1, iv (v1 + 1))]) rfl ?_
    exact hr7 _  _ h
  have pC7 : ∀ (r7 : Int → gSt → Prop) (X7_49 : gSt → Prop) (hr7 : ∀ (v1 : Int) (M : gSt), r7 v1 M → gG p l e (rmR 4 100) s m args below meth c Q D cl A (wR ad cI ci) 2 7 [(0, .ref (ad 0)), (1, iv v1)] [] M) (hX7_49 : ∀  (M : gSt), X7_49  M → gG p l e (rmR 4 100) s m args below meth c Q D cl A (wR ad cI ci) 2 49 [] [] M) (v1 : Int) (M : gSt), wC_RfindFits_7  k r7 X7_49 v1 M → gG p l e (rmR 4 100) s m args below meth c Q D cl A (wR ad cI ci) 2 7 [(0, .ref (ad 0)), (1, iv v1)] [] M := by
    intro r7 X7_49 hr7 hX7_49 v1 M h
    unfold wC_RfindFits_7 at h
    refine g_iload_n C dR_findFits_7 rfl ?_
    refine g_aload_n C dR_findFits_8 rfl ?_
    refine g_callVi C (nargs := 0) (o := 0) (st := [iv v1]) (m_RallPapers hci h) rfl (by decide) hci rfl gd_allPapers (by decide +kernel) ⟨rfl, rfl⟩ dR_findFits_9 ⟨by decide, by decide⟩ rfl rfl (Nat.le_of_ble_eq_true rfl) ?_
    intro r9c M9 hN
    replace h := hN
    clear hN
    refine g_icmp_gt C 49 dR_findFits_12 (by decide) (fun hc => ?_) (fun hc => ?_)
    · replace h := h.1 hc
      refine g_locals (lv' := []) rfl ?_
      exact hX7_49  _ h
    · replace h := h.2 hc
      refine g_aload_n C dR_findFits_15 rfl ?_
      refine g_iload_n C dR_findFits_16 rfl ?_
      refine g_callVi C (nargs := 1) (o := 0) (st := []) (m_RdoesFit hci h) rfl (by decide) hci rfl gd_doesFit (by decide +kernel) ⟨rfl, rfl⟩ dR_findFits_17 ⟨by decide, by decide⟩ rfl rfl (Nat.le_of_ble_eq_true rfl) ?_
      intro r17c M17 hN
      replace h := hN
      clear hN
      refine g_if_eq C 43 dR_findFits_20 (by decide) (fun hc => ?_) (fun hc => ?_)
      · replace h := h.1 hc
        refine g_locals (lv' := [(0, .ref (ad 0)), (1, iv v1)]) rfl ?_
        exact pB43 r7 X7_49 hr7 hX7_49 _ _ h
      · replace h := h.2 hc
        refine g_aload_n C dR_findFits_23 rfl ?_
        refine rf_fit C hci dR_findFits_24 ?_
        refine g_aload_n C dR_findFits_27 rfl ?_
        refine rf_many C hci dR_findFits_28 ?_
        refine g_iload_n C dR_findFits_31 rfl ?_
        refine g_iast C (n := 64) dR_findFits_32 rfl (by decide) h.1 ?_
        replace h := h.2
        refine g_memname (fun M32 hM32 => ?_)
        replace h := h M32 hM32
        refine g_aload_n C dR_findFits_33 rfl ?_
        refine g_dup C dR_findFits_34 rfl ?_
        refine rf_many C hci dR_findFits_35 ?_
        refine g_iconst C dR_findFits_38 ?_
        refine g_iadd C dR_findFits_39 ?_
        refine rp_many C hci dR_findFits_40 ?_
        refine g_memname (fun M40 hM40 => ?_)
        replace h := h M40 hM40
        refine g_locals (lv' := [(0, .ref (ad 0)), (1, iv v1)]) rfl ?_
        exact pB43 r7 X7_49 hr7 hX7_49 _ _ h
  have pL7 : ∀  (X7_49 : gSt → Prop) (hX7_49 : ∀  (M : gSt), X7_49  M → gG p l e (rmR 4 100) s m args below meth c Q D cl A (wR ad cI ci) 2 49 [] [] M) (n : Nat) (v1 : Int) (M : gSt), wL_RfindFits_7  k  X7_49 n v1 M → gG p l e (rmR 4 100) s m args below meth c Q D cl A (wR ad cI ci) 2 7 [(0, .ref (ad 0)), (1, iv v1)] [] M := by
    intro  X7_49 hX7_49 n
    induction n with
    | zero => intro v1 M h; exact h.elim
    | succ n ih =>
      intro v1 M h
      exact pC7  (wL_RfindFits_7  k  X7_49 n) X7_49 ih hX7_49 v1 M h
  refine g_locals (lv' := [(0, .ref (ad 0))]) rfl ?_
  unfold w_RfindFits at h
  refine g_aload_n C dR_findFits_0 rfl ?_
  refine g_iconst C dR_findFits_1 ?_
  refine rp_many C hci dR_findFits_2 ?_
  refine g_memname (fun M2 hM2 => ?_)
  replace h := h M2 hM2
  refine g_iconst C dR_findFits_5 ?_
  refine g_istore_n C dR_findFits_6 (by decide) rfl ?_
  refine g_locals (lv' := [(0, .ref (ad 0)), (1, iv 0)]) rfl ?_
  refine g_locals (lv' := [(0, .ref (ad 0)), (1, iv 0)]) rfl ?_
  obtain ⟨n, h⟩ := h
  refine pL7 _ ?_ n _ _ h
  · intro  M7 hN
    replace h := hN
    clear hN
    exact hR _ _ _ dR_findFits_49 h
def wC_RbitsOf_4 (a1 : Int) (k : Int → gSt → Prop) (r4 : Int → Int → gSt → Prop) (X4_20 : Int → gSt → Prop) (v1 : Int) (v2 : Int) (M : gSt) : Prop :=

  (wrap v2 = 0 →
    X4_20 v1 M) ∧
  (¬ wrap v2 = 0 →
    ∀ x2_16 : Int, x2_16 = xand v2 (v2 - 1) → (r4 (v1 + 1) x2_16 M))
def wL_RbitsOf_4 (a1 : Int) (k : Int → gSt → Prop)  (X4_20 : Int → gSt → Prop) : Nat → Int → Int → gSt → Prop
  | 0 => fun _ _ _ => False
  | n + 1 => fun v1 v2 M => wC_RbitsOf_4 a1 k  (wL_RbitsOf_4 a1 k  X4_20 n) X4_20 v1 v2 M
def w_RbitsOf (a1 : Int) (M : gSt) (k : Int → gSt → Prop) : Prop :=
∃ n, wL_RbitsOf_4 a1 k  (fun u1_4 M4 =>
    k u1_4 M4) n 0 a1 M
set_option maxHeartbeats 4000000 in
set_option maxRecDepth 100000 in
theorem m_RbitsOf {l : Launch} {D : va_G} {cl : List vw_C} {tys : List (ClassId × FieldType)} {ad : Nat → Nat} {cI : ClassId} {ci : Nat} {Z : (Nat → Prop) → State → Prop} (hci : cl[ci]? = some (RX9, TX9, 23)) {a1 : Int} {M : gSt} {k : Int → gSt → Prop} (h : w_RbitsOf a1 M k) : MOi l yX9_bitsOf cX9_bitsOf 3 .int (rmR 0 0) D cl ((cI, .int) :: tys) (wR ad cI ci) tR Z [iv a1] M k := by
  refine moi_intro (by decide +kernel) (Nat.le_of_ble_eq_true rfl) wi_232 ?_
  intro p e s m args below meth c A Q C hR
  have pC4 : ∀ (r4 : Int → Int → gSt → Prop) (X4_20 : Int → gSt → Prop) (hr4 : ∀ (v1 : Int) (v2 : Int) (M : gSt), r4 v1 v2 M → gG p l e (rmR 0 0) s m args below meth c Q D cl A (wR ad cI ci) 3 4 [(1, iv v1), (2, iv v2)] [] M) (hX4_20 : ∀ (v1 : Int) (M : gSt), X4_20 v1 M → gG p l e (rmR 0 0) s m args below meth c Q D cl A (wR ad cI ci) 3 20 [(1, iv v1)] [] M) (v1 : Int) (v2 : Int) (M : gSt), wC_RbitsOf_4 a1 k r4 X4_20 v1 v2 M → gG p l e (rmR 0 0) s m args below meth c Q D cl A (wR ad cI ci) 3 4 [(1, iv v1), (2, iv v2)] [] M := by
    intro r4 X4_20 hr4 hX4_20 v1 v2 M h
    unfold wC_RbitsOf_4 at h
    refine g_iload_n C dR_bitsOf_4 rfl ?_
    refine g_if_eq C 20 dR_bitsOf_5 (by decide) (fun hc => ?_) (fun hc => ?_)
    · replace h := h.1 hc
      refine g_locals (lv' := [(1, iv v1)]) rfl ?_
      exact hX4_20 _  _ h
    · replace h := h.2 hc
      refine g_iinc C dR_bitsOf_8 rfl (by decide) rfl ?_
      refine g_locals (lv' := [(1, iv (v1 + 1)), (2, iv v2)]) rfl ?_
      refine g_iload_n C dR_bitsOf_11 rfl ?_
      refine g_iload_n C dR_bitsOf_12 rfl ?_
      refine g_iconst C dR_bitsOf_13 ?_
      refine g_isub C dR_bitsOf_14 ?_
      refine g_iand C dR_bitsOf_15 ?_
      refine g_name (fun x2_16 hx2_16 => ?_)
      replace h := h x2_16 hx2_16
      refine g_istore_n C dR_bitsOf_16 (by decide) rfl ?_
      refine g_locals (lv' := [(1, iv (v1 + 1)), (2, iv x2_16)]) rfl ?_
      refine g_goto C 4 dR_bitsOf_17 (by decide) ?_
      refine g_locals (lv' := [(1, iv (v1 + 1)), (2, iv x2_16)]) rfl ?_
      exact hr4 _ _  _ h
  have pL4 : ∀  (X4_20 : Int → gSt → Prop) (hX4_20 : ∀ (v1 : Int) (M : gSt), X4_20 v1 M → gG p l e (rmR 0 0) s m args below meth c Q D cl A (wR ad cI ci) 3 20 [(1, iv v1)] [] M) (n : Nat) (v1 : Int) (v2 : Int) (M : gSt), wL_RbitsOf_4 a1 k  X4_20 n v1 v2 M → gG p l e (rmR 0 0) s m args below meth c Q D cl A (wR ad cI ci) 3 4 [(1, iv v1), (2, iv v2)] [] M := by
    intro  X4_20 hX4_20 n
    induction n with
    | zero => intro v1 v2 M h; exact h.elim
    | succ n ih =>
      intro v1 v2 M h
      exact pC4  (wL_RbitsOf_4 a1 k  X4_20 n) X4_20 ih hX4_20 v1 v2 M h
  refine g_locals (lv' := [(0, iv a1)]) rfl ?_
  unfold w_RbitsOf at h
  refine g_iconst C dR_bitsOf_0 ?_
  refine g_istore_n C dR_bitsOf_1 (by decide) rfl ?_
  refine g_locals (lv' := [(0, iv a1), (1, iv 0)]) rfl ?_
  refine g_iload_n C dR_bitsOf_2 rfl ?_
  refine g_istore_n C dR_bitsOf_3 (by decide) rfl ?_
  refine g_locals (lv' := [(0, iv a1), (1, iv 0), (2, iv a1)]) rfl ?_
  refine g_locals (lv' := [(1, iv 0), (2, iv a1)]) rfl ?_
  obtain ⟨n, h⟩ := h
  refine pL4 _ ?_ n _ _ _ h
  · intro u1_4 M4 hN
    replace h := hN
    clear hN
    refine g_iload_n C dR_bitsOf_20 rfl ?_
    exact hR _ _ _ _ dR_bitsOf_21 rfl h
def wB_Rfits_91 (a1 : Int) (k : Int → gSt → Prop) (r32 : Int → Int → Int → Int → gSt → Prop) (X32_99 : Int → Int → Int → gSt → Prop) (v2 : Int) (v3 : Int) (v5 : Int) (s0 : Int) (M : gSt) : Prop :=
r32 v2 v3 s0 (v5 + 1) M
def wC_Rfits_32 (a1 : Int) (k : Int → gSt → Prop) (r32 : Int → Int → Int → Int → gSt → Prop) (X32_99 : Int → Int → Int → gSt → Prop) (v2 : Int) (v3 : Int) (v4 : Int) (v5 : Int) (M : gSt) : Prop :=

  (wrap (M 0 13) ≤ wrap v5 →
    X32_99 v2 v3 v4 M) ∧
  (wrap v5 < wrap (M 0 13) →
    (0 ≤ v5 ∧ v5 < 64) ∧ (∀ x2_50 : Int, x2_50 = xand v2 (M 8 v5) → ((0 ≤ v5 ∧ v5 < 64) ∧ (∀ x3_60 : Int, x3_60 = xor2 v3 (M 8 v5) → ((0 ≤ v5 ∧ v5 < 64) ∧ (w_RbitsOf (M 8 v5) M (fun r68c M68 => 
    (wrap r68c ≤ wrap v4 →
      wB_Rfits_91 a1 k r32 X32_99 x2_50 x3_60 v5 v4 M68) ∧
    (wrap v4 < wrap r68c →
      (0 ≤ v5 ∧ v5 < 64) ∧ (w_RbitsOf (M68 8 v5) M68 (fun r83c M83 => wB_Rfits_91 a1 k r32 X32_99 x2_50 x3_60 v5 r83c M83))))))))))
def wL_Rfits_32 (a1 : Int) (k : Int → gSt → Prop)  (X32_99 : Int → Int → Int → gSt → Prop) : Nat → Int → Int → Int → Int → gSt → Prop
  | 0 => fun _ _ _ _ _ => False
  | n + 1 => fun v2 v3 v4 v5 M => wC_Rfits_32 a1 k  (wL_Rfits_32 a1 k  X32_99 n) X32_99 v2 v3 v4 v5 M
def wB_Rfits_122 (a1 : Int) (k : Int → gSt → Prop)  (v2 : Int) (v3 : Int) (v4 : Int) (M : gSt) : Prop :=

  (¬ wrap a1 = 0 →

    (¬ wrap a1 = 1 →

      (¬ wrap a1 = 2 →

        (¬ wrap a1 = 3 →
          k ((M 1 3) - v4) M) ∧
        (wrap a1 = 3 →
          k v3 M)) ∧
      (wrap a1 = 2 →
        k v2 M)) ∧
    (wrap a1 = 1 →
      k (M 8 0) M)) ∧
  (wrap a1 = 0 →
    k (M 0 13) M)
def wB_Rfits_109 (a1 : Int) (k : Int → gSt → Prop)  (v2 : Int) (v3 : Int) (v4 : Int) (M : gSt) : Prop :=

  (¬ wrap (M 0 13) = 0 →
    wB_Rfits_122 a1 k  v2 v3 v4 M) ∧
  (wrap (M 0 13) = 0 →
    w_Rerror 2 M (fun r118c M118 => k r118c M118))
def w_Rfits (a1 : Int) (M : gSt) (k : Int → gSt → Prop) : Prop :=
w_Rin a1 0 4 M (fun r3c M3 => 
  (¬ wrap r3c = 0 →
    w_RfindFits  M3 (fun M16 => w_RallPapers  M16 (fun r20c M20 => ∃ n, wL_Rfits_32 a1 k  (fun u2_32 u3_32 u4_32 M32 =>

      (wrap a1 = 1 →
        wB_Rfits_109 a1 k  u2_32 u3_32 u4_32 M32) ∧
      (¬ wrap a1 = 1 →

        (¬ wrap a1 = 4 →
          wB_Rfits_122 a1 k  u2_32 u3_32 u4_32 M32) ∧
        (wrap a1 = 4 →
          wB_Rfits_109 a1 k  u2_32 u3_32 u4_32 M32))) n r20c 0 0 0 M20))) ∧
  (wrap r3c = 0 →
    w_Rerror 1 M3 (fun r11c M11 => k r11c M11)))
set_option maxHeartbeats 4000000 in
set_option maxRecDepth 100000 in
theorem m_Rfits {l : Launch} {D : va_G} {cl : List vw_C} {tys : List (ClassId × FieldType)} {ad : Nat → Nat} {cI : ClassId} {ci : Nat} {Z : (Nat → Prop) → State → Prop} (hci : cl[ci]? = some (RX9, TX9, 23)) {a1 : Int} {M : gSt} {k : Int → gSt → Prop} (h : w_Rfits a1 M k) : MOi l yX9_fits cX9_fits 6 .int (rmR 5 121) D cl ((cI, .int) :: tys) (wR ad cI ci) tR Z [.ref (ad 0), iv a1] M k := by
  refine moi_intro (by decide +kernel) (Nat.le_of_ble_eq_true rfl) wi_238 ?_
  intro p e s m args below meth c A Q C hR
  have pB91 : ∀ (r32 : Int → Int → Int → Int → gSt → Prop) (X32_99 : Int → Int → Int → gSt → Prop) (hr32 : ∀ (v2 : Int) (v3 : Int) (v4 : Int) (v5 : Int) (M : gSt), r32 v2 v3 v4 v5 M → gG p l e (rmR 5 121) s m args below meth c Q D cl A (wR ad cI ci) 6 32 [(0, .ref (ad 0)), (1, iv a1), (2, iv v2), (3, iv v3), (4, iv v4), (5, iv v5)] [] M) (hX32_99 : ∀ (v2 : Int) (v3 : Int) (v4 : Int) (M : gSt), X32_99 v2 v3 v4 M → gG p l e (rmR 5 121) s m args below meth c Q D cl A (wR ad cI ci) 6 99 [(0, .ref (ad 0)), (1, iv a1), (2, iv v2), (3, iv v3), (4, iv v4)] [] M) (v2 : Int) (v3 : Int) (v5 : Int) (s0 : Int) (M : gSt), wB_Rfits_91 a1 k r32 X32_99 v2 v3 v5 s0 M → gG p l e (rmR 5 121) s m args below meth c Q D cl A (wR ad cI ci) 6 91 [(0, .ref (ad 0)), (1, iv a1), (2, iv v2), (3, iv v3), (5, iv v5)] [iv s0] M := by
    intro r32 X32_99 hr32 hX32_99 v2 v3 v5 s0 M h
    unfold wB_Rfits_91 at h
    refine g_istore C dR_fits_91 (by decide) rfl ?_
    refine g_locals (lv' := [(0, .ref (ad 0)), (1, iv a1), (2, iv v2), (3, iv v3), (4, iv s0), (5, iv v5)]) rfl ?_
    refine g_iinc C dR_fits_93 rfl (by decide) rfl ?_
    refine g_locals (lv' := [(0, .ref (ad 0)), (1, iv a1), (2, iv v2), (3, iv v3), (4, iv s0), (5, iv (v5 + 1))]) rfl ?_
    refine g_goto C 32 dR_fits_96 (by decide) ?_
    refine g_locals (lv' := [(0, .ref (ad 0)), (1, iv a1), (2, iv v2), (3, iv v3), (4, iv s0), (5, iv (v5 + 1))]) rfl ?_
    exact hr32 _ _ _ _  _ h
  have pC32 : ∀ (r32 : Int → Int → Int → Int → gSt → Prop) (X32_99 : Int → Int → Int → gSt → Prop) (hr32 : ∀ (v2 : Int) (v3 : Int) (v4 : Int) (v5 : Int) (M : gSt), r32 v2 v3 v4 v5 M → gG p l e (rmR 5 121) s m args below meth c Q D cl A (wR ad cI ci) 6 32 [(0, .ref (ad 0)), (1, iv a1), (2, iv v2), (3, iv v3), (4, iv v4), (5, iv v5)] [] M) (hX32_99 : ∀ (v2 : Int) (v3 : Int) (v4 : Int) (M : gSt), X32_99 v2 v3 v4 M → gG p l e (rmR 5 121) s m args below meth c Q D cl A (wR ad cI ci) 6 99 [(0, .ref (ad 0)), (1, iv a1), (2, iv v2), (3, iv v3), (4, iv v4)] [] M) (v2 : Int) (v3 : Int) (v4 : Int) (v5 : Int) (M : gSt), wC_Rfits_32 a1 k r32 X32_99 v2 v3 v4 v5 M → gG p l e (rmR 5 121) s m args below meth c Q D cl A (wR ad cI ci) 6 32 [(0, .ref (ad 0)), (1, iv a1), (2, iv v2), (3, iv v3), (4, iv v4), (5, iv v5)] [] M := by
    intro r32 X32_99 hr32 hX32_99 v2 v3 v4 v5 M h
    unfold wC_Rfits_32 at h
    refine g_iload C dR_fits_32 rfl ?_
    refine g_aload_n C dR_fits_34 rfl ?_
    refine rf_many C hci dR_fits_35 ?_
    refine g_icmp_ge C 99 dR_fits_38 (by decide) (fun hc => ?_) (fun hc => ?_)
    · replace h := h.1 hc
      refine g_locals (lv' := [(0, .ref (ad 0)), (1, iv a1), (2, iv v2), (3, iv v3), (4, iv v4)]) rfl ?_
      exact hX32_99 _ _ _  _ h
    · replace h := h.2 hc
      refine g_iload_n C dR_fits_41 rfl ?_
      refine g_aload_n C dR_fits_42 rfl ?_
      refine rf_fit C hci dR_fits_43 ?_
      refine g_iload C dR_fits_46 rfl ?_
      refine g_iald C (n := 64) dR_fits_48 rfl (by decide) h.1 ?_
      replace h := h.2
      refine g_iand C dR_fits_49 ?_
      refine g_name (fun x2_50 hx2_50 => ?_)
      replace h := h x2_50 hx2_50
      refine g_istore_n C dR_fits_50 (by decide) rfl ?_
      refine g_locals (lv' := [(0, .ref (ad 0)), (1, iv a1), (2, iv x2_50), (3, iv v3), (4, iv v4), (5, iv v5)]) rfl ?_
      refine g_iload_n C dR_fits_51 rfl ?_
      refine g_aload_n C dR_fits_52 rfl ?_
      refine rf_fit C hci dR_fits_53 ?_
      refine g_iload C dR_fits_56 rfl ?_
      refine g_iald C (n := 64) dR_fits_58 rfl (by decide) h.1 ?_
      replace h := h.2
      refine g_ior C dR_fits_59 ?_
      refine g_name (fun x3_60 hx3_60 => ?_)
      replace h := h x3_60 hx3_60
      refine g_istore_n C dR_fits_60 (by decide) rfl ?_
      refine g_locals (lv' := [(0, .ref (ad 0)), (1, iv a1), (2, iv x2_50), (3, iv x3_60), (4, iv v4), (5, iv v5)]) rfl ?_
      refine g_aload_n C dR_fits_61 rfl ?_
      refine rf_fit C hci dR_fits_62 ?_
      refine g_iload C dR_fits_65 rfl ?_
      refine g_iald C (n := 64) dR_fits_67 rfl (by decide) h.1 ?_
      replace h := h.2
      refine g_callSi C (nargs := 1) (st := []) (m_RbitsOf hci h) gd_bitsOf (by decide +kernel) ⟨rfl, rfl⟩ dR_fits_68 ⟨by decide, by decide⟩ rfl rfl (Nat.le_of_ble_eq_true rfl) ?_
      intro r68c M68 hN
      replace h := hN
      clear hN
      refine g_iload C dR_fits_71 rfl ?_
      refine g_icmp_le C 89 dR_fits_73 (by decide) (fun hc => ?_) (fun hc => ?_)
      · replace h := h.1 hc
        refine g_iload C dR_fits_89 rfl ?_
        refine g_locals (lv' := [(0, .ref (ad 0)), (1, iv a1), (2, iv x2_50), (3, iv x3_60), (5, iv v5)]) rfl ?_
        exact pB91 r32 X32_99 hr32 hX32_99 _ _ _ _ _ h
      · replace h := h.2 hc
        refine g_aload_n C dR_fits_76 rfl ?_
        refine rf_fit C hci dR_fits_77 ?_
        refine g_iload C dR_fits_80 rfl ?_
        refine g_iald C (n := 64) dR_fits_82 rfl (by decide) h.1 ?_
        replace h := h.2
        refine g_callSi C (nargs := 1) (st := []) (m_RbitsOf hci h) gd_bitsOf (by decide +kernel) ⟨rfl, rfl⟩ dR_fits_83 ⟨by decide, by decide⟩ rfl rfl (Nat.le_of_ble_eq_true rfl) ?_
        intro r83c M83 hN
        replace h := hN
        clear hN
        refine g_goto C 91 dR_fits_86 (by decide) ?_
        refine g_locals (lv' := [(0, .ref (ad 0)), (1, iv a1), (2, iv x2_50), (3, iv x3_60), (5, iv v5)]) rfl ?_
        exact pB91 r32 X32_99 hr32 hX32_99 _ _ _ _ _ h
  have pL32 : ∀  (X32_99 : Int → Int → Int → gSt → Prop) (hX32_99 : ∀ (v2 : Int) (v3 : Int) (v4 : Int) (M : gSt), X32_99 v2 v3 v4 M → gG p l e (rmR 5 121) s m args below meth c Q D cl A (wR ad cI ci) 6 99 [(0, .ref (ad 0)), (1, iv a1), (2, iv v2), (3, iv v3), (4, iv v4)] [] M) (n : Nat) (v2 : Int) (v3 : Int) (v4 : Int) (v5 : Int) (M : gSt), wL_Rfits_32 a1 k  X32_99 n v2 v3 v4 v5 M → gG p l e (rmR 5 121) s m args below meth c Q D cl A (wR ad cI ci) 6 32 [(0, .ref (ad 0)), (1, iv a1), (2, iv v2), (3, iv v3), (4, iv v4), (5, iv v5)] [] M := by
    intro  X32_99 hX32_99 n
    induction n with
    | zero => intro v2 v3 v4 v5 M h; exact h.elim
    | succ n ih =>
      intro v2 v3 v4 v5 M h
      exact pC32  (wL_Rfits_32 a1 k  X32_99 n) X32_99 ih hX32_99 v2 v3 v4 v5 M h
  have pB122 : ∀   (v2 : Int) (v3 : Int) (v4 : Int) (M : gSt), wB_Rfits_122 a1 k  v2 v3 v4 M → gG p l e (rmR 5 121) s m args below meth c Q D cl A (wR ad cI ci) 6 122 [(0, .ref (ad 0)), (1, iv a1), (2, iv v2), (3, iv v3), (4, iv v4)] [] M := by
    intro   v2 v3 v4 M h
    unfold wB_Rfits_122 at h
    refine g_iload_n C dR_fits_122 rfl ?_
    refine g_if_ne C 133 dR_fits_123 (by decide) (fun hc => ?_) (fun hc => ?_)
    · replace h := h.1 hc
      refine g_iload_n C dR_fits_133 rfl ?_
      refine g_iconst C dR_fits_134 ?_
      refine g_icmp_ne C 147 dR_fits_135 (by decide) (fun hc => ?_) (fun hc => ?_)
      · replace h := h.1 hc
        refine g_iload_n C dR_fits_147 rfl ?_
        refine g_iconst C dR_fits_148 ?_
        refine g_icmp_ne C 156 dR_fits_149 (by decide) (fun hc => ?_) (fun hc => ?_)
        · replace h := h.1 hc
          refine g_iload_n C dR_fits_156 rfl ?_
          refine g_iconst C dR_fits_157 ?_
          refine g_icmp_ne C 165 dR_fits_158 (by decide) (fun hc => ?_) (fun hc => ?_)
          · replace h := h.1 hc
            refine g_aload_n C dR_fits_165 rfl ?_
            refine rf_s C hci dR_fits_166 ?_
            refine g_iconst C dR_fits_169 ?_
            refine g_iald C (n := 536) dR_fits_170 rfl (by decide) ⟨by decide, by decide⟩ ?_
            refine g_iload C dR_fits_171 rfl ?_
            refine g_isub C dR_fits_173 ?_
            exact hR _ _ _ _ dR_fits_174 rfl h
          · replace h := h.2 hc
            refine g_iload_n C dR_fits_161 rfl ?_
            refine g_goto C 174 dR_fits_162 (by decide) ?_
            exact hR _ _ _ _ dR_fits_174 rfl h
        · replace h := h.2 hc
          refine g_iload_n C dR_fits_152 rfl ?_
          refine g_goto C 174 dR_fits_153 (by decide) ?_
          exact hR _ _ _ _ dR_fits_174 rfl h
      · replace h := h.2 hc
        refine g_aload_n C dR_fits_138 rfl ?_
        refine rf_fit C hci dR_fits_139 ?_
        refine g_iconst C dR_fits_142 ?_
        refine g_iald C (n := 64) dR_fits_143 rfl (by decide) ⟨by decide, by decide⟩ ?_
        refine g_goto C 174 dR_fits_144 (by decide) ?_
        exact hR _ _ _ _ dR_fits_174 rfl h
    · replace h := h.2 hc
      refine g_aload_n C dR_fits_126 rfl ?_
      refine rf_many C hci dR_fits_127 ?_
      refine g_goto C 174 dR_fits_130 (by decide) ?_
      exact hR _ _ _ _ dR_fits_174 rfl h
  have pB109 : ∀   (v2 : Int) (v3 : Int) (v4 : Int) (M : gSt), wB_Rfits_109 a1 k  v2 v3 v4 M → gG p l e (rmR 5 121) s m args below meth c Q D cl A (wR ad cI ci) 6 109 [(0, .ref (ad 0)), (1, iv a1), (2, iv v2), (3, iv v3), (4, iv v4)] [] M := by
    intro   v2 v3 v4 M h
    unfold wB_Rfits_109 at h
    refine g_aload_n C dR_fits_109 rfl ?_
    refine rf_many C hci dR_fits_110 ?_
    refine g_if_ne C 122 dR_fits_113 (by decide) (fun hc => ?_) (fun hc => ?_)
    · replace h := h.1 hc
      refine g_locals (lv' := [(0, .ref (ad 0)), (1, iv a1), (2, iv v2), (3, iv v3), (4, iv v4)]) rfl ?_
      exact pB122 _ _ _ _ h
    · replace h := h.2 hc
      refine g_aload_n C dR_fits_116 rfl ?_
      refine g_iconst C dR_fits_117 ?_
      refine g_callVi C (nargs := 1) (o := 0) (st := []) (m_Rerror hci h) rfl (by decide) hci rfl gd_error (by decide +kernel) ⟨rfl, rfl⟩ dR_fits_118 ⟨by decide, by decide⟩ rfl rfl (Nat.le_of_ble_eq_true rfl) ?_
      intro r118c M118 hN
      replace h := hN
      clear hN
      exact hR _ _ _ _ dR_fits_121 rfl h
  refine g_locals (lv' := [(0, .ref (ad 0)), (1, iv a1)]) rfl ?_
  unfold w_Rfits at h
  refine g_iload_n C dR_fits_0 rfl ?_
  refine g_iconst C dR_fits_1 ?_
  refine g_iconst C dR_fits_2 ?_
  refine g_callSi C (nargs := 3) (st := []) (m_Rin hci h) gd_in (by decide +kernel) ⟨rfl, rfl⟩ dR_fits_3 ⟨by decide, by decide⟩ rfl rfl (Nat.le_of_ble_eq_true rfl) ?_
  intro r3c M3 hN
  replace h := hN
  clear hN
  refine g_if_ne C 15 dR_fits_6 (by decide) (fun hc => ?_) (fun hc => ?_)
  · replace h := h.1 hc
    refine g_aload_n C dR_fits_15 rfl ?_
    refine g_callVv C (nargs := 0) (o := 0) (st := []) (m_RfindFits hci h) rfl (by decide) hci rfl gd_findFits (by decide +kernel) ⟨rfl, rfl⟩ dR_fits_16 ⟨by decide, by decide⟩ rfl rfl (Nat.le_of_ble_eq_true rfl) ?_
    intro M16 hN
    replace h := hN
    clear hN
    refine g_aload_n C dR_fits_19 rfl ?_
    refine g_callVi C (nargs := 0) (o := 0) (st := []) (m_RallPapers hci h) rfl (by decide) hci rfl gd_allPapers (by decide +kernel) ⟨rfl, rfl⟩ dR_fits_20 ⟨by decide, by decide⟩ rfl rfl (Nat.le_of_ble_eq_true rfl) ?_
    intro r20c M20 hN
    replace h := hN
    clear hN
    refine g_istore_n C dR_fits_23 (by decide) rfl ?_
    refine g_locals (lv' := [(0, .ref (ad 0)), (1, iv a1), (2, iv r20c)]) rfl ?_
    refine g_iconst C dR_fits_24 ?_
    refine g_istore_n C dR_fits_25 (by decide) rfl ?_
    refine g_locals (lv' := [(0, .ref (ad 0)), (1, iv a1), (2, iv r20c), (3, iv 0)]) rfl ?_
    refine g_iconst C dR_fits_26 ?_
    refine g_istore C dR_fits_27 (by decide) rfl ?_
    refine g_locals (lv' := [(0, .ref (ad 0)), (1, iv a1), (2, iv r20c), (3, iv 0), (4, iv 0)]) rfl ?_
    refine g_iconst C dR_fits_29 ?_
    refine g_istore C dR_fits_30 (by decide) rfl ?_
    refine g_locals (lv' := [(0, .ref (ad 0)), (1, iv a1), (2, iv r20c), (3, iv 0), (4, iv 0), (5, iv 0)]) rfl ?_
    refine g_locals (lv' := [(0, .ref (ad 0)), (1, iv a1), (2, iv r20c), (3, iv 0), (4, iv 0), (5, iv 0)]) rfl ?_
    obtain ⟨n, h⟩ := h
    refine pL32 _ ?_ n _ _ _ _ _ h
    · intro u2_32 u3_32 u4_32 M32 hN
      replace h := hN
      clear hN
      refine g_iload_n C dR_fits_99 rfl ?_
      refine g_iconst C dR_fits_100 ?_
      refine g_icmp_eq C 109 dR_fits_101 (by decide) (fun hc => ?_) (fun hc => ?_)
      · replace h := h.1 hc
        refine g_locals (lv' := [(0, .ref (ad 0)), (1, iv a1), (2, iv u2_32), (3, iv u3_32), (4, iv u4_32)]) rfl ?_
        exact pB109 _ _ _ _ h
      · replace h := h.2 hc
        refine g_iload_n C dR_fits_104 rfl ?_
        refine g_iconst C dR_fits_105 ?_
        refine g_icmp_ne C 122 dR_fits_106 (by decide) (fun hc => ?_) (fun hc => ?_)
        · replace h := h.1 hc
          refine g_locals (lv' := [(0, .ref (ad 0)), (1, iv a1), (2, iv u2_32), (3, iv u3_32), (4, iv u4_32)]) rfl ?_
          exact pB122 _ _ _ _ h
        · replace h := h.2 hc
          refine g_locals (lv' := [(0, .ref (ad 0)), (1, iv a1), (2, iv u2_32), (3, iv u3_32), (4, iv u4_32)]) rfl ?_
          exact pB109 _ _ _ _ h
  · replace h := h.2 hc
    refine g_aload_n C dR_fits_9 rfl ?_
    refine g_iconst C dR_fits_10 ?_
    refine g_callVi C (nargs := 1) (o := 0) (st := []) (m_Rerror hci h) rfl (by decide) hci rfl gd_error (by decide +kernel) ⟨rfl, rfl⟩ dR_fits_11 ⟨by decide, by decide⟩ rfl rfl (Nat.le_of_ble_eq_true rfl) ?_
    intro r11c M11 hN
    replace h := hN
    clear hN
    exact hR _ _ _ _ dR_fits_14 rfl h
def wB_Rspan_26 (a1 : Int) (a2 : Int) (a3 : Int) (k : Int → gSt → Prop)   (M : gSt) : Prop :=
w_Rerror 1 M (fun r28c M28 => k r28c M28)
def wB_Rspan_132 (a1 : Int) (a2 : Int) (a3 : Int) (k : Int → gSt → Prop) (r69 : Int → Int → gSt → Prop) (X69_140 : Int → gSt → Prop) (v5 : Int) (s0 : Int) (M : gSt) : Prop :=
r69 s0 (v5 + 1) M
def wC_Rspan_69 (a1 : Int) (a2 : Int) (a3 : Int) (k : Int → gSt → Prop) (r69 : Int → Int → gSt → Prop) (X69_140 : Int → gSt → Prop) (v4 : Int) (v5 : Int) (M : gSt) : Prop :=

  (wrap (M 0 13) ≤ wrap v5 →
    X69_140 v4 M) ∧
  (wrap v5 < wrap (M 0 13) →
    (0 ≤ v5 ∧ v5 < 64) ∧ (w_Rafter (M 8 v5) a1 (6 + a2) M (fun r91c M91 => 
    (¬ wrap a3 = 1 →

      (wrap v4 ≤ wrap r91c →
        wB_Rspan_132 a1 a2 a3 k r69 X69_140 v5 v4 M91) ∧
      (wrap r91c < wrap v4 →
        wB_Rspan_132 a1 a2 a3 k r69 X69_140 v5 r91c M91)) ∧
    (wrap a3 = 1 →

      (wrap r91c ≤ wrap v4 →
        wB_Rspan_132 a1 a2 a3 k r69 X69_140 v5 v4 M91) ∧
      (wrap v4 < wrap r91c →
        wB_Rspan_132 a1 a2 a3 k r69 X69_140 v5 r91c M91)))))
def wL_Rspan_69 (a1 : Int) (a2 : Int) (a3 : Int) (k : Int → gSt → Prop)  (X69_140 : Int → gSt → Prop) : Nat → Int → Int → gSt → Prop
  | 0 => fun _ _ _ => False
  | n + 1 => fun v4 v5 M => wC_Rspan_69 a1 a2 a3 k  (wL_Rspan_69 a1 a2 a3 k  X69_140 n) X69_140 v4 v5 M
def w_Rspan (a1 : Int) (a2 : Int) (a3 : Int) (M : gSt) (k : Int → gSt → Prop) : Prop :=
w_RisThing a1 M (fun r2c M2 => 
  (wrap r2c = 0 →
    wB_Rspan_26 a1 a2 a3 k   M2) ∧
  (¬ wrap r2c = 0 →
    w_Rin a2 0 3 M2 (fun r11c M11 => 
    (wrap r11c = 0 →
      wB_Rspan_26 a1 a2 a3 k   M11) ∧
    (¬ wrap r11c = 0 →
      w_Rin a3 0 1 M11 (fun r20c M20 => 
      (¬ wrap r20c = 0 →
        w_RfindFits  M20 (fun M33 => 
        (¬ wrap (M33 0 13) = 0 →
          w_Rafter (M33 8 0) a1 (6 + a2) M33 (fun r61c M61 => ∃ n, wL_Rspan_69 a1 a2 a3 k  (fun u4_69 M69 =>
            k u4_69 M69) n r61c 1 M61)) ∧
        (wrap (M33 0 13) = 0 →
          w_Rerror 2 M33 (fun r45c M45 => k r45c M45)))) ∧
      (wrap r20c = 0 →
        wB_Rspan_26 a1 a2 a3 k   M20))))))
set_option maxHeartbeats 4000000 in
set_option maxRecDepth 100000 in
theorem m_Rspan {l : Launch} {D : va_G} {cl : List vw_C} {tys : List (ClassId × FieldType)} {ad : Nat → Nat} {cI : ClassId} {ci : Nat} {Z : (Nat → Prop) → State → Prop} (hci : cl[ci]? = some (RX9, TX9, 23)) {a1 : Int} {a2 : Int} {a3 : Int} {M : gSt} {k : Int → gSt → Prop} (h : w_Rspan a1 a2 a3 M k) : MOi l yX9_span cX9_span 7 .int (rmR 5 121) D cl ((cI, .int) :: tys) (wR ad cI ci) tR Z [.ref (ad 0), iv a1, iv a2, iv a3] M k := by
  refine moi_intro (by decide +kernel) (Nat.le_of_ble_eq_true rfl) wi_239 ?_
  intro p e s m args below meth c A Q C hR
  have pB26 : ∀    (M : gSt), wB_Rspan_26 a1 a2 a3 k   M → gG p l e (rmR 5 121) s m args below meth c Q D cl A (wR ad cI ci) 7 26 [(0, .ref (ad 0))] [] M := by
    intro    M h
    unfold wB_Rspan_26 at h
    refine g_aload_n C dR_span_26 rfl ?_
    refine g_iconst C dR_span_27 ?_
    refine g_callVi C (nargs := 1) (o := 0) (st := []) (m_Rerror hci h) rfl (by decide) hci rfl gd_error (by decide +kernel) ⟨rfl, rfl⟩ dR_span_28 ⟨by decide, by decide⟩ rfl rfl (Nat.le_of_ble_eq_true rfl) ?_
    intro r28c M28 hN
    replace h := hN
    clear hN
    exact hR _ _ _ _ dR_span_31 rfl h
  have pB132 : ∀ (r69 : Int → Int → gSt → Prop) (X69_140 : Int → gSt → Prop) (hr69 : ∀ (v4 : Int) (v5 : Int) (M : gSt), r69 v4 v5 M → gG p l e (rmR 5 121) s m args below meth c Q D cl A (wR ad cI ci) 7 69 [(0, .ref (ad 0)), (1, iv a1), (2, iv a2), (3, iv a3), (4, iv v4), (5, iv v5)] [] M) (hX69_140 : ∀ (v4 : Int) (M : gSt), X69_140 v4 M → gG p l e (rmR 5 121) s m args below meth c Q D cl A (wR ad cI ci) 7 140 [(4, iv v4)] [] M) (v5 : Int) (s0 : Int) (M : gSt), wB_Rspan_132 a1 a2 a3 k r69 X69_140 v5 s0 M → gG p l e (rmR 5 121) s m args below meth c Q D cl A (wR ad cI ci) 7 132 [(0, .ref (ad 0)), (1, iv a1), (2, iv a2), (3, iv a3), (5, iv v5)] [iv s0] M := by
    intro r69 X69_140 hr69 hX69_140 v5 s0 M h
    unfold wB_Rspan_132 at h
    refine g_istore C dR_span_132 (by decide) rfl ?_
    refine g_locals (lv' := [(0, .ref (ad 0)), (1, iv a1), (2, iv a2), (3, iv a3), (4, iv s0), (5, iv v5)]) rfl ?_
    refine g_iinc C dR_span_134 rfl (by decide) rfl ?_
    refine g_locals (lv' := [(0, .ref (ad 0)), (1, iv a1), (2, iv a2), (3, iv a3), (4, iv s0), (5, iv (v5 + 1))]) rfl ?_
    refine g_goto C 69 dR_span_137 (by decide) ?_
    refine g_locals (lv' := [(0, .ref (ad 0)), (1, iv a1), (2, iv a2), (3, iv a3), (4, iv s0), (5, iv (v5 + 1))]) rfl ?_
    exact hr69 _ _  _ h
  have pC69 : ∀ (r69 : Int → Int → gSt → Prop) (X69_140 : Int → gSt → Prop) (hr69 : ∀ (v4 : Int) (v5 : Int) (M : gSt), r69 v4 v5 M → gG p l e (rmR 5 121) s m args below meth c Q D cl A (wR ad cI ci) 7 69 [(0, .ref (ad 0)), (1, iv a1), (2, iv a2), (3, iv a3), (4, iv v4), (5, iv v5)] [] M) (hX69_140 : ∀ (v4 : Int) (M : gSt), X69_140 v4 M → gG p l e (rmR 5 121) s m args below meth c Q D cl A (wR ad cI ci) 7 140 [(4, iv v4)] [] M) (v4 : Int) (v5 : Int) (M : gSt), wC_Rspan_69 a1 a2 a3 k r69 X69_140 v4 v5 M → gG p l e (rmR 5 121) s m args below meth c Q D cl A (wR ad cI ci) 7 69 [(0, .ref (ad 0)), (1, iv a1), (2, iv a2), (3, iv a3), (4, iv v4), (5, iv v5)] [] M := by
    intro r69 X69_140 hr69 hX69_140 v4 v5 M h
    unfold wC_Rspan_69 at h
    refine g_iload C dR_span_69 rfl ?_
    refine g_aload_n C dR_span_71 rfl ?_
    refine rf_many C hci dR_span_72 ?_
    refine g_icmp_ge C 140 dR_span_75 (by decide) (fun hc => ?_) (fun hc => ?_)
    · replace h := h.1 hc
      refine g_locals (lv' := [(4, iv v4)]) rfl ?_
      exact hX69_140 _  _ h
    · replace h := h.2 hc
      refine g_aload_n C dR_span_78 rfl ?_
      refine g_aload_n C dR_span_79 rfl ?_
      refine rf_fit C hci dR_span_80 ?_
      refine g_iload C dR_span_83 rfl ?_
      refine g_iald C (n := 64) dR_span_85 rfl (by decide) h.1 ?_
      replace h := h.2
      refine g_iload_n C dR_span_86 rfl ?_
      refine g_bipush C dR_span_87 rfl ?_
      refine g_iload_n C dR_span_89 rfl ?_
      refine g_iadd C dR_span_90 ?_
      refine g_callVi C (nargs := 3) (o := 0) (st := []) (m_Rafter hci h) rfl (by decide) hci rfl gd_after (by decide +kernel) ⟨rfl, rfl⟩ dR_span_91 ⟨by decide, by decide⟩ rfl rfl (Nat.le_of_ble_eq_true rfl) ?_
      intro r91c M91 hN
      replace h := hN
      clear hN
      refine g_istore C dR_span_94 (by decide) rfl ?_
      refine g_locals (lv' := [(0, .ref (ad 0)), (1, iv a1), (2, iv a2), (3, iv a3), (4, iv v4), (5, iv v5), (6, iv r91c)]) rfl ?_
      refine g_iload_n C dR_span_96 rfl ?_
      refine g_iconst C dR_span_97 ?_
      refine g_icmp_ne C 118 dR_span_98 (by decide) (fun hc => ?_) (fun hc => ?_)
      · replace h := h.1 hc
        refine g_iload C dR_span_118 rfl ?_
        refine g_iload C dR_span_120 rfl ?_
        refine g_icmp_ge C 130 dR_span_122 (by decide) (fun hc => ?_) (fun hc => ?_)
        · replace h := h.1 hc
          refine g_iload C dR_span_130 rfl ?_
          refine g_locals (lv' := [(0, .ref (ad 0)), (1, iv a1), (2, iv a2), (3, iv a3), (5, iv v5)]) rfl ?_
          exact pB132 r69 X69_140 hr69 hX69_140 _ _ _ h
        · replace h := h.2 hc
          refine g_iload C dR_span_125 rfl ?_
          refine g_goto C 132 dR_span_127 (by decide) ?_
          refine g_locals (lv' := [(0, .ref (ad 0)), (1, iv a1), (2, iv a2), (3, iv a3), (5, iv v5)]) rfl ?_
          exact pB132 r69 X69_140 hr69 hX69_140 _ _ _ h
      · replace h := h.2 hc
        refine g_iload C dR_span_101 rfl ?_
        refine g_iload C dR_span_103 rfl ?_
        refine g_icmp_le C 113 dR_span_105 (by decide) (fun hc => ?_) (fun hc => ?_)
        · replace h := h.1 hc
          refine g_iload C dR_span_113 rfl ?_
          refine g_goto C 132 dR_span_115 (by decide) ?_
          refine g_locals (lv' := [(0, .ref (ad 0)), (1, iv a1), (2, iv a2), (3, iv a3), (5, iv v5)]) rfl ?_
          exact pB132 r69 X69_140 hr69 hX69_140 _ _ _ h
        · replace h := h.2 hc
          refine g_iload C dR_span_108 rfl ?_
          refine g_goto C 132 dR_span_110 (by decide) ?_
          refine g_locals (lv' := [(0, .ref (ad 0)), (1, iv a1), (2, iv a2), (3, iv a3), (5, iv v5)]) rfl ?_
          exact pB132 r69 X69_140 hr69 hX69_140 _ _ _ h
  have pL69 : ∀  (X69_140 : Int → gSt → Prop) (hX69_140 : ∀ (v4 : Int) (M : gSt), X69_140 v4 M → gG p l e (rmR 5 121) s m args below meth c Q D cl A (wR ad cI ci) 7 140 [(4, iv v4)] [] M) (n : Nat) (v4 : Int) (v5 : Int) (M : gSt), wL_Rspan_69 a1 a2 a3 k  X69_140 n v4 v5 M → gG p l e (rmR 5 121) s m args below meth c Q D cl A (wR ad cI ci) 7 69 [(0, .ref (ad 0)), (1, iv a1), (2, iv a2), (3, iv a3), (4, iv v4), (5, iv v5)] [] M := by
    intro  X69_140 hX69_140 n
    induction n with
    | zero => intro v4 v5 M h; exact h.elim
    | succ n ih =>
      intro v4 v5 M h
      exact pC69  (wL_Rspan_69 a1 a2 a3 k  X69_140 n) X69_140 ih hX69_140 v4 v5 M h
  refine g_locals (lv' := [(0, .ref (ad 0)), (1, iv a1), (2, iv a2), (3, iv a3)]) rfl ?_
  unfold w_Rspan at h
  refine g_aload_n C dR_span_0 rfl ?_
  refine g_iload_n C dR_span_1 rfl ?_
  refine g_callVi C (nargs := 1) (o := 0) (st := []) (m_RisThing hci h) rfl (by decide) hci rfl gd_isThing (by decide +kernel) ⟨rfl, rfl⟩ dR_span_2 ⟨by decide, by decide⟩ rfl rfl (Nat.le_of_ble_eq_true rfl) ?_
  intro r2c M2 hN
  replace h := hN
  clear hN
  refine g_if_eq C 26 dR_span_5 (by decide) (fun hc => ?_) (fun hc => ?_)
  · replace h := h.1 hc
    refine g_locals (lv' := [(0, .ref (ad 0))]) rfl ?_
    exact pB26  _ h
  · replace h := h.2 hc
    refine g_iload_n C dR_span_8 rfl ?_
    refine g_iconst C dR_span_9 ?_
    refine g_iconst C dR_span_10 ?_
    refine g_callSi C (nargs := 3) (st := []) (m_Rin hci h) gd_in (by decide +kernel) ⟨rfl, rfl⟩ dR_span_11 ⟨by decide, by decide⟩ rfl rfl (Nat.le_of_ble_eq_true rfl) ?_
    intro r11c M11 hN
    replace h := hN
    clear hN
    refine g_if_eq C 26 dR_span_14 (by decide) (fun hc => ?_) (fun hc => ?_)
    · replace h := h.1 hc
      refine g_locals (lv' := [(0, .ref (ad 0))]) rfl ?_
      exact pB26  _ h
    · replace h := h.2 hc
      refine g_iload_n C dR_span_17 rfl ?_
      refine g_iconst C dR_span_18 ?_
      refine g_iconst C dR_span_19 ?_
      refine g_callSi C (nargs := 3) (st := []) (m_Rin hci h) gd_in (by decide +kernel) ⟨rfl, rfl⟩ dR_span_20 ⟨by decide, by decide⟩ rfl rfl (Nat.le_of_ble_eq_true rfl) ?_
      intro r20c M20 hN
      replace h := hN
      clear hN
      refine g_if_ne C 32 dR_span_23 (by decide) (fun hc => ?_) (fun hc => ?_)
      · replace h := h.1 hc
        refine g_aload_n C dR_span_32 rfl ?_
        refine g_callVv C (nargs := 0) (o := 0) (st := []) (m_RfindFits hci h) rfl (by decide) hci rfl gd_findFits (by decide +kernel) ⟨rfl, rfl⟩ dR_span_33 ⟨by decide, by decide⟩ rfl rfl (Nat.le_of_ble_eq_true rfl) ?_
        intro M33 hN
        replace h := hN
        clear hN
        refine g_aload_n C dR_span_36 rfl ?_
        refine rf_many C hci dR_span_37 ?_
        refine g_if_ne C 49 dR_span_40 (by decide) (fun hc => ?_) (fun hc => ?_)
        · replace h := h.1 hc
          refine g_aload_n C dR_span_49 rfl ?_
          refine g_aload_n C dR_span_50 rfl ?_
          refine rf_fit C hci dR_span_51 ?_
          refine g_iconst C dR_span_54 ?_
          refine g_iald C (n := 64) dR_span_55 rfl (by decide) ⟨by decide, by decide⟩ ?_
          refine g_iload_n C dR_span_56 rfl ?_
          refine g_bipush C dR_span_57 rfl ?_
          refine g_iload_n C dR_span_59 rfl ?_
          refine g_iadd C dR_span_60 ?_
          refine g_callVi C (nargs := 3) (o := 0) (st := []) (m_Rafter hci h) rfl (by decide) hci rfl gd_after (by decide +kernel) ⟨rfl, rfl⟩ dR_span_61 ⟨by decide, by decide⟩ rfl rfl (Nat.le_of_ble_eq_true rfl) ?_
          intro r61c M61 hN
          replace h := hN
          clear hN
          refine g_istore C dR_span_64 (by decide) rfl ?_
          refine g_locals (lv' := [(0, .ref (ad 0)), (1, iv a1), (2, iv a2), (3, iv a3), (4, iv r61c)]) rfl ?_
          refine g_iconst C dR_span_66 ?_
          refine g_istore C dR_span_67 (by decide) rfl ?_
          refine g_locals (lv' := [(0, .ref (ad 0)), (1, iv a1), (2, iv a2), (3, iv a3), (4, iv r61c), (5, iv 1)]) rfl ?_
          refine g_locals (lv' := [(0, .ref (ad 0)), (1, iv a1), (2, iv a2), (3, iv a3), (4, iv r61c), (5, iv 1)]) rfl ?_
          obtain ⟨n, h⟩ := h
          refine pL69 _ ?_ n _ _ _ h
          · intro u4_69 M69 hN
            replace h := hN
            clear hN
            refine g_iload C dR_span_140 rfl ?_
            exact hR _ _ _ _ dR_span_142 rfl h
        · replace h := h.2 hc
          refine g_aload_n C dR_span_43 rfl ?_
          refine g_iconst C dR_span_44 ?_
          refine g_callVi C (nargs := 1) (o := 0) (st := []) (m_Rerror hci h) rfl (by decide) hci rfl gd_error (by decide +kernel) ⟨rfl, rfl⟩ dR_span_45 ⟨by decide, by decide⟩ rfl rfl (Nat.le_of_ble_eq_true rfl) ?_
          intro r45c M45 hN
          replace h := hN
          clear hN
          exact hR _ _ _ _ dR_span_48 rfl h
      · replace h := h.2 hc
        refine g_locals (lv' := [(0, .ref (ad 0))]) rfl ?_
        exact pB26  _ h
end
