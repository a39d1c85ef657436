-- WHAT EACH METHOD OF THE REFERENCE COMES TO (w_R..), and that its call comes to it (m_R..): written by wip/whole/walk.py out of the decode rows
abbrev rmR (f q : Nat) : Room := { frames := f, cells := 0, slots := 0, locals := q }
def isA (a : Nat) : Prop := 1 ≤ a ∧ a ≤ 14
def lenR (a : Nat) : Nat := match layR 0 a with
  | .inl n => n
  | _ => 0
theorem arrR {a ci : Nat} (h : isA a) : layR ci a = .inl (lenR a) ∧ a < 15 ∧ lenR a < 2147483648 := by
  obtain ⟨h1, h2⟩ := h
  rcases (show a = 1 ∨ a = 2 ∨ a = 3 ∨ a = 4 ∨ a = 5 ∨ a = 6 ∨ a = 7 ∨ a = 8 ∨ a = 9 ∨ a = 10 ∨ a = 11 ∨ a = 12 ∨ a = 13 ∨ a = 14 by omega) with rfl | rfl | rfl | rfl | rfl | rfl | rfl | rfl | rfl | rfl | rfl | rfl | rfl | rfl <;> exact ⟨rfl, by decide, by decide⟩
theorem zn_bool {x : Int} (h : x = 0 ∨ x = 1) : narrow .boolean (iv x) = iv x ∧ fits .boolean (iv x) = true := by
  rcases h with rfl | rfl <;> exact ⟨rfl, rfl⟩
section GW
variable {p : Program} {l : Launch} {e : Env} {R : Room} {s : State} {m : MethodId} {args : Array Value} {below : List Frame} {meth : Method} {c : Code} {Q : State → Prop}
variable {D : va_G} {cl : List vw_C} {A : Nat → Prop} {wl : gSt → va_W} {nL pc : Nat} {lv : List (Nat × Value)} {st : List Value} {M : gSt}
theorem g_memname (k : ∀ M' : gSt, M' = M → gG p l e R s m args below meth c Q D cl A wl nL pc lv st M') : gG p l e R s m args below meth c Q D cl A wl nL pc lv st M := k M rfl
end GW
def w_Rerror (a1 : Int) (M : gSt) (k : Int → gSt → Prop) : Prop :=
(0 ≤ a1 ∧ a1 < 7) ∧ ((0 ≤ a1 ∧ a1 < 7) ∧ (∀ M9 : gSt, M9 = wr M 4 a1 ((M 4 a1) + 1) → (k ((-1000000000) - a1) M9)))
set_option maxHeartbeats 4000000 in
set_option maxRecDepth 100000 in
theorem m_Rerror {l : Launch} {D : va_G} {cl : List vw_C} {tys : List (ClassId × FieldType)} {ad : Nat → Nat} {cI : ClassId} {ci : Nat} {Z : (Nat → Prop) → State → Prop} (hci : cl[ci]? = some (RX9, TX9, 23)) {a1 : Int} {M : gSt} {k : Int → gSt → Prop} (h : w_Rerror a1 M k) : MOi l yX9_error cX9_error 2 .int (rmR 0 0) D cl ((cI, .int) :: tys) (wR ad cI ci) tR Z [.ref (ad 0), iv a1] M k := by
  refine moi_intro (by decide +kernel) (Nat.le_of_ble_eq_true rfl) wi_20 ?_
  intro p e s m args below meth c A Q C hR
  refine g_locals (lv' := [(0, .ref (ad 0)), (1, iv a1)]) rfl ?_
  unfold w_Rerror at h
  refine g_aload_n C dR_error_0 rfl ?_
  refine rf_errors C hci dR_error_1 ?_
  refine g_iload_n C dR_error_4 rfl ?_
  refine g_dup2 C dR_error_5 rfl rfl ?_
  refine g_iald C (n := 7) dR_error_6 rfl (by decide) h.1 ?_
  replace h := h.2
  refine g_iconst C dR_error_7 ?_
  refine g_iadd C dR_error_8 ?_
  refine g_iast C (n := 7) dR_error_9 rfl (by decide) h.1 ?_
  replace h := h.2
  refine g_memname (fun M9 hM9 => ?_)
  replace h := h M9 hM9
  refine g_ldc C (-1000000000) wi_19 rfl dR_error_10 ?_
  refine g_iload_n C dR_error_12 rfl ?_
  refine g_isub C dR_error_13 ?_
  exact hR _ _ _ _ dR_error_14 rfl h
def w_Rin (a1 : Int) (a2 : Int) (a3 : Int) (M : gSt) (k : Int → gSt → Prop) : Prop :=

  (wrap a1 < wrap a2 →
    k 0 M) ∧
  (wrap a2 ≤ wrap a1 →

    (wrap a3 < wrap a1 →
      k 0 M) ∧
    (wrap a1 ≤ wrap a3 →
      k 1 M))
set_option maxHeartbeats 4000000 in
set_option maxRecDepth 100000 in
theorem m_Rin {l : Launch} {D : va_G} {cl : List vw_C} {tys : List (ClassId × FieldType)} {ad : Nat → Nat} {cI : ClassId} {ci : Nat} {Z : (Nat → Prop) → State → Prop} (hci : cl[ci]? = some (RX9, TX9, 23)) {a1 : Int} {a2 : Int} {a3 : Int} {M : gSt} {k : Int → gSt → Prop} (h : w_Rin a1 a2 a3 M k) : MOi l yX9_in cX9_in 3 .boolean (rmR 0 0) D cl ((cI, .int) :: tys) (wR ad cI ci) tR Z [iv a1, iv a2, iv a3] M k := by
  refine moi_intro (by decide +kernel) (Nat.le_of_ble_eq_true rfl) wi_21 ?_
  intro p e s m args below meth c A Q C hR
  refine g_locals (lv' := [(0, iv a1), (1, iv a2), (2, iv a3)]) rfl ?_
  unfold w_Rin at h
  refine g_iload_n C dR_in_0 rfl ?_
  refine g_iload_n C dR_in_1 rfl ?_
  refine g_icmp_lt C 14 dR_in_2 (by decide) (fun hc => ?_) (fun hc => ?_)
  · replace h := h.1 hc
    refine g_iconst C dR_in_14 ?_
    exact hR _ _ _ _ dR_in_15 rfl h
  · replace h := h.2 hc
    refine g_iload_n C dR_in_5 rfl ?_
    refine g_iload_n C dR_in_6 rfl ?_
    refine g_icmp_gt C 14 dR_in_7 (by decide) (fun hc => ?_) (fun hc => ?_)
    · replace h := h.1 hc
      refine g_iconst C dR_in_14 ?_
      exact hR _ _ _ _ dR_in_15 rfl h
    · replace h := h.2 hc
      refine g_iconst C dR_in_10 ?_
      refine g_goto C 15 dR_in_11 (by decide) ?_
      exact hR _ _ _ _ dR_in_15 rfl h
def w_Rheld (a1 : Int) (a2 : Int) (a3 : Int) (M : gSt) (k : Int → gSt → Prop) : Prop :=

  (wrap a2 ≤ wrap a1 →

    (wrap a1 ≤ wrap a3 →
      k a1 M) ∧
    (wrap a3 < wrap a1 →
      k a3 M)) ∧
  (wrap a1 < wrap a2 →
    k a2 M)
set_option maxHeartbeats 4000000 in
set_option maxRecDepth 100000 in
theorem m_Rheld {l : Launch} {D : va_G} {cl : List vw_C} {tys : List (ClassId × FieldType)} {ad : Nat → Nat} {cI : ClassId} {ci : Nat} {Z : (Nat → Prop) → State → Prop} (hci : cl[ci]? = some (RX9, TX9, 23)) {a1 : Int} {a2 : Int} {a3 : Int} {M : gSt} {k : Int → gSt → Prop} (h : w_Rheld a1 a2 a3 M k) : MOi l yX9_held cX9_held 3 .int (rmR 0 0) D cl ((cI, .int) :: tys) (wR ad cI ci) tR Z [iv a1, iv a2, iv a3] M k := by
  refine moi_intro (by decide +kernel) (Nat.le_of_ble_eq_true rfl) wi_22 ?_
  intro p e s m args below meth c A Q C hR
  refine g_locals (lv' := [(0, iv a1), (1, iv a2), (2, iv a3)]) rfl ?_
  unfold w_Rheld at h
  refine g_iload_n C dR_held_0 rfl ?_
  refine g_iload_n C dR_held_1 rfl ?_
  refine g_icmp_ge C 9 dR_held_2 (by decide) (fun hc => ?_) (fun hc => ?_)
  · replace h := h.1 hc
    refine g_iload_n C dR_held_9 rfl ?_
    refine g_iload_n C dR_held_10 rfl ?_
    refine g_icmp_le C 18 dR_held_11 (by decide) (fun hc => ?_) (fun hc => ?_)
    · replace h := h.1 hc
      refine g_iload_n C dR_held_18 rfl ?_
      exact hR _ _ _ _ dR_held_19 rfl h
    · replace h := h.2 hc
      refine g_iload_n C dR_held_14 rfl ?_
      refine g_goto C 19 dR_held_15 (by decide) ?_
      exact hR _ _ _ _ dR_held_19 rfl h
  · replace h := h.2 hc
    refine g_iload_n C dR_held_5 rfl ?_
    refine g_goto C 19 dR_held_6 (by decide) ?_
    exact hR _ _ _ _ dR_held_19 rfl h
def wC_Rcarry_2 (a1 : Nat) (a2 : Nat) (k : gSt → Prop) (r2 : Int → gSt → Prop) (X2_21 : gSt → Prop) (v2 : Int) (M : gSt) : Prop :=

  (536 ≤ wrap v2 →
    X2_21  M) ∧
  (wrap v2 < 536 →
    (isA a1 ∧ 0 ≤ v2 ∧ v2 < lenR a1) ∧ ((isA a2 ∧ 0 ≤ v2 ∧ v2 < lenR a2) ∧ (∀ M14 : gSt, M14 = wr M a2 v2 (M a1 v2) → (r2 (v2 + 1) M14))))
def wL_Rcarry_2 (a1 : Nat) (a2 : Nat) (k : gSt → Prop)  (X2_21 : gSt → Prop) : Nat → Int → gSt → Prop
  | 0 => fun _ _ => False
  | n + 1 => fun v2 M => wC_Rcarry_2 a1 a2 k  (wL_Rcarry_2 a1 a2 k  X2_21 n) X2_21 v2 M
def w_Rcarry (a1 : Nat) (a2 : Nat) (M : gSt) (k : gSt → Prop) : Prop :=
∃ n, wL_Rcarry_2 a1 a2 k  (fun  M2 =>
    k M2) n 0 M
set_option maxHeartbeats 4000000 in
set_option maxRecDepth 100000 in
theorem m_Rcarry {l : Launch} {D : va_G} {cl : List vw_C} {tys : List (ClassId × FieldType)} {ad : Nat → Nat} {cI : ClassId} {ci : Nat} {Z : (Nat → Prop) → State → Prop} (hci : cl[ci]? = some (RX9, TX9, 23)) {a1 : Nat} {a2 : Nat} {M : gSt} {k : gSt → Prop} (h : w_Rcarry a1 a2 M k) : MOv l yX9_carry cX9_carry 3 (rmR 0 0) D cl ((cI, .int) :: tys) (wR ad cI ci) tR Z [.ref (ad a1), .ref (ad a2)] M k := by
  refine mov_intro (by decide +kernel) (Nat.le_of_ble_eq_true rfl) wi_23 ?_
  intro p e s m args below meth c A Q C hR
  have pC2 : ∀ (r2 : Int → gSt → Prop) (X2_21 : gSt → Prop) (hr2 : ∀ (v2 : Int) (M : gSt), r2 v2 M → gG p l e (rmR 0 0) s m args below meth c Q D cl A (wR ad cI ci) 3 2 [(0, .ref (ad a1)), (1, .ref (ad a2)), (2, iv v2)] [] M) (hX2_21 : ∀  (M : gSt), X2_21  M → gG p l e (rmR 0 0) s m args below meth c Q D cl A (wR ad cI ci) 3 21 [] [] M) (v2 : Int) (M : gSt), wC_Rcarry_2 a1 a2 k r2 X2_21 v2 M → gG p l e (rmR 0 0) s m args below meth c Q D cl A (wR ad cI ci) 3 2 [(0, .ref (ad a1)), (1, .ref (ad a2)), (2, iv v2)] [] M := by
    intro r2 X2_21 hr2 hX2_21 v2 M h
    unfold wC_Rcarry_2 at h
    refine g_iload_n C dR_carry_2 rfl ?_
    refine g_sipush C dR_carry_3 rfl ?_
    refine g_icmp_ge C 21 dR_carry_6 (by decide) (fun hc => ?_) (fun hc => ?_)
    · replace h := h.1 hc
      refine g_locals (lv' := []) rfl ?_
      exact hX2_21  _ h
    · replace h := h.2 hc
      refine g_aload_n C dR_carry_9 rfl ?_
      refine g_iload_n C dR_carry_10 rfl ?_
      refine g_aload_n C dR_carry_11 rfl ?_
      refine g_iload_n C dR_carry_12 rfl ?_
      refine g_iald C dR_carry_13 (arrR h.1.1).1 (arrR (ci := ci) h.1.1).2 h.1.2 ?_
      replace h := h.2
      refine g_iast C dR_carry_14 (arrR h.1.1).1 (arrR (ci := ci) h.1.1).2 h.1.2 ?_
      replace h := h.2
      refine g_memname (fun M14 hM14 => ?_)
      replace h := h M14 hM14
      refine g_iinc C dR_carry_15 rfl (by decide) rfl ?_
      refine g_locals (lv' := [(0, .ref (ad a1)), (1, .ref (ad a2)), (2, iv (v2 + 1))]) rfl ?_
      refine g_goto C 2 dR_carry_18 (by decide) ?_
      refine g_locals (lv' := [(0, .ref (ad a1)), (1, .ref (ad a2)), (2, iv (v2 + 1))]) rfl ?_
      exact hr2 _  _ h
  have pL2 : ∀  (X2_21 : gSt → Prop) (hX2_21 : ∀  (M : gSt), X2_21  M → gG p l e (rmR 0 0) s m args below meth c Q D cl A (wR ad cI ci) 3 21 [] [] M) (n : Nat) (v2 : Int) (M : gSt), wL_Rcarry_2 a1 a2 k  X2_21 n v2 M → gG p l e (rmR 0 0) s m args below meth c Q D cl A (wR ad cI ci) 3 2 [(0, .ref (ad a1)), (1, .ref (ad a2)), (2, iv v2)] [] M := by
    intro  X2_21 hX2_21 n
    induction n with
    | zero => intro v2 M h; exact h.elim
    | succ n ih =>
      intro v2 M h
      exact pC2  (wL_Rcarry_2 a1 a2 k  X2_21 n) X2_21 ih hX2_21 v2 M h
  refine g_locals (lv' := [(0, .ref (ad a1)), (1, .ref (ad a2))]) rfl ?_
  unfold w_Rcarry at h
  refine g_iconst C dR_carry_0 ?_
  refine g_istore_n C dR_carry_1 (by decide) rfl ?_
  refine g_locals (lv' := [(0, .ref (ad a1)), (1, .ref (ad a2)), (2, iv 0)]) rfl ?_
  refine g_locals (lv' := [(0, .ref (ad a1)), (1, .ref (ad a2)), (2, iv 0)]) rfl ?_
  obtain ⟨n, h⟩ := h
  refine pL2 _ ?_ n _ _ h
  · intro  M2 hN
    replace h := hN
    clear hN
    exact hR _ _ _ dR_carry_21 h
def w_RisThing (a1 : Int) (M : gSt) (k : Int → gSt → Prop) : Prop :=
w_Rin a1 0 ((M 1 0) - 1) M (fun r10c M10 => (r10c = 0 ∨ r10c = 1) ∧ (k r10c M10))
set_option maxHeartbeats 4000000 in
set_option maxRecDepth 100000 in
theorem m_RisThing {l : Launch} {D : va_G} {cl : List vw_C} {tys : List (ClassId × FieldType)} {ad : Nat → Nat} {cI : ClassId} {ci : Nat} {Z : (Nat → Prop) → State → Prop} (hci : cl[ci]? = some (RX9, TX9, 23)) {a1 : Int} {M : gSt} {k : Int → gSt → Prop} (h : w_RisThing a1 M k) : MOi l yX9_isThing cX9_isThing 2 .boolean (rmR 1 22) D cl ((cI, .int) :: tys) (wR ad cI ci) tR Z [.ref (ad 0), iv a1] M k := by
  refine moi_intro (by decide +kernel) (Nat.le_of_ble_eq_true rfl) wi_27 ?_
  intro p e s m args below meth c A Q C hR
  refine g_locals (lv' := [(0, .ref (ad 0)), (1, iv a1)]) rfl ?_
  unfold w_RisThing at h
  refine g_iload_n C dR_isThing_0 rfl ?_
  refine g_iconst C dR_isThing_1 ?_
  refine g_aload_n C dR_isThing_2 rfl ?_
  refine rf_s C hci dR_isThing_3 ?_
  refine g_iconst C dR_isThing_6 ?_
  refine g_iald C (n := 536) dR_isThing_7 rfl (by decide) ⟨by decide, by decide⟩ ?_
  refine g_iconst C dR_isThing_8 ?_
  refine g_isub C dR_isThing_9 ?_
  refine g_callSi C (nargs := 3) (st := []) (m_Rin hci h) gd_in (by decide +kernel) ⟨rfl, rfl⟩ dR_isThing_10 ⟨by decide, by decide⟩ rfl rfl (Nat.le_of_ble_eq_true rfl) ?_
  intro r10c M10 hN
  replace h := hN
  clear hN
  exact hR _ _ _ _ dR_isThing_13 (zn_bool h.1).1 h.2
def w_Rits (a1 : Int) (a2 : Int) (M : gSt) (k : Int → gSt → Prop) : Prop :=
(0 ≤ (10 + (10 * a1)) + a2 ∧ (10 + (10 * a1)) + a2 < 536) ∧ (k (M 1 ((10 + (10 * a1)) + a2)) M)
set_option maxHeartbeats 4000000 in
set_option maxRecDepth 100000 in
theorem m_Rits {l : Launch} {D : va_G} {cl : List vw_C} {tys : List (ClassId × FieldType)} {ad : Nat → Nat} {cI : ClassId} {ci : Nat} {Z : (Nat → Prop) → State → Prop} (hci : cl[ci]? = some (RX9, TX9, 23)) {a1 : Int} {a2 : Int} {M : gSt} {k : Int → gSt → Prop} (h : w_Rits a1 a2 M k) : MOi l yX9_its cX9_its 3 .int (rmR 0 0) D cl ((cI, .int) :: tys) (wR ad cI ci) tR Z [.ref (ad 0), iv a1, iv a2] M k := by
  refine moi_intro (by decide +kernel) (Nat.le_of_ble_eq_true rfl) wi_28 ?_
  intro p e s m args below meth c A Q C hR
  refine g_locals (lv' := [(0, .ref (ad 0)), (1, iv a1), (2, iv a2)]) rfl ?_
  unfold w_Rits at h
  refine g_aload_n C dR_its_0 rfl ?_
  refine rf_s C hci dR_its_1 ?_
  refine g_bipush C dR_its_4 rfl ?_
  refine g_bipush C dR_its_6 rfl ?_
  refine g_iload_n C dR_its_8 rfl ?_
  refine g_imul C dR_its_9 ?_
  refine g_iadd C dR_its_10 ?_
  refine g_iload_n C dR_its_11 rfl ?_
  refine g_iadd C dR_its_12 ?_
  refine g_iald C (n := 536) dR_its_13 rfl (by decide) h.1 ?_
  replace h := h.2
  exact hR _ _ _ _ dR_its_14 rfl h
def w_Rlays1 (a1 : Int) (a2 : Int) (a3 : Int) (M : gSt) (k : gSt → Prop) : Prop :=
(0 ≤ (10 + (10 * a1)) + a2 ∧ (10 + (10 * a1)) + a2 < 536) ∧ (∀ M14 : gSt, M14 = wr M 1 ((10 + (10 * a1)) + a2) a3 → (k M14))
set_option maxHeartbeats 4000000 in
set_option maxRecDepth 100000 in
theorem m_Rlays1 {l : Launch} {D : va_G} {cl : List vw_C} {tys : List (ClassId × FieldType)} {ad : Nat → Nat} {cI : ClassId} {ci : Nat} {Z : (Nat → Prop) → State → Prop} (hci : cl[ci]? = some (RX9, TX9, 23)) {a1 : Int} {a2 : Int} {a3 : Int} {M : gSt} {k : gSt → Prop} (h : w_Rlays1 a1 a2 a3 M k) : MOv l yX9_lays1 cX9_lays1 4 (rmR 0 0) D cl ((cI, .int) :: tys) (wR ad cI ci) tR Z [.ref (ad 0), iv a1, iv a2, iv a3] M k := by
  refine mov_intro (by decide +kernel) (Nat.le_of_ble_eq_true rfl) wi_29 ?_
  intro p e s m args below meth c A Q C hR
  refine g_locals (lv' := [(0, .ref (ad 0)), (1, iv a1), (2, iv a2), (3, iv a3)]) rfl ?_
  unfold w_Rlays1 at h
  refine g_aload_n C dR_lays1_0 rfl ?_
  refine rf_s C hci dR_lays1_1 ?_
  refine g_bipush C dR_lays1_4 rfl ?_
  refine g_bipush C dR_lays1_6 rfl ?_
  refine g_iload_n C dR_lays1_8 rfl ?_
  refine g_imul C dR_lays1_9 ?_
  refine g_iadd C dR_lays1_10 ?_
  refine g_iload_n C dR_lays1_11 rfl ?_
  refine g_iadd C dR_lays1_12 ?_
  refine g_iload_n C dR_lays1_13 rfl ?_
  refine g_iast C (n := 536) dR_lays1_14 rfl (by decide) h.1 ?_
  replace h := h.2
  refine g_memname (fun M14 hM14 => ?_)
  replace h := h M14 hM14
  exact hR _ _ _ dR_lays1_15 h
def wC_RaddThing_9 (a1 : Int) (k : Int → gSt → Prop) (r9 : Int → Int → gSt → Prop) (X9_28 : Int → gSt → Prop) (v2 : Int) (v3 : Int) (M : gSt) : Prop :=

  (10 ≤ wrap v3 →
    X9_28 v2 M) ∧
  (wrap v3 < 10 →
    w_Rlays1 v2 v3 0 M (fun M19 => r9 v2 (v3 + 1) M19))
def wL_RaddThing_9 (a1 : Int) (k : Int → gSt → Prop)  (X9_28 : Int → gSt → Prop) : Nat → Int → Int → gSt → Prop
  | 0 => fun _ _ _ => False
  | n + 1 => fun v2 v3 M => wC_RaddThing_9 a1 k  (wL_RaddThing_9 a1 k  X9_28 n) X9_28 v2 v3 M
def w_RaddThing (a1 : Int) (M : gSt) (k : Int → gSt → Prop) : Prop :=
∀ x2_6 : Int, x2_6 = M 1 0 → (∃ n, wL_RaddThing_9 a1 k  (fun u2_9 M9 =>
    w_Rlays1 u2_9 0 (Int.tdiv (wrap a1) 100) M9 (fun M35 => w_Rlays1 u2_9 1 (Int.tmod (wrap a1) 100) M35 (fun M45 => ∀ M57 : gSt, M57 = wr M45 1 0 ((M45 1 0) + 1) → (k u2_9 M57)))) n x2_6 0 M)
set_option maxHeartbeats 4000000 in
set_option maxRecDepth 100000 in
theorem m_RaddThing {l : Launch} {D : va_G} {cl : List vw_C} {tys : List (ClassId × FieldType)} {ad : Nat → Nat} {cI : ClassId} {ci : Nat} {Z : (Nat → Prop) → State → Prop} (hci : cl[ci]? = some (RX9, TX9, 23)) {a1 : Int} {M : gSt} {k : Int → gSt → Prop} (h : w_RaddThing a1 M k) : MOi l yX9_addThing cX9_addThing 4 .int (rmR 1 23) D cl ((cI, .int) :: tys) (wR ad cI ci) tR Z [.ref (ad 0), iv a1] M k := by
  refine moi_intro (by decide +kernel) (Nat.le_of_ble_eq_true rfl) wi_33 ?_
  intro p e s m args below meth c A Q C hR
  have pC9 : ∀ (r9 : Int → Int → gSt → Prop) (X9_28 : Int → gSt → Prop) (hr9 : ∀ (v2 : Int) (v3 : Int) (M : gSt), r9 v2 v3 M → gG p l e (rmR 1 23) s m args below meth c Q D cl A (wR ad cI ci) 4 9 [(0, .ref (ad 0)), (1, iv a1), (2, iv v2), (3, iv v3)] [] M) (hX9_28 : ∀ (v2 : Int) (M : gSt), X9_28 v2 M → gG p l e (rmR 1 23) s m args below meth c Q D cl A (wR ad cI ci) 4 28 [(0, .ref (ad 0)), (1, iv a1), (2, iv v2)] [] M) (v2 : Int) (v3 : Int) (M : gSt), wC_RaddThing_9 a1 k r9 X9_28 v2 v3 M → gG p l e (rmR 1 23) s m args below meth c Q D cl A (wR ad cI ci) 4 9 [(0, .ref (ad 0)), (1, iv a1), (2, iv v2), (3, iv v3)] [] M := by
    intro r9 X9_28 hr9 hX9_28 v2 v3 M h
    unfold wC_RaddThing_9 at h
    refine g_iload_n C dR_addThing_9 rfl ?_
    refine g_bipush C dR_addThing_10 rfl ?_
    refine g_icmp_ge C 28 dR_addThing_12 (by decide) (fun hc => ?_) (fun hc => ?_)
    · replace h := h.1 hc
      refine g_locals (lv' := [(0, .ref (ad 0)), (1, iv a1), (2, iv v2)]) rfl ?_
      exact hX9_28 _  _ h
    · replace h := h.2 hc
      refine g_aload_n C dR_addThing_15 rfl ?_
      refine g_iload_n C dR_addThing_16 rfl ?_
      refine g_iload_n C dR_addThing_17 rfl ?_
      refine g_iconst C dR_addThing_18 ?_
      refine g_callVv C (nargs := 3) (o := 0) (st := []) (m_Rlays1 hci h) rfl (by decide) hci rfl gd_lays1 (by decide +kernel) ⟨rfl, rfl⟩ dR_addThing_19 ⟨by decide, by decide⟩ rfl rfl (Nat.le_of_ble_eq_true rfl) ?_
      intro M19 hN
      replace h := hN
      clear hN
      refine g_iinc C dR_addThing_22 rfl (by decide) rfl ?_
      refine g_locals (lv' := [(0, .ref (ad 0)), (1, iv a1), (2, iv v2), (3, iv (v3 + 1))]) rfl ?_
      refine g_goto C 9 dR_addThing_25 (by decide) ?_
      refine g_locals (lv' := [(0, .ref (ad 0)), (1, iv a1), (2, iv v2), (3, iv (v3 + 1))]) rfl ?_
      exact hr9 _ _  _ h
  have pL9 : ∀  (X9_28 : Int → gSt → Prop) (hX9_28 : ∀ (v2 : Int) (M : gSt), X9_28 v2 M → gG p l e (rmR 1 23) s m args below meth c Q D cl A (wR ad cI ci) 4 28 [(0, .ref (ad 0)), (1, iv a1), (2, iv v2)] [] M) (n : Nat) (v2 : Int) (v3 : Int) (M : gSt), wL_RaddThing_9 a1 k  X9_28 n v2 v3 M → gG p l e (rmR 1 23) s m args below meth c Q D cl A (wR ad cI ci) 4 9 [(0, .ref (ad 0)), (1, iv a1), (2, iv v2), (3, iv v3)] [] M := by
    intro  X9_28 hX9_28 n
    induction n with
    | zero => intro v2 v3 M h; exact h.elim
    | succ n ih =>
      intro v2 v3 M h
      exact pC9  (wL_RaddThing_9 a1 k  X9_28 n) X9_28 ih hX9_28 v2 v3 M h
  refine g_locals (lv' := [(0, .ref (ad 0)), (1, iv a1)]) rfl ?_
  unfold w_RaddThing at h
  refine g_aload_n C dR_addThing_0 rfl ?_
  refine rf_s C hci dR_addThing_1 ?_
  refine g_iconst C dR_addThing_4 ?_
  refine g_iald C (n := 536) dR_addThing_5 rfl (by decide) ⟨by decide, by decide⟩ ?_
  refine g_name (fun x2_6 hx2_6 => ?_)
  replace h := h x2_6 hx2_6
  refine g_istore_n C dR_addThing_6 (by decide) rfl ?_
  refine g_locals (lv' := [(0, .ref (ad 0)), (1, iv a1), (2, iv x2_6)]) rfl ?_
  refine g_iconst C dR_addThing_7 ?_
  refine g_istore_n C dR_addThing_8 (by decide) rfl ?_
  refine g_locals (lv' := [(0, .ref (ad 0)), (1, iv a1), (2, iv x2_6), (3, iv 0)]) rfl ?_
  refine g_locals (lv' := [(0, .ref (ad 0)), (1, iv a1), (2, iv x2_6), (3, iv 0)]) rfl ?_
  obtain ⟨n, h⟩ := h
  refine pL9 _ ?_ n _ _ _ h
  · intro u2_9 M9 hN
    replace h := hN
    clear hN
    refine g_aload_n C dR_addThing_28 rfl ?_
    refine g_iload_n C dR_addThing_29 rfl ?_
    refine g_iconst C dR_addThing_30 ?_
    refine g_iload_n C dR_addThing_31 rfl ?_
    refine g_bipush C dR_addThing_32 rfl ?_
    refine g_idiv C dR_addThing_34 (by decide) ?_
    refine g_top (y := Int.tdiv (wrap a1) 100) rfl ?_
    refine g_callVv C (nargs := 3) (o := 0) (st := []) (m_Rlays1 hci h) rfl (by decide) hci rfl gd_lays1 (by decide +kernel) ⟨rfl, rfl⟩ dR_addThing_35 ⟨by decide, by decide⟩ rfl rfl (Nat.le_of_ble_eq_true rfl) ?_
    intro M35 hN
    replace h := hN
    clear hN
    refine g_aload_n C dR_addThing_38 rfl ?_
    refine g_iload_n C dR_addThing_39 rfl ?_
    refine g_iconst C dR_addThing_40 ?_
    refine g_iload_n C dR_addThing_41 rfl ?_
    refine g_bipush C dR_addThing_42 rfl ?_
    refine g_irem C dR_addThing_44 (by decide) ?_
    refine g_top (y := Int.tmod (wrap a1) 100) rfl ?_
    refine g_callVv C (nargs := 3) (o := 0) (st := []) (m_Rlays1 hci h) rfl (by decide) hci rfl gd_lays1 (by decide +kernel) ⟨rfl, rfl⟩ dR_addThing_45 ⟨by decide, by decide⟩ rfl rfl (Nat.le_of_ble_eq_true rfl) ?_
    intro M45 hN
    replace h := hN
    clear hN
    refine g_aload_n C dR_addThing_48 rfl ?_
    refine rf_s C hci dR_addThing_49 ?_
    refine g_iconst C dR_addThing_52 ?_
    refine g_dup2 C dR_addThing_53 rfl rfl ?_
    refine g_iald C (n := 536) dR_addThing_54 rfl (by decide) ⟨by decide, by decide⟩ ?_
    refine g_iconst C dR_addThing_55 ?_
    refine g_iadd C dR_addThing_56 ?_
    refine g_iast C (n := 536) dR_addThing_57 rfl (by decide) ⟨by decide, by decide⟩ ?_
    refine g_memname (fun M57 hM57 => ?_)
    replace h := h M57 hM57
    refine g_iload_n C dR_addThing_58 rfl ?_
    exact hR _ _ _ _ dR_addThing_59 rfl h
def wB_Rthing_21 (a1 : Int) (a2 : Int) (k : Int → gSt → Prop)   (M : gSt) : Prop :=
w_Rerror 1 M (fun r23c M23 => k r23c M23)
def w_Rthing (a1 : Int) (a2 : Int) (M : gSt) (k : Int → gSt → Prop) : Prop :=
w_Rin a1 0 699 M (fun r5c M5 => 
  (wrap r5c = 0 →
    wB_Rthing_21 a1 a2 k   M5) ∧
  (¬ wrap r5c = 0 →
    w_Rin a2 0 9999999 M5 (fun r15c M15 => 
    (¬ wrap r15c = 0 →

      (¬ wrap (M15 1 0) = 12 →
        w_RaddThing a1 M15 (fun r46c M46 => w_Rlays1 r46c 2 a2 M46 (fun M54 => 
        (4 ≤ wrap (M54 1 1) →
          k r46c M54) ∧
        (wrap (M54 1 1) < 4 →
          w_Rlays1 r46c (6 + (M54 1 1)) 1000000 M54 (fun M80 => ∀ M92 : gSt, M92 = wr M80 1 1 ((M80 1 1) + 1) → (k r46c M92)))))) ∧
      (wrap (M15 1 0) = 12 →
        w_Rerror 4 M15 (fun r40c M40 => k r40c M40))) ∧
    (wrap r15c = 0 →
      wB_Rthing_21 a1 a2 k   M15))))
set_option maxHeartbeats 4000000 in
set_option maxRecDepth 100000 in
theorem m_Rthing {l : Launch} {D : va_G} {cl : List vw_C} {tys : List (ClassId × FieldType)} {ad : Nat → Nat} {cI : ClassId} {ci : Nat} {Z : (Nat → Prop) → State → Prop} (hci : cl[ci]? = some (RX9, TX9, 23)) {a1 : Int} {a2 : Int} {M : gSt} {k : Int → gSt → Prop} (h : w_Rthing a1 a2 M k) : MOi l yX9_thing cX9_thing 4 .int (rmR 2 46) D cl ((cI, .int) :: tys) (wR ad cI ci) tR Z [.ref (ad 0), iv a1, iv a2] M k := by
  refine moi_intro (by decide +kernel) (Nat.le_of_ble_eq_true rfl) wi_42 ?_
  intro p e s m args below meth c A Q C hR
  have pB21 : ∀    (M : gSt), wB_Rthing_21 a1 a2 k   M → gG p l e (rmR 2 46) s m args below meth c Q D cl A (wR ad cI ci) 4 21 [(0, .ref (ad 0))] [] M := by
    intro    M h
    unfold wB_Rthing_21 at h
    refine g_aload_n C dR_thing_21 rfl ?_
    refine g_iconst C dR_thing_22 ?_
    refine g_callVi C (nargs := 1) (o := 0) (st := []) (m_Rerror hci h) rfl (by decide) hci rfl gd_error (by decide +kernel) ⟨rfl, rfl⟩ dR_thing_23 ⟨by decide, by decide⟩ rfl rfl (Nat.le_of_ble_eq_true rfl) ?_
    intro r23c M23 hN
    replace h := hN
    clear hN
    exact hR _ _ _ _ dR_thing_26 rfl h
  refine g_locals (lv' := [(0, .ref (ad 0)), (1, iv a1), (2, iv a2)]) rfl ?_
  unfold w_Rthing at h
  refine g_iload_n C dR_thing_0 rfl ?_
  refine g_iconst C dR_thing_1 ?_
  refine g_sipush C dR_thing_2 rfl ?_
  refine g_callSi C (nargs := 3) (st := []) (m_Rin hci h) gd_in (by decide +kernel) ⟨rfl, rfl⟩ dR_thing_5 ⟨by decide, by decide⟩ rfl rfl (Nat.le_of_ble_eq_true rfl) ?_
  intro r5c M5 hN
  replace h := hN
  clear hN
  refine g_if_eq C 21 dR_thing_8 (by decide) (fun hc => ?_) (fun hc => ?_)
  · replace h := h.1 hc
    refine g_locals (lv' := [(0, .ref (ad 0))]) rfl ?_
    exact pB21  _ h
  · replace h := h.2 hc
    refine g_iload_n C dR_thing_11 rfl ?_
    refine g_iconst C dR_thing_12 ?_
    refine g_ldc C 9999999 wi_34 rfl dR_thing_13 ?_
    refine g_callSi C (nargs := 3) (st := []) (m_Rin hci h) gd_in (by decide +kernel) ⟨rfl, rfl⟩ dR_thing_15 ⟨by decide, by decide⟩ rfl rfl (Nat.le_of_ble_eq_true rfl) ?_
    intro r15c M15 hN
    replace h := hN
    clear hN
    refine g_if_ne C 27 dR_thing_18 (by decide) (fun hc => ?_) (fun hc => ?_)
    · replace h := h.1 hc
      refine g_aload_n C dR_thing_27 rfl ?_
      refine rf_s C hci dR_thing_28 ?_
      refine g_iconst C dR_thing_31 ?_
      refine g_iald C (n := 536) dR_thing_32 rfl (by decide) ⟨by decide, by decide⟩ ?_
      refine g_bipush C dR_thing_33 rfl ?_
      refine g_icmp_ne C 44 dR_thing_35 (by decide) (fun hc => ?_) (fun hc => ?_)
      · replace h := h.1 hc
        refine g_aload_n C dR_thing_44 rfl ?_
        refine g_iload_n C dR_thing_45 rfl ?_
        refine g_callVi C (nargs := 1) (o := 0) (st := []) (m_RaddThing hci h) rfl (by decide) hci rfl gd_addThing (by decide +kernel) ⟨rfl, rfl⟩ dR_thing_46 ⟨by decide, by decide⟩ rfl rfl (Nat.le_of_ble_eq_true rfl) ?_
        intro r46c M46 hN
        replace h := hN
        clear hN
        refine g_istore_n C dR_thing_49 (by decide) rfl ?_
        refine g_locals (lv' := [(0, .ref (ad 0)), (1, iv a1), (2, iv a2), (3, iv r46c)]) rfl ?_
        refine g_aload_n C dR_thing_50 rfl ?_
        refine g_iload_n C dR_thing_51 rfl ?_
        refine g_iconst C dR_thing_52 ?_
        refine g_iload_n C dR_thing_53 rfl ?_
        refine g_callVv C (nargs := 3) (o := 0) (st := []) (m_Rlays1 hci h) rfl (by decide) hci rfl gd_lays1 (by decide +kernel) ⟨rfl, rfl⟩ dR_thing_54 ⟨by decide, by decide⟩ rfl rfl (Nat.le_of_ble_eq_true rfl) ?_
        intro M54 hN
        replace h := hN
        clear hN
        refine g_aload_n C dR_thing_57 rfl ?_
        refine rf_s C hci dR_thing_58 ?_
        refine g_iconst C dR_thing_61 ?_
        refine g_iald C (n := 536) dR_thing_62 rfl (by decide) ⟨by decide, by decide⟩ ?_
        refine g_iconst C dR_thing_63 ?_
        refine g_icmp_ge C 93 dR_thing_64 (by decide) (fun hc => ?_) (fun hc => ?_)
        · replace h := h.1 hc
          refine g_iload_n C dR_thing_93 rfl ?_
          exact hR _ _ _ _ dR_thing_94 rfl h
        · replace h := h.2 hc
          refine g_aload_n C dR_thing_67 rfl ?_
          refine g_iload_n C dR_thing_68 rfl ?_
          refine g_bipush C dR_thing_69 rfl ?_
          refine g_aload_n C dR_thing_71 rfl ?_
          refine rf_s C hci dR_thing_72 ?_
          refine g_iconst C dR_thing_75 ?_
          refine g_iald C (n := 536) dR_thing_76 rfl (by decide) ⟨by decide, by decide⟩ ?_
          refine g_iadd C dR_thing_77 ?_
          refine g_ldc C 1000000 wi_35 rfl dR_thing_78 ?_
          refine g_callVv C (nargs := 3) (o := 0) (st := []) (m_Rlays1 hci h) rfl (by decide) hci rfl gd_lays1 (by decide +kernel) ⟨rfl, rfl⟩ dR_thing_80 ⟨by decide, by decide⟩ rfl rfl (Nat.le_of_ble_eq_true rfl) ?_
          intro M80 hN
          replace h := hN
          clear hN
          refine g_aload_n C dR_thing_83 rfl ?_
          refine rf_s C hci dR_thing_84 ?_
          refine g_iconst C dR_thing_87 ?_
          refine g_dup2 C dR_thing_88 rfl rfl ?_
          refine g_iald C (n := 536) dR_thing_89 rfl (by decide) ⟨by decide, by decide⟩ ?_
          refine g_iconst C dR_thing_90 ?_
          refine g_iadd C dR_thing_91 ?_
          refine g_iast C (n := 536) dR_thing_92 rfl (by decide) ⟨by decide, by decide⟩ ?_
          refine g_memname (fun M92 hM92 => ?_)
          replace h := h M92 hM92
          refine g_iload_n C dR_thing_93 rfl ?_
          exact hR _ _ _ _ dR_thing_94 rfl h
      · replace h := h.2 hc
        refine g_aload_n C dR_thing_38 rfl ?_
        refine g_iconst C dR_thing_39 ?_
        refine g_callVi C (nargs := 1) (o := 0) (st := []) (m_Rerror hci h) rfl (by decide) hci rfl gd_error (by decide +kernel) ⟨rfl, rfl⟩ dR_thing_40 ⟨by decide, by decide⟩ rfl rfl (Nat.le_of_ble_eq_true rfl) ?_
        intro r40c M40 hN
        replace h := hN
        clear hN
        exact hR _ _ _ _ dR_thing_43 rfl h
    · replace h := h.2 hc
      refine g_locals (lv' := [(0, .ref (ad 0))]) rfl ?_
      exact pB21  _ h
def w_RpartOf (a1 : Int) (a2 : Int) (a3 : Int) (M : gSt) (k : Int → gSt → Prop) : Prop :=
(wrapL (wrap a3) ≠ 0) ∧ (k (Int.tdiv (wrapL ((wrap a1) * (wrap a2))) (wrapL (wrap a3))) M)
set_option maxHeartbeats 4000000 in
set_option maxRecDepth 100000 in
theorem m_RpartOf {l : Launch} {D : va_G} {cl : List vw_C} {tys : List (ClassId × FieldType)} {ad : Nat → Nat} {cI : ClassId} {ci : Nat} {Z : (Nat → Prop) → State → Prop} (hci : cl[ci]? = some (RX9, TX9, 23)) {a1 : Int} {a2 : Int} {a3 : Int} {M : gSt} {k : Int → gSt → Prop} (h : w_RpartOf a1 a2 a3 M k) : MOi l yX9_partOf cX9_partOf 3 .int (rmR 0 0) D cl ((cI, .int) :: tys) (wR ad cI ci) tR Z [iv a1, iv a2, iv a3] M k := by
  refine moi_intro (by decide +kernel) (Nat.le_of_ble_eq_true rfl) wi_43 ?_
  intro p e s m args below meth c A Q C hR
  refine g_locals (lv' := [(0, iv a1), (1, iv a2), (2, iv a3)]) rfl ?_
  unfold w_RpartOf at h
  refine g_iload_n C dR_partOf_0 rfl ?_
  refine g_i2l C dR_partOf_1 ?_
  refine g_iload_n C dR_partOf_2 rfl ?_
  refine g_i2l C dR_partOf_3 ?_
  refine g_lmul C dR_partOf_4 ?_
  refine g_iload_n C dR_partOf_5 rfl ?_
  refine g_i2l C dR_partOf_6 ?_
  refine g_ldiv C dR_partOf_7 h.1 ?_
  replace h := h.2
  refine g_topL (y := Int.tdiv (wrapL ((wrap a1) * (wrap a2))) (wrapL (wrap a3))) rfl ?_
  refine g_l2i C dR_partOf_8 ?_
  exact hR _ _ _ _ dR_partOf_9 rfl h
def w_Rthousandths (a1 : Int) (M : gSt) (k : Int → gSt → Prop) : Prop :=
w_Rits a1 2 M (fun r3c M3 => 
  (¬ wrap r3c = 0 →
    w_Rits a1 3 M3 (fun r16c M16 => w_Rits a1 2 M16 (fun r25c M25 => w_RpartOf r16c 1000 r25c M25 (fun r28c M28 => k r28c M28)))) ∧
  (wrap r3c = 0 →
    k 0 M3))
set_option maxHeartbeats 4000000 in
set_option maxRecDepth 100000 in
theorem m_Rthousandths {l : Launch} {D : va_G} {cl : List vw_C} {tys : List (ClassId × FieldType)} {ad : Nat → Nat} {cI : ClassId} {ci : Nat} {Z : (Nat → Prop) → State → Prop} (hci : cl[ci]? = some (RX9, TX9, 23)) {a1 : Int} {M : gSt} {k : Int → gSt → Prop} (h : w_Rthousandths a1 M k) : MOi l yX9_thousandths cX9_thousandths 2 .int (rmR 1 22) D cl ((cI, .int) :: tys) (wR ad cI ci) tR Z [.ref (ad 0), iv a1] M k := by
  refine moi_intro (by decide +kernel) (Nat.le_of_ble_eq_true rfl) wi_49 ?_
  intro p e s m args below meth c A Q C hR
  refine g_locals (lv' := [(0, .ref (ad 0)), (1, iv a1)]) rfl ?_
  unfold w_Rthousandths at h
  refine g_aload_n C dR_thousandths_0 rfl ?_
  refine g_iload_n C dR_thousandths_1 rfl ?_
  refine g_iconst C dR_thousandths_2 ?_
  refine g_callVi C (nargs := 2) (o := 0) (st := []) (m_Rits hci h) rfl (by decide) hci rfl gd_its (by decide +kernel) ⟨rfl, rfl⟩ dR_thousandths_3 ⟨by decide, by decide⟩ rfl rfl (Nat.le_of_ble_eq_true rfl) ?_
  intro r3c M3 hN
  replace h := hN
  clear hN
  refine g_if_ne C 13 dR_thousandths_6 (by decide) (fun hc => ?_) (fun hc => ?_)
  · replace h := h.1 hc
    refine g_aload_n C dR_thousandths_13 rfl ?_
    refine g_iload_n C dR_thousandths_14 rfl ?_
    refine g_iconst C dR_thousandths_15 ?_
    refine g_callVi C (nargs := 2) (o := 0) (st := []) (m_Rits hci h) rfl (by decide) hci rfl gd_its (by decide +kernel) ⟨rfl, rfl⟩ dR_thousandths_16 ⟨by decide, by decide⟩ rfl rfl (Nat.le_of_ble_eq_true rfl) ?_
    intro r16c M16 hN
    replace h := hN
    clear hN
    refine g_sipush C dR_thousandths_19 rfl ?_
    refine g_aload_n C dR_thousandths_22 rfl ?_
    refine g_iload_n C dR_thousandths_23 rfl ?_
    refine g_iconst C dR_thousandths_24 ?_
    refine g_callVi C (nargs := 2) (o := 0) (st := [iv 1000, iv r16c]) (m_Rits hci h) rfl (by decide) hci rfl gd_its (by decide +kernel) ⟨rfl, rfl⟩ dR_thousandths_25 ⟨by decide, by decide⟩ rfl rfl (Nat.le_of_ble_eq_true rfl) ?_
    intro r25c M25 hN
    replace h := hN
    clear hN
    refine g_callSi C (nargs := 3) (st := []) (m_RpartOf hci h) gd_partOf (by decide +kernel) ⟨rfl, rfl⟩ dR_thousandths_28 ⟨by decide, by decide⟩ rfl rfl (Nat.le_of_ble_eq_true rfl) ?_
    intro r28c M28 hN
    replace h := hN
    clear hN
    exact hR _ _ _ _ dR_thousandths_31 rfl h
  · replace h := h.2 hc
    refine g_iconst C dR_thousandths_9 ?_
    refine g_goto C 31 dR_thousandths_10 (by decide) ?_
    exact hR _ _ _ _ dR_thousandths_31 rfl h
def w_RhasText (a1 : Int) (M : gSt) (k : Int → gSt → Prop) : Prop :=
(0 ≤ 202 + (125 * a1) ∧ 202 + (125 * a1) < 536) ∧ (
  (wrap (M 1 (202 + (125 * a1))) ≤ 0 →
    k 0 M) ∧
  (0 < wrap (M 1 (202 + (125 * a1))) →
    k 1 M))
set_option maxHeartbeats 4000000 in
set_option maxRecDepth 100000 in
theorem m_RhasText {l : Launch} {D : va_G} {cl : List vw_C} {tys : List (ClassId × FieldType)} {ad : Nat → Nat} {cI : ClassId} {ci : Nat} {Z : (Nat → Prop) → State → Prop} (hci : cl[ci]? = some (RX9, TX9, 23)) {a1 : Int} {M : gSt} {k : Int → gSt → Prop} (h : w_RhasText a1 M k) : MOi l yX9_hasText cX9_hasText 2 .boolean (rmR 0 0) D cl ((cI, .int) :: tys) (wR ad cI ci) tR Z [.ref (ad 0), iv a1] M k := by
  refine moi_intro (by decide +kernel) (Nat.le_of_ble_eq_true rfl) wi_50 ?_
  intro p e s m args below meth c A Q C hR
  refine g_locals (lv' := [(0, .ref (ad 0)), (1, iv a1)]) rfl ?_
  unfold w_RhasText at h
  refine g_aload_n C dR_hasText_0 rfl ?_
  refine rf_s C hci dR_hasText_1 ?_
  refine g_sipush C dR_hasText_4 rfl ?_
  refine g_bipush C dR_hasText_7 rfl ?_
  refine g_iload_n C dR_hasText_9 rfl ?_
  refine g_imul C dR_hasText_10 ?_
  refine g_iadd C dR_hasText_11 ?_
  refine g_iald C (n := 536) dR_hasText_12 rfl (by decide) h.1 ?_
  replace h := h.2
  refine g_if_le C 20 dR_hasText_13 (by decide) (fun hc => ?_) (fun hc => ?_)
  · replace h := h.1 hc
    refine g_iconst C dR_hasText_20 ?_
    exact hR _ _ _ _ dR_hasText_21 rfl h
  · replace h := h.2 hc
    refine g_iconst C dR_hasText_16 ?_
    refine g_goto C 21 dR_hasText_17 (by decide) ?_
    exact hR _ _ _ _ dR_hasText_21 rfl h
def w_Rjoined (a1 : Int) (a2 : Int) (a3 : Int) (M : gSt) (k : Int → gSt → Prop) : Prop :=

  (wrap a1 = 37 →

    (wrap a3 = 0 →
      k 0 M) ∧
    (¬ wrap a3 = 0 →

      (¬ wrap a3 = (-1) →
        (wrap a3 ≠ 0) ∧ (k (Int.tmod (wrap a2) (wrap a3)) M)) ∧
      (wrap a3 = (-1) →
        k 0 M))) ∧
  (wrap a1 = 38 →

    (wrap a2 = 0 →
      k 0 M) ∧
    (¬ wrap a2 = 0 →

      (wrap a3 = 0 →
        k 0 M) ∧
      (¬ wrap a3 = 0 →
        k 1 M))) ∧
  (wrap a1 = 42 →
    k (a2 * a3) M) ∧
  (wrap a1 = 43 →
    k (a2 + a3) M) ∧
  (wrap a1 = 45 →
    k (a2 - a3) M) ∧
  (wrap a1 = 47 →

    (¬ wrap a3 = 0 →

      (¬ wrap a3 = (-1) →
        (wrap a3 ≠ 0) ∧ (k (Int.tdiv (wrap a2) (wrap a3)) M)) ∧
      (wrap a3 = (-1) →
        k (-a2) M)) ∧
    (wrap a3 = 0 →
      k 0 M)) ∧
  (wrap a1 = 60 →

    (wrap a3 ≤ wrap a2 →
      k 0 M) ∧
    (wrap a2 < wrap a3 →
      k 1 M)) ∧
  (wrap a1 = 61 →

    (¬ wrap a2 = wrap a3 →
      k 0 M) ∧
    (wrap a2 = wrap a3 →
      k 1 M)) ∧
  (wrap a1 = 62 →

    (wrap a2 ≤ wrap a3 →
      k 0 M) ∧
    (wrap a3 < wrap a2 →
      k 1 M)) ∧
  (¬ wrap a1 = 37 ∧ ¬ wrap a1 = 38 ∧ ¬ wrap a1 = 42 ∧ ¬ wrap a1 = 43 ∧ ¬ wrap a1 = 45 ∧ ¬ wrap a1 = 47 ∧ ¬ wrap a1 = 60 ∧ ¬ wrap a1 = 61 ∧ ¬ wrap a1 = 62 →

    (¬ wrap a2 = 0 →
      k 1 M) ∧
    (wrap a2 = 0 →

      (wrap a3 = 0 →
        k 0 M) ∧
      (¬ wrap a3 = 0 →
        k 1 M)))
set_option maxHeartbeats 4000000 in
set_option maxRecDepth 100000 in
theorem m_Rjoined {l : Launch} {D : va_G} {cl : List vw_C} {tys : List (ClassId × FieldType)} {ad : Nat → Nat} {cI : ClassId} {ci : Nat} {Z : (Nat → Prop) → State → Prop} (hci : cl[ci]? = some (RX9, TX9, 23)) {a1 : Int} {a2 : Int} {a3 : Int} {M : gSt} {k : Int → gSt → Prop} (h : w_Rjoined a1 a2 a3 M k) : MOi l yX9_joined cX9_joined 3 .int (rmR 0 0) D cl ((cI, .int) :: tys) (wR ad cI ci) tR Z [iv a1, iv a2, iv a3] M k := by
  refine moi_intro (by decide +kernel) (Nat.le_of_ble_eq_true rfl) wi_51 ?_
  intro p e s m args below meth c A Q C hR
  refine g_locals (lv' := [(0, iv a1), (1, iv a2), (2, iv a3)]) rfl ?_
  unfold w_Rjoined at h
  refine g_iload_n C dR_joined_0 rfl ?_
  by_cases hc37 : wrap a1 = 37
  · refine g_tableIn C 154 dR_joined_1 (by omega) (by omega) (by rw [hc37] <;> rfl) (by decide) ?_
    replace h := h.1 hc37
    refine g_iload_n C dR_joined_154 rfl ?_
    refine g_if_eq C 163 dR_joined_155 (by decide) (fun hc => ?_) (fun hc => ?_)
    · replace h := h.1 hc
      refine g_iconst C dR_joined_163 ?_
      refine g_goto C 170 dR_joined_164 (by decide) ?_
      exact hR _ _ _ _ dR_joined_170 rfl h
    · replace h := h.2 hc
      refine g_iload_n C dR_joined_158 rfl ?_
      refine g_iconst C dR_joined_159 ?_
      refine g_icmp_ne C 167 dR_joined_160 (by decide) (fun hc => ?_) (fun hc => ?_)
      · replace h := h.1 hc
        refine g_iload_n C dR_joined_167 rfl ?_
        refine g_iload_n C dR_joined_168 rfl ?_
        refine g_irem C dR_joined_169 h.1 ?_
        replace h := h.2
        refine g_top (y := Int.tmod (wrap a2) (wrap a3)) rfl ?_
        exact hR _ _ _ _ dR_joined_170 rfl h
      · replace h := h.2 hc
        refine g_iconst C dR_joined_163 ?_
        refine g_goto C 170 dR_joined_164 (by decide) ?_
        exact hR _ _ _ _ dR_joined_170 rfl h
  · by_cases hc38 : wrap a1 = 38
    · refine g_tableIn C 204 dR_joined_1 (by omega) (by omega) (by rw [hc38] <;> rfl) (by decide) ?_
      replace h := h.2.1 hc38
      refine g_iload_n C dR_joined_204 rfl ?_
      refine g_if_eq C 216 dR_joined_205 (by decide) (fun hc => ?_) (fun hc => ?_)
      · replace h := h.1 hc
        refine g_iconst C dR_joined_216 ?_
        exact hR _ _ _ _ dR_joined_217 rfl h
      · replace h := h.2 hc
        refine g_iload_n C dR_joined_208 rfl ?_
        refine g_if_eq C 216 dR_joined_209 (by decide) (fun hc => ?_) (fun hc => ?_)
        · replace h := h.1 hc
          refine g_iconst C dR_joined_216 ?_
          exact hR _ _ _ _ dR_joined_217 rfl h
        · replace h := h.2 hc
          refine g_iconst C dR_joined_212 ?_
          refine g_goto C 217 dR_joined_213 (by decide) ?_
          exact hR _ _ _ _ dR_joined_217 rfl h
    · by_cases hc42 : wrap a1 = 42
      · refine g_tableIn C 128 dR_joined_1 (by omega) (by omega) (by rw [hc42] <;> rfl) (by decide) ?_
        replace h := h.2.2.1 hc42
        refine g_iload_n C dR_joined_128 rfl ?_
        refine g_iload_n C dR_joined_129 rfl ?_
        refine g_imul C dR_joined_130 ?_
        exact hR _ _ _ _ dR_joined_131 rfl h
      · by_cases hc43 : wrap a1 = 43
        · refine g_tableIn C 120 dR_joined_1 (by omega) (by omega) (by rw [hc43] <;> rfl) (by decide) ?_
          replace h := h.2.2.2.1 hc43
          refine g_iload_n C dR_joined_120 rfl ?_
          refine g_iload_n C dR_joined_121 rfl ?_
          refine g_iadd C dR_joined_122 ?_
          exact hR _ _ _ _ dR_joined_123 rfl h
        · by_cases hc45 : wrap a1 = 45
          · refine g_tableIn C 124 dR_joined_1 (by omega) (by omega) (by rw [hc45] <;> rfl) (by decide) ?_
            replace h := h.2.2.2.2.1 hc45
            refine g_iload_n C dR_joined_124 rfl ?_
            refine g_iload_n C dR_joined_125 rfl ?_
            refine g_isub C dR_joined_126 ?_
            exact hR _ _ _ _ dR_joined_127 rfl h
          · by_cases hc47 : wrap a1 = 47
            · refine g_tableIn C 132 dR_joined_1 (by omega) (by omega) (by rw [hc47] <;> rfl) (by decide) ?_
              replace h := h.2.2.2.2.2.1 hc47
              refine g_iload_n C dR_joined_132 rfl ?_
              refine g_if_ne C 140 dR_joined_133 (by decide) (fun hc => ?_) (fun hc => ?_)
              · replace h := h.1 hc
                refine g_iload_n C dR_joined_140 rfl ?_
                refine g_iconst C dR_joined_141 ?_
                refine g_icmp_ne C 150 dR_joined_142 (by decide) (fun hc => ?_) (fun hc => ?_)
                · replace h := h.1 hc
                  refine g_iload_n C dR_joined_150 rfl ?_
                  refine g_iload_n C dR_joined_151 rfl ?_
                  refine g_idiv C dR_joined_152 h.1 ?_
                  replace h := h.2
                  refine g_top (y := Int.tdiv (wrap a2) (wrap a3)) rfl ?_
                  exact hR _ _ _ _ dR_joined_153 rfl h
                · replace h := h.2 hc
                  refine g_iload_n C dR_joined_145 rfl ?_
                  refine g_ineg C dR_joined_146 ?_
                  refine g_goto C 153 dR_joined_147 (by decide) ?_
                  exact hR _ _ _ _ dR_joined_153 rfl h
              · replace h := h.2 hc
                refine g_iconst C dR_joined_136 ?_
                refine g_goto C 153 dR_joined_137 (by decide) ?_
                exact hR _ _ _ _ dR_joined_153 rfl h
            · by_cases hc60 : wrap a1 = 60
              · refine g_tableIn C 171 dR_joined_1 (by omega) (by omega) (by rw [hc60] <;> rfl) (by decide) ?_
                replace h := h.2.2.2.2.2.2.1 hc60
                refine g_iload_n C dR_joined_171 rfl ?_
                refine g_iload_n C dR_joined_172 rfl ?_
                refine g_icmp_ge C 180 dR_joined_173 (by decide) (fun hc => ?_) (fun hc => ?_)
                · replace h := h.1 hc
                  refine g_iconst C dR_joined_180 ?_
                  exact hR _ _ _ _ dR_joined_181 rfl h
                · replace h := h.2 hc
                  refine g_iconst C dR_joined_176 ?_
                  refine g_goto C 181 dR_joined_177 (by decide) ?_
                  exact hR _ _ _ _ dR_joined_181 rfl h
              · by_cases hc61 : wrap a1 = 61
                · refine g_tableIn C 193 dR_joined_1 (by omega) (by omega) (by rw [hc61] <;> rfl) (by decide) ?_
                  replace h := h.2.2.2.2.2.2.2.1 hc61
                  refine g_iload_n C dR_joined_193 rfl ?_
                  refine g_iload_n C dR_joined_194 rfl ?_
                  refine g_icmp_ne C 202 dR_joined_195 (by decide) (fun hc => ?_) (fun hc => ?_)
                  · replace h := h.1 hc
                    refine g_iconst C dR_joined_202 ?_
                    exact hR _ _ _ _ dR_joined_203 rfl h
                  · replace h := h.2 hc
                    refine g_iconst C dR_joined_198 ?_
                    refine g_goto C 203 dR_joined_199 (by decide) ?_
                    exact hR _ _ _ _ dR_joined_203 rfl h
                · by_cases hc62 : wrap a1 = 62
                  · refine g_tableIn C 182 dR_joined_1 (by omega) (by omega) (by rw [hc62] <;> rfl) (by decide) ?_
                    replace h := h.2.2.2.2.2.2.2.2.1 hc62
                    refine g_iload_n C dR_joined_182 rfl ?_
                    refine g_iload_n C dR_joined_183 rfl ?_
                    refine g_icmp_le C 191 dR_joined_184 (by decide) (fun hc => ?_) (fun hc => ?_)
                    · replace h := h.1 hc
                      refine g_iconst C dR_joined_191 ?_
                      exact hR _ _ _ _ dR_joined_192 rfl h
                    · replace h := h.2 hc
                      refine g_iconst C dR_joined_187 ?_
                      refine g_goto C 192 dR_joined_188 (by decide) ?_
                      exact hR _ _ _ _ dR_joined_192 rfl h
                  · by_cases hin : 37 ≤ wrap a1 ∧ wrap a1 ≤ 62
                    · refine g_tableIn C (off := 217) 218 dR_joined_1 hin.1 hin.2 ?_ (by decide) ?_
                      · have hj : (wrap a1 - 37).toNat < 26 := by omega
                        have hq37 : ¬ (wrap a1 - 37).toNat = 0 := by omega
                        have hq38 : ¬ (wrap a1 - 37).toNat = 1 := by omega
                        have hq42 : ¬ (wrap a1 - 37).toNat = 5 := by omega
                        have hq43 : ¬ (wrap a1 - 37).toNat = 6 := by omega
                        have hq45 : ¬ (wrap a1 - 37).toNat = 8 := by omega
                        have hq47 : ¬ (wrap a1 - 37).toNat = 10 := by omega
                        have hq60 : ¬ (wrap a1 - 37).toNat = 23 := by omega
                        have hq61 : ¬ (wrap a1 - 37).toNat = 24 := by omega
                        have hq62 : ¬ (wrap a1 - 37).toNat = 25 := by omega
                        generalize (wrap a1 - 37).toNat = j at *
                        have key : ∀ j : Nat, j < 26 → (¬ j = 0 ∧ ¬ j = 1 ∧ ¬ j = 5 ∧ ¬ j = 6 ∧ ¬ j = 8 ∧ ¬ j = 10 ∧ ¬ j = 23 ∧ ¬ j = 24 ∧ ¬ j = 25) → (#[153, 203, 217, 217, 217, 127, 119, 217, 123, 217, 131, 217, 217, 217, 217, 217, 217, 217, 217, 217, 217, 217, 217, 170, 192, 181] : Array Int)[j]? = some 217 := by decide
                        exact key j hj ⟨hq37, hq38, hq42, hq43, hq45, hq47, hq60, hq61, hq62⟩
                      · replace h := h.2.2.2.2.2.2.2.2.2 ⟨hc37, hc38, hc42, hc43, hc45, hc47, hc60, hc61, hc62⟩
                        refine g_iload_n C dR_joined_218 rfl ?_
                        refine g_if_ne C 226 dR_joined_219 (by decide) (fun hc => ?_) (fun hc => ?_)
                        · replace h := h.1 hc
                          refine g_iconst C dR_joined_226 ?_
                          refine g_goto C 231 dR_joined_227 (by decide) ?_
                          exact hR _ _ _ _ dR_joined_231 rfl h
                        · replace h := h.2 hc
                          refine g_iload_n C dR_joined_222 rfl ?_
                          refine g_if_eq C 230 dR_joined_223 (by decide) (fun hc => ?_) (fun hc => ?_)
                          · replace h := h.1 hc
                            refine g_iconst C dR_joined_230 ?_
                            exact hR _ _ _ _ dR_joined_231 rfl h
                          · replace h := h.2 hc
                            refine g_iconst C dR_joined_226 ?_
                            refine g_goto C 231 dR_joined_227 (by decide) ?_
                            exact hR _ _ _ _ dR_joined_231 rfl h
                    · refine g_tableOut C 218 dR_joined_1 (by omega) (by decide) ?_
                      replace h := h.2.2.2.2.2.2.2.2.2 ⟨hc37, hc38, hc42, hc43, hc45, hc47, hc60, hc61, hc62⟩
                      refine g_iload_n C dR_joined_218 rfl ?_
                      refine g_if_ne C 226 dR_joined_219 (by decide) (fun hc => ?_) (fun hc => ?_)
                      · replace h := h.1 hc
                        refine g_iconst C dR_joined_226 ?_
                        refine g_goto C 231 dR_joined_227 (by decide) ?_
                        exact hR _ _ _ _ dR_joined_231 rfl h
                      · replace h := h.2 hc
                        refine g_iload_n C dR_joined_222 rfl ?_
                        refine g_if_eq C 230 dR_joined_223 (by decide) (fun hc => ?_) (fun hc => ?_)
                        · replace h := h.1 hc
                          refine g_iconst C dR_joined_230 ?_
                          exact hR _ _ _ _ dR_joined_231 rfl h
                        · replace h := h.2 hc
                          refine g_iconst C dR_joined_226 ?_
                          refine g_goto C 231 dR_joined_227 (by decide) ?_
                          exact hR _ _ _ _ dR_joined_231 rfl h
def wB_Rworked_158 (a1 : Int) (k : Int → gSt → Prop) (r14 : Int → Int → Int → gSt → Prop) (X14_164 : gSt → Prop) (v2 : Int) (v3 : Int) (v4 : Int) (M : gSt) : Prop :=
r14 v2 v3 (v4 + 1) M
def wB_Rworked_88 (a1 : Int) (k : Int → gSt → Prop) (r14 : Int → Int → Int → gSt → Prop) (X14_164 : gSt → Prop) (v2 : Int) (v3 : Int) (v4 : Int) (s0 : Int) (s1 : Int) (M : gSt) : Prop :=
(0 ≤ s1 ∧ s1 < 64) ∧ (∀ M88 : gSt, M88 = wr M 7 s1 s0 → (wB_Rworked_158 a1 k r14 X14_164 v2 (v3 + 1) v4 M88))
def wB_Rworked_66 (a1 : Int) (k : Int → gSt → Prop) (r14 : Int → Int → Int → gSt → Prop) (X14_164 : gSt → Prop) (v2 : Int) (v3 : Int) (v4 : Int) (v5 : Int) (v6 : Int) (M : gSt) : Prop :=

  (¬ wrap v5 = 0 →
    (0 ≤ v6 ∧ v6 < 128) ∧ (wB_Rworked_88 a1 k r14 X14_164 v2 v3 v4 (M 6 v6) v3 M)) ∧
  (wrap v5 = 0 →
    wB_Rworked_88 a1 k r14 X14_164 v2 v3 v4 v6 v3 M)
def wB_Rworked_124 (a1 : Int) (k : Int → gSt → Prop) (r14 : Int → Int → Int → gSt → Prop) (X14_164 : gSt → Prop) (v2 : Int) (v3 : Int) (v4 : Int) (s0 : Int) (s1 : Int) (M : gSt) : Prop :=
(0 ≤ s1 ∧ s1 < 64) ∧ (∀ M124 : gSt, M124 = wr M 7 s1 s0 → (wB_Rworked_158 a1 k r14 X14_164 v2 v3 v4 M124))
def wC_Rworked_14 (a1 : Int) (k : Int → gSt → Prop) (r14 : Int → Int → Int → gSt → Prop) (X14_164 : gSt → Prop) (v2 : Int) (v3 : Int) (v4 : Int) (M : gSt) : Prop :=
(0 ≤ v2 ∧ v2 < 536) ∧ (
  (wrap (M 1 v2) ≤ wrap v4 →
    X14_164  M) ∧
  (wrap v4 < wrap (M 1 v2) →
    (0 ≤ (v2 + 1) + (2 * v4) ∧ (v2 + 1) + (2 * v4) < 536) ∧ (∀ x5_38 : Int, x5_38 = M 1 ((v2 + 1) + (2 * v4)) → ((0 ≤ (v2 + 2) + (2 * v4) ∧ (v2 + 2) + (2 * v4) < 536) ∧ (∀ x6_53 : Int, x6_53 = M 1 ((v2 + 2) + (2 * v4)) → (
    (wrap x5_38 = 0 →
      wB_Rworked_66 a1 k r14 X14_164 v2 v3 v4 x5_38 x6_53 M) ∧
    (¬ wrap x5_38 = 0 →

      (¬ wrap x5_38 = 1 →

        (¬ wrap x5_38 = 2 →
          (0 ≤ (v3 + (-1)) - 1 ∧ (v3 + (-1)) - 1 < 64) ∧ ((0 ≤ v3 + (-1) ∧ v3 + (-1) < 64) ∧ (w_Rjoined x6_53 (M 7 ((v3 + (-1)) - 1)) (M 7 (v3 + (-1))) M (fun r154c M154 => (0 ≤ (v3 + (-1)) - 1 ∧ (v3 + (-1)) - 1 < 64) ∧ (∀ M157 : gSt, M157 = wr M154 7 ((v3 + (-1)) - 1) r154c → (wB_Rworked_158 a1 k r14 X14_164 v2 (v3 + (-1)) v4 M157)))))) ∧
        (wrap x5_38 = 2 →
          (0 ≤ v3 - 1 ∧ v3 - 1 < 64) ∧ (
          (¬ wrap (M 7 (v3 - 1)) = 0 →
            wB_Rworked_124 a1 k r14 X14_164 v2 v3 v4 0 (v3 - 1) M) ∧
          (wrap (M 7 (v3 - 1)) = 0 →
            wB_Rworked_124 a1 k r14 X14_164 v2 v3 v4 1 (v3 - 1) M)))) ∧
      (wrap x5_38 = 1 →
        wB_Rworked_66 a1 k r14 X14_164 v2 v3 v4 x5_38 x6_53 M))))))))
def wL_Rworked_14 (a1 : Int) (k : Int → gSt → Prop)  (X14_164 : gSt → Prop) : Nat → Int → Int → Int → gSt → Prop
  | 0 => fun _ _ _ _ => False
  | n + 1 => fun v2 v3 v4 M => wC_Rworked_14 a1 k  (wL_Rworked_14 a1 k  X14_164 n) X14_164 v2 v3 v4 M
def w_Rworked (a1 : Int) (M : gSt) (k : Int → gSt → Prop) : Prop :=
∀ x2_8 : Int, x2_8 = 202 + (125 * a1) → (∃ n, wL_Rworked_14 a1 k  (fun  M14 =>
    k (M14 7 0) M14) n x2_8 0 0 M)
set_option maxHeartbeats 4000000 in
set_option maxRecDepth 100000 in
theorem m_Rworked {l : Launch} {D : va_G} {cl : List vw_C} {tys : List (ClassId × FieldType)} {ad : Nat → Nat} {cI : ClassId} {ci : Nat} {Z : (Nat → Prop) → State → Prop} (hci : cl[ci]? = some (RX9, TX9, 23)) {a1 : Int} {M : gSt} {k : Int → gSt → Prop} (h : w_Rworked a1 M k) : MOi l yX9_worked cX9_worked 7 .int (rmR 1 22) D cl ((cI, .int) :: tys) (wR ad cI ci) tR Z [.ref (ad 0), iv a1] M k := by
  refine moi_intro (by decide +kernel) (Nat.le_of_ble_eq_true rfl) wi_54 ?_
  intro p e s m args below meth c A Q C hR
  have pB158 : ∀ (r14 : Int → Int → Int → gSt → Prop) (X14_164 : gSt → Prop) (hr14 : ∀ (v2 : Int) (v3 : Int) (v4 : Int) (M : gSt), r14 v2 v3 v4 M → gG p l e (rmR 1 22) s m args below meth c Q D cl A (wR ad cI ci) 7 14 [(0, .ref (ad 0)), (2, iv v2), (3, iv v3), (4, iv v4)] [] M) (hX14_164 : ∀  (M : gSt), X14_164  M → gG p l e (rmR 1 22) s m args below meth c Q D cl A (wR ad cI ci) 7 164 [(0, .ref (ad 0))] [] M) (v2 : Int) (v3 : Int) (v4 : Int) (M : gSt), wB_Rworked_158 a1 k r14 X14_164 v2 v3 v4 M → gG p l e (rmR 1 22) s m args below meth c Q D cl A (wR ad cI ci) 7 158 [(0, .ref (ad 0)), (2, iv v2), (3, iv v3), (4, iv v4)] [] M := by
    intro r14 X14_164 hr14 hX14_164 v2 v3 v4 M h
    unfold wB_Rworked_158 at h
    refine g_iinc C dR_worked_158 rfl (by decide) rfl ?_
    refine g_locals (lv' := [(0, .ref (ad 0)), (2, iv v2), (3, iv v3), (4, iv (v4 + 1))]) rfl ?_
    refine g_goto C 14 dR_worked_161 (by decide) ?_
    refine g_locals (lv' := [(0, .ref (ad 0)), (2, iv v2), (3, iv v3), (4, iv (v4 + 1))]) rfl ?_
    exact hr14 _ _ _  _ h
  have pB88 : ∀ (r14 : Int → Int → Int → gSt → Prop) (X14_164 : gSt → Prop) (hr14 : ∀ (v2 : Int) (v3 : Int) (v4 : Int) (M : gSt), r14 v2 v3 v4 M → gG p l e (rmR 1 22) s m args below meth c Q D cl A (wR ad cI ci) 7 14 [(0, .ref (ad 0)), (2, iv v2), (3, iv v3), (4, iv v4)] [] M) (hX14_164 : ∀  (M : gSt), X14_164  M → gG p l e (rmR 1 22) s m args below meth c Q D cl A (wR ad cI ci) 7 164 [(0, .ref (ad 0))] [] M) (v2 : Int) (v3 : Int) (v4 : Int) (s0 : Int) (s1 : Int) (M : gSt), wB_Rworked_88 a1 k r14 X14_164 v2 v3 v4 s0 s1 M → gG p l e (rmR 1 22) s m args below meth c Q D cl A (wR ad cI ci) 7 88 [(0, .ref (ad 0)), (2, iv v2), (3, iv v3), (4, iv v4)] [iv s0, iv s1, .ref (ad 7)] M := by
    intro r14 X14_164 hr14 hX14_164 v2 v3 v4 s0 s1 M h
    unfold wB_Rworked_88 at h
    refine g_iast C (n := 64) dR_worked_88 rfl (by decide) h.1 ?_
    replace h := h.2
    refine g_memname (fun M88 hM88 => ?_)
    replace h := h M88 hM88
    refine g_iinc C dR_worked_89 rfl (by decide) rfl ?_
    refine g_locals (lv' := [(0, .ref (ad 0)), (2, iv v2), (3, iv (v3 + 1)), (4, iv v4)]) rfl ?_
    refine g_goto C 158 dR_worked_92 (by decide) ?_
    refine g_locals (lv' := [(0, .ref (ad 0)), (2, iv v2), (3, iv (v3 + 1)), (4, iv v4)]) rfl ?_
    exact pB158 r14 X14_164 hr14 hX14_164 _ _ _ _ h
  have pB66 : ∀ (r14 : Int → Int → Int → gSt → Prop) (X14_164 : gSt → Prop) (hr14 : ∀ (v2 : Int) (v3 : Int) (v4 : Int) (M : gSt), r14 v2 v3 v4 M → gG p l e (rmR 1 22) s m args below meth c Q D cl A (wR ad cI ci) 7 14 [(0, .ref (ad 0)), (2, iv v2), (3, iv v3), (4, iv v4)] [] M) (hX14_164 : ∀  (M : gSt), X14_164  M → gG p l e (rmR 1 22) s m args below meth c Q D cl A (wR ad cI ci) 7 164 [(0, .ref (ad 0))] [] M) (v2 : Int) (v3 : Int) (v4 : Int) (v5 : Int) (v6 : Int) (M : gSt), wB_Rworked_66 a1 k r14 X14_164 v2 v3 v4 v5 v6 M → gG p l e (rmR 1 22) s m args below meth c Q D cl A (wR ad cI ci) 7 66 [(0, .ref (ad 0)), (2, iv v2), (3, iv v3), (4, iv v4), (5, iv v5), (6, iv v6)] [] M := by
    intro r14 X14_164 hr14 hX14_164 v2 v3 v4 v5 v6 M h
    unfold wB_Rworked_66 at h
    refine g_aload_n C dR_worked_66 rfl ?_
    refine rf_pile C hci dR_worked_67 ?_
    refine g_iload_n C dR_worked_70 rfl ?_
    refine g_iload C dR_worked_71 rfl ?_
    refine g_if_ne C 81 dR_worked_73 (by decide) (fun hc => ?_) (fun hc => ?_)
    · replace h := h.1 hc
      refine g_aload_n C dR_worked_81 rfl ?_
      refine rf_named C hci dR_worked_82 ?_
      refine g_iload C dR_worked_85 rfl ?_
      refine g_iald C (n := 128) dR_worked_87 rfl (by decide) h.1 ?_
      replace h := h.2
      refine g_locals (lv' := [(0, .ref (ad 0)), (2, iv v2), (3, iv v3), (4, iv v4)]) rfl ?_
      exact pB88 r14 X14_164 hr14 hX14_164 _ _ _ _ _ _ h
    · replace h := h.2 hc
      refine g_iload C dR_worked_76 rfl ?_
      refine g_goto C 88 dR_worked_78 (by decide) ?_
      refine g_locals (lv' := [(0, .ref (ad 0)), (2, iv v2), (3, iv v3), (4, iv v4)]) rfl ?_
      exact pB88 r14 X14_164 hr14 hX14_164 _ _ _ _ _ _ h
  have pB124 : ∀ (r14 : Int → Int → Int → gSt → Prop) (X14_164 : gSt → Prop) (hr14 : ∀ (v2 : Int) (v3 : Int) (v4 : Int) (M : gSt), r14 v2 v3 v4 M → gG p l e (rmR 1 22) s m args below meth c Q D cl A (wR ad cI ci) 7 14 [(0, .ref (ad 0)), (2, iv v2), (3, iv v3), (4, iv v4)] [] M) (hX14_164 : ∀  (M : gSt), X14_164  M → gG p l e (rmR 1 22) s m args below meth c Q D cl A (wR ad cI ci) 7 164 [(0, .ref (ad 0))] [] M) (v2 : Int) (v3 : Int) (v4 : Int) (s0 : Int) (s1 : Int) (M : gSt), wB_Rworked_124 a1 k r14 X14_164 v2 v3 v4 s0 s1 M → gG p l e (rmR 1 22) s m args below meth c Q D cl A (wR ad cI ci) 7 124 [(0, .ref (ad 0)), (2, iv v2), (3, iv v3), (4, iv v4)] [iv s0, iv s1, .ref (ad 7)] M := by
    intro r14 X14_164 hr14 hX14_164 v2 v3 v4 s0 s1 M h
    unfold wB_Rworked_124 at h
    refine g_iast C (n := 64) dR_worked_124 rfl (by decide) h.1 ?_
    replace h := h.2
    refine g_memname (fun M124 hM124 => ?_)
    replace h := h M124 hM124
    refine g_goto C 158 dR_worked_125 (by decide) ?_
    refine g_locals (lv' := [(0, .ref (ad 0)), (2, iv v2), (3, iv v3), (4, iv v4)]) rfl ?_
    exact pB158 r14 X14_164 hr14 hX14_164 _ _ _ _ h
  have pC14 : ∀ (r14 : Int → Int → Int → gSt → Prop) (X14_164 : gSt → Prop) (hr14 : ∀ (v2 : Int) (v3 : Int) (v4 : Int) (M : gSt), r14 v2 v3 v4 M → gG p l e (rmR 1 22) s m args below meth c Q D cl A (wR ad cI ci) 7 14 [(0, .ref (ad 0)), (2, iv v2), (3, iv v3), (4, iv v4)] [] M) (hX14_164 : ∀  (M : gSt), X14_164  M → gG p l e (rmR 1 22) s m args below meth c Q D cl A (wR ad cI ci) 7 164 [(0, .ref (ad 0))] [] M) (v2 : Int) (v3 : Int) (v4 : Int) (M : gSt), wC_Rworked_14 a1 k r14 X14_164 v2 v3 v4 M → gG p l e (rmR 1 22) s m args below meth c Q D cl A (wR ad cI ci) 7 14 [(0, .ref (ad 0)), (2, iv v2), (3, iv v3), (4, iv v4)] [] M := by
    intro r14 X14_164 hr14 hX14_164 v2 v3 v4 M h
    unfold wC_Rworked_14 at h
    refine g_iload C dR_worked_14 rfl ?_
    refine g_aload_n C dR_worked_16 rfl ?_
    refine rf_s C hci dR_worked_17 ?_
    refine g_iload_n C dR_worked_20 rfl ?_
    refine g_iald C (n := 536) dR_worked_21 rfl (by decide) h.1 ?_
    replace h := h.2
    refine g_icmp_ge C 164 dR_worked_22 (by decide) (fun hc => ?_) (fun hc => ?_)
    · replace h := h.1 hc
      refine g_locals (lv' := [(0, .ref (ad 0))]) rfl ?_
      exact hX14_164  _ h
    · replace h := h.2 hc
      refine g_aload_n C dR_worked_25 rfl ?_
      refine rf_s C hci dR_worked_26 ?_
      refine g_iload_n C dR_worked_29 rfl ?_
      refine g_iconst C dR_worked_30 ?_
      refine g_iadd C dR_worked_31 ?_
      refine g_iconst C dR_worked_32 ?_
      refine g_iload C dR_worked_33 rfl ?_
      refine g_imul C dR_worked_35 ?_
      refine g_iadd C dR_worked_36 ?_
      refine g_iald C (n := 536) dR_worked_37 rfl (by decide) h.1 ?_
      replace h := h.2
      refine g_name (fun x5_38 hx5_38 => ?_)
      replace h := h x5_38 hx5_38
      refine g_istore C dR_worked_38 (by decide) rfl ?_
      refine g_locals (lv' := [(0, .ref (ad 0)), (2, iv v2), (3, iv v3), (4, iv v4), (5, iv x5_38)]) rfl ?_
      refine g_aload_n C dR_worked_40 rfl ?_
      refine rf_s C hci dR_worked_41 ?_
      refine g_iload_n C dR_worked_44 rfl ?_
      refine g_iconst C dR_worked_45 ?_
      refine g_iadd C dR_worked_46 ?_
      refine g_iconst C dR_worked_47 ?_
      refine g_iload C dR_worked_48 rfl ?_
      refine g_imul C dR_worked_50 ?_
      refine g_iadd C dR_worked_51 ?_
      refine g_iald C (n := 536) dR_worked_52 rfl (by decide) h.1 ?_
      replace h := h.2
      refine g_name (fun x6_53 hx6_53 => ?_)
      replace h := h x6_53 hx6_53
      refine g_istore C dR_worked_53 (by decide) rfl ?_
      refine g_locals (lv' := [(0, .ref (ad 0)), (2, iv v2), (3, iv v3), (4, iv v4), (5, iv x5_38), (6, iv x6_53)]) rfl ?_
      refine g_iload C dR_worked_55 rfl ?_
      refine g_if_eq C 66 dR_worked_57 (by decide) (fun hc => ?_) (fun hc => ?_)
      · replace h := h.1 hc
        refine g_locals (lv' := [(0, .ref (ad 0)), (2, iv v2), (3, iv v3), (4, iv v4), (5, iv x5_38), (6, iv x6_53)]) rfl ?_
        exact pB66 r14 X14_164 hr14 hX14_164 _ _ _ _ _ _ h
      · replace h := h.2 hc
        refine g_iload C dR_worked_60 rfl ?_
        refine g_iconst C dR_worked_62 ?_
        refine g_icmp_ne C 95 dR_worked_63 (by decide) (fun hc => ?_) (fun hc => ?_)
        · replace h := h.1 hc
          refine g_iload C dR_worked_95 rfl ?_
          refine g_iconst C dR_worked_97 ?_
          refine g_icmp_ne C 128 dR_worked_98 (by decide) (fun hc => ?_) (fun hc => ?_)
          · replace h := h.1 hc
            refine g_iinc C dR_worked_128 rfl (by decide) rfl ?_
            refine g_locals (lv' := [(0, .ref (ad 0)), (2, iv v2), (3, iv (v3 + (-1))), (4, iv v4), (5, iv x5_38), (6, iv x6_53)]) rfl ?_
            refine g_aload_n C dR_worked_131 rfl ?_
            refine rf_pile C hci dR_worked_132 ?_
            refine g_iload_n C dR_worked_135 rfl ?_
            refine g_iconst C dR_worked_136 ?_
            refine g_isub C dR_worked_137 ?_
            refine g_iload C dR_worked_138 rfl ?_
            refine g_aload_n C dR_worked_140 rfl ?_
            refine rf_pile C hci dR_worked_141 ?_
            refine g_iload_n C dR_worked_144 rfl ?_
            refine g_iconst C dR_worked_145 ?_
            refine g_isub C dR_worked_146 ?_
            refine g_iald C (n := 64) dR_worked_147 rfl (by decide) h.1 ?_
            replace h := h.2
            refine g_aload_n C dR_worked_148 rfl ?_
            refine rf_pile C hci dR_worked_149 ?_
            refine g_iload_n C dR_worked_152 rfl ?_
            refine g_iald C (n := 64) dR_worked_153 rfl (by decide) h.1 ?_
            replace h := h.2
            refine g_callSi C (nargs := 3) (st := [iv ((v3 + (-1)) - 1), .ref (ad 7)]) (m_Rjoined hci h) gd_joined (by decide +kernel) ⟨rfl, rfl⟩ dR_worked_154 ⟨by decide, by decide⟩ rfl rfl (Nat.le_of_ble_eq_true rfl) ?_
            intro r154c M154 hN
            replace h := hN
            clear hN
            refine g_iast C (n := 64) dR_worked_157 rfl (by decide) h.1 ?_
            replace h := h.2
            refine g_memname (fun M157 hM157 => ?_)
            replace h := h M157 hM157
            refine g_locals (lv' := [(0, .ref (ad 0)), (2, iv v2), (3, iv (v3 + (-1))), (4, iv v4)]) rfl ?_
            exact pB158 r14 X14_164 hr14 hX14_164 _ _ _ _ h
          · replace h := h.2 hc
            refine g_aload_n C dR_worked_101 rfl ?_
            refine rf_pile C hci dR_worked_102 ?_
            refine g_iload_n C dR_worked_105 rfl ?_
            refine g_iconst C dR_worked_106 ?_
            refine g_isub C dR_worked_107 ?_
            refine g_aload_n C dR_worked_108 rfl ?_
            refine rf_pile C hci dR_worked_109 ?_
            refine g_iload_n C dR_worked_112 rfl ?_
            refine g_iconst C dR_worked_113 ?_
            refine g_isub C dR_worked_114 ?_
            refine g_iald C (n := 64) dR_worked_115 rfl (by decide) h.1 ?_
            replace h := h.2
            refine g_if_ne C 123 dR_worked_116 (by decide) (fun hc => ?_) (fun hc => ?_)
            · replace h := h.1 hc
              refine g_iconst C dR_worked_123 ?_
              refine g_locals (lv' := [(0, .ref (ad 0)), (2, iv v2), (3, iv v3), (4, iv v4)]) rfl ?_
              exact pB124 r14 X14_164 hr14 hX14_164 _ _ _ _ _ _ h
            · replace h := h.2 hc
              refine g_iconst C dR_worked_119 ?_
              refine g_goto C 124 dR_worked_120 (by decide) ?_
              refine g_locals (lv' := [(0, .ref (ad 0)), (2, iv v2), (3, iv v3), (4, iv v4)]) rfl ?_
              exact pB124 r14 X14_164 hr14 hX14_164 _ _ _ _ _ _ h
        · replace h := h.2 hc
          refine g_locals (lv' := [(0, .ref (ad 0)), (2, iv v2), (3, iv v3), (4, iv v4), (5, iv x5_38), (6, iv x6_53)]) rfl ?_
          exact pB66 r14 X14_164 hr14 hX14_164 _ _ _ _ _ _ h
  have pL14 : ∀  (X14_164 : gSt → Prop) (hX14_164 : ∀  (M : gSt), X14_164  M → gG p l e (rmR 1 22) s m args below meth c Q D cl A (wR ad cI ci) 7 164 [(0, .ref (ad 0))] [] M) (n : Nat) (v2 : Int) (v3 : Int) (v4 : Int) (M : gSt), wL_Rworked_14 a1 k  X14_164 n v2 v3 v4 M → gG p l e (rmR 1 22) s m args below meth c Q D cl A (wR ad cI ci) 7 14 [(0, .ref (ad 0)), (2, iv v2), (3, iv v3), (4, iv v4)] [] M := by
    intro  X14_164 hX14_164 n
    induction n with
    | zero => intro v2 v3 v4 M h; exact h.elim
    | succ n ih =>
      intro v2 v3 v4 M h
      exact pC14  (wL_Rworked_14 a1 k  X14_164 n) X14_164 ih hX14_164 v2 v3 v4 M h
  refine g_locals (lv' := [(0, .ref (ad 0)), (1, iv a1)]) rfl ?_
  unfold w_Rworked at h
  refine g_sipush C dR_worked_0 rfl ?_
  refine g_bipush C dR_worked_3 rfl ?_
  refine g_iload_n C dR_worked_5 rfl ?_
  refine g_imul C dR_worked_6 ?_
  refine g_iadd C dR_worked_7 ?_
  refine g_name (fun x2_8 hx2_8 => ?_)
  replace h := h x2_8 hx2_8
  refine g_istore_n C dR_worked_8 (by decide) rfl ?_
  refine g_locals (lv' := [(0, .ref (ad 0)), (1, iv a1), (2, iv x2_8)]) rfl ?_
  refine g_iconst C dR_worked_9 ?_
  refine g_istore_n C dR_worked_10 (by decide) rfl ?_
  refine g_locals (lv' := [(0, .ref (ad 0)), (1, iv a1), (2, iv x2_8), (3, iv 0)]) rfl ?_
  refine g_iconst C dR_worked_11 ?_
  refine g_istore C dR_worked_12 (by decide) rfl ?_
  refine g_locals (lv' := [(0, .ref (ad 0)), (1, iv a1), (2, iv x2_8), (3, iv 0), (4, iv 0)]) rfl ?_
  refine g_locals (lv' := [(0, .ref (ad 0)), (2, iv x2_8), (3, iv 0), (4, iv 0)]) rfl ?_
  obtain ⟨n, h⟩ := h
  refine pL14 _ ?_ n _ _ _ _ h
  · intro  M14 hN
    replace h := hN
    clear hN
    refine g_aload_n C dR_worked_164 rfl ?_
    refine rf_pile C hci dR_worked_165 ?_
    refine g_iconst C dR_worked_168 ?_
    refine g_iald C (n := 64) dR_worked_169 rfl (by decide) ⟨by decide, by decide⟩ ?_
    exact hR _ _ _ _ dR_worked_170 rfl h
