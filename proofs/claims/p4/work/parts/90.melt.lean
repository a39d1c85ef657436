-- melt; the class's years, over any view of a Bronze
theorem moveB_congr {a b e : Int} {B B' : Int → Int} (ha : 0 ≤ a ∧ a ≤ 12) (hb : 0 ≤ b ∧ b ≤ 12) (h : ∀ i, 0 ≤ i → i < 130 → B i = B' i) {i : Int} (h0 : 0 ≤ i) (h1 : i < 130) : moveB a b e B i = moveB a b e B' i := by
  have e1 := h (10 * a + 2) (by omega) (by omega)
  have e2 := h (10 * b + 2) (by omega) (by omega)
  unfold moveB fT fA fH fL
  rw [e1, e2]
  split
  · rw [h (10 * a + (i - 10 * b)) (by omega) (by omega), h (10 * b + (i - 10 * b)) (by omega) (by omega)]
  · split
    · rfl
    · split
      · rw [h (10 * a + (i - 10 * b)) (by omega) (by omega), h (10 * b + (i - 10 * b)) (by omega) (by omega)]
      · split
        · rw [h (10 * a + (i - 10 * a)) (by omega) (by omega)]
        · exact h i h0 h1
theorem moveB_out {a b e : Int} {B : Int → Int} (ha : 0 ≤ a ∧ a ≤ 12) (hb : 0 ≤ b ∧ b ≤ 12) {i : Int} (h : ¬ (0 ≤ i ∧ i < 130)) : moveB a b e B i = B i := by
  unfold moveB
  rw [if_neg (by omega), if_neg (by omega), if_neg (by omega), if_neg (by omega)]
theorem ac_mv {M : gSt} {a b e : Int} (ha : 0 ≤ a ∧ a ≤ 12) (hb : 0 ≤ b ∧ b ≤ 12) : absC (mvC 3 a b e M) = mvC 1 a b e (absC M) := by
  have o : ∀ p, p ≠ 3 → mvC 3 a b e M p = M p := fun p hp => by funext i; simp [mvC, hp]
  have e3 : mvC 3 a b e M 3 = moveB a b e (M 3) := by funext i; simp [mvC]
  funext c i
  by_cases hc : c = 1
  · subst hc
    show msk 130 (mvC 3 a b e M 3) i = moveB a b e (absC M 1) i
    rw [e3]
    by_cases hi : 0 ≤ i ∧ i < 130
    · simp only [msk]
      rw [if_pos hi]
      exact moveB_congr ha hb (fun j h0 h1 => (rc1 M h0 h1).symm) hi.1 hi.2
    · rw [moveB_out ha hb hi]
      simp only [msk, absC]
      rw [if_neg hi, if_neg hi]
  · rw [show mvC 1 a b e (absC M) c i = absC M c i from by simp [mvC, hc]]
    have : absC (mvC 3 a b e M) c = absC M c := by
      match c, hc with
      | 1, hc => exact absurd rfl hc
      | 0, _ => simp [absC, o]
      | 2, _ => simp [absC, o]
      | 3, _ => simp [absC, o]
      | 4, _ => simp [absC, o]
      | 5, _ => simp [absC, o]
      | 6, _ => simp [absC, o]
      | 7, _ => simp [absC, o]
      | 8, _ => simp [absC, o]
      | 9, _ => simp [absC, o]
      | 10, _ => simp [absC, o]
      | 11, _ => simp [absC, o]
      | 12, _ => simp [absC, o]
      | 13, _ => simp [absC, o]
      | 14, _ => simp [absC, o]
      | 15, _ => simp [absC, o]
      | 16, _ => simp [absC, o]
      | 17, _ => simp [absC, o]
      | 18, _ => simp [absC, o]
      | 19, _ => simp [absC, o]
      | 20, _ => simp [absC, o]
      | 21, _ => simp [absC, o]
      | 22, _ => simp [absC, o]
      | 23, _ => simp [absC, o]
      | 24, _ => simp [absC, o]
      | 25, _ => simp [absC, o]
      | n + 26, _ => rfl
    rw [this]
theorem thOk_congr {B B' : Int → Int} {b : Int} (h : ∀ w, 0 ≤ w → w ≤ 9 → B (b + w) = B' (b + w)) (q : thOk B' b) : thOk B b := by
  unfold thOk at q ⊢
  rw [h 0 (by decide) (by decide), h 1 (by decide) (by decide), h 2 (by decide) (by decide), h 3 (by decide) (by decide), h 4 (by decide) (by decide), h 5 (by decide) (by decide), h 6 (by decide) (by decide), h 7 (by decide) (by decide), h 8 (by decide) (by decide), h 9 (by decide) (by decide)]
  exact q
theorem thC {M : gSt} {t : Int} (ht : 0 ≤ t ∧ t ≤ 12) (T : thOk (absC M 1) (10 * t)) : thOk (M 3) (10 * t) :=
  thOk_congr (fun w h0 h1 => (rc1 M (by omega) (by omega)).symm) T
theorem cK_o {M M' : gSt} {b : Nat} (h : cK M) (hb : (cRows.all fun q => q.1 != b) = true) (h53 : 53 ≠ b) (e : ∀ o, o ≠ b → ∀ i, M' o i = M o i) : cK M' := by
  refine ⟨fun q hq => ?_, ?_⟩
  · have : q.1 ≠ b := by
      have := List.all_eq_true.mp hb q hq
      simpa using this
    rw [e _ this, e _ this]
    exact h.1 q hq
  · rw [e 53 h53]
    exact h.2
theorem cK_o2 {M M' : gSt} (h : cK M) (e : ∀ p i, p ≠ 2 + 1 → ¬ (p = 2 ∧ (i = 3 ∨ i = 4)) → M' p i = M p i) : cK M' := by
  refine ⟨fun q hq => ?_, ?_⟩
  · have hb : q.1 ≠ 2 + 1 ∧ q.1 ≠ 2 := by
      simp only [cRows, List.mem_cons, List.not_mem_nil, or_false] at hq
      rcases hq with rfl | rfl | rfl | rfl | rfl | rfl | rfl | rfl | rfl | rfl | rfl | rfl | rfl | rfl | rfl | rfl | rfl | rfl <;> decide
    rw [e _ _ hb.1 (fun z => hb.2 z.1), e _ _ hb.1 (fun z => hb.2 z.1)]
    exact h.1 q hq
  · rw [e 53 3 (by decide) (fun z => absurd z.1 (by decide))]
    exact h.2
def S_melt (t e : Int) (σ : gSt) : Int × gSt :=
  if ¬ ((0 ≤ t ∧ t < σ 0 0) ∧ (1 ≤ e ∧ e ≤ 8)) then S_err σ 1 else if σ 1 (10 * t + 2) = 0 then S_err σ 3 else (mvC 1 t 12 e σ 1 (10 * 12 + 2), mvC 1 t 12 e σ)
theorem sR_melt {a1 a2 : Int} {M : gSt} {k : Int → gSt → Prop} (i1 : inI a1) (i2 : inI a2) (I : iN (absR M)) (J : iB (absR M)) (h : ∀ M', absR M' = (S_melt a1 a2 (absR M)).2 → fr M M' → k (S_melt a1 a2 (absR M)).1 M') : w_Rmelt a1 a2 M k := by
  have hx := iN_t I
  unfold iN at I
  unfold w_Rmelt wB_Rmelt_18
  refine sp_RisThing i1 ⟨by omega, by omega⟩ (fun h1 => z1 ?_) (fun h1 => z0 (errL (by decide) (by decide) (if_pos (fun q => h1 q.1)) h))
  refine sp_Rin i2 (by constructor <;> decide) (by constructor <;> decide) (fun h2 => z1n ?_) (fun h2 => z0n (errL (by decide) (by decide) (if_pos (fun q => h2 q.2)) h))
  have hc : ¬ ¬ ((0 ≤ a1 ∧ a1 < absR M 0 0) ∧ (1 ≤ a2 ∧ a2 ≤ 8)) := fun q => q ⟨h1, h2⟩
  have T := J a1 (by omega) (by omega)
  refine sp_Rits ⟨by omega, by omega⟩ (by decide) ?_
  have g : 0 ≤ absR M 1 (10 * a1 + 2) ∧ absR M 1 (10 * a1 + 2) ≤ 9999999 := by unfold thOk at T; omega
  rw [wI (x := absR M 1 (10 * a1 + 2)) ⟨by omega, by omega⟩]
  refine ⟨fun nz => ?_, fun z => errL (by decide) (by decide) ((if_neg hc).trans (if_pos z)) h⟩
  have hS : S_melt a1 a2 (absR M) = _ := (if_neg hc).trans (if_neg nz)
  rw [hS] at h
  refine sp_Rmoves ⟨by omega, by omega⟩ (by decide) (by omega) h2 hx T (J 12 (by decide) (by decide)) (fun M1 A1 O1 F1 => ?_)
  refine sp_Rits (by decide) (by decide) ?_
  rw [A1]
  exact h M1 A1 F1
theorem sC_melt {a1 a2 : Int} {M : gSt} {k : Int → gSt → Prop} (i1 : inI a1) (i2 : inI a2) (I : iN (absC M)) (J : iB (absC M)) (hK : cK M) (h : ∀ M', absC M' = (S_melt a1 a2 (absC M)).2 → cK M' → k (S_melt a1 a2 (absC M)).1 M') : w_X8_melt a1 a2 M k := by
  unfold iN at I
  have n0 := rc00 M
  unfold w_X8_melt wB_X8_melt_24
  refine sp_has0 pl_2 i1 ⟨by omega, by omega⟩ (fun h1 => z1 ?_) (fun h1 => z0 (errC (by decide) (by decide) hK (if_pos (fun q => h1 (by omega))) h))
  refine sp_within i2 (by constructor <;> decide) (by constructor <;> decide) (fun h2 => z1n ?_) (fun h2 => z0n (errC (by decide) (by decide) hK (if_pos (fun q => h2 q.2)) h))
  have hc : ¬ ¬ ((0 ≤ a1 ∧ a1 < absC M 0 0) ∧ (1 ≤ a2 ∧ a2 ≤ 8)) := fun q => q ⟨by omega, h2⟩
  have T := J a1 (by omega) (by omega)
  refine sp_number pl_2 rfl ⟨by omega, by omega⟩ (by decide) ?_
  rw [← rc1 M (i := 10 * a1 + 2) (by omega) (by omega)]
  have g : 0 ≤ absC M 1 (10 * a1 + 2) ∧ absC M 1 (10 * a1 + 2) ≤ 9999999 := by unfold thOk at T; omega
  rw [wI (x := absC M 1 (10 * a1 + 2)) ⟨by omega, by omega⟩]
  refine ⟨fun nz => ?_, fun z => errC (by decide) (by decide) hK ((if_neg hc).trans (if_pos z)) h⟩
  have hS : S_melt a1 a2 (absC M) = _ := (if_neg hc).trans (if_neg nz)
  rw [hS] at h
  refine sp_pour pl_2 rfl ⟨by omega, by omega⟩ (by decide) (by omega) h2 (thC ⟨by omega, by omega⟩ T) (thC (by decide) (J 12 (by decide) (by decide))) ?_
  refine sp_number pl_2 rfl (by decide) (by decide) ?_
  have A : absC (mvC (2 + 1) a1 12 a2 M) = mvC 1 a1 12 a2 (absC M) := ac_mv ⟨by omega, by omega⟩ (by decide)
  have := h _ A (cK_o hK (b := 2 + 1) (by decide) (by decide) (fun o ho i => by simp [mvC, ho]))
  rw [← A, rc1 _ (by decide) (by decide)] at this
  exact this
/-- what of a memory is seen as a Bronze's numbers -/
def isV (o : Nat) (V : gSt → gSt) : Prop := (∀ M x, V (wr M o 4 x) = up1 (V M) 0 8 x) ∧ (∀ M x, V (wr M o 3 x) = up1 (V M) 0 5 x) ∧ (∀ M i x, 0 ≤ i → i < 130 → V (wr M (o + 1) i x) = up1 (V M) 1 i x) ∧ (∀ M, V M 0 0 = M o 1) ∧ (∀ M, V M 0 8 = M o 4) ∧ (∀ M, V M 0 5 = M o 3) ∧ (∀ M i, 0 ≤ i → i < 130 → V M 1 i = M (o + 1) i)
theorem isV_2 : isV 2 absC := ⟨fun _ _ => ac_2_4, fun _ _ => ac_2_3, fun _ _ _ h0 h1 => ac_3 h0 h1, rc00, rc08, rc05, fun M _ h0 h1 => rc1 M h0 h1⟩
def bzV (o : Nat) (M : gSt) : gSt := fun c i => if c = 0 then (if i = 0 then M o 1 else if i = 5 then M o 3 else if i = 8 then M o 4 else 0) else if c = 1 then (if 0 ≤ i ∧ i < 130 then M (o + 1) i else 0) else 0
theorem isV_b (o : Nat) : isV o (bzV o) := by
  refine ⟨fun M x => ?_, fun M x => ?_, fun M i x h0 h1 => ?_, fun M => ?_, fun M => ?_, fun M => ?_, fun M i h0 h1 => ?_⟩
  · funext c j
    by_cases hc : c = 0
    · subst hc
      by_cases h8 : j = 8
      · subst h8; simp [bzV, up1, wr]
      · simp [bzV, up1, wr, h8]
    · simp [bzV, up1, wr, hc]
  · funext c j
    by_cases hc : c = 0
    · subst hc
      by_cases h8 : j = 5
      · subst h8; simp [bzV, up1, wr]
      · simp [bzV, up1, wr, h8]
    · simp [bzV, up1, wr, hc]
  · funext c j
    by_cases hc : c = 1
    · subst hc
      by_cases hj : j = i
      · subst hj; simp [bzV, up1, wr, h0, h1]
      · simp [bzV, up1, wr, hj]
    · by_cases hz : c = 0
      · subst hz; simp [bzV, up1, wr]
      · simp [bzV, up1, wr, hc, hz]
  · simp [bzV]
  · simp [bzV]
  · simp [bzV]
  · simp [bzV, h0, h1]
