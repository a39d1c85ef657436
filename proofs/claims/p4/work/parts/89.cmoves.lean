-- the class: quotients, parts, pour, lose, casts, years
theorem sp_quot {v y : Int} {M : gSt} {k : Int → gSt → Prop} (hv : 0 ≤ v ∧ v ≤ 9000000000000000000) (hy : 0 ≤ y ∧ y ≤ 9000000000000000000) (h : k (qz v y) M) : w_X8_quotient v y M k := by
  unfold w_X8_quotient
  rw [ycmpE ⟨by omega, by omega⟩ ⟨by omega, by omega⟩, wrapL_in (x := v) (by omega) (by omega), wrapL_in (x := y) (by omega) (by omega), tdiv_pos hv.1]
  unfold qz at h
  refine ⟨fun z => ⟨fun e => ?_, ?_⟩, fun z => ?_⟩
  · rw [e] at z
    exact z (by decide)
  · rw [if_neg (fun e => by rw [e] at z; exact z (by decide))] at h
    exact h
  · have e0 : y = 0 := by
      split at z
      · exact absurd z (by decide)
      · split at z
        · assumption
        · exact absurd z (by decide)
    rw [if_pos e0] at h
    exact h
theorem sp_partOf {o : Nat} {t w p q : Int} {M : gSt} {k : Int → gSt → Prop} (hb : isBronze o) (hl : lenC (o + 1) = 130) (ht : 0 ≤ t ∧ t ≤ 12) (hw : 0 ≤ w ∧ w ≤ 9) (hp : 0 ≤ p ∧ p ≤ 100) (hq : 1 ≤ q ∧ q ≤ 100) (hv : 0 ≤ M (o + 1) (10 * t + w) ∧ M (o + 1) (10 * t + w) ≤ 9999999) (h : k (M (o + 1) (10 * t + w) * p / q) M) : w_X0_partOf o t w p q M k := by
  have pr := prod_rng hv hp
  unfold w_X0_partOf
  refine ⟨hb, sp_number hb hl ht hw ?_⟩
  rw [wI (x := M (o + 1) (10 * t + w)) ⟨by omega, by omega⟩, wI (x := p) ⟨by omega, by omega⟩, wI (x := q) ⟨by omega, by omega⟩]
  refine sp_quot ⟨pr.1, by omega⟩ ⟨by omega, by omega⟩ ?_
  unfold qz
  rw [if_neg (by omega)]
  exact h
/-- GRAMS and TRACES lose a part -/
theorem sp_lose {o : Nat} {t p q : Int} {M : gSt} {k : gSt → Prop} (hb : isBronze o) (hl : lenC (o + 1) = 130) (ht : 0 ≤ t ∧ t ≤ 12) (hp : 0 ≤ p ∧ p ≤ 100) (hq : 1 ≤ q ∧ q ≤ 100) (hv : ∀ w, 2 ≤ w → w ≤ 5 → 0 ≤ M (o + 1) (10 * t + w) ∧ M (o + 1) (10 * t + w) ≤ 9999999) (h : k (setW M (o + 1) t 2 6 (fL t p q (M (o + 1))))) : w_X0_lose o t p q M k := by
  unfold w_X0_lose
  refine ⟨hb, 5, ?_⟩
  have loop : ∀ (d : Nat) (j : Int) (M1 : gSt), (d : Int) = 6 - j → 2 ≤ j → M1 = setW M (o + 1) t 2 j (fL t p q (M (o + 1))) → ∀ f : Nat, d < f → wL_X0_lose_3 o t p q k (fun M3 => k M3) f j M1 := by
    intro d
    induction d with
    | zero =>
      intro j M1 hd hj A f hf
      obtain ⟨f, rfl⟩ : ∃ g, f = g + 1 := ⟨f - 1, by omega⟩
      have ej : j = 6 := by omega
      subst ej
      simp only [wL_X0_lose_3, wC_X0_lose_3]
      exact ⟨fun _ => by rw [A]; exact h, fun z => absurd z (by decide)⟩
    | succ d ih =>
      intro j M1 hd hj A f hf
      obtain ⟨f, rfl⟩ : ∃ g, f = g + 1 := ⟨f - 1, by omega⟩
      simp only [wL_X0_lose_3, wC_X0_lose_3]
      rw [wI (x := j) ⟨by omega, by omega⟩]
      refine ⟨fun z => absurd z (by omega), fun _ => ?_⟩
      have r : M1 (o + 1) (10 * t + j) = M (o + 1) (10 * t + j) := by rw [A, setW_n (by omega)]
      have v := hv j (by omega) (by omega)
      refine sp_number hb hl ht ⟨by omega, by omega⟩ (sp_partOf hb hl ht ⟨by omega, by omega⟩ hp hq (by rw [r]; exact v) (sp_become hb hl ht ⟨by omega, by omega⟩ ?_))
      rw [r]
      refine ih (j + 1) _ (by omega) (by omega) ?_ f (by omega)
      rw [A]
      exact setW_s (by omega)
  exact loop 4 2 M (by omega) (by omega) setW_0.symm 5 (by omega)
theorem xmin_in {x y : Int} (hx : inI x) (hy : inI y) : xmin x y = if y < x then y else x := by
  unfold xmin
  rw [wI hx, wI hy]
theorem xmax_in {x y : Int} (hx : inI x) (hy : inI y) : xmax x y = if x < y then y else x := by
  unfold xmax
  rw [wI hx, wI hy]
theorem sp_pour {o : Nat} {a b e : Int} {M : gSt} {k : gSt → Prop} (hb' : isBronze o) (hl : lenC (o + 1) = 130) (ha : 0 ≤ a ∧ a ≤ 12) (hb : 0 ≤ b ∧ b ≤ 12) (hab : a ≠ b) (he : 1 ≤ e ∧ e ≤ 8) (TA : thOk (M (o + 1)) (10 * a)) (TB : thOk (M (o + 1)) (10 * b)) (h : k (mvC (o + 1) a b e M)) : w_X0_pour o a b e M k := by
  have va : ∀ w, 2 ≤ w → w ≤ 5 → 0 ≤ M (o + 1) (10 * a + w) ∧ M (o + 1) (10 * a + w) ≤ 9999999 := fun w h1 h2 => by
    unfold thOk at TA
    rcases (show w = 2 ∨ w = 3 ∨ w = 4 ∨ w = 5 by omega) with rfl | rfl | rfl | rfl <;> omega
  have vb : ∀ w, 2 ≤ w → w ≤ 5 → 0 ≤ M (o + 1) (10 * b + w) ∧ M (o + 1) (10 * b + w) ≤ 9999999 := fun w h1 h2 => by
    unfold thOk at TB
    rcases (show w = 2 ∨ w = 3 ∨ w = 4 ∨ w = 5 by omega) with rfl | rfl | rfl | rfl <;> omega
  have ua : ∀ w, 6 ≤ w → w ≤ 9 → 0 ≤ M (o + 1) (10 * a + w) ∧ M (o + 1) (10 * a + w) ≤ 1000000 := fun w h1 h2 => by
    unfold thOk at TA
    rcases (show w = 6 ∨ w = 7 ∨ w = 8 ∨ w = 9 by omega) with rfl | rfl | rfl | rfl <;> omega
  have ub : ∀ w, 6 ≤ w → w ≤ 9 → 0 ≤ M (o + 1) (10 * b + w) ∧ M (o + 1) (10 * b + w) ≤ 1000000 := fun w h1 h2 => by
    unfold thOk at TB
    rcases (show w = 6 ∨ w = 7 ∨ w = 8 ∨ w = 9 by omega) with rfl | rfl | rfl | rfl <;> omega
  have ga := va 2 (by decide) (by decide)
  have pr := part_rng ga he
  have ow := vb 2 (by decide) (by decide)
  unfold w_X0_pour
  refine ⟨hb', sp_partOf hb' hl ha (by decide) ⟨by omega, by omega⟩ (by decide) ga (sp_number hb' hl hb (by decide) ?_)⟩
  generalize hx4 : M (o + 1) (10 * a + 2) * e / 8 = x4 at *
  generalize hx6 : M (o + 1) (10 * b + 2) = x6 at *
  refine ⟨5, ?_⟩
  have fin : ∀ (M1 : gSt), M1 = setW M (o + 1) b 6 10 (fH a b e (M (o + 1))) → ∀ x6_95 : Int, x6_95 = xmin 9999999 (x6 + x4) → (w_X0_become o b 2 x6_95 M1 (fun M102 => ∃ n, wL_X0_pour_108 o a b e k (fun M108 => w_X0_lose o a e 8 M108 (fun M160 => k M160)) n x6_95 3 M102)) := by
    intro M1 A1 s0 es0
    rw [xmin_in (by constructor <;> decide) ⟨by omega, by omega⟩] at es0
    have hs0 : s0 = fA a b e (M (o + 1)) := by
      rw [es0]
      unfold fA cap
      rw [hx4, hx6]
      split <;> split <;> omega
    have r0 : 0 ≤ s0 ∧ s0 ≤ 9999999 := by rw [es0]; split <;> omega
    refine sp_become hb' hl hb (by decide) ⟨4, ?_⟩
    have loop : ∀ (d : Nat) (j : Int) (M3 : gSt), (d : Int) = 6 - j → 3 ≤ j → M3 = setW (wr M1 (o + 1) (10 * b + 2) s0) (o + 1) b 3 j (fT a b e (M (o + 1))) → ∀ f : Nat, d < f → wL_X0_pour_108 o a b e k (fun M108 => w_X0_lose o a e 8 M108 (fun M160 => k M160)) f s0 j M3 := by
      intro d
      induction d with
      | zero =>
        intro j M3 hd hj A3 f hf
        obtain ⟨f, rfl⟩ : ∃ g, f = g + 1 := ⟨f - 1, by omega⟩
        have ej : j = 6 := by omega
        subst ej
        simp only [wL_X0_pour_108, wC_X0_pour_108]
        refine ⟨fun _ => ?_, fun z => absurd z (by decide)⟩
        have rd : ∀ w, 0 ≤ w → w ≤ 9 → M3 (o + 1) (10 * a + w) = M (o + 1) (10 * a + w) := fun w h1 h2 => by
          rw [A3, setW_o hab ⟨h1, h2⟩ (by decide), wrN (by omega), A1, setW_o hab ⟨h1, h2⟩ (by decide)]
        refine sp_lose hb' hl ha ⟨by omega, by omega⟩ (by decide) (fun w h1 h2 => by rw [rd w (by omega) (by omega)]; exact va w h1 h2) ?_
        have e2 : setW M3 (o + 1) a 2 6 (fL a e 8 (M3 (o + 1))) = mvC (o + 1) a b e M := by
          rw [setW_fc (g := fL a e 8 (M (o + 1))) (fun w h1 h2 => by unfold fL; rw [rd w (by omega) (by omega)]), A3, A1, hs0]
          funext p i
          unfold mvC moveB
          simp only [setW, wr]
          repeat' split
          all_goals first | rfl | omega | (congr 1 <;> omega)
        rw [e2]
        exact h
      | succ d ih =>
        intro j M3 hd hj A3 f hf
        obtain ⟨f, rfl⟩ : ∃ g, f = g + 1 := ⟨f - 1, by omega⟩
        simp only [wL_X0_pour_108, wC_X0_pour_108]
        rw [wI (x := j) ⟨by omega, by omega⟩]
        refine ⟨fun z => absurd z (by omega), fun _ => ?_⟩
        have ra : M3 (o + 1) (10 * a + j) = M (o + 1) (10 * a + j) := by
          rw [A3, setW_o hab (by omega) (by omega), wrN (by omega), A1, setW_o hab (by omega) (by decide)]
        have rb : M3 (o + 1) (10 * b + j) = M (o + 1) (10 * b + j) := by
          rw [A3, setW_n (by omega), wrN (by omega), A1, setW_n (by omega)]
        have gj := va j (by omega) (by omega)
        have pj := part_rng gj he
        have gb := vb j (by omega) (by omega)
        refine sp_number hb' hl hb ⟨by omega, by omega⟩ (sp_partOf hb' hl ha ⟨by omega, by omega⟩ ⟨by omega, by omega⟩ (by decide) (by rw [ra]; exact gj) (fun x ex => ?_))
        rw [ra, rb] at ex
        refine sp_become hb' hl hb ⟨by omega, by omega⟩ ?_
        refine ih (j + 1) _ (by omega) (by omega) ?_ f (by omega)
        have eT : xmin s0 x = fT a b e (M (o + 1)) j := by
          rw [xmin_in ⟨by omega, by omega⟩ ⟨by omega, by omega⟩]
          unfold fT cap
          rw [← hs0, ex]
          split <;> split <;> omega
        rw [eT, A3]
        exact setW_s (by omega)
    exact loop 3 3 _ (by omega) (by omega) setW_0.symm 4 (by omega)
  have loop : ∀ (d : Nat) (j : Int) (M1 : gSt), (d : Int) = 10 - j → 6 ≤ j → M1 = setW M (o + 1) b 6 j (fH a b e (M (o + 1))) → ∀ f : Nat, d < f → wL_X0_pour_23 o a b e k (fun u4_23 u5_23 M23 => ∀ x6_95 : Int, x6_95 = xmin 9999999 (u5_23 + u4_23) → (w_X0_become o b 2 x6_95 M23 (fun M102 => ∃ n, wL_X0_pour_108 o a b e k (fun M108 => w_X0_lose o a e 8 M108 (fun M160 => k M160)) n x6_95 3 M102))) f x4 x6 j M1 := by
    intro d
    induction d with
    | zero =>
      intro j M1 hd hj A1 f hf
      obtain ⟨f, rfl⟩ : ∃ g, f = g + 1 := ⟨f - 1, by omega⟩
      have ej : j = 10 := by omega
      subst ej
      simp only [wL_X0_pour_23, wC_X0_pour_23]
      exact ⟨fun _ => fin M1 A1, fun z => absurd z (by decide)⟩
    | succ d ih =>
      intro j M1 hd hj A1 f hf
      obtain ⟨f, rfl⟩ : ∃ g, f = g + 1 := ⟨f - 1, by omega⟩
      simp only [wL_X0_pour_23, wC_X0_pour_23]
      rw [wI (x := j) ⟨by omega, by omega⟩, wI (x := x4) ⟨by omega, by omega⟩, wI (x := x6) ⟨by omega, by omega⟩, wI (x := x4 + x6) ⟨by omega, by omega⟩]
      refine ⟨fun z => absurd z (by omega), fun _ => ?_⟩
      have ra : M1 (o + 1) (10 * a + j) = M (o + 1) (10 * a + j) := by rw [A1, setW_o hab (by omega) (by omega)]
      have rb : M1 (o + 1) (10 * b + j) = M (o + 1) (10 * b + j) := by rw [A1, setW_n (by omega)]
      have ha' := ua j (by omega) (by omega)
      have hb2 := ub j (by omega) (by omega)
      refine sp_number hb' hl ha ⟨by omega, by omega⟩ (fun x ex => sp_number hb' hl hb ⟨by omega, by omega⟩ (fun y ey => ?_))
      rw [ra, wI (x := M (o + 1) (10 * a + j)) ⟨by omega, by omega⟩] at ex
      rw [rb, wI (x := M (o + 1) (10 * b + j)) ⟨by omega, by omega⟩] at ey
      have m1 := prod_rng (x := x4) (y := M (o + 1) (10 * a + j)) (m := 9999999) (n := 1000000) ⟨by omega, by omega⟩ ha'
      have m2 := prod_rng (x := x6) (y := M (o + 1) (10 * b + j)) (m := 9999999) (n := 1000000) ⟨by omega, by omega⟩ hb2
      refine sp_quot ⟨by omega, by omega⟩ ⟨by omega, by omega⟩ (sp_become hb' hl hb ⟨by omega, by omega⟩ ?_)
      refine ih (j + 1) _ (by omega) (by omega) ?_ f (by omega)
      have eH : qz (x + y) (x4 + x6) = fH a b e (M (o + 1)) j := by
        unfold fH
        rw [hx4, hx6, ex, ey]
      rw [eH, A1]
      exact setW_s (by omega)
  exact loop 4 6 M (by omega) (by omega) setW_0.symm 5 (by omega)
