section
-- moves of a part of one into another: both sides, on the cells
theorem ycmpE {x y : Int} (hx : -9223372036854775808 ≤ x ∧ x < 9223372036854775808) (hy : -9223372036854775808 ≤ y ∧ y < 9223372036854775808) : wrap (ycmp x y) = if y < x then 1 else if x = y then 0 else -1 := by
  unfold ycmp
  rw [wrapL_in hx.1 hx.2, wrapL_in hy.1 hy.2]
  split
  · decide
  · split <;> decide
def qz (x y : Int) : Int := if y = 0 then 0 else x / y
def cap (x y : Int) : Int := if y < x then y else x
def setW (σ : gSt) (c : Nat) (b lo hi : Int) (f : Int → Int) : gSt := fun p i => if p = c ∧ 10 * b + lo ≤ i ∧ i < 10 * b + hi then f (i - 10 * b) else σ p i
theorem setW_0 {σ : gSt} {c : Nat} {b lo : Int} {f : Int → Int} : setW σ c b lo lo f = σ := by
  funext p i
  unfold setW
  rw [if_neg (by omega)]
theorem setW_s {σ : gSt} {c : Nat} {b lo j : Int} {f : Int → Int} (h : lo ≤ j) : wr (setW σ c b lo j f) c (10 * b + j) (f j) = setW σ c b lo (j + 1) f := by
  funext p i
  unfold wr setW
  by_cases e : p = c ∧ i = 10 * b + j
  · rw [if_pos e, if_pos ⟨e.1, by omega, by omega⟩, e.2, show 10 * b + j - 10 * b = j from by omega]
  · rw [if_neg e]
    by_cases q : p = c ∧ 10 * b + lo ≤ i ∧ i < 10 * b + j
    · rw [if_pos q, if_pos ⟨q.1, q.2.1, by omega⟩]
    · rw [if_neg q, if_neg (fun z => q ⟨z.1, z.2.1, by
        have : i ≠ 10 * b + j := fun y => e ⟨z.1, y⟩
        omega⟩)]
theorem setW_o {σ : gSt} {c : Nat} {b lo hi : Int} {f : Int → Int} {a w : Int} (hab : a ≠ b) (hw : 0 ≤ w ∧ w ≤ 9) (hl : 0 ≤ lo ∧ hi ≤ 10) : setW σ c b lo hi f c (10 * a + w) = σ c (10 * a + w) := by
  unfold setW
  rw [if_neg (by omega)]
theorem setW_n {σ : gSt} {c : Nat} {b lo hi : Int} {f : Int → Int} {w : Int} (hw : w < lo ∨ hi ≤ w) : setW σ c b lo hi f c (10 * b + w) = σ c (10 * b + w) := by
  unfold setW
  rw [if_neg (by omega)]
theorem setW_fc {σ : gSt} {c : Nat} {b lo hi : Int} {f g : Int → Int} (h : ∀ w, lo ≤ w → w < hi → f w = g w) : setW σ c b lo hi f = setW σ c b lo hi g := by
  funext p i
  unfold setW
  by_cases q : p = c ∧ 10 * b + lo ≤ i ∧ i < 10 * b + hi
  · rw [if_pos q, if_pos q]
    exact h _ (by omega) (by omega)
  · rw [if_neg q, if_neg q]
theorem setW_c {σ : gSt} {c p : Nat} {b lo hi : Int} {f : Int → Int} (h : p ≠ c) : setW σ c b lo hi f p = σ p := by
  funext i
  unfold setW
  rw [if_neg (fun z => h z.1)]
def fH (a b e : Int) (B : Int → Int) (w : Int) : Int := qz (B (10 * a + 2) * e / 8 * B (10 * a + w) + B (10 * b + 2) * B (10 * b + w)) (B (10 * a + 2) * e / 8 + B (10 * b + 2))
def fA (a b e : Int) (B : Int → Int) : Int := cap (B (10 * a + 2) * e / 8 + B (10 * b + 2)) 9999999
def fT (a b e : Int) (B : Int → Int) (w : Int) : Int := cap (B (10 * b + w) + B (10 * a + w) * e / 8) (fA a b e B)
def fL (a p q : Int) (B : Int → Int) (w : Int) : Int := B (10 * a + w) - B (10 * a + w) * p / q
def moveB (a b e : Int) (B : Int → Int) : Int → Int := fun i =>
  if 10 * b + 6 ≤ i ∧ i < 10 * b + 10 then fH a b e B (i - 10 * b) else if i = 10 * b + 2 then fA a b e B else if 10 * b + 3 ≤ i ∧ i < 10 * b + 6 then fT a b e B (i - 10 * b) else if 10 * a + 2 ≤ i ∧ i < 10 * a + 6 then fL a e 8 B (i - 10 * a) else B i
def mvC (c : Nat) (a b e : Int) (σ : gSt) : gSt := fun p i => if p = c then moveB a b e (σ c) i else σ p i
theorem part_rng {g e : Int} (hg : 0 ≤ g ∧ g ≤ 9999999) (he : 1 ≤ e ∧ e ≤ 8) : 0 ≤ g * e ∧ g * e ≤ 79999992 ∧ 0 ≤ g * e / 8 ∧ g * e / 8 ≤ g := by
  have h1 : 0 ≤ g * e := Int.mul_nonneg hg.1 (by omega)
  have h2 : g * e ≤ g * 8 := Int.mul_le_mul_of_nonneg_left he.2 hg.1
  omega
theorem prod_rng {x y m n : Int} (hx : 0 ≤ x ∧ x ≤ m) (hy : 0 ≤ y ∧ y ≤ n) : 0 ≤ x * y ∧ x * y ≤ m * n := by
  refine ⟨Int.mul_nonneg hx.1 hy.1, ?_⟩
  have h1 : x * y ≤ m * y := Int.mul_le_mul_of_nonneg_right hx.2 hy.1
  have h2 : m * y ≤ m * n := Int.mul_le_mul_of_nonneg_left hy.2 (by omega)
  omega
/-- a quotient of a weighted sum lies between 0 and the greatest weight's value -/
theorem qz_rng {x y u v n : Int} (hx : 0 ≤ x) (hy : 0 ≤ y) (hu : 0 ≤ u ∧ u ≤ n) (hv : 0 ≤ v ∧ v ≤ n) : 0 ≤ qz (x * u + y * v) (x + y) ∧ qz (x * u + y * v) (x + y) ≤ n := by
  unfold qz
  split
  · omega
  · rename_i h
    have h1 : 0 ≤ x * u := Int.mul_nonneg hx hu.1
    have h2 : 0 ≤ y * v := Int.mul_nonneg hy hv.1
    have h3 : x * u ≤ x * n := Int.mul_le_mul_of_nonneg_left hu.2 hx
    have h4 : y * v ≤ y * n := Int.mul_le_mul_of_nonneg_left hv.2 hy
    have h5 : x * u + y * v ≤ n * (x + y) := by
      rw [Int.mul_add, Int.mul_comm n x, Int.mul_comm n y]
      omega
    refine ⟨Int.ediv_nonneg (by omega) (by omega), ?_⟩
    exact Int.ediv_le_of_le_mul (by omega) h5
theorem sp_Rmoves {a b e : Int} {M : gSt} {k : gSt → Prop} (ha : 0 ≤ a ∧ a ≤ 12) (hb : 0 ≤ b ∧ b ≤ 12) (hab : a ≠ b) (he : 1 ≤ e ∧ e ≤ 8) (hx : tOk (absR M)) (TA : thOk (absR M 1) (10 * a)) (TB : thOk (absR M 1) (10 * b)) (h : ∀ M', absR M' = mvC 1 a b e (absR M) → onlyS M M' → fr M M' → k M') : w_Rmoves a b e M k := by
  have tx : ∀ {τ : gSt} {c : Nat} {b lo hi : Int} {f : Int → Int}, tOk τ → c ≠ 0 → tOk (setW τ c b lo hi f) := fun ht hc => by
    unfold tOk at ht ⊢
    rw [setW_c (Ne.symm hc)]
    exact ht
  have va : ∀ w, 2 ≤ w → w ≤ 5 → 0 ≤ absR M 1 (10 * a + w) ∧ absR M 1 (10 * a + w) ≤ 9999999 := fun w h1 h2 => by
    unfold thOk at TA
    rcases (show w = 2 ∨ w = 3 ∨ w = 4 ∨ w = 5 by omega) with rfl | rfl | rfl | rfl <;> omega
  have vb : ∀ w, 2 ≤ w → w ≤ 5 → 0 ≤ absR M 1 (10 * b + w) ∧ absR M 1 (10 * b + w) ≤ 9999999 := fun w h1 h2 => by
    unfold thOk at TB
    rcases (show w = 2 ∨ w = 3 ∨ w = 4 ∨ w = 5 by omega) with rfl | rfl | rfl | rfl <;> omega
  have ua : ∀ w, 6 ≤ w → w ≤ 9 → 0 ≤ absR M 1 (10 * a + w) ∧ absR M 1 (10 * a + w) ≤ 1000000 := fun w h1 h2 => by
    unfold thOk at TA
    rcases (show w = 6 ∨ w = 7 ∨ w = 8 ∨ w = 9 by omega) with rfl | rfl | rfl | rfl <;> omega
  have ub : ∀ w, 6 ≤ w → w ≤ 9 → 0 ≤ absR M 1 (10 * b + w) ∧ absR M 1 (10 * b + w) ≤ 1000000 := fun w h1 h2 => by
    unfold thOk at TB
    rcases (show w = 6 ∨ w = 7 ∨ w = 8 ∨ w = 9 by omega) with rfl | rfl | rfl | rfl <;> omega
  have pr := part_rng (va 2 (by decide) (by decide)) he
  have ow := vb 2 (by decide) (by decide)
  unfold w_Rmoves
  refine sp_Rits ha (by decide) (fun x4 e4 => ?_)
  refine sp_Rits hb (by decide) (fun x6 e6 => ?_)
  have ga := va 2 (by decide) (by decide)
  rw [wI (x := absR M 1 (10 * a + 2)) ⟨by omega, by omega⟩, wI (x := e) ⟨by omega, by omega⟩, wrapL_in (by omega) (by omega), tdiv_pos pr.1] at e4
  rw [wI (x := absR M 1 (10 * b + 2)) ⟨by omega, by omega⟩] at e6
  generalize hσ : absR M = σ at *
  refine ⟨5, ?_⟩
  have q4 : x4 = σ 1 (10 * a + 2) * e / 8 := e4
  have q6 : x6 = σ 1 (10 * b + 2) := e6
  -- the last rows
  have fin : ∀ (M1 : gSt) (s0 : Int), absR M1 = setW σ 1 b 6 10 (fH a b e (σ 1)) → onlyS M M1 → fr M M1 → s0 = fA a b e (σ 1) → wB_Rmoves_120 a b e k x4 s0 M1 := by
    intro M1 s0 A1 O1 F1 hs0
    have r0 : 0 ≤ s0 ∧ s0 ≤ 9999999 := by rw [hs0]; unfold fA cap; split <;> omega
    unfold wB_Rmoves_120
    have x1 : tOk (absR M1) := by rw [A1]; exact tx hx (by decide)
    refine sp_Rlays1 hb (by decide) x1 (fun M2 A2 O2 F2 => ⟨4, ?_⟩)
    rw [A1] at A2
    have loop : ∀ (d : Nat) (j : Int) (M3 : gSt), (d : Int) = 6 - j → 3 ≤ j → absR M3 = setW (setW (absR M2) 1 a 3 j (fL a e 8 (σ 1))) 1 b 3 j (fT a b e (σ 1)) → onlyS M M3 → fr M M3 → ∀ f : Nat, d < f → wL_Rmoves_134 a b e k (fun u4_134 M134 => w_Rits a 2 M134 (fun r210c M210 => w_Rlays1 a 2 (r210c - u4_134) M210 (fun M217 => k M217))) f x4 s0 j M3 := by
      intro d
      induction d with
      | zero =>
        intro j M3 hd hj A3 O3 F3 f hf
        obtain ⟨f, rfl⟩ : ∃ g, f = g + 1 := ⟨f - 1, by omega⟩
        have ej : j = 6 := by omega
        subst ej
        simp only [wL_Rmoves_134, wC_Rmoves_134]
        refine ⟨fun _ => ?_, fun z => absurd z (by decide)⟩
        refine sp_Rits ha (by decide) ?_
        have rd : absR M3 1 (10 * a + 2) = σ 1 (10 * a + 2) := by
          rw [A3, setW_o hab (by decide) (by decide), setW_n (by decide), A2]
          unfold up1
          rw [wrN (by omega), setW_o hab (by decide) (by decide)]
        rw [rd]
        have x3 : tOk (absR M3) := by rw [A3, A2]; exact tx (tx (tOk_B (tx hx (by decide)) (Or.inl (by decide))) (by decide)) (by decide)
        refine sp_Rlays1 ha (by decide) x3 (fun M4 A4 O4 F4 => h M4 ?_ (onlyS_trans O3 O4) (fr_trans F3 F4))
        rw [A4, A3, A2, q4]
        funext p i
        have f2 : σ 1 (10 * a + 2) - σ 1 (10 * a + 2) * e / 8 = fL a e 8 (σ 1) 2 := rfl
        rw [f2, hs0]
        unfold up1 mvC moveB
        simp only [wr, setW]
        repeat' split
        all_goals first | rfl | omega | (congr 1 <;> omega)
      | succ d ih =>
        intro j M3 hd hj A3 O3 F3 f hf
        obtain ⟨f, rfl⟩ : ∃ g, f = g + 1 := ⟨f - 1, by omega⟩
        simp only [wL_Rmoves_134, wC_Rmoves_134]
        rw [wI (x := j) ⟨by omega, by omega⟩]
        refine ⟨fun z => absurd z (by omega), fun _ => ?_⟩
        have ra : absR M3 1 (10 * a + j) = σ 1 (10 * a + j) := by
          rw [A3, setW_o hab (by omega) (by omega), setW_n (by omega), A2]
          unfold up1
          rw [wrN (by omega), setW_o hab (by omega) (by decide)]
        have gj := va j (by omega) (by omega)
        have pj := part_rng gj he
        have gb := vb j (by omega) (by omega)
        refine sp_Rits ha ⟨by omega, by omega⟩ (fun x ex => ?_)
        rw [ra, wI (x := σ 1 (10 * a + j)) ⟨by omega, by omega⟩, wI (x := e) ⟨by omega, by omega⟩, wrapL_in (by omega) (by omega), tdiv_pos pj.1] at ex
        refine sp_Rits ha ⟨by omega, by omega⟩ ?_
        rw [ra]
        have x3 : tOk (absR M3) := by rw [A3, A2]; exact tx (tx (tOk_B (tx hx (by decide)) (Or.inl (by decide))) (by decide)) (by decide)
        refine sp_Rlays1 ha ⟨by omega, by omega⟩ x3 (fun M4 A4 O4 F4 => ?_)
        have rb : absR M4 1 (10 * b + j) = σ 1 (10 * b + j) := by
          rw [A4]
          unfold up1
          rw [wrN (by omega), A3, setW_n (by omega), setW_o (Ne.symm hab) (by omega) (by omega), A2]
          unfold up1
          rw [wrN (by omega), setW_n (by omega)]
        refine sp_Rits hb ⟨by omega, by omega⟩ ?_
        rw [rb]
        refine sp_Rheld ⟨by omega, by omega⟩ (by constructor <;> decide) ⟨by omega, by omega⟩ ?_
        have x4' : tOk (absR M4) := by rw [A4]; exact tOk_B x3 (Or.inl (by decide))
        refine sp_Rlays1 hb ⟨by omega, by omega⟩ x4' (fun M5 A5 O5 F5 => ?_)
        refine ih (j + 1) M5 (by omega) (by omega) ?_ (onlyS_trans O3 (onlyS_trans O4 O5)) (fr_trans F3 (fr_trans F4 F5)) f (by omega)
        have eT : (if σ 1 (10 * b + j) + x < 0 then 0 else if s0 < σ 1 (10 * b + j) + x then s0 else σ 1 (10 * b + j) + x) = fT a b e (σ 1) j := by
          rw [if_neg (by omega), ex, hs0]
          rfl
        have eL : σ 1 (10 * a + j) - x = fL a e 8 (σ 1) j := by rw [ex]; rfl
        rw [A5, A4, A3, eT, eL]
        funext p i
        unfold up1
        simp only [wr, setW]
        repeat' split
        all_goals first | rfl | omega | (congr 1 <;> omega)
    exact loop 3 3 M2 (by omega) (by omega) (by rw [setW_0, setW_0]) (onlyS_trans O1 O2) (fr_trans F1 F2) 4 (by omega)
  -- the first loop
  have loop : ∀ (d : Nat) (j : Int) (M1 : gSt), (d : Int) = 10 - j → 6 ≤ j → absR M1 = setW σ 1 b 6 j (fH a b e (σ 1)) → onlyS M M1 → fr M M1 → ∀ f : Nat, d < f → wL_Rmoves_29 a b e k (fun u4_29 u6_29 M29 => (wrap (ycmp (u4_29 + u6_29) 9999999) ≤ 0 → wB_Rmoves_120 a b e k u4_29 (u4_29 + u6_29) M29) ∧ (0 < wrap (ycmp (u4_29 + u6_29) 9999999) → wB_Rmoves_120 a b e k u4_29 9999999 M29)) f x4 x6 j M1 := by
    intro d
    induction d with
    | zero =>
      intro j M1 hd hj A1 O1 F1 f hf
      obtain ⟨f, rfl⟩ : ∃ g, f = g + 1 := ⟨f - 1, by omega⟩
      have ej : j = 10 := by omega
      subst ej
      simp only [wL_Rmoves_29, wC_Rmoves_29]
      refine ⟨fun _ => ?_, fun z => absurd z (by decide)⟩
      rw [ycmpE ⟨by omega, by omega⟩ ⟨by omega, by omega⟩]
      refine ⟨fun z => fin M1 _ A1 O1 F1 ?_, fun z => fin M1 _ A1 O1 F1 ?_⟩
      · unfold fA cap
        rw [← q4, ← q6]
        split at z
        · exact absurd z (by decide)
        · rw [if_neg (by omega)]
      · unfold fA cap
        rw [← q4, ← q6]
        split at z
        · rw [if_pos (by omega)]
        · split at z <;> exact absurd z (by decide)
    | succ d ih =>
      intro j M1 hd hj A1 O1 F1 f hf
      obtain ⟨f, rfl⟩ : ∃ g, f = g + 1 := ⟨f - 1, by omega⟩
      simp only [wL_Rmoves_29, wC_Rmoves_29]
      rw [wI (x := j) ⟨by omega, by omega⟩]
      refine ⟨fun z => absurd z (by omega), fun _ => ?_⟩
      have ra : absR M1 1 (10 * a + j) = σ 1 (10 * a + j) := by rw [A1, setW_o hab (by omega) (by omega)]
      have rb : absR M1 1 (10 * b + j) = σ 1 (10 * b + j) := by rw [A1, setW_n (by omega)]
      have ha' := ua j (by omega) (by omega)
      have hb' := ub j (by omega) (by omega)
      refine sp_Rits ha ⟨by omega, by omega⟩ ?_
      refine sp_Rits hb ⟨by omega, by omega⟩ (fun x ex => ?_)
      rw [ra, rb, wI (x := σ 1 (10 * a + j)) ⟨by omega, by omega⟩, wI (x := σ 1 (10 * b + j)) ⟨by omega, by omega⟩] at ex
      have m1 := prod_rng (x := x4) (y := σ 1 (10 * a + j)) (m := 9999999) (n := 1000000) ⟨by omega, by omega⟩ ha'
      have m2 := prod_rng (x := x6) (y := σ 1 (10 * b + j)) (m := 9999999) (n := 1000000) ⟨by omega, by omega⟩ hb'
      have x1 : tOk (absR M1) := by rw [A1]; exact tx hx (by decide)
      have go : ∀ v : Int, v = fH a b e (σ 1) j → wB_Rmoves_88 a b e k (wL_Rmoves_29 a b e k (fun u4_29 u6_29 M29 => (wrap (ycmp (u4_29 + u6_29) 9999999) ≤ 0 → wB_Rmoves_120 a b e k u4_29 (u4_29 + u6_29) M29) ∧ (0 < wrap (ycmp (u4_29 + u6_29) 9999999) → wB_Rmoves_120 a b e k u4_29 9999999 M29)) f) (fun u4_29 u6_29 M29 => (wrap (ycmp (u4_29 + u6_29) 9999999) ≤ 0 → wB_Rmoves_120 a b e k u4_29 (u4_29 + u6_29) M29) ∧ (0 < wrap (ycmp (u4_29 + u6_29) 9999999) → wB_Rmoves_120 a b e k u4_29 9999999 M29)) x4 x6 j v j b M1 := by
        intro v hv
        unfold wB_Rmoves_88
        refine sp_Rlays1 hb ⟨by omega, by omega⟩ x1 (fun M2 A2 O2 F2 => ?_)
        refine ih (j + 1) M2 (by omega) (by omega) ?_ (onlyS_trans O1 O2) (fr_trans F1 F2) f (by omega)
        rw [A2, A1, hv]
        exact setW_s (by omega)
      rw [ycmpE ⟨by omega, by omega⟩ ⟨by omega, by omega⟩, wrapL_in (x := x4 + x6) (by omega) (by omega), wrapL_in (x := x) (by omega) (by omega), tdiv_pos (by omega)]
      refine ⟨fun z => ⟨?_, go _ ?_⟩, fun z => go _ ?_⟩
      · intro e0
        rw [e0] at z
        exact z (by decide)
      · unfold fH qz
        rw [← q4, ← q6]
        rw [if_neg (fun e0 => by rw [e0] at z; exact z (by decide)), ex]
      · unfold fH qz
        rw [← q4, ← q6]
        have e0 : x4 + x6 = 0 := by
          split at z
          · exact absurd z (by decide)
          · split at z
            · assumption
            · exact absurd z (by decide)
        rw [if_pos e0]
  exact loop 4 6 M (by omega) (by omega) (by rw [setW_0]; exact hσ) onlyS_rf fr_rf 5 (by omega)
end
section
-- the class: quotients, parts, pour, lose, casts, years
theorem sp_quot {v y : Int} {M : gSt} {k : Int → gSt → Prop} (hv : 0 ≤ v ∧ v ≤ 9000000000000000000) (hy : 0 ≤ y ∧ y ≤ 9000000000000000000) (h : k (qz v y) M) : w_X8_quotient v y M k := by
  unfold w_X8_quotient
  rw [ycmpE ⟨by omega, by omega⟩ ⟨by omega, by omega⟩, wrapL_in (x := v) (by omega) (by omega), wrapL_in (x := y) (by omega) (by omega), tdiv_pos hv.1]
  unfold qz at h
  refine ⟨fun z => ⟨fun e => ?_, ?_⟩, fun z => ?_⟩
  · rw [e] at z
    exact z (by decide)
  · rw [if_neg (fun e => by rw [e] at z; exact z (by decide))] at h
    exact h
  · have e0 : y = 0 := by
      split at z
      · exact absurd z (by decide)
      · split at z
        · assumption
        · exact absurd z (by decide)
    rw [if_pos e0] at h
    exact h
theorem sp_partOf {o : Nat} {t w p q : Int} {M : gSt} {k : Int → gSt → Prop} (hb : isBronze o) (hl : lenC (o + 1) = 130) (ht : 0 ≤ t ∧ t ≤ 12) (hw : 0 ≤ w ∧ w ≤ 9) (hp : 0 ≤ p ∧ p ≤ 100) (hq : 1 ≤ q ∧ q ≤ 100) (hv : 0 ≤ M (o + 1) (10 * t + w) ∧ M (o + 1) (10 * t + w) ≤ 9999999) (h : k (M (o + 1) (10 * t + w) * p / q) M) : w_X0_partOf o t w p q M k := by
  have pr := prod_rng hv hp
  unfold w_X0_partOf
  refine ⟨hb, sp_number hb hl ht hw ?_⟩
  rw [wI (x := M (o + 1) (10 * t + w)) ⟨by omega, by omega⟩, wI (x := p) ⟨by omega, by omega⟩, wI (x := q) ⟨by omega, by omega⟩]
  refine sp_quot ⟨pr.1, by omega⟩ ⟨by omega, by omega⟩ ?_
  unfold qz
  rw [if_neg (by omega)]
  exact h
/-- GRAMS and TRACES lose a part -/
theorem sp_lose {o : Nat} {t p q : Int} {M : gSt} {k : gSt → Prop} (hb : isBronze o) (hl : lenC (o + 1) = 130) (ht : 0 ≤ t ∧ t ≤ 12) (hp : 0 ≤ p ∧ p ≤ 100) (hq : 1 ≤ q ∧ q ≤ 100) (hv : ∀ w, 2 ≤ w → w ≤ 5 → 0 ≤ M (o + 1) (10 * t + w) ∧ M (o + 1) (10 * t + w) ≤ 9999999) (h : k (setW M (o + 1) t 2 6 (fL t p q (M (o + 1))))) : w_X0_lose o t p q M k := by
  unfold w_X0_lose
  refine ⟨hb, 5, ?_⟩
  have loop : ∀ (d : Nat) (j : Int) (M1 : gSt), (d : Int) = 6 - j → 2 ≤ j → M1 = setW M (o + 1) t 2 j (fL t p q (M (o + 1))) → ∀ f : Nat, d < f → wL_X0_lose_3 o t p q k (fun M3 => k M3) f j M1 := by
    intro d
    induction d with
    | zero =>
      intro j M1 hd hj A f hf
      obtain ⟨f, rfl⟩ : ∃ g, f = g + 1 := ⟨f - 1, by omega⟩
      have ej : j = 6 := by omega
      subst ej
      simp only [wL_X0_lose_3, wC_X0_lose_3]
      exact ⟨fun _ => by rw [A]; exact h, fun z => absurd z (by decide)⟩
    | succ d ih =>
      intro j M1 hd hj A f hf
      obtain ⟨f, rfl⟩ : ∃ g, f = g + 1 := ⟨f - 1, by omega⟩
      simp only [wL_X0_lose_3, wC_X0_lose_3]
      rw [wI (x := j) ⟨by omega, by omega⟩]
      refine ⟨fun z => absurd z (by omega), fun _ => ?_⟩
      have r : M1 (o + 1) (10 * t + j) = M (o + 1) (10 * t + j) := by rw [A, setW_n (by omega)]
      have v := hv j (by omega) (by omega)
      refine sp_number hb hl ht ⟨by omega, by omega⟩ (sp_partOf hb hl ht ⟨by omega, by omega⟩ hp hq (by rw [r]; exact v) (sp_become hb hl ht ⟨by omega, by omega⟩ ?_))
      rw [r]
      refine ih (j + 1) _ (by omega) (by omega) ?_ f (by omega)
      rw [A]
      exact setW_s (by omega)
  exact loop 4 2 M (by omega) (by omega) setW_0.symm 5 (by omega)
theorem xmin_in {x y : Int} (hx : inI x) (hy : inI y) : xmin x y = if y < x then y else x := by
  unfold xmin
  rw [wI hx, wI hy]
theorem xmax_in {x y : Int} (hx : inI x) (hy : inI y) : xmax x y = if x < y then y else x := by
  unfold xmax
  rw [wI hx, wI hy]
theorem sp_pour {o : Nat} {a b e : Int} {M : gSt} {k : gSt → Prop} (hb' : isBronze o) (hl : lenC (o + 1) = 130) (ha : 0 ≤ a ∧ a ≤ 12) (hb : 0 ≤ b ∧ b ≤ 12) (hab : a ≠ b) (he : 1 ≤ e ∧ e ≤ 8) (TA : thOk (M (o + 1)) (10 * a)) (TB : thOk (M (o + 1)) (10 * b)) (h : k (mvC (o + 1) a b e M)) : w_X0_pour o a b e M k := by
  have va : ∀ w, 2 ≤ w → w ≤ 5 → 0 ≤ M (o + 1) (10 * a + w) ∧ M (o + 1) (10 * a + w) ≤ 9999999 := fun w h1 h2 => by
    unfold thOk at TA
    rcases (show w = 2 ∨ w = 3 ∨ w = 4 ∨ w = 5 by omega) with rfl | rfl | rfl | rfl <;> omega
  have vb : ∀ w, 2 ≤ w → w ≤ 5 → 0 ≤ M (o + 1) (10 * b + w) ∧ M (o + 1) (10 * b + w) ≤ 9999999 := fun w h1 h2 => by
    unfold thOk at TB
    rcases (show w = 2 ∨ w = 3 ∨ w = 4 ∨ w = 5 by omega) with rfl | rfl | rfl | rfl <;> omega
  have ua : ∀ w, 6 ≤ w → w ≤ 9 → 0 ≤ M (o + 1) (10 * a + w) ∧ M (o + 1) (10 * a + w) ≤ 1000000 := fun w h1 h2 => by
    unfold thOk at TA
    rcases (show w = 6 ∨ w = 7 ∨ w = 8 ∨ w = 9 by omega) with rfl | rfl | rfl | rfl <;> omega
  have ub : ∀ w, 6 ≤ w → w ≤ 9 → 0 ≤ M (o + 1) (10 * b + w) ∧ M (o + 1) (10 * b + w) ≤ 1000000 := fun w h1 h2 => by
    unfold thOk at TB
    rcases (show w = 6 ∨ w = 7 ∨ w = 8 ∨ w = 9 by omega) with rfl | rfl | rfl | rfl <;> omega
  have ga := va 2 (by decide) (by decide)
  have pr := part_rng ga he
  have ow := vb 2 (by decide) (by decide)
  unfold w_X0_pour
  refine ⟨hb', sp_partOf hb' hl ha (by decide) ⟨by omega, by omega⟩ (by decide) ga (sp_number hb' hl hb (by decide) ?_)⟩
  generalize hx4 : M (o + 1) (10 * a + 2) * e / 8 = x4 at *
  generalize hx6 : M (o + 1) (10 * b + 2) = x6 at *
  refine ⟨5, ?_⟩
  have fin : ∀ (M1 : gSt), M1 = setW M (o + 1) b 6 10 (fH a b e (M (o + 1))) → ∀ x6_95 : Int, x6_95 = xmin 9999999 (x6 + x4) → (w_X0_become o b 2 x6_95 M1 (fun M102 => ∃ n, wL_X0_pour_108 o a b e k (fun M108 => w_X0_lose o a e 8 M108 (fun M160 => k M160)) n x6_95 3 M102)) := by
    intro M1 A1 s0 es0
    rw [xmin_in (by constructor <;> decide) ⟨by omega, by omega⟩] at es0
    have hs0 : s0 = fA a b e (M (o + 1)) := by
      rw [es0]
      unfold fA cap
      rw [hx4, hx6]
      split <;> split <;> omega
    have r0 : 0 ≤ s0 ∧ s0 ≤ 9999999 := by rw [es0]; split <;> omega
    refine sp_become hb' hl hb (by decide) ⟨4, ?_⟩
    have loop : ∀ (d : Nat) (j : Int) (M3 : gSt), (d : Int) = 6 - j → 3 ≤ j → M3 = setW (wr M1 (o + 1) (10 * b + 2) s0) (o + 1) b 3 j (fT a b e (M (o + 1))) → ∀ f : Nat, d < f → wL_X0_pour_108 o a b e k (fun M108 => w_X0_lose o a e 8 M108 (fun M160 => k M160)) f s0 j M3 := by
      intro d
      induction d with
      | zero =>
        intro j M3 hd hj A3 f hf
        obtain ⟨f, rfl⟩ : ∃ g, f = g + 1 := ⟨f - 1, by omega⟩
        have ej : j = 6 := by omega
        subst ej
        simp only [wL_X0_pour_108, wC_X0_pour_108]
        refine ⟨fun _ => ?_, fun z => absurd z (by decide)⟩
        have rd : ∀ w, 0 ≤ w → w ≤ 9 → M3 (o + 1) (10 * a + w) = M (o + 1) (10 * a + w) := fun w h1 h2 => by
          rw [A3, setW_o hab ⟨h1, h2⟩ (by decide), wrN (by omega), A1, setW_o hab ⟨h1, h2⟩ (by decide)]
        refine sp_lose hb' hl ha ⟨by omega, by omega⟩ (by decide) (fun w h1 h2 => by rw [rd w (by omega) (by omega)]; exact va w h1 h2) ?_
        have e2 : setW M3 (o + 1) a 2 6 (fL a e 8 (M3 (o + 1))) = mvC (o + 1) a b e M := by
          rw [setW_fc (g := fL a e 8 (M (o + 1))) (fun w h1 h2 => by unfold fL; rw [rd w (by omega) (by omega)]), A3, A1, hs0]
          funext p i
          unfold mvC moveB
          simp only [setW, wr]
          repeat' split
          all_goals first | rfl | omega | (congr 1 <;> omega)
        rw [e2]
        exact h
      | succ d ih =>
        intro j M3 hd hj A3 f hf
        obtain ⟨f, rfl⟩ : ∃ g, f = g + 1 := ⟨f - 1, by omega⟩
        simp only [wL_X0_pour_108, wC_X0_pour_108]
        rw [wI (x := j) ⟨by omega, by omega⟩]
        refine ⟨fun z => absurd z (by omega), fun _ => ?_⟩
        have ra : M3 (o + 1) (10 * a + j) = M (o + 1) (10 * a + j) := by
          rw [A3, setW_o hab (by omega) (by omega), wrN (by omega), A1, setW_o hab (by omega) (by decide)]
        have rb : M3 (o + 1) (10 * b + j) = M (o + 1) (10 * b + j) := by
          rw [A3, setW_n (by omega), wrN (by omega), A1, setW_n (by omega)]
        have gj := va j (by omega) (by omega)
        have pj := part_rng gj he
        have gb := vb j (by omega) (by omega)
        refine sp_number hb' hl hb ⟨by omega, by omega⟩ (sp_partOf hb' hl ha ⟨by omega, by omega⟩ ⟨by omega, by omega⟩ (by decide) (by rw [ra]; exact gj) (fun x ex => ?_))
        rw [ra, rb] at ex
        refine sp_become hb' hl hb ⟨by omega, by omega⟩ ?_
        refine ih (j + 1) _ (by omega) (by omega) ?_ f (by omega)
        have eT : xmin s0 x = fT a b e (M (o + 1)) j := by
          rw [xmin_in ⟨by omega, by omega⟩ ⟨by omega, by omega⟩]
          unfold fT cap
          rw [← hs0, ex]
          split <;> split <;> omega
        rw [eT, A3]
        exact setW_s (by omega)
    exact loop 3 3 _ (by omega) (by omega) setW_0.symm 4 (by omega)
  have loop : ∀ (d : Nat) (j : Int) (M1 : gSt), (d : Int) = 10 - j → 6 ≤ j → M1 = setW M (o + 1) b 6 j (fH a b e (M (o + 1))) → ∀ f : Nat, d < f → wL_X0_pour_23 o a b e k (fun u4_23 u5_23 M23 => ∀ x6_95 : Int, x6_95 = xmin 9999999 (u5_23 + u4_23) → (w_X0_become o b 2 x6_95 M23 (fun M102 => ∃ n, wL_X0_pour_108 o a b e k (fun M108 => w_X0_lose o a e 8 M108 (fun M160 => k M160)) n x6_95 3 M102))) f x4 x6 j M1 := by
    intro d
    induction d with
    | zero =>
      intro j M1 hd hj A1 f hf
      obtain ⟨f, rfl⟩ : ∃ g, f = g + 1 := ⟨f - 1, by omega⟩
      have ej : j = 10 := by omega
      subst ej
      simp only [wL_X0_pour_23, wC_X0_pour_23]
      exact ⟨fun _ => fin M1 A1, fun z => absurd z (by decide)⟩
    | succ d ih =>
      intro j M1 hd hj A1 f hf
      obtain ⟨f, rfl⟩ : ∃ g, f = g + 1 := ⟨f - 1, by omega⟩
      simp only [wL_X0_pour_23, wC_X0_pour_23]
      rw [wI (x := j) ⟨by omega, by omega⟩, wI (x := x4) ⟨by omega, by omega⟩, wI (x := x6) ⟨by omega, by omega⟩, wI (x := x4 + x6) ⟨by omega, by omega⟩]
      refine ⟨fun z => absurd z (by omega), fun _ => ?_⟩
      have ra : M1 (o + 1) (10 * a + j) = M (o + 1) (10 * a + j) := by rw [A1, setW_o hab (by omega) (by omega)]
      have rb : M1 (o + 1) (10 * b + j) = M (o + 1) (10 * b + j) := by rw [A1, setW_n (by omega)]
      have ha' := ua j (by omega) (by omega)
      have hb2 := ub j (by omega) (by omega)
      refine sp_number hb' hl ha ⟨by omega, by omega⟩ (fun x ex => sp_number hb' hl hb ⟨by omega, by omega⟩ (fun y ey => ?_))
      rw [ra, wI (x := M (o + 1) (10 * a + j)) ⟨by omega, by omega⟩] at ex
      rw [rb, wI (x := M (o + 1) (10 * b + j)) ⟨by omega, by omega⟩] at ey
      have m1 := prod_rng (x := x4) (y := M (o + 1) (10 * a + j)) (m := 9999999) (n := 1000000) ⟨by omega, by omega⟩ ha'
      have m2 := prod_rng (x := x6) (y := M (o + 1) (10 * b + j)) (m := 9999999) (n := 1000000) ⟨by omega, by omega⟩ hb2
      refine sp_quot ⟨by omega, by omega⟩ ⟨by omega, by omega⟩ (sp_become hb' hl hb ⟨by omega, by omega⟩ ?_)
      refine ih (j + 1) _ (by omega) (by omega) ?_ f (by omega)
      have eH : qz (x + y) (x4 + x6) = fH a b e (M (o + 1)) j := by
        unfold fH
        rw [hx4, hx6, ex, ey]
      rw [eH, A1]
      exact setW_s (by omega)
  exact loop 4 6 M (by omega) (by omega) setW_0.symm 5 (by omega)
end
section
-- melt; the class's years, over any view of a Bronze
theorem moveB_congr {a b e : Int} {B B' : Int → Int} (ha : 0 ≤ a ∧ a ≤ 12) (hb : 0 ≤ b ∧ b ≤ 12) (h : ∀ i, 0 ≤ i → i < 130 → B i = B' i) {i : Int} (h0 : 0 ≤ i) (h1 : i < 130) : moveB a b e B i = moveB a b e B' i := by
  have e1 := h (10 * a + 2) (by omega) (by omega)
  have e2 := h (10 * b + 2) (by omega) (by omega)
  unfold moveB fT fA fH fL
  rw [e1, e2]
  split
  · rw [h (10 * a + (i - 10 * b)) (by omega) (by omega), h (10 * b + (i - 10 * b)) (by omega) (by omega)]
  · split
    · rfl
    · split
      · rw [h (10 * a + (i - 10 * b)) (by omega) (by omega), h (10 * b + (i - 10 * b)) (by omega) (by omega)]
      · split
        · rw [h (10 * a + (i - 10 * a)) (by omega) (by omega)]
        · exact h i h0 h1
theorem moveB_out {a b e : Int} {B : Int → Int} (ha : 0 ≤ a ∧ a ≤ 12) (hb : 0 ≤ b ∧ b ≤ 12) {i : Int} (h : ¬ (0 ≤ i ∧ i < 130)) : moveB a b e B i = B i := by
  unfold moveB
  rw [if_neg (by omega), if_neg (by omega), if_neg (by omega), if_neg (by omega)]
theorem ac_mv {M : gSt} {a b e : Int} (ha : 0 ≤ a ∧ a ≤ 12) (hb : 0 ≤ b ∧ b ≤ 12) : absC (mvC 3 a b e M) = mvC 1 a b e (absC M) := by
  have o : ∀ p, p ≠ 3 → mvC 3 a b e M p = M p := fun p hp => by funext i; simp [mvC, hp]
  have e3 : mvC 3 a b e M 3 = moveB a b e (M 3) := by funext i; simp [mvC]
  funext c i
  by_cases hc : c = 1
  · subst hc
    show msk 130 (mvC 3 a b e M 3) i = moveB a b e (absC M 1) i
    rw [e3]
    by_cases hi : 0 ≤ i ∧ i < 130
    · simp only [msk]
      rw [if_pos hi]
      exact moveB_congr ha hb (fun j h0 h1 => (rc1 M h0 h1).symm) hi.1 hi.2
    · rw [moveB_out ha hb hi]
      simp only [msk, absC]
      rw [if_neg hi, if_neg hi]
  · rw [show mvC 1 a b e (absC M) c i = absC M c i from by simp [mvC, hc]]
    have : absC (mvC 3 a b e M) c = absC M c := by
      match c, hc with
      | 1, hc => exact absurd rfl hc
      | 0, _ => simp [absC, o]
      | 2, _ => simp [absC, o]
      | 3, _ => simp [absC, o]
      | 4, _ => simp [absC, o]
      | 5, _ => simp [absC, o]
      | 6, _ => simp [absC, o]
      | 7, _ => simp [absC, o]
      | 8, _ => simp [absC, o]
      | 9, _ => simp [absC, o]
      | 10, _ => simp [absC, o]
      | 11, _ => simp [absC, o]
      | 12, _ => simp [absC, o]
      | 13, _ => simp [absC, o]
      | 14, _ => simp [absC, o]
      | 15, _ => simp [absC, o]
      | 16, _ => simp [absC, o]
      | 17, _ => simp [absC, o]
      | 18, _ => simp [absC, o]
      | 19, _ => simp [absC, o]
      | 20, _ => simp [absC, o]
      | 21, _ => simp [absC, o]
      | 22, _ => simp [absC, o]
      | 23, _ => simp [absC, o]
      | 24, _ => simp [absC, o]
      | 25, _ => simp [absC, o]
      | n + 26, _ => rfl
    rw [this]
theorem thOk_congr {B B' : Int → Int} {b : Int} (h : ∀ w, 0 ≤ w → w ≤ 9 → B (b + w) = B' (b + w)) (q : thOk B' b) : thOk B b := by
  unfold thOk at q ⊢
  rw [h 0 (by decide) (by decide), h 1 (by decide) (by decide), h 2 (by decide) (by decide), h 3 (by decide) (by decide), h 4 (by decide) (by decide), h 5 (by decide) (by decide), h 6 (by decide) (by decide), h 7 (by decide) (by decide), h 8 (by decide) (by decide), h 9 (by decide) (by decide)]
  exact q
theorem thC {M : gSt} {t : Int} (ht : 0 ≤ t ∧ t ≤ 12) (T : thOk (absC M 1) (10 * t)) : thOk (M 3) (10 * t) :=
  thOk_congr (fun w h0 h1 => (rc1 M (by omega) (by omega)).symm) T
theorem cK_o {M M' : gSt} {b : Nat} (h : cK M) (hb : (cRows.all fun q => q.1 != b) = true) (h53 : 53 ≠ b) (e : ∀ o, o ≠ b → ∀ i, M' o i = M o i) : cK M' := by
  refine ⟨fun q hq => ?_, ?_⟩
  · have : q.1 ≠ b := by
      have := List.all_eq_true.mp hb q hq
      simpa using this
    rw [e _ this, e _ this]
    exact h.1 q hq
  · rw [e 53 h53]
    exact h.2
theorem cK_o2 {M M' : gSt} (h : cK M) (e : ∀ p i, p ≠ 2 + 1 → ¬ (p = 2 ∧ (i = 3 ∨ i = 4)) → M' p i = M p i) : cK M' := by
  refine ⟨fun q hq => ?_, ?_⟩
  · have hb : q.1 ≠ 2 + 1 ∧ q.1 ≠ 2 := by
      simp only [cRows, List.mem_cons, List.not_mem_nil, or_false] at hq
      rcases hq with rfl | rfl | rfl | rfl | rfl | rfl | rfl | rfl | rfl | rfl | rfl | rfl | rfl | rfl | rfl | rfl | rfl | rfl <;> decide
    rw [e _ _ hb.1 (fun z => hb.2 z.1), e _ _ hb.1 (fun z => hb.2 z.1)]
    exact h.1 q hq
  · rw [e 53 3 (by decide) (fun z => absurd z.1 (by decide))]
    exact h.2
def S_melt (t e : Int) (σ : gSt) : Int × gSt :=
  if ¬ ((0 ≤ t ∧ t < σ 0 0) ∧ (1 ≤ e ∧ e ≤ 8)) then S_err σ 1 else if σ 1 (10 * t + 2) = 0 then S_err σ 3 else (mvC 1 t 12 e σ 1 (10 * 12 + 2), mvC 1 t 12 e σ)
theorem sR_melt {a1 a2 : Int} {M : gSt} {k : Int → gSt → Prop} (i1 : inI a1) (i2 : inI a2) (I : iN (absR M)) (J : iB (absR M)) (h : ∀ M', absR M' = (S_melt a1 a2 (absR M)).2 → fr M M' → k (S_melt a1 a2 (absR M)).1 M') : w_Rmelt a1 a2 M k := by
  have hx := iN_t I
  unfold iN at I
  unfold w_Rmelt wB_Rmelt_18
  refine sp_RisThing i1 ⟨by omega, by omega⟩ (fun h1 => z1 ?_) (fun h1 => z0 (errL (by decide) (by decide) (if_pos (fun q => h1 q.1)) h))
  refine sp_Rin i2 (by constructor <;> decide) (by constructor <;> decide) (fun h2 => z1n ?_) (fun h2 => z0n (errL (by decide) (by decide) (if_pos (fun q => h2 q.2)) h))
  have hc : ¬ ¬ ((0 ≤ a1 ∧ a1 < absR M 0 0) ∧ (1 ≤ a2 ∧ a2 ≤ 8)) := fun q => q ⟨h1, h2⟩
  have T := J a1 (by omega) (by omega)
  refine sp_Rits ⟨by omega, by omega⟩ (by decide) ?_
  have g : 0 ≤ absR M 1 (10 * a1 + 2) ∧ absR M 1 (10 * a1 + 2) ≤ 9999999 := by unfold thOk at T; omega
  rw [wI (x := absR M 1 (10 * a1 + 2)) ⟨by omega, by omega⟩]
  refine ⟨fun nz => ?_, fun z => errL (by decide) (by decide) ((if_neg hc).trans (if_pos z)) h⟩
  have hS : S_melt a1 a2 (absR M) = _ := (if_neg hc).trans (if_neg nz)
  rw [hS] at h
  refine sp_Rmoves ⟨by omega, by omega⟩ (by decide) (by omega) h2 hx T (J 12 (by decide) (by decide)) (fun M1 A1 O1 F1 => ?_)
  refine sp_Rits (by decide) (by decide) ?_
  rw [A1]
  exact h M1 A1 F1
theorem sC_melt {a1 a2 : Int} {M : gSt} {k : Int → gSt → Prop} (i1 : inI a1) (i2 : inI a2) (I : iN (absC M)) (J : iB (absC M)) (hK : cK M) (h : ∀ M', absC M' = (S_melt a1 a2 (absC M)).2 → cK M' → k (S_melt a1 a2 (absC M)).1 M') : w_X8_melt a1 a2 M k := by
  unfold iN at I
  have n0 := rc00 M
  unfold w_X8_melt wB_X8_melt_24
  refine sp_has0 pl_2 i1 ⟨by omega, by omega⟩ (fun h1 => z1 ?_) (fun h1 => z0 (errC (by decide) (by decide) hK (if_pos (fun q => h1 (by omega))) h))
  refine sp_within i2 (by constructor <;> decide) (by constructor <;> decide) (fun h2 => z1n ?_) (fun h2 => z0n (errC (by decide) (by decide) hK (if_pos (fun q => h2 q.2)) h))
  have hc : ¬ ¬ ((0 ≤ a1 ∧ a1 < absC M 0 0) ∧ (1 ≤ a2 ∧ a2 ≤ 8)) := fun q => q ⟨by omega, h2⟩
  have T := J a1 (by omega) (by omega)
  refine sp_number pl_2 rfl ⟨by omega, by omega⟩ (by decide) ?_
  rw [← rc1 M (i := 10 * a1 + 2) (by omega) (by omega)]
  have g : 0 ≤ absC M 1 (10 * a1 + 2) ∧ absC M 1 (10 * a1 + 2) ≤ 9999999 := by unfold thOk at T; omega
  rw [wI (x := absC M 1 (10 * a1 + 2)) ⟨by omega, by omega⟩]
  refine ⟨fun nz => ?_, fun z => errC (by decide) (by decide) hK ((if_neg hc).trans (if_pos z)) h⟩
  have hS : S_melt a1 a2 (absC M) = _ := (if_neg hc).trans (if_neg nz)
  rw [hS] at h
  refine sp_pour pl_2 rfl ⟨by omega, by omega⟩ (by decide) (by omega) h2 (thC ⟨by omega, by omega⟩ T) (thC (by decide) (J 12 (by decide) (by decide))) ?_
  refine sp_number pl_2 rfl (by decide) (by decide) ?_
  have A : absC (mvC (2 + 1) a1 12 a2 M) = mvC 1 a1 12 a2 (absC M) := ac_mv ⟨by omega, by omega⟩ (by decide)
  have := h _ A (cK_o hK (b := 2 + 1) (by decide) (by decide) (fun o ho i => by simp [mvC, ho]))
  rw [← A, rc1 _ (by decide) (by decide)] at this
  exact this
/-- what of a memory is seen as a Bronze's numbers -/
def isV (o : Nat) (V : gSt → gSt) : Prop := (∀ M x, V (wr M o 4 x) = up1 (V M) 0 8 x) ∧ (∀ M x, V (wr M o 3 x) = up1 (V M) 0 5 x) ∧ (∀ M i x, 0 ≤ i → i < 130 → V (wr M (o + 1) i x) = up1 (V M) 1 i x) ∧ (∀ M, V M 0 0 = M o 1) ∧ (∀ M, V M 0 8 = M o 4) ∧ (∀ M, V M 0 5 = M o 3) ∧ (∀ M i, 0 ≤ i → i < 130 → V M 1 i = M (o + 1) i)
theorem isV_2 : isV 2 absC := ⟨fun _ _ => ac_2_4, fun _ _ => ac_2_3, fun _ _ _ h0 h1 => ac_3 h0 h1, rc00, rc08, rc05, fun M _ h0 h1 => rc1 M h0 h1⟩
def bzV (o : Nat) (M : gSt) : gSt := fun c i => if c = 0 then (if i = 0 then M o 1 else if i = 5 then M o 3 else if i = 8 then M o 4 else 0) else if c = 1 then (if 0 ≤ i ∧ i < 130 then M (o + 1) i else 0) else 0
theorem isV_b (o : Nat) : isV o (bzV o) := by
  refine ⟨fun M x => ?_, fun M x => ?_, fun M i x h0 h1 => ?_, fun M => ?_, fun M => ?_, fun M => ?_, fun M i h0 h1 => ?_⟩
  · funext c j
    by_cases hc : c = 0
    · subst hc
      by_cases h8 : j = 8
      · subst h8; simp [bzV, up1, wr]
      · simp [bzV, up1, wr, h8]
    · simp [bzV, up1, wr, hc]
  · funext c j
    by_cases hc : c = 0
    · subst hc
      by_cases h8 : j = 5
      · subst h8; simp [bzV, up1, wr]
      · simp [bzV, up1, wr, h8]
    · simp [bzV, up1, wr, hc]
  · funext c j
    by_cases hc : c = 1
    · subst hc
      by_cases hj : j = i
      · subst hj; simp [bzV, up1, wr, h0, h1]
      · simp [bzV, up1, wr, hj]
    · by_cases hz : c = 0
      · subst hz; simp [bzV, up1, wr]
      · simp [bzV, up1, wr, hc, hz]
  · simp [bzV]
  · simp [bzV]
  · simp [bzV]
  · simp [bzV, h0, h1]
end
section
-- the class's years
theorem up1_comm {σ : gSt} {c c' : Nat} {i i' x x' : Int} (h : ¬ (c = c' ∧ i = i')) : up1 (up1 σ c i x) c' i' x' = up1 (up1 σ c' i' x') c i x := by
  funext p q
  simp only [up1, wr]
  repeat' split
  all_goals first | rfl | omega
theorem loseT_up {τ : gSt} {t x : Int} : loseT (up1 τ 0 5 x) t = up1 (loseT τ t) 0 5 x := by
  funext p q
  simp only [loseT, up1, wr]
  repeat' split
  all_goals first | rfl | omega
theorem yearT_up {σ : gSt} {x : Int} : ∀ n : Nat, yearT (up1 σ 0 5 x) n = up1 (yearT σ n) 0 5 x
  | 0 => rfl
  | n + 1 => by
    have ih := @yearT_up σ x n
    simp only [yearT]
    rw [ih]
    have e8 : up1 (yearT σ n) 0 5 x 0 8 = yearT σ n 0 8 := up1_n (by decide)
    have e1 : up1 (yearT σ n) 0 5 x 1 (10 * (n : Int) + 1) = yearT σ n 1 (10 * (n : Int) + 1) := up1_o (by decide)
    rw [e8, e1, up1_comm (c := 0) (i := 5) (c' := 0) (i' := 8) (by decide)]
    split
    · rw [loseT_up]
    · rfl
theorem setW4 {σ : gSt} {c : Nat} {t : Int} {f : Int → Int} : setW σ c t 2 6 f = wr (wr (wr (wr σ c (10 * t + 2) (f 2)) c (10 * t + 3) (f 3)) c (10 * t + 4) (f 4)) c (10 * t + 5) (f 5) := by
  have a := @setW_s σ c t 2 2 f (by decide)
  have b := @setW_s σ c t 2 3 f (by decide)
  have d := @setW_s σ c t 2 4 f (by decide)
  have e := @setW_s σ c t 2 5 f (by decide)
  rw [setW_0] at a
  rw [show (6 : Int) = 5 + 1 from rfl, ← e, show (5 : Int) = 4 + 1 from rfl, ← d, show (4 : Int) = 3 + 1 from rfl, ← b, show (3 : Int) = 2 + 1 from rfl, ← a]
theorem V_lose {o : Nat} {V : gSt → gSt} (hV : isV o V) {M : gSt} {t : Int} (ht : 0 ≤ t ∧ t ≤ 12) : V (setW M (o + 1) t 2 6 (fL t 1 100 (M (o + 1)))) = loseT (V M) t := by
  obtain ⟨-, -, h3, -, -, -, h7⟩ := hV
  have rd : ∀ w, 0 ≤ w → w ≤ 9 → M (o + 1) (10 * t + w) = V M 1 (10 * t + w) := fun w a b => (h7 M _ (by omega) (by omega)).symm
  rw [setW4, h3 _ _ _ (by omega) (by omega), h3 _ _ _ (by omega) (by omega), h3 _ _ _ (by omega) (by omega), h3 _ _ _ (by omega) (by omega)]
  unfold fL
  rw [rd 2 (by decide) (by decide), rd 3 (by decide) (by decide), rd 4 (by decide) (by decide), rd 5 (by decide) (by decide)]
  funext p i
  simp only [up1, wr, loseT, Int.mul_one]
  by_cases hp : p = 1
  · subst hp
    simp only [true_and]
    by_cases c5 : i = 10 * t + 5
    · rw [if_pos c5, if_pos (by omega), c5]
    · rw [if_neg c5]
      by_cases c4 : i = 10 * t + 4
      · rw [if_pos c4, if_pos (by omega), c4]
      · rw [if_neg c4]
        by_cases c3 : i = 10 * t + 3
        · rw [if_pos c3, if_pos (by omega), c3]
        · rw [if_neg c3]
          by_cases c2 : i = 10 * t + 2
          · rw [if_pos c2, if_pos (by omega), c2]
          · rw [if_neg c2, if_neg (by omega)]
  · simp [hp]
/-- only a Bronze at o was written, its years and draws -/
def frB (o : Nat) (M M' : gSt) : Prop := ∀ p i, p ≠ o + 1 → ¬ (p = o ∧ (i = 3 ∨ i = 4)) → M' p i = M p i
theorem frB_rf {o : Nat} {M : gSt} : frB o M M := fun _ _ _ _ => rfl
theorem frB_trans {o : Nat} {M M' M'' : gSt} (h : frB o M M') (h2 : frB o M' M'') : frB o M M'' := fun p i a b => (h2 p i a b).trans (h p i a b)
theorem sp_passYear {o : Nat} {V : gSt → gSt} {M : gSt} {k : gSt → Prop} (hb : isBronze o) (hl : lenC (o + 1) = 130) (hV : isV o V) (hn : 0 ≤ V M 0 0 ∧ V M 0 0 ≤ 12) (J : iB (V M)) (h : ∀ M', V M' = yearσ (V M) → frB o M M' → k M') : w_X0_passYear o M k := by
  obtain ⟨h1, h2, h3, h4, h5, h6, h7⟩ := id hV
  unfold w_X0_passYear
  refine ⟨hb, fun M1 e1 => ⟨14, ?_⟩⟩
  have v1 : V M1 = up1 (V M) 0 5 (V M 0 5 + 1) := by rw [e1, h2, h6]
  have J1 : iB (V M1) := by
    intro t a b
    exact thOk_congr (fun w _ _ => by rw [v1]; exact up1_o (by decide)) (J t a b)
  have f1 : frB o M M1 := fun p i a b => by
    rw [e1]
    unfold wr
    rw [if_neg (fun z => b ⟨z.1, Or.inl z.2⟩)]
  have loop : ∀ (d : Nat) (j : Int) (M2 : gSt), (d : Int) = V M 0 0 - j → 0 ≤ j → V M2 = yearT (V M1) j.toNat → frB o M M2 → ∀ f : Nat, d < f → wL_X0_passYear_12 o k (fun M12 => k M12) f j M2 := by
    intro d
    induction d with
    | zero =>
      intro j M2 hd hj hA hF f hf
      obtain ⟨f, rfl⟩ : ∃ g, f = g + 1 := ⟨f - 1, by omega⟩
      obtain ⟨b, e⟩ := yearT_keep J1 j.toNat
      have e00 : M2 o 1 = V M 0 0 := by rw [← h4 M2, hA, e 0 0 ⟨by decide, by decide⟩, v1]; exact up1_n (by decide)
      simp only [wL_X0_passYear_12, wC_X0_passYear_12]
      rw [e00, wI (x := j) ⟨by omega, by omega⟩, wI (x := V M 0 0) ⟨by omega, by omega⟩]
      refine ⟨fun _ => h M2 ?_ hF, fun z => absurd z (by omega)⟩
      rw [hA, v1, show j = V M 0 0 from by omega, yearT_up]
      rfl
    | succ d ih =>
      intro j M2 hd hj hA hF f hf
      obtain ⟨f, rfl⟩ : ∃ g, f = g + 1 := ⟨f - 1, by omega⟩
      obtain ⟨b, e⟩ := yearT_keep J1 j.toNat
      have e00 : M2 o 1 = V M 0 0 := by rw [← h4 M2, hA, e 0 0 ⟨by decide, by decide⟩, v1]; exact up1_n (by decide)
      simp only [wL_X0_passYear_12, wC_X0_passYear_12, wB_X0_passYear_62]
      rw [e00, wI (x := j) ⟨by omega, by omega⟩, wI (x := V M 0 0) ⟨by omega, by omega⟩]
      refine ⟨fun z => absurd z (by omega), fun _ M3 e3 => ?_⟩
      have ez : M2 o 4 = yearT (V M1) j.toNat 0 8 := by rw [← h5 M2, hA]
      have v3 : V M3 = up1 (yearT (V M1) j.toNat) 0 8 (nextZ (yearT (V M1) j.toNat 0 8)) := by rw [e3, h1, hA, ez]; rfl
      have z3 : M3 o 4 = nextZ (yearT (V M1) j.toNat 0 8) := by rw [e3, wrI, ez]; rfl
      have f3 : frB o M2 M3 := fun p i a b => by
        rw [e3]
        unfold wr
        rw [if_neg (fun z => b ⟨z.1, Or.inr z.2⟩)]
      have T := b j hj (by omega)
      have m : M3 (o + 1) (10 * j + 1) = yearT (V M1) j.toNat 1 (10 * j + 1) := by
        rw [← h7 M3 _ (by omega) (by omega), v3]
        exact up1_o (by decide)
      have mr : 0 ≤ yearT (V M1) j.toNat 1 (10 * j + 1) ∧ yearT (V M1) j.toNat 1 (10 * j + 1) ≤ 99 := by unfold thOk at T; exact T.2.1
      have xr := xushr8 (nextZ (yearT (V M1) j.toNat 0 8))
      refine sp_number hb hl ⟨by omega, by omega⟩ (by decide) ?_
      rw [m, z3, wI (x := xushr (nextZ (yearT (V M1) j.toNat 0 8)) 8) ⟨by omega, by omega⟩, tmod_pos xr.1, wI (x := yearT (V M1) j.toNat 1 (10 * j + 1)) ⟨by omega, by omega⟩, wI (x := xushr (nextZ (yearT (V M1) j.toNat 0 8)) 8 % 100) ⟨by omega, by omega⟩]
      have en : (j + 1).toNat = j.toNat + 1 := by omega
      have ej : ((j.toNat : Nat) : Int) = j := by omega
      refine ⟨fun q => ?_, fun q => ?_⟩
      · refine ih (j + 1) M3 (by omega) (by omega) ?_ (frB_trans hF f3) f (by omega)
        rw [v3, en]
        simp only [yearT]
        rw [ej, if_neg (by omega)]
      · refine sp_lose hb hl ⟨by omega, by omega⟩ (by decide) (by decide) (fun w a c => ?_) ?_
        · rw [← h7 M3 _ (by omega) (by omega), v3, up1_o (by decide)]
          unfold thOk at T
          rcases (show w = 2 ∨ w = 3 ∨ w = 4 ∨ w = 5 by omega) with rfl | rfl | rfl | rfl <;> omega
        · refine ih (j + 1) _ (by omega) (by omega) ?_ (frB_trans hF (frB_trans f3 (fun p i a b => by rw [setW_c a]))) f (by omega)
          rw [V_lose hV ⟨by omega, by omega⟩, v3, en]
          simp only [yearT]
          rw [ej, if_pos q]
  exact loop (V M 0 0).toNat 0 M1 (by omega) (by omega) rfl f1 14 (by omega)
theorem yearσ_keep {σ : gSt} (J : iB σ) : iB (yearσ σ) ∧ yearσ σ 0 0 = σ 0 0 := by
  obtain ⟨b, e⟩ := yearT_keep J (σ 0 0).toNat
  refine ⟨fun t a c => thOk_congr (fun w _ _ => up1_o (by decide)) (b t a c), ?_⟩
  show up1 (yearT σ (σ 0 0).toNat) 0 5 (σ 0 5 + 1) 0 0 = σ 0 0
  rw [up1_n (by decide)]
  exact e 0 0 ⟨by decide, by decide⟩
theorem goσ_keep {σ : gSt} (J : iB σ) : ∀ n : Nat, iB (goσ σ n) ∧ goσ σ n 0 0 = σ 0 0
  | 0 => ⟨J, rfl⟩
  | n + 1 => by
    obtain ⟨a, b⟩ := goσ_keep J n
    obtain ⟨c, d⟩ := yearσ_keep a
    exact ⟨c, d.trans b⟩
theorem sp_passYears {o : Nat} {n : Int} {V : gSt → gSt} {M : gSt} {k : gSt → Prop} (hb : isBronze o) (hl : lenC (o + 1) = 130) (hV : isV o V) (h0 : 0 ≤ n ∧ n ≤ 60) (hn : 0 ≤ V M 0 0 ∧ V M 0 0 ≤ 12) (J : iB (V M)) (h : ∀ M', V M' = goσ (V M) n.toNat → frB o M M' → k M') : w_X0_passYears o n M k := by
  unfold w_X0_passYears
  refine ⟨hb, 62, ?_⟩
  have loop : ∀ (d : Nat) (j : Int) (M1 : gSt), (d : Int) = n - j → 0 ≤ j → V M1 = goσ (V M) j.toNat → frB o M M1 → ∀ f : Nat, d < f → wL_X0_passYears_2 o n k (fun M2 => k M2) f j M1 := by
    intro d
    induction d with
    | zero =>
      intro j M1 hd hj hA hF f hf
      obtain ⟨f, rfl⟩ : ∃ g, f = g + 1 := ⟨f - 1, by omega⟩
      simp only [wL_X0_passYears_2, wC_X0_passYears_2]
      rw [wI (x := j) ⟨by omega, by omega⟩, wI (x := n) ⟨by omega, by omega⟩]
      exact ⟨fun _ => h M1 (by rw [hA, show j = n from by omega]) hF, fun q => absurd q (by omega)⟩
    | succ d ih =>
      intro j M1 hd hj hA hF f hf
      obtain ⟨f, rfl⟩ : ∃ g, f = g + 1 := ⟨f - 1, by omega⟩
      simp only [wL_X0_passYears_2, wC_X0_passYears_2]
      rw [wI (x := j) ⟨by omega, by omega⟩, wI (x := n) ⟨by omega, by omega⟩]
      obtain ⟨b, e⟩ := goσ_keep J j.toNat
      refine ⟨fun q => absurd q (by omega), fun _ => sp_passYear hb hl hV (by rw [hA, e]; exact hn) (by rw [hA]; exact b) (fun M2 h2 F2 => ih (j + 1) M2 (by omega) (by omega) ?_ (frB_trans hF F2) f (by omega))⟩
      rw [h2, hA, show (j + 1).toNat = j.toNat + 1 from by omega]
      rfl
  exact loop n.toNat 0 M (by omega) (by omega) rfl frB_rf 62 (by omega)
theorem sp_Rgo {n : Int} {M : gSt} {k : gSt → Prop} (h0 : 0 ≤ n ∧ n ≤ 60) (I : iW (absR M)) (J : iB (absR M)) (h : ∀ M', absR M' = goσ (absR M) n.toNat → fr M M' → onlyS M M' → k M') : w_Rgo n M k := by
  unfold w_Rgo
  refine ⟨62, ?_⟩
  have keep : ∀ m : Nat, iB (goσ (absR M) m) ∧ iW (goσ (absR M) m) := by
    intro m
    induction m with
    | zero => exact ⟨J, I⟩
    | succ m ih =>
      obtain ⟨a, b⟩ := ih
      obtain ⟨c, d⟩ := yearT_keep a (goσ (absR M) m 0 0).toNat
      refine ⟨(yearσ_keep a).1, ?_⟩
      have e : ∀ i, i ≠ 8 → i ≠ 5 → goσ (absR M) (m + 1) 0 i = goσ (absR M) m 0 i := fun i h8 h5 => by
        show up1 (yearT (goσ (absR M) m) (goσ (absR M) m 0 0).toNat) 0 5 _ 0 i = _
        rw [up1_n h5]
        exact d 0 i ⟨by decide, fun z => h8 z.2⟩
      unfold iW tOk at b ⊢
      rw [e 0 (by decide) (by decide), e 9 (by decide) (by decide), e 10 (by decide) (by decide)]
      exact b
  have loop : ∀ (d : Nat) (j : Int) (M1 : gSt), (d : Int) = n - j → 0 ≤ j → absR M1 = goσ (absR M) j.toNat → fr M M1 → onlyS M M1 → ∀ f : Nat, d < f → wL_Rgo_2 n k (fun M2 => k M2) f j M1 := by
    intro d
    induction d with
    | zero =>
      intro j M1 hd hj hA hF hO f hf
      obtain ⟨f, rfl⟩ : ∃ g, f = g + 1 := ⟨f - 1, by omega⟩
      simp only [wL_Rgo_2, wC_Rgo_2]
      rw [wI (x := j) ⟨by omega, by omega⟩, wI (x := n) ⟨by omega, by omega⟩]
      exact ⟨fun _ => h M1 (by rw [hA, show j = n from by omega]) hF hO, fun q => absurd q (by omega)⟩
    | succ d ih =>
      intro j M1 hd hj hA hF hO f hf
      obtain ⟨f, rfl⟩ : ∃ g, f = g + 1 := ⟨f - 1, by omega⟩
      simp only [wL_Rgo_2, wC_Rgo_2]
      rw [wI (x := j) ⟨by omega, by omega⟩, wI (x := n) ⟨by omega, by omega⟩]
      obtain ⟨b, e⟩ := keep j.toNat
      refine ⟨fun q => absurd q (by omega), fun _ => sp_Ryear (by rw [hA]; exact e) (by rw [hA]; exact b) (fun M2 h2 F2 O2 => ih (j + 1) M2 (by omega) (by omega) ?_ (fr_trans hF F2) (onlyS_trans hO O2) f (by omega))⟩
      rw [h2, hA, show (j + 1).toNat = j.toNat + 1 from by omega]
      rfl
  exact loop n.toNat 0 M (by omega) (by omega) rfl fr_rf onlyS_rf 62 (by omega)
theorem cK_frB {M M' : gSt} (hK : cK M) (h : frB 2 M M') : cK M' :=
  cK_o2 hK (fun p i a b => h p i a b)
def S_years (n : Int) (σ : gSt) : Int × gSt :=
  if ¬ (1 ≤ n ∧ n ≤ 60) then S_err σ 1 else if 9999 < σ 0 5 + n then S_err σ 3
  else (sumT (fun t => goσ σ n.toNat 1 (10 * t + 2)) (σ 0 0).toNat, goσ σ n.toNat)
theorem sR_years {a1 : Int} {M : gSt} {k : Int → gSt → Prop} (i1 : inI a1) (I : iN (absR M)) (J : iB (absR M)) (h : ∀ M', absR M' = (S_years a1 (absR M)).2 → fr M M' → k (S_years a1 (absR M)).1 M') : w_Ryears a1 M k := by
  have I0 := I
  unfold iN at I
  unfold w_Ryears
  refine sp_Rin i1 (by constructor <;> decide) (by constructor <;> decide) (fun h1 => z1n ?_) (fun h1 => z0n (errL (by decide) (by decide) (if_pos h1) h))
  have hc := fun q : ¬ (1 ≤ a1 ∧ a1 ≤ 60) => q h1
  rw [rdS M 5 (by omega) (by omega), wI (x := absR M 0 5 + a1) ⟨by omega, by omega⟩]
  refine ⟨fun h2 => ?_, fun h2 => errL (by decide) (by decide) ((if_neg hc).trans (if_pos h2)) h⟩
  have hS : S_years a1 (absR M) = _ := (if_neg hc).trans (if_neg (by omega))
  rw [hS] at h
  refine sp_Rgo ⟨by omega, by omega⟩ (iN_w I0) J (fun M1 A F O => ?_)
  have e0 := (goσ_keep J a1.toNat).2
  refine sp_RallGrams (by rw [A, e0]; exact ⟨by omega, by omega⟩) ?_
  rw [A, e0]
  exact h M1 A F
theorem sC_years {a1 : Int} {M : gSt} {k : Int → gSt → Prop} (i1 : inI a1) (I : iN (absC M)) (J : iB (absC M)) (hK : cK M) (h : ∀ M', absC M' = (S_years a1 (absC M)).2 → cK M' → k (S_years a1 (absC M)).1 M') : w_X8_years a1 M k := by
  unfold iN at I
  unfold w_X8_years w_X0_yearsSoFar
  refine sp_within i1 (by constructor <;> decide) (by constructor <;> decide) (fun h1 => z1n ⟨pl_2, ?_⟩) (fun h1 => z0n (errC (by decide) (by decide) hK (if_pos h1) h))
  have hc := fun q : ¬ (1 ≤ a1 ∧ a1 ≤ 60) => q h1
  dsimp only
  rw [← rc05 M, wI (x := absC M 0 5 + a1) ⟨by omega, by omega⟩]
  refine ⟨fun h2 => ?_, fun h2 => errC (by decide) (by decide) hK ((if_neg hc).trans (if_pos h2)) h⟩
  have hS : S_years a1 (absC M) = _ := (if_neg hc).trans (if_neg (by omega))
  rw [hS] at h
  refine sp_passYears pl_2 rfl isV_2 ⟨by omega, by omega⟩ ⟨by omega, by omega⟩ J (fun M1 A F => ?_)
  have e0 := (goσ_keep J a1.toNat).2
  have n1 : M1 2 1 = absC M 0 0 := by rw [← rc00 M1, A, e0]
  refine sp_allGrams (by rw [n1]; exact ⟨by omega, by omega⟩) ?_
  rw [n1, A]
  exact h M1 A (cK_frB hK F)
end
