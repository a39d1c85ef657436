-- moves of a part of one into another: both sides, on the cells
theorem ycmpE {x y : Int} (hx : -9223372036854775808 ≤ x ∧ x < 9223372036854775808) (hy : -9223372036854775808 ≤ y ∧ y < 9223372036854775808) : wrap (ycmp x y) = if y < x then 1 else if x = y then 0 else -1 := by
  unfold ycmp
  rw [wrapL_in hx.1 hx.2, wrapL_in hy.1 hy.2]
  split
  · decide
  · split <;> decide
def qz (x y : Int) : Int := if y = 0 then 0 else x / y
def cap (x y : Int) : Int := if y < x then y else x
def setW (σ : gSt) (c : Nat) (b lo hi : Int) (f : Int → Int) : gSt := fun p i => if p = c ∧ 10 * b + lo ≤ i ∧ i < 10 * b + hi then f (i - 10 * b) else σ p i
theorem setW_0 {σ : gSt} {c : Nat} {b lo : Int} {f : Int → Int} : setW σ c b lo lo f = σ := by
  funext p i
  unfold setW
  rw [if_neg (by omega)]
theorem setW_s {σ : gSt} {c : Nat} {b lo j : Int} {f : Int → Int} (h : lo ≤ j) : wr (setW σ c b lo j f) c (10 * b + j) (f j) = setW σ c b lo (j + 1) f := by
  funext p i
  unfold wr setW
  by_cases e : p = c ∧ i = 10 * b + j
  · rw [if_pos e, if_pos ⟨e.1, by omega, by omega⟩, e.2, show 10 * b + j - 10 * b = j from by omega]
  · rw [if_neg e]
    by_cases q : p = c ∧ 10 * b + lo ≤ i ∧ i < 10 * b + j
    · rw [if_pos q, if_pos ⟨q.1, q.2.1, by omega⟩]
    · rw [if_neg q, if_neg (fun z => q ⟨z.1, z.2.1, by
        have : i ≠ 10 * b + j := fun y => e ⟨z.1, y⟩
        omega⟩)]
theorem setW_o {σ : gSt} {c : Nat} {b lo hi : Int} {f : Int → Int} {a w : Int} (hab : a ≠ b) (hw : 0 ≤ w ∧ w ≤ 9) (hl : 0 ≤ lo ∧ hi ≤ 10) : setW σ c b lo hi f c (10 * a + w) = σ c (10 * a + w) := by
  unfold setW
  rw [if_neg (by omega)]
theorem setW_n {σ : gSt} {c : Nat} {b lo hi : Int} {f : Int → Int} {w : Int} (hw : w < lo ∨ hi ≤ w) : setW σ c b lo hi f c (10 * b + w) = σ c (10 * b + w) := by
  unfold setW
  rw [if_neg (by omega)]
theorem setW_fc {σ : gSt} {c : Nat} {b lo hi : Int} {f g : Int → Int} (h : ∀ w, lo ≤ w → w < hi → f w = g w) : setW σ c b lo hi f = setW σ c b lo hi g := by
  funext p i
  unfold setW
  by_cases q : p = c ∧ 10 * b + lo ≤ i ∧ i < 10 * b + hi
  · rw [if_pos q, if_pos q]
    exact h _ (by omega) (by omega)
  · rw [if_neg q, if_neg q]
theorem setW_c {σ : gSt} {c p : Nat} {b lo hi : Int} {f : Int → Int} (h : p ≠ c) : setW σ c b lo hi f p = σ p := by
  funext i
  unfold setW
  rw [if_neg (fun z => h z.1)]
def fH (a b e : Int) (B : Int → Int) (w : Int) : Int := qz (B (10 * a + 2) * e / 8 * B (10 * a + w) + B (10 * b + 2) * B (10 * b + w)) (B (10 * a + 2) * e / 8 + B (10 * b + 2))
def fA (a b e : Int) (B : Int → Int) : Int := cap (B (10 * a + 2) * e / 8 + B (10 * b + 2)) 9999999
def fT (a b e : Int) (B : Int → Int) (w : Int) : Int := cap (B (10 * b + w) + B (10 * a + w) * e / 8) (fA a b e B)
def fL (a p q : Int) (B : Int → Int) (w : Int) : Int := B (10 * a + w) - B (10 * a + w) * p / q
def moveB (a b e : Int) (B : Int → Int) : Int → Int := fun i =>
  if 10 * b + 6 ≤ i ∧ i < 10 * b + 10 then fH a b e B (i - 10 * b) else if i = 10 * b + 2 then fA a b e B else if 10 * b + 3 ≤ i ∧ i < 10 * b + 6 then fT a b e B (i - 10 * b) else if 10 * a + 2 ≤ i ∧ i < 10 * a + 6 then fL a e 8 B (i - 10 * a) else B i
def mvC (c : Nat) (a b e : Int) (σ : gSt) : gSt := fun p i => if p = c then moveB a b e (σ c) i else σ p i
theorem part_rng {g e : Int} (hg : 0 ≤ g ∧ g ≤ 9999999) (he : 1 ≤ e ∧ e ≤ 8) : 0 ≤ g * e ∧ g * e ≤ 79999992 ∧ 0 ≤ g * e / 8 ∧ g * e / 8 ≤ g := by
  have h1 : 0 ≤ g * e := Int.mul_nonneg hg.1 (by omega)
  have h2 : g * e ≤ g * 8 := Int.mul_le_mul_of_nonneg_left he.2 hg.1
  omega
theorem prod_rng {x y m n : Int} (hx : 0 ≤ x ∧ x ≤ m) (hy : 0 ≤ y ∧ y ≤ n) : 0 ≤ x * y ∧ x * y ≤ m * n := by
  refine ⟨Int.mul_nonneg hx.1 hy.1, ?_⟩
  have h1 : x * y ≤ m * y := Int.mul_le_mul_of_nonneg_right hx.2 hy.1
  have h2 : m * y ≤ m * n := Int.mul_le_mul_of_nonneg_left hy.2 (by omega)
  omega
/-- a quotient of a weighted sum lies between 0 and the greatest weight's value -/
theorem qz_rng {x y u v n : Int} (hx : 0 ≤ x) (hy : 0 ≤ y) (hu : 0 ≤ u ∧ u ≤ n) (hv : 0 ≤ v ∧ v ≤ n) : 0 ≤ qz (x * u + y * v) (x + y) ∧ qz (x * u + y * v) (x + y) ≤ n := by
  unfold qz
  split
  · omega
  · rename_i h
    have h1 : 0 ≤ x * u := Int.mul_nonneg hx hu.1
    have h2 : 0 ≤ y * v := Int.mul_nonneg hy hv.1
    have h3 : x * u ≤ x * n := Int.mul_le_mul_of_nonneg_left hu.2 hx
    have h4 : y * v ≤ y * n := Int.mul_le_mul_of_nonneg_left hv.2 hy
    have h5 : x * u + y * v ≤ n * (x + y) := by
      rw [Int.mul_add, Int.mul_comm n x, Int.mul_comm n y]
      omega
    refine ⟨Int.ediv_nonneg (by omega) (by omega), ?_⟩
    exact Int.ediv_le_of_le_mul (by omega) h5
theorem sp_Rmoves {a b e : Int} {M : gSt} {k : gSt → Prop} (ha : 0 ≤ a ∧ a ≤ 12) (hb : 0 ≤ b ∧ b ≤ 12) (hab : a ≠ b) (he : 1 ≤ e ∧ e ≤ 8) (hx : tOk (absR M)) (TA : thOk (absR M 1) (10 * a)) (TB : thOk (absR M 1) (10 * b)) (h : ∀ M', absR M' = mvC 1 a b e (absR M) → onlyS M M' → fr M M' → k M') : w_Rmoves a b e M k := by
  have tx : ∀ {τ : gSt} {c : Nat} {b lo hi : Int} {f : Int → Int}, tOk τ → c ≠ 0 → tOk (setW τ c b lo hi f) := fun ht hc => by
    unfold tOk at ht ⊢
    rw [setW_c (Ne.symm hc)]
    exact ht
  have va : ∀ w, 2 ≤ w → w ≤ 5 → 0 ≤ absR M 1 (10 * a + w) ∧ absR M 1 (10 * a + w) ≤ 9999999 := fun w h1 h2 => by
    unfold thOk at TA
    rcases (show w = 2 ∨ w = 3 ∨ w = 4 ∨ w = 5 by omega) with rfl | rfl | rfl | rfl <;> omega
  have vb : ∀ w, 2 ≤ w → w ≤ 5 → 0 ≤ absR M 1 (10 * b + w) ∧ absR M 1 (10 * b + w) ≤ 9999999 := fun w h1 h2 => by
    unfold thOk at TB
    rcases (show w = 2 ∨ w = 3 ∨ w = 4 ∨ w = 5 by omega) with rfl | rfl | rfl | rfl <;> omega
  have ua : ∀ w, 6 ≤ w → w ≤ 9 → 0 ≤ absR M 1 (10 * a + w) ∧ absR M 1 (10 * a + w) ≤ 1000000 := fun w h1 h2 => by
    unfold thOk at TA
    rcases (show w = 6 ∨ w = 7 ∨ w = 8 ∨ w = 9 by omega) with rfl | rfl | rfl | rfl <;> omega
  have ub : ∀ w, 6 ≤ w → w ≤ 9 → 0 ≤ absR M 1 (10 * b + w) ∧ absR M 1 (10 * b + w) ≤ 1000000 := fun w h1 h2 => by
    unfold thOk at TB
    rcases (show w = 6 ∨ w = 7 ∨ w = 8 ∨ w = 9 by omega) with rfl | rfl | rfl | rfl <;> omega
  have pr := part_rng (va 2 (by decide) (by decide)) he
  have ow := vb 2 (by decide) (by decide)
  unfold w_Rmoves
  refine sp_Rits ha (by decide) (fun x4 e4 => ?_)
  refine sp_Rits hb (by decide) (fun x6 e6 => ?_)
  have ga := va 2 (by decide) (by decide)
  rw [wI (x := absR M 1 (10 * a + 2)) ⟨by omega, by omega⟩, wI (x := e) ⟨by omega, by omega⟩, wrapL_in (by omega) (by omega), tdiv_pos pr.1] at e4
  rw [wI (x := absR M 1 (10 * b + 2)) ⟨by omega, by omega⟩] at e6
  generalize hσ : absR M = σ at *
  refine ⟨5, ?_⟩
  have q4 : x4 = σ 1 (10 * a + 2) * e / 8 := e4
  have q6 : x6 = σ 1 (10 * b + 2) := e6
  -- the last rows
  have fin : ∀ (M1 : gSt) (s0 : Int), absR M1 = setW σ 1 b 6 10 (fH a b e (σ 1)) → onlyS M M1 → fr M M1 → s0 = fA a b e (σ 1) → wB_Rmoves_120 a b e k x4 s0 M1 := by
    intro M1 s0 A1 O1 F1 hs0
    have r0 : 0 ≤ s0 ∧ s0 ≤ 9999999 := by rw [hs0]; unfold fA cap; split <;> omega
    unfold wB_Rmoves_120
    have x1 : tOk (absR M1) := by rw [A1]; exact tx hx (by decide)
    refine sp_Rlays1 hb (by decide) x1 (fun M2 A2 O2 F2 => ⟨4, ?_⟩)
    rw [A1] at A2
    have loop : ∀ (d : Nat) (j : Int) (M3 : gSt), (d : Int) = 6 - j → 3 ≤ j → absR M3 = setW (setW (absR M2) 1 a 3 j (fL a e 8 (σ 1))) 1 b 3 j (fT a b e (σ 1)) → onlyS M M3 → fr M M3 → ∀ f : Nat, d < f → wL_Rmoves_134 a b e k (fun u4_134 M134 => w_Rits a 2 M134 (fun r210c M210 => w_Rlays1 a 2 (r210c - u4_134) M210 (fun M217 => k M217))) f x4 s0 j M3 := by
      intro d
      induction d with
      | zero =>
        intro j M3 hd hj A3 O3 F3 f hf
        obtain ⟨f, rfl⟩ : ∃ g, f = g + 1 := ⟨f - 1, by omega⟩
        have ej : j = 6 := by omega
        subst ej
        simp only [wL_Rmoves_134, wC_Rmoves_134]
        refine ⟨fun _ => ?_, fun z => absurd z (by decide)⟩
        refine sp_Rits ha (by decide) ?_
        have rd : absR M3 1 (10 * a + 2) = σ 1 (10 * a + 2) := by
          rw [A3, setW_o hab (by decide) (by decide), setW_n (by decide), A2]
          unfold up1
          rw [wrN (by omega), setW_o hab (by decide) (by decide)]
        rw [rd]
        have x3 : tOk (absR M3) := by rw [A3, A2]; exact tx (tx (tOk_B (tx hx (by decide)) (Or.inl (by decide))) (by decide)) (by decide)
        refine sp_Rlays1 ha (by decide) x3 (fun M4 A4 O4 F4 => h M4 ?_ (onlyS_trans O3 O4) (fr_trans F3 F4))
        rw [A4, A3, A2, q4]
        funext p i
        have f2 : σ 1 (10 * a + 2) - σ 1 (10 * a + 2) * e / 8 = fL a e 8 (σ 1) 2 := rfl
        rw [f2, hs0]
        unfold up1 mvC moveB
        simp only [wr, setW]
        repeat' split
        all_goals first | rfl | omega | (congr 1 <;> omega)
      | succ d ih =>
        intro j M3 hd hj A3 O3 F3 f hf
        obtain ⟨f, rfl⟩ : ∃ g, f = g + 1 := ⟨f - 1, by omega⟩
        simp only [wL_Rmoves_134, wC_Rmoves_134]
        rw [wI (x := j) ⟨by omega, by omega⟩]
        refine ⟨fun z => absurd z (by omega), fun _ => ?_⟩
        have ra : absR M3 1 (10 * a + j) = σ 1 (10 * a + j) := by
          rw [A3, setW_o hab (by omega) (by omega), setW_n (by omega), A2]
          unfold up1
          rw [wrN (by omega), setW_o hab (by omega) (by decide)]
        have gj := va j (by omega) (by omega)
        have pj := part_rng gj he
        have gb := vb j (by omega) (by omega)
        refine sp_Rits ha ⟨by omega, by omega⟩ (fun x ex => ?_)
        rw [ra, wI (x := σ 1 (10 * a + j)) ⟨by omega, by omega⟩, wI (x := e) ⟨by omega, by omega⟩, wrapL_in (by omega) (by omega), tdiv_pos pj.1] at ex
        refine sp_Rits ha ⟨by omega, by omega⟩ ?_
        rw [ra]
        have x3 : tOk (absR M3) := by rw [A3, A2]; exact tx (tx (tOk_B (tx hx (by decide)) (Or.inl (by decide))) (by decide)) (by decide)
        refine sp_Rlays1 ha ⟨by omega, by omega⟩ x3 (fun M4 A4 O4 F4 => ?_)
        have rb : absR M4 1 (10 * b + j) = σ 1 (10 * b + j) := by
          rw [A4]
          unfold up1
          rw [wrN (by omega), A3, setW_n (by omega), setW_o (Ne.symm hab) (by omega) (by omega), A2]
          unfold up1
          rw [wrN (by omega), setW_n (by omega)]
        refine sp_Rits hb ⟨by omega, by omega⟩ ?_
        rw [rb]
        refine sp_Rheld ⟨by omega, by omega⟩ (by constructor <;> decide) ⟨by omega, by omega⟩ ?_
        have x4' : tOk (absR M4) := by rw [A4]; exact tOk_B x3 (Or.inl (by decide))
        refine sp_Rlays1 hb ⟨by omega, by omega⟩ x4' (fun M5 A5 O5 F5 => ?_)
        refine ih (j + 1) M5 (by omega) (by omega) ?_ (onlyS_trans O3 (onlyS_trans O4 O5)) (fr_trans F3 (fr_trans F4 F5)) f (by omega)
        have eT : (if σ 1 (10 * b + j) + x < 0 then 0 else if s0 < σ 1 (10 * b + j) + x then s0 else σ 1 (10 * b + j) + x) = fT a b e (σ 1) j := by
          rw [if_neg (by omega), ex, hs0]
          rfl
        have eL : σ 1 (10 * a + j) - x = fL a e 8 (σ 1) j := by rw [ex]; rfl
        rw [A5, A4, A3, eT, eL]
        funext p i
        unfold up1
        simp only [wr, setW]
        repeat' split
        all_goals first | rfl | omega | (congr 1 <;> omega)
    exact loop 3 3 M2 (by omega) (by omega) (by rw [setW_0, setW_0]) (onlyS_trans O1 O2) (fr_trans F1 F2) 4 (by omega)
  -- the first loop
  have loop : ∀ (d : Nat) (j : Int) (M1 : gSt), (d : Int) = 10 - j → 6 ≤ j → absR M1 = setW σ 1 b 6 j (fH a b e (σ 1)) → onlyS M M1 → fr M M1 → ∀ f : Nat, d < f → wL_Rmoves_29 a b e k (fun u4_29 u6_29 M29 => (wrap (ycmp (u4_29 + u6_29) 9999999) ≤ 0 → wB_Rmoves_120 a b e k u4_29 (u4_29 + u6_29) M29) ∧ (0 < wrap (ycmp (u4_29 + u6_29) 9999999) → wB_Rmoves_120 a b e k u4_29 9999999 M29)) f x4 x6 j M1 := by
    intro d
    induction d with
    | zero =>
      intro j M1 hd hj A1 O1 F1 f hf
      obtain ⟨f, rfl⟩ : ∃ g, f = g + 1 := ⟨f - 1, by omega⟩
      have ej : j = 10 := by omega
      subst ej
      simp only [wL_Rmoves_29, wC_Rmoves_29]
      refine ⟨fun _ => ?_, fun z => absurd z (by decide)⟩
      rw [ycmpE ⟨by omega, by omega⟩ ⟨by omega, by omega⟩]
      refine ⟨fun z => fin M1 _ A1 O1 F1 ?_, fun z => fin M1 _ A1 O1 F1 ?_⟩
      · unfold fA cap
        rw [← q4, ← q6]
        split at z
        · exact absurd z (by decide)
        · rw [if_neg (by omega)]
      · unfold fA cap
        rw [← q4, ← q6]
        split at z
        · rw [if_pos (by omega)]
        · split at z <;> exact absurd z (by decide)
    | succ d ih =>
      intro j M1 hd hj A1 O1 F1 f hf
      obtain ⟨f, rfl⟩ : ∃ g, f = g + 1 := ⟨f - 1, by omega⟩
      simp only [wL_Rmoves_29, wC_Rmoves_29]
      rw [wI (x := j) ⟨by omega, by omega⟩]
      refine ⟨fun z => absurd z (by omega), fun _ => ?_⟩
      have ra : absR M1 1 (10 * a + j) = σ 1 (10 * a + j) := by rw [A1, setW_o hab (by omega) (by omega)]
      have rb : absR M1 1 (10 * b + j) = σ 1 (10 * b + j) := by rw [A1, setW_n (by omega)]
      have ha' := ua j (by omega) (by omega)
      have hb' := ub j (by omega) (by omega)
      refine sp_Rits ha ⟨by omega, by omega⟩ ?_
      refine sp_Rits hb ⟨by omega, by omega⟩ (fun x ex => ?_)
      rw [ra, rb, wI (x := σ 1 (10 * a + j)) ⟨by omega, by omega⟩, wI (x := σ 1 (10 * b + j)) ⟨by omega, by omega⟩] at ex
      have m1 := prod_rng (x := x4) (y := σ 1 (10 * a + j)) (m := 9999999) (n := 1000000) ⟨by omega, by omega⟩ ha'
      have m2 := prod_rng (x := x6) (y := σ 1 (10 * b + j)) (m := 9999999) (n := 1000000) ⟨by omega, by omega⟩ hb'
      have x1 : tOk (absR M1) := by rw [A1]; exact tx hx (by decide)
      have go : ∀ v : Int, v = fH a b e (σ 1) j → wB_Rmoves_88 a b e k (wL_Rmoves_29 a b e k (fun u4_29 u6_29 M29 => (wrap (ycmp (u4_29 + u6_29) 9999999) ≤ 0 → wB_Rmoves_120 a b e k u4_29 (u4_29 + u6_29) M29) ∧ (0 < wrap (ycmp (u4_29 + u6_29) 9999999) → wB_Rmoves_120 a b e k u4_29 9999999 M29)) f) (fun u4_29 u6_29 M29 => (wrap (ycmp (u4_29 + u6_29) 9999999) ≤ 0 → wB_Rmoves_120 a b e k u4_29 (u4_29 + u6_29) M29) ∧ (0 < wrap (ycmp (u4_29 + u6_29) 9999999) → wB_Rmoves_120 a b e k u4_29 9999999 M29)) x4 x6 j v j b M1 := by
        intro v hv
        unfold wB_Rmoves_88
        refine sp_Rlays1 hb ⟨by omega, by omega⟩ x1 (fun M2 A2 O2 F2 => ?_)
        refine ih (j + 1) M2 (by omega) (by omega) ?_ (onlyS_trans O1 O2) (fr_trans F1 F2) f (by omega)
        rw [A2, A1, hv]
        exact setW_s (by omega)
      rw [ycmpE ⟨by omega, by omega⟩ ⟨by omega, by omega⟩, wrapL_in (x := x4 + x6) (by omega) (by omega), wrapL_in (x := x) (by omega) (by omega), tdiv_pos (by omega)]
      refine ⟨fun z => ⟨?_, go _ ?_⟩, fun z => go _ ?_⟩
      · intro e0
        rw [e0] at z
        exact z (by decide)
      · unfold fH qz
        rw [← q4, ← q6]
        rw [if_neg (fun e0 => by rw [e0] at z; exact z (by decide)), ex]
      · unfold fH qz
        rw [← q4, ← q6]
        have e0 : x4 + x6 = 0 := by
          split at z
          · exact absurd z (by decide)
          · split at z
            · assumption
            · exact absurd z (by decide)
        rw [if_pos e0]
  exact loop 4 6 M (by omega) (by omega) (by rw [setW_0]; exact hσ) onlyS_rf fr_rf 5 (by omega)
