-- what every call keeps: casts, texts, claims, papers, sheets, images
theorem inX (y : Int32) : inI y.toInt := by
  have h : y.toInt = wrap y.toInt := by rw [← ofInt_toInt, Int32.ofInt_toInt]
  rw [h]
  exact wrap_rng _
theorem addT_c {σ : gSt} {km : Int} {c : Nat} (h0 : c ≠ 0) (h1 : c ≠ 1) : addT σ km c = σ c := by funext i; simp [addT, h0, h1]
theorem addT_n {σ : gSt} {km j : Int} (h : j ≠ 0) : addT σ km 0 j = σ 0 j := by simp [addT, h]
theorem addT_0 {σ : gSt} {km : Int} : addT σ km 0 0 = σ 0 0 + 1 := by simp [addT]
theorem addT_1 {σ : gSt} {km i : Int} : addT σ km 1 i = if 10 * σ 0 0 ≤ i ∧ i < 10 * σ 0 0 + 10 then (if i = 10 * σ 0 0 then km / 100 else if i = 10 * σ 0 0 + 1 then km % 100 else 0) else σ 1 i := by simp [addT]
theorem burn_mono {x y b : Int} (hb : 0 ≤ b ∧ b ≤ 9) (h0 : 0 ≤ x) (h : x ≤ y) : 0 ≤ x - x * b / 100 ∧ x - x * b / 100 ≤ y - y * b / 100 ∧ y - y * b / 100 ≤ y := by
  rcases (show b = 0 ∨ b = 1 ∨ b = 2 ∨ b = 3 ∨ b = 4 ∨ b = 5 ∨ b = 6 ∨ b = 7 ∨ b = 8 ∨ b = 9 by omega) with rfl | rfl | rfl | rfl | rfl | rfl | rfl | rfl | rfl | rfl <;> omega
theorem keep_mono {x y b : Int} (hb : 0 ≤ b ∧ b ≤ 9) (h0 : 0 ≤ x) (h : x ≤ y) : (0 ≤ x - x * b / 10 ∧ x - x * b / 10 ≤ y - y * b / 10 ∧ y - y * b / 10 ≤ y) ∧ 0 ≤ x * b / 10 ∧ x * b / 10 ≤ y * b / 10 ∧ y * b / 10 ≤ y := by
  rcases (show b = 0 ∨ b = 1 ∨ b = 2 ∨ b = 3 ∨ b = 4 ∨ b = 5 ∨ b = 6 ∨ b = 7 ∨ b = 8 ∨ b = 9 by omega) with rfl | rfl | rfl | rfl | rfl | rfl | rfl | rfl | rfl | rfl <;> omega
theorem kp_cast {n : Nat} {km tin law : Int} {σ : gSt} (V : Inv n σ) : Inv n (S_cast km tin law σ).2 := by
  unfold S_cast
  split
  · exact V
  rename_i hv
  have hv := Classical.not_not.mp hv
  split
  · exact V
  rename_i hg
  by_cases hf : 12 < σ 0 0 + (if 0 < law / 10 % 10 then 2 else 1)
  case pos =>
    rw [if_pos hf]
    exact V
  rw [if_neg hf]
  obtain ⟨I, J, CR, -⟩ := V.1
  unfold iN at I
  have T := J 12 (by decide) (by decide)
  have hb : 0 ≤ law / 100 ∧ law / 100 ≤ 9 := by omega
  have hk : 0 ≤ law / 10 % 10 ∧ law / 10 % 10 ≤ 9 := by omega
  have g0 : 0 < σ 1 (10 * 12 + 2) := by have := T.2.2.1; omega
  obtain ⟨t1, t2, t3, t4, t5, t6⟩ := tinσ_v T hv.2.1 g0
  have e0 : tinσ tin σ 0 = σ 0 := tinσ_0 (by decide)
  generalize law / 100 = burn at *
  generalize law / 10 % 10 = keep at *
  have hf1 : σ 0 0 ≤ 11 := by split at hf <;> omega
  have hf2 : 0 < keep → σ 0 0 ≤ 10 := fun q => by rw [if_pos q] at hf; omega
  generalize hτ : tinσ tin σ = τ at *
  have oc : ∀ c, c ≠ 1 → τ c = σ c := fun c h => by rw [← hτ]; exact tinσ_0 h
  have cC : ∀ c, c ≠ 0 → c ≠ 1 → castσ km tin burn keep σ c = σ c := fun c a b => by
    funext i
    unfold castσ crN
    rw [hτ, if_neg (fun q => b q.1), if_neg (fun q => b q.1), if_neg (fun q => b q.1)]
    split
    · rw [addT_c a b, addT_c a b, oc c b]
    · rw [addT_c a b, oc c b]
  have c0 : ∀ j, castσ km tin burn keep σ 0 j = if j = 0 then σ 0 0 + (if 0 < keep then 2 else 1) else σ 0 j := fun j => by
    unfold castσ crN
    rw [hτ, if_neg (fun q => absurd q.1 (by decide)), if_neg (fun q => absurd q.1 (by decide)), if_neg (fun q => absurd q.1 (by decide))]
    by_cases hj : j = 0
    · subst hj
      rw [if_pos rfl]
      split
      · rw [addT_0, addT_0, e0]; omega
      · rw [addT_0, e0]
    · rw [if_neg hj]
      split
      · rw [addT_n hj, addT_n hj, e0]
      · rw [addT_n hj, e0]
  have cN : ∀ i, crN km keep τ 1 i = if 0 < keep ∧ 10 * (σ 0 0 + 1) ≤ i ∧ i < 10 * (σ 0 0 + 1) + 10 then (if i = 10 * (σ 0 0 + 1) then 6 else 0) else if 10 * σ 0 0 ≤ i ∧ i < 10 * σ 0 0 + 10 then (if i = 10 * σ 0 0 then km / 100 else if i = 10 * σ 0 0 + 1 then km % 100 else 0) else τ 1 i := fun i => by
    unfold crN
    by_cases q : 0 < keep
    · rw [if_pos q, addT_1, addT_0, addT_1, e0]
      by_cases r : 10 * (σ 0 0 + 1) ≤ i ∧ i < 10 * (σ 0 0 + 1) + 10
      · rw [if_pos r, if_pos (show 0 < keep ∧ 10 * (σ 0 0 + 1) ≤ i ∧ i < 10 * (σ 0 0 + 1) + 10 from ⟨q, r⟩)]
        by_cases s : i = 10 * (σ 0 0 + 1)
        · rw [if_pos s, if_pos s]; decide
        · rw [if_neg s, if_neg s]
          split
          · decide
          · rfl
      · rw [if_neg r, if_neg (show ¬ (0 < keep ∧ 10 * (σ 0 0 + 1) ≤ i ∧ i < 10 * (σ 0 0 + 1) + 10) from fun z => r z.2)]
    · rw [if_neg q, addT_1, e0, if_neg (show ¬ (0 < keep ∧ 10 * (σ 0 0 + 1) ≤ i ∧ i < 10 * (σ 0 0 + 1) + 10) from fun z => q z.1)]
  have c1 : ∀ i, castσ km tin burn keep σ 1 i = if 10 * 12 + 2 ≤ i ∧ i < 10 * 12 + 10 then 0 else if 10 * σ 0 0 + 2 ≤ i ∧ i < 10 * σ 0 0 + 10 then crT burn keep τ (i - 10 * σ 0 0) else if 0 < keep ∧ 10 * (σ 0 0 + 1) + 2 ≤ i ∧ i < 10 * (σ 0 0 + 1) + 10 then crS burn keep τ (i - 10 * (σ 0 0 + 1)) else crN km keep τ 1 i := fun i => by
    unfold castσ
    rw [hτ]
    simp only [true_and]
  have rg : ∀ w, 2 ≤ w → w ≤ 5 → 0 ≤ τ 1 (10 * 12 + w) ∧ τ 1 (10 * 12 + w) ≤ τ 1 (10 * 12 + 2) := fun w a b => by rw [t5]; exact t1 w a b
  have rL : ∀ w, 2 ≤ w → w ≤ 5 → 0 ≤ crL burn τ w ∧ crL burn τ w ≤ crL burn τ 2 ∧ crL burn τ 2 ≤ 9999999 := fun w a b => by
    unfold crL
    rw [if_pos (by omega), if_pos (by decide)]
    have m := burn_mono hb (rg w a b).1 (rg w a b).2
    exact ⟨m.1, m.2.1, by omega⟩
  have rT : ∀ w, 2 ≤ w → w ≤ 5 → 0 ≤ crT burn keep τ w ∧ crT burn keep τ w ≤ crT burn keep τ 2 ∧ crT burn keep τ 2 ≤ 9999999 := fun w a b => by
    unfold crT
    rw [if_pos (by omega), if_pos (by decide)]
    have l := rL w a b
    have m := (keep_mono hk l.1 l.2.1).1
    exact ⟨m.1, m.2.1, by omega⟩
  have rS : ∀ w, 2 ≤ w → w ≤ 5 → 0 ≤ crS burn keep τ w ∧ crS burn keep τ w ≤ crS burn keep τ 2 ∧ crS burn keep τ 2 ≤ 9999999 := fun w a b => by
    unfold crS
    rw [if_pos (by omega), if_pos (by decide)]
    have l := rL w a b
    have m := (keep_mono hk l.1 l.2.1).2
    exact ⟨m.1, m.2.1, by omega⟩
  have rHT : ∀ w, 6 ≤ w → w ≤ 9 → 0 ≤ crT burn keep τ w ∧ crT burn keep τ w ≤ 1000000 := fun w a b => by
    unfold crT crL
    rw [if_neg (by omega), if_neg (by omega)]
    exact t2 w a b
  have rHS : ∀ w, 6 ≤ w → w ≤ 9 → 0 ≤ crS burn keep τ w ∧ crS burn keep τ w ≤ 1000000 := fun w a b => by
    unfold crS crL
    rw [if_neg (by omega), if_neg (by omega)]
    exact t2 w a b
  have cr : ∀ w, w < 2 → 0 ≤ w → castσ km tin burn keep σ 1 (10 * 12 + w) = σ 1 (10 * 12 + w) := fun w a b => by
    rw [c1, if_neg (by omega), if_neg (by omega), if_neg (by omega), cN, if_neg (by omega), if_neg (by omega)]
    exact t6 w a
  show Inv n (castσ km tin burn keep σ)
  refine inv_B V (fun c a b => cC c a b) (fun j a _ _ _ => by rw [c0, if_neg a]) ?_ (fun t a b => ?_) ?_
  · have c00 := c0 0
    rw [if_pos rfl] at c00
    have c01 := c0 1
    rw [if_neg (by decide)] at c01
    have c05 := c0 5
    rw [if_neg (by decide)] at c05
    rw [c00, c01, c05]
    split <;> rename_i q
    · have := hf2 q; omega
    · omega
  · by_cases t12 : t = 12
    · subst t12
      have z : ∀ w, 2 ≤ w → w ≤ 9 → castσ km tin burn keep σ 1 (10 * 12 + w) = 0 := fun w a b => by rw [c1, if_pos (by omega)]
      unfold iCr at CR
      refine th_new (kk := 0) (m := 0) (g := 0) ((cr 0 (by decide) (by decide)).trans CR.1) ((cr 1 (by decide) (by decide)).trans CR.2) (z 2 (by decide) (by decide)) (fun w a b => z w (by omega) (by omega)) (z 6 (by decide) (by decide)) (z 7 (by decide) (by decide)) (z 8 (by decide) (by decide)) (z 9 (by decide) (by decide)) (by decide)
    · by_cases tn : t = σ 0 0
      · subst tn
        have v : ∀ w, 2 ≤ w → w ≤ 9 → castσ km tin burn keep σ 1 (10 * σ 0 0 + w) = crT burn keep τ w := fun w a b => by
          rw [c1, if_neg (by omega), if_pos (by omega), show 10 * σ 0 0 + w - 10 * σ 0 0 = w from by omega]
        have v0 : castσ km tin burn keep σ 1 (10 * σ 0 0 + 0) = km / 100 := by
          rw [c1, if_neg (by omega), if_neg (by omega), if_neg (by omega), cN, if_neg (by omega), if_pos (by omega), if_pos (by omega)]
        have v1 : castσ km tin burn keep σ 1 (10 * σ 0 0 + 1) = km % 100 := by
          rw [c1, if_neg (by omega), if_neg (by omega), if_neg (by omega), cN, if_neg (by omega), if_pos (by omega), if_neg (by omega), if_pos (by omega)]
        unfold thOk
        rw [v0, v1, v 2 (by decide) (by decide), v 3 (by decide) (by decide), v 4 (by decide) (by decide), v 5 (by decide) (by decide), v 6 (by decide) (by decide), v 7 (by decide) (by decide), v 8 (by decide) (by decide), v 9 (by decide) (by decide)]
        have r2 := rT 2 (by decide) (by decide)
        have r3 := rT 3 (by decide) (by decide)
        have r4 := rT 4 (by decide) (by decide)
        have r5 := rT 5 (by decide) (by decide)
        exact ⟨by omega, by omega, ⟨r2.1, r2.2.2⟩, ⟨r3.1, r3.2.1⟩, ⟨r4.1, r4.2.1⟩, ⟨r5.1, r5.2.1⟩, rHT 6 (by decide) (by decide), rHT 7 (by decide) (by decide), rHT 8 (by decide) (by decide), rHT 9 (by decide) (by decide)⟩
      · by_cases ts : 0 < keep ∧ t = σ 0 0 + 1
        · obtain ⟨hk0, rfl⟩ := ts
          have v : ∀ w, 2 ≤ w → w ≤ 9 → castσ km tin burn keep σ 1 (10 * (σ 0 0 + 1) + w) = crS burn keep τ w := fun w a b => by
            rw [c1, if_neg (by omega), if_neg (by omega), if_pos ⟨hk0, by omega, by omega⟩, show 10 * (σ 0 0 + 1) + w - 10 * (σ 0 0 + 1) = w from by omega]
          have v0 : castσ km tin burn keep σ 1 (10 * (σ 0 0 + 1) + 0) = 6 := by
            rw [c1, if_neg (by omega), if_neg (by omega), if_neg (by omega), cN, if_pos ⟨hk0, by omega, by omega⟩, if_pos (by omega)]
          have v1 : castσ km tin burn keep σ 1 (10 * (σ 0 0 + 1) + 1) = 0 := by
            rw [c1, if_neg (by omega), if_neg (by omega), if_neg (by omega), cN, if_pos ⟨hk0, by omega, by omega⟩, if_neg (by omega)]
          unfold thOk
          rw [v0, v1, v 2 (by decide) (by decide), v 3 (by decide) (by decide), v 4 (by decide) (by decide), v 5 (by decide) (by decide), v 6 (by decide) (by decide), v 7 (by decide) (by decide), v 8 (by decide) (by decide), v 9 (by decide) (by decide)]
          have r2 := rS 2 (by decide) (by decide)
          have r3 := rS 3 (by decide) (by decide)
          have r4 := rS 4 (by decide) (by decide)
          have r5 := rS 5 (by decide) (by decide)
          exact ⟨by omega, by omega, ⟨r2.1, r2.2.2⟩, ⟨r3.1, r3.2.1⟩, ⟨r4.1, r4.2.1⟩, ⟨r5.1, r5.2.1⟩, rHS 6 (by decide) (by decide), rHS 7 (by decide) (by decide), rHS 8 (by decide) (by decide), rHS 9 (by decide) (by decide)⟩
        · refine thOk_congr (fun w x y => ?_) (J t a b)
          have ts' : 0 < keep → t ≠ σ 0 0 + 1 := fun q z => ts ⟨q, z⟩
          by_cases q : 0 < keep
          · have := ts' q
            rw [c1, if_neg (by omega), if_neg (by omega), if_neg (by omega), cN, if_neg (by omega), if_neg (by omega), show 10 * t + w = 10 * 12 + (10 * t + w - 120) from by omega]
            exact t6 _ (by omega)
          · rw [c1, if_neg (by omega), if_neg (by omega), if_neg (fun z => q z.1), cN, if_neg (fun z => q z.1), if_neg (by omega), show 10 * t + w = 10 * 12 + (10 * t + w - 120) from by omega]
            exact t6 _ (by omega)
  · unfold iCr
    rw [cr 0 (by decide) (by decide), cr 1 (by decide) (by decide)]
    exact CR
/-- the scalars, when one of them changes -/
theorem iN_sc {σ σ' : gSt} {q : Int} (I : iN σ) (h : ∀ j, j ≠ q → σ' 0 j = σ 0 j) (hq : q = 2 ∨ q = 3 ∨ q = 4 ∨ q = 6 ∨ q = 7 ∨ q = 9 ∨ q = 10) (b : 0 ≤ σ' 0 q ∧ σ' 0 q ≤ (if q = 2 then 10 else if q = 3 then 6 else if q = 4 then 8 else if q = 7 then 24 else 60)) : iN σ' := by
  unfold iN at I ⊢
  have e0 := h 0
  have e1 := h 1
  have e2 := h 2
  have e3 := h 3
  have e4 := h 4
  have e5 := h 5
  have e6 := h 6
  have e7 := h 7
  have e9 := h 9
  have e10 := h 10
  rcases hq with rfl | rfl | rfl | rfl | rfl | rfl | rfl <;> simp at b e0 e1 e2 e3 e4 e5 e6 e7 e9 e10 <;> omega
theorem feedσ_oo {w : Int} {σ : gSt} : ∀ j : Nat, (∀ c, c ≠ 0 → c ≠ 5 → feedσ w σ j c = σ c) ∧ (∀ i, i ≠ 6 → feedσ w σ j 0 i = σ 0 i) ∧ (iTp σ → iTp (feedσ w σ j))
  | 0 => ⟨fun _ _ _ => rfl, fun _ _ => rfl, fun h => h⟩
  | j + 1 => by
    obtain ⟨a, b, c⟩ := @feedσ_oo w σ j
    refine ⟨fun p x y => ?_, fun i x => ?_, fun h i x y => ?_⟩
    · funext i
      show up1 _ 0 6 _ p i = _
      rw [up1_o x, up1_o y, a p x y]
    · show up1 _ 0 6 _ 0 i = _
      rw [up1_n x, up1_o (by decide), b i x]
    · show inI (up1 _ 0 6 _ 5 i)
      rw [up1_o (by decide)]
      by_cases e : i = σ 0 6 + (j : Int)
      · rw [e, up1_i]
        constructor <;> omega
      · rw [up1_n e]
        exact c h i x y
theorem kp_feed {n : Nat} {w m : Int} {σ : gSt} (V : Inv n σ) : Inv n (S_feed w m σ).2 := by
  unfold S_feed
  split
  · exact V
  rename_i hv
  have hv := Classical.not_not.mp hv
  split
  · exact V
  rename_i hf
  obtain ⟨I, J, CR, T, X, C, P, G⟩ := V.1
  have I' := I
  unfold iN at I'
  obtain ⟨a, b, c⟩ := @feedσ_oo w σ m.toNat
  have e6 := @feedσ_6 w σ m.toNat
  show Inv n (feedσ w σ m.toNat)
  exact inv_now V (fun c h => a c (by omega) (by omega)) ⟨iN_sc (q := 6) I (fun j h => b j h) (by decide) (by rw [e6, if_neg (by decide), if_neg (by decide), if_neg (by decide), if_neg (by decide)]; omega), cg_B (a 1 (by decide) (by decide)) J, cg_Cr (a 1 (by decide) (by decide)) CR, c T, cg_X (b 9 (by decide)) (b 10 (by decide)) (a 7 (by decide) (by decide)) (a 8 (by decide) (by decide)) X, cg_C (b 2 (by decide)) (a 2 (by decide) (by decide)) C, cg_P (b 3 (by decide)) (a 3 (by decide) (by decide)) P, cg_G (b 4 (by decide)) (a 4 (by decide) (by decide)) G⟩
theorem hX_hgt {u : Int} {w v : Int → Int} {L : Int} (hu : u = 0 ∨ u = 1) (ok : ∀ j, 0 ≤ j → j < L → tokOk u (w j) (v j)) : ∀ n : Nat, (n : Int) ≤ L → hX (msk L (fun i => encT u (w i) (v i))) n = hgt w n
  | 0, _ => rfl
  | n + 1, h => by
    have ih := hX_hgt hu ok n (by omega)
    have e : msk L (fun i => encT u (w i) (v i)) (n : Int) = encT u (w n) (v n) := by unfold msk; rw [if_pos ⟨by omega, by omega⟩]
    rw [hX_s, hgt_s, ih, e]
    rcases enc_cases hu (ok n (by omega) (by omega)) with ⟨a, b, c⟩ | ⟨a, b, -, c, d⟩ | ⟨a, b⟩ | ⟨a, b, -, c, d⟩
    · rw [if_neg (by omega), if_neg (by omega), if_neg (by omega), if_neg (by omega)]
    · rw [if_neg (by omega), if_neg (by omega), if_neg (by omega), if_neg (by omega)]
    · rw [if_pos b, if_pos a]
    · rw [b, if_neg d, if_pos c, if_neg (by omega), if_pos a]
theorem wfX_run {u : Int} {τ : gSt} (hu : u = 0 ∨ u = 1) (h0 : 0 ≤ τ 0 1) (g : grew u p0 τ 1) : wfX (msk (τ 0 1) (fun i => encT u (τ 1 i) (τ 2 i))) (τ 0 1).toNat := by
  obtain ⟨-, -, g3, g4⟩ := g
  have z : hgt (τ 1) (p0 0 1).toNat = 0 := rfl
  rw [z] at g3 g4
  have ok : ∀ j, 0 ≤ j → j < τ 0 1 → tokOk u (τ 1 j) (τ 2 j) := fun j a b => (g3 j a b).1
  have hh := hX_hgt hu ok
  refine ⟨fun j hj => ?_, ?_⟩
  · obtain ⟨q1, q2, q3, q4⟩ := g3 (j : Int) (show (0 : Int) ≤ j by omega) (by omega)
    rw [hh j (by omega)]
    have e : msk (τ 0 1) (fun i => encT u (τ 1 i) (τ 2 i)) (j : Int) = encT u (τ 1 j) (τ 2 j) := by unfold msk; rw [if_pos ⟨by omega, by omega⟩]
    rw [e]
    rw [Int.toNat_natCast] at q2 q3 q4
    rcases enc_cases hu q1 with ⟨a, b, c⟩ | ⟨a, b, -, c, d⟩ | ⟨a, b⟩ | ⟨a, b, l, c, d⟩
    · have r : τ 2 (j : Int) ≤ 9999 := by
        rcases q1 with q | q | q | q
        · exact q.2.2
        · omega
        · omega
        · omega
      exact ⟨Or.inl ⟨by omega, by omega⟩, fun x => by omega, fun x => by omega, q4⟩
    · exact ⟨Or.inr (Or.inl ⟨c, d⟩), fun x => by omega, fun x => by omega, q4⟩
    · have := q2 a
      exact ⟨Or.inr (Or.inr (Or.inl b)), fun _ => by omega, fun _ x => absurd b x, q4⟩
    · have := q3 a
      rw [b]
      exact ⟨Or.inr (Or.inr (Or.inr ⟨by rw [Int.neg_neg]; exact l, c⟩)), fun x => absurd x d, fun _ _ => by omega, q4⟩
  · rw [hh _ (by omega)]
    omega
theorem setX_o {u n : Int} {f : Int → Int} {σ : gSt} (hu : u = 0 ∨ u = 1) : (∀ c, c ≠ 0 → c ≠ 7 → c ≠ 8 → setX u n f σ c = σ c) ∧ (∀ j, j ≠ 9 + u → setX u n f σ 0 j = σ 0 j) ∧ setX u n f σ 0 (9 + u) = n ∧ (∀ c : Nat, (c : Int) = 7 + u → setX u n f σ c = msk n f) ∧ ∀ c : Nat, (c : Int) = 8 - u → setX u n f σ c = σ c := by
  refine ⟨fun c a b d => ?_, fun j a => ?_, ?_, fun c h => ?_, fun c h => ?_⟩
  · funext i
    unfold setX
    rw [if_neg (fun q => a q.1), if_neg (by omega)]
  · unfold setX
    rw [if_neg (fun q => a q.2), if_neg (by omega)]
  · unfold setX
    rw [if_pos ⟨rfl, rfl⟩]
  · funext i
    unfold setX
    rw [if_neg (by omega), if_pos h]
  · funext i
    unfold setX
    rw [if_neg (by omega), if_neg (by omega)]
theorem inv_X {n : Nat} {u m : Int} {f : Int → Int} {σ : gSt} (V : Inv n σ) (hu : u = 0 ∨ u = 1) (hm : 0 ≤ m ∧ m ≤ 60) (wf : 0 < m → wfX (msk m f) m.toNat) : Inv n (setX u m f σ) := by
  obtain ⟨I, J, CR, T, X, C, P, G⟩ := V.1
  obtain ⟨a, b, c, d, e⟩ := @setX_o u m f σ hu
  have hb : ∀ j, j < 9 → setX u m f σ 0 j = σ 0 j := fun j h => b j (by omega)
  refine inv_now V (fun c h => a c (by omega) (by omega) (by omega)) ⟨iN_sc (q := 9 + u) I b (by omega) ?_, cg_B (a 1 (by decide) (by decide) (by decide)) J, cg_Cr (a 1 (by decide) (by decide) (by decide)) CR, cg_Tp (a 5 (by decide) (by decide) (by decide)) T, ?_, cg_C (hb 2 (by decide)) (a 2 (by decide) (by decide) (by decide)) C, cg_P (hb 3 (by decide)) (a 3 (by decide) (by decide) (by decide)) P, cg_G (hb 4 (by decide)) (a 4 (by decide) (by decide) (by decide)) G⟩
  · rw [c, if_neg (by omega), if_neg (by omega), if_neg (by omega), if_neg (by omega)]
    exact hm
  · unfold iX at X ⊢
    rcases hu with rfl | rfl
    · rw [show setX 0 m f σ 0 9 = m from c, b 10 (by decide), d 7 (by decide), e 8 (by decide)]
      exact ⟨wf, X.2⟩
    · rw [show setX 1 m f σ 0 10 = m from c, b 9 (by decide), d 8 (by decide), e 7 (by decide)]
      exact ⟨X.1, wf⟩
theorem inv_sc {n : Nat} {q x : Int} {σ : gSt} (V : Inv n σ) (hq : q = 3 ∨ q = 4 ∨ q = 6 ∨ q = 7) (hx : x = 0) : Inv n (up1 σ 0 q x) := by
  subst hx
  obtain ⟨I, J, CR, T, X, C, P, G⟩ := V.1
  have e : ∀ c, c ≠ 0 → up1 σ 0 q 0 c = σ c := fun c h => by funext i; exact up1_o h
  have b : ∀ j, j ≠ q → up1 σ 0 q 0 0 j = σ 0 j := fun j h => up1_n h
  refine inv_now V (fun c h => e c (by omega)) ⟨iN_sc (q := q) I b (by omega) (by rw [up1_i]; refine ⟨by decide, ?_⟩; repeat' split
                                                                                  all_goals decide), cg_B (e 1 (by decide)) J, cg_Cr (e 1 (by decide)) CR, cg_Tp (e 5 (by decide)) T, cg_X (b 9 (by omega)) (b 10 (by omega)) (e 7 (by decide)) (e 8 (by decide)) X, cg_C (b 2 (by omega)) (e 2 (by decide)) C, ?_, ?_⟩
  · by_cases h : q = 3
    · subst h
      intro i a c
      rw [up1_i] at c
      exact absurd c (by omega)
    · exact cg_P (b 3 (by omega)) (e 3 (by decide)) P
  · by_cases h : q = 4
    · subst h
      intro i a c
      rw [up1_i] at c
      exact absurd c (by omega)
    · exact cg_G (b 4 (by omega)) (e 4 (by decide)) G
theorem kp_text {n : Nat} {u : Int} {σ : gSt} (V : Inv n σ) : Inv n (S_text u σ).2 := by
  unfold S_text
  split
  · exact V
  rename_i hv
  have hv := Classical.not_not.mp hv
  have I' := V.1.1
  unfold iN at I'
  obtain ⟨g1, g2⟩ := good_run (u := u) (σ := σ) (by omega)
  have V6 := inv_sc (q := 6) (x := 0) V (by decide) rfl
  split
  · rename_i h
    obtain ⟨h1, h2⟩ := h
    have g3 := g2.resolve_left h1
    unfold pOK at g1
    exact inv_X V6 (by omega) (by omega) (fun _ => wfX_run (by omega) g1.1 g3.2)
  · exact V6
theorem kp_untell {n : Nat} {u : Int} {σ : gSt} (V : Inv n σ) : Inv n (S_untell u σ).2 := by
  unfold S_untell
  split
  · exact V
  rename_i hv
  have hv := Classical.not_not.mp hv
  exact inv_X V (by omega) (by decide) (fun h => absurd h (by decide))
theorem kp_claim {n : Nat} {t g : Int} {σ : gSt} (V : Inv n σ) : Inv n (S_claim t g σ).2 := by
  unfold S_claim
  split
  · exact V
  rename_i hv
  have hv := Classical.not_not.mp hv
  split
  · exact V
  rename_i hf
  obtain ⟨I, J, CR, T, X, C, P, G⟩ := V.1
  have I' := I
  unfold iN at I'
  generalize hσ : up1 (up1 (up1 σ 2 (2 * σ 0 2) t) 2 (2 * σ 0 2 + 1) g) 0 2 (σ 0 2 + 1) = σ'
  show Inv n σ'
  have e : ∀ c, c ≠ 0 → c ≠ 2 → σ' c = σ c := fun c h h2 => by funext i; rw [← hσ, up1_o h, up1_o h2, up1_o h2]
  have b : ∀ j, j ≠ 2 → σ' 0 j = σ 0 j := fun j h => by rw [← hσ, up1_n h, up1_o (by decide), up1_o (by decide)]
  have b2 : σ' 0 2 = σ 0 2 + 1 := by rw [← hσ, up1_i]
  have q : ∀ j, σ' 2 j = if j = 2 * σ 0 2 + 1 then g else if j = 2 * σ 0 2 then t else σ 2 j := fun j => by
    rw [← hσ, up1_o (by decide)]
    by_cases x : j = 2 * σ 0 2 + 1
    · rw [if_pos x, x, up1_i]
    · rw [if_neg x, up1_n x]
      by_cases y : j = 2 * σ 0 2
      · rw [if_pos y, y, up1_i]
      · rw [if_neg y, up1_n y]
  refine inv_now V (fun c h => e c (by omega) (by omega)) ⟨iN_sc (q := 2) I b (by decide) (by rw [b2, if_pos rfl]; omega), cg_B (e 1 (by decide) (by decide)) J, cg_Cr (e 1 (by decide) (by decide)) CR, cg_Tp (e 5 (by decide) (by decide)) T, cg_X (b 9 (by decide)) (b 10 (by decide)) (e 7 (by decide) (by decide)) (e 8 (by decide) (by decide)) X, ?_, cg_P (b 3 (by decide)) (e 3 (by decide) (by decide)) P, cg_G (b 4 (by decide)) (e 4 (by decide) (by decide)) G⟩
  intro i x y
  rw [b2] at y
  rw [q, q]
  by_cases w : i = σ 0 2
  · rw [if_neg (by omega), if_pos (by omega), if_pos (by omega)]
    omega
  · rw [if_neg (by omega), if_neg (by omega), if_neg (by omega), if_neg (by omega)]
    exact C i x (by omega)
theorem inv_3 {n : Nat} {c : Nat} {q a b d : Int} {σ : gSt} (V : Inv n σ) (hc : (c = 3 ∧ q = 3 ∧ σ 0 3 < 6 ∧ (0 ≤ a ∧ a ≤ 11) ∧ (0 ≤ b ∧ b ≤ 11) ∧ a ≠ b ∧ (1 ≤ d ∧ d ≤ 8)) ∨ (c = 4 ∧ q = 4 ∧ σ 0 4 < 8 ∧ (0 ≤ a ∧ a ≤ 11) ∧ (0 ≤ b ∧ b ≤ 9999999) ∧ (0 ≤ d ∧ d ≤ 99))) : Inv n (add3 σ c q a b d) := by
  obtain ⟨I, J, CR, T, X, C, P, G⟩ := V.1
  have I' := I
  unfold iN at I'
  have c3 : c ≠ 0 := by rcases hc with h | h <;> omega
  generalize hσ : add3 σ c q a b d = σ'
  unfold add3 at hσ
  have e : ∀ p, p ≠ 0 → p ≠ c → σ' p = σ p := fun p h h2 => by funext i; rw [← hσ, up1_o h, up1_o h2, up1_o h2, up1_o h2]
  have b0 : ∀ j, j ≠ q → σ' 0 j = σ 0 j := fun j h => by rw [← hσ, up1_n h, up1_o (Ne.symm c3), up1_o (Ne.symm c3), up1_o (Ne.symm c3)]
  have b2 : σ' 0 q = σ 0 q + 1 := by rw [← hσ, up1_i]
  have w : ∀ j, σ' c j = if j = 3 * σ 0 q + 2 then d else if j = 3 * σ 0 q + 1 then b else if j = 3 * σ 0 q then a else σ c j := fun j => by
    rw [← hσ, up1_o c3]
    by_cases x : j = 3 * σ 0 q + 2
    · rw [if_pos x, x, up1_i]
    · rw [if_neg x, up1_n x]
      by_cases y : j = 3 * σ 0 q + 1
      · rw [if_pos y, y, up1_i]
      · rw [if_neg y, up1_n y]
        by_cases z : j = 3 * σ 0 q
        · rw [if_pos z, z, up1_i]
        · rw [if_neg z, up1_n z]
  have kN : iN σ' := iN_sc (q := q) I b0 (by rcases hc with h | h <;> omega) (by
    rw [b2]
    rcases hc with ⟨-, rfl, h, -⟩ | ⟨-, rfl, h, -⟩
    · rw [if_neg (by decide), if_pos rfl]; omega
    · rw [if_neg (by decide), if_neg (by decide), if_pos rfl]; omega)
  have ne : ∀ p : Nat, p ≠ 3 → p ≠ 4 → p ≠ c := fun p x y => by rcases hc with h | h <;> omega
  have ns : ∀ p : Int, p ≠ 3 → p ≠ 4 → p ≠ q := fun p x y => by rcases hc with h | h <;> omega
  refine inv_now V (fun p h => e p (by omega) (ne p (by omega) (by omega))) ⟨kN, cg_B (e 1 (by decide) (ne 1 (by decide) (by decide))) J, cg_Cr (e 1 (by decide) (ne 1 (by decide) (by decide))) CR, cg_Tp (e 5 (by decide) (ne 5 (by decide) (by decide))) T, cg_X (b0 9 (ns 9 (by decide) (by decide))) (b0 10 (ns 10 (by decide) (by decide))) (e 7 (by decide) (ne 7 (by decide) (by decide))) (e 8 (by decide) (ne 8 (by decide) (by decide))) X, cg_C (b0 2 (ns 2 (by decide) (by decide))) (e 2 (by decide) (ne 2 (by decide) (by decide))) C, ?_, ?_⟩
  · rcases hc with ⟨rfl, rfl, h1, h2⟩ | ⟨rfl, rfl, -⟩
    · intro i x y
      rw [b2] at y
      rw [w, w, w]
      by_cases z : i = σ 0 3
      · rw [if_neg (by omega), if_neg (by omega), if_pos (by omega), if_neg (by omega), if_pos (by omega), if_pos (by omega)]
        exact h2
      · rw [if_neg (by omega), if_neg (by omega), if_neg (by omega), if_neg (by omega), if_neg (by omega), if_neg (by omega), if_neg (by omega), if_neg (by omega), if_neg (by omega)]
        exact P i x (by omega)
    · exact cg_P (b0 3 (by decide)) (e 3 (by decide) (by decide)) P
  · rcases hc with ⟨rfl, rfl, -⟩ | ⟨rfl, rfl, h1, h2⟩
    · exact cg_G (b0 4 (by decide)) (e 4 (by decide) (by decide)) G
    · intro i x y
      rw [b2] at y
      rw [w, w, w]
      by_cases z : i = σ 0 4
      · rw [if_neg (by omega), if_neg (by omega), if_pos (by omega), if_neg (by omega), if_pos (by omega), if_pos (by omega)]
        exact h2
      · rw [if_neg (by omega), if_neg (by omega), if_neg (by omega), if_neg (by omega), if_neg (by omega), if_neg (by omega), if_neg (by omega), if_neg (by omega), if_neg (by omega)]
        exact G i x (by omega)
theorem kp_paper {n : Nat} {a b d : Int} {σ : gSt} (V : Inv n σ) : Inv n (S_paper a b d σ).2 := by
  unfold S_paper
  split
  · exact V
  rename_i hv
  have hv := Classical.not_not.mp hv
  split
  · exact V
  rename_i hf
  have I' := V.1.1
  unfold iN at I'
  exact inv_3 V (Or.inl ⟨rfl, rfl, by omega, by omega, by omega, hv.2.2.1, hv.2.2.2⟩)
theorem kp_weigh {n : Nat} {a b d : Int} {σ : gSt} (V : Inv n σ) : Inv n (S_weigh a b d σ).2 := by
  unfold S_weigh
  split
  · exact V
  rename_i hv
  have hv := Classical.not_not.mp hv
  split
  · exact V
  rename_i hf
  have I' := V.1.1
  unfold iN at I'
  exact inv_3 V (Or.inr ⟨rfl, rfl, by omega, by omega, hv.2.1, hv.2.2⟩)
theorem kp_forget {n : Nat} {w : Int} {σ : gSt} (V : Inv n σ) : Inv n (S_forget w σ).2 := by
  unfold S_forget
  split
  · exact V
  rename_i hv
  have hv := Classical.not_not.mp hv
  exact inv_sc V (by omega) rfl
theorem kp_check {n : Nat} {σ : gSt} (V : Inv n σ) : Inv n (S_check σ).2 := inv_sc V (by decide) rfl
theorem kp_tell {n : Nat} {v : Int} {σ : gSt} (V : Inv n σ) : Inv n (S_tell v σ).2 := by
  unfold S_tell
  split
  · exact V
  rename_i hf
  obtain ⟨I, J, CR, T, X, C, P, G⟩ := V.1
  have I' := I
  unfold iN at I'
  have e : ∀ c, c ≠ 0 → c ≠ 6 → up1 (up1 σ 6 (σ 0 7) v) 0 7 (σ 0 7 + 1) c = σ c := fun c h h2 => by funext i; rw [up1_o h, up1_o h2]
  have b : ∀ j, j ≠ 7 → up1 (up1 σ 6 (σ 0 7) v) 0 7 (σ 0 7 + 1) 0 j = σ 0 j := fun j h => by rw [up1_n h, up1_o (by decide)]
  show Inv n (up1 (up1 σ 6 (σ 0 7) v) 0 7 (σ 0 7 + 1))
  exact inv_now V (fun c h => e c (by omega) (by omega)) ⟨iN_sc (q := 7) I b (by decide) (by rw [up1_i, if_neg (by decide), if_neg (by decide), if_neg (by decide), if_pos rfl]; omega), cg_B (e 1 (by decide) (by decide)) J, cg_Cr (e 1 (by decide) (by decide)) CR, cg_Tp (e 5 (by decide) (by decide)) T, cg_X (b 9 (by decide)) (b 10 (by decide)) (e 7 (by decide) (by decide)) (e 8 (by decide) (by decide)) X, cg_C (b 2 (by decide)) (e 2 (by decide) (by decide)) C, cg_P (b 3 (by decide)) (e 3 (by decide) (by decide)) P, cg_G (b 4 (by decide)) (e 4 (by decide) (by decide)) G⟩
theorem kp_papL {q : Int} {k : Nat} : ∀ (n : Nat) (m : Int) (σ : gSt), Inv k σ → Inv k (papL q n m σ).2
  | 0, _, _, V => V
  | n + 1, m, σ, V => by
    unfold papL
    split
    · rename_i g
      have I' := V.1.1
      unfold iN at I'
      refine kp_papL n (m + 1) _ (inv_3 V (Or.inl ⟨rfl, rfl, g.2.1, by omega, by omega, g.2.2.2.2.1, g.2.2.2.2.2⟩))
    · exact V
theorem kp_papers {n : Nat} {q : Int} {σ : gSt} (V : Inv n σ) : Inv n (S_papers q σ).2 := by
  unfold S_papers
  split
  · exact V
  split
  · exact V
  exact kp_papL 8 0 σ V
/-- a change of sheets alone -/
theorem inv_S {n : Nat} {σ σ' : gSt} (V : Inv n σ) (h : ∀ c, c < 22 → σ' c = σ c) (S : iSh σ') : Inv n σ' := by
  obtain ⟨a, -, c, d⟩ := V
  refine ⟨cg_All (fun c q => h c (by omega)) a, S, ?_, cg_Img (fun c _ x => h c x) d⟩
  rw [h 21 (by decide)]
  exact c
theorem kp_sheet {n : Nat} {q b m : Int} {σ : gSt} (V : Inv n σ) : Inv n (S_sheet q b m σ).2 := by
  unfold S_sheet
  split
  · exact V
  rename_i hv
  have hv := Classical.not_not.mp hv
  split
  · exact V
  rename_i h1
  split
  · exact V
  rename_i h2
  show Inv n (shB σ q b (if b = 0 then 0 else m))
  refine inv_S V (fun c hc => by funext i; unfold shB; rw [if_neg (by omega), if_neg (by omega), if_neg (by omega)]) (fun t x y => ?_)
  have S := V.2.1 t x y
  unfold shB
  by_cases e : t = q
  · rw [if_pos ⟨rfl, e⟩, if_neg (fun z => absurd z.1 (by decide)), if_pos ⟨rfl, e⟩]
    refine ⟨hv.2, ?_, fun i _ _ => ?_⟩
    · split <;> omega
    · rw [if_neg (fun z => absurd z.1 (by decide)), if_neg (fun z => absurd z.1 (by decide)), if_pos ⟨rfl, by omega, by omega⟩]
      constructor <;> decide
  · rw [if_neg (fun z => e z.2), if_neg (fun z => absurd z.1 (by decide)), if_neg (fun z => absurd z.1 (by decide)), if_neg (fun z => absurd z.1 (by decide)), if_neg (fun z => e z.2), if_neg (fun z => absurd z.1 (by decide))]
    refine ⟨S.1, S.2.1, fun i a b => ?_⟩
    rw [if_neg (fun z => absurd z.1 (by decide)), if_neg (fun z => absurd z.1 (by decide)), if_neg (by omega)]
    exact S.2.2 i a b
theorem kp_put {n : Nat} {q i v : Int} {σ : gSt} (V : Inv n σ) : Inv n (S_put q i v σ).2 := by
  unfold S_put
  split
  · exact V
  rename_i hv
  have hv := Classical.not_not.mp hv
  split
  · exact V
  split
  · exact V
  show Inv n (up1 σ 25 (24 * q + i) (lowB (σ 23 q) v))
  refine inv_S V (fun c hc => by funext j; exact up1_o (by omega)) (fun t x y => ?_)
  have S := V.2.1 t x y
  rw [up1_o (by decide), up1_o (by decide)]
  refine ⟨S.1, S.2.1, fun j a b => ?_⟩
  by_cases e : 24 * t + j = 24 * q + i
  · rw [e, up1_i]
    exact inX _
  · rw [up1_n e]
    exact S.2.2 j a b
theorem kp_move {n : Nat} {q i q2 j m : Int} {σ : gSt} (V : Inv n σ) : Inv n (S_move q i q2 j m σ).2 := by
  unfold S_move
  split
  · exact V
  rename_i hv
  have hv := Classical.not_not.mp hv
  split
  · exact V
  split
  · exact V
  split
  · exact V
  rename_i hr
  show Inv n (mvS σ q i q2 j m)
  refine inv_S V (fun c hc => by funext p; unfold mvS; rw [if_neg (by omega)]) (fun t x y => ?_)
  have S := V.2.1 t x y
  have S1 := V.2.1 q hv.1.1 hv.1.2
  unfold mvS
  rw [if_neg (fun z => absurd z.1 (by decide)), if_neg (fun z => absurd z.1 (by decide))]
  refine ⟨S.1, S.2.1, fun p a b => ?_⟩
  by_cases e : 24 * q2 + j ≤ 24 * t + p ∧ 24 * t + p < 24 * q2 + j + m
  · rw [if_pos ⟨rfl, e⟩, show 24 * q + i + (24 * t + p - (24 * q2 + j)) = 24 * q + (i + (24 * t + p - (24 * q2 + j))) from by omega]
    exact S1.2.2 _ (by omega) (by omega)
  · rw [if_neg (fun z => e z.2)]
    exact S.2.2 p a b
theorem kp_image {n : Nat} {σ : gSt} (V : Inv n σ) : Inv (n + 6) (S_image σ).2 := by
  obtain ⟨a, b, c, d⟩ := V
  show Inv (n + 6) (imgσ σ)
  have lo : ∀ p, p < 10 → imgσ σ p = σ p := fun p h => by funext i; unfold imgσ; rw [if_neg (by omega), if_neg (by omega)]
  have hi : ∀ p, p < 10 → rstσ (imgσ σ) p = σ p := fun p h => by
    funext i; unfold rstσ imgσ; rw [if_pos h, if_pos (by omega), show p + 10 - 10 = p from by omega]
  refine ⟨cg_All lo a, cg_Sh (fun p h => ?_) b, ?_, fun _ => cg_All hi a⟩
  · funext i
    unfold imgσ
    rw [if_neg (by omega), if_neg (by omega)]
  · have : imgσ σ 21 0 = σ 21 0 + 1 := by unfold imgσ; rw [if_neg (by decide), if_pos ⟨rfl, rfl⟩]
    omega
theorem kp_restore {n : Nat} {σ : gSt} (V : Inv n σ) : Inv n (S_restore σ).2 := by
  unfold S_restore
  split
  · exact V
  rename_i hz
  obtain ⟨a, b, c, d⟩ := V
  show Inv n (rstσ σ)
  have hi : ∀ p, ¬ p < 10 → rstσ σ p = σ p := fun p h => by funext i; unfold rstσ; rw [if_neg h]
  refine ⟨d hz, cg_Sh (fun p h => hi p (by omega)) b, ?_, cg_Img (fun p h _ => hi p (by omega)) d⟩
  rw [hi 21 (by decide)]
  exact c
