-- P1: one call on two new objects answers alike
theorem inX (y : Int32) : inI y.toInt := by
  have h : y.toInt = wrap y.toInt := by rw [← ofInt_toInt, Int32.ofInt_toInt]
  rw [h]
  exact wrap_rng _
theorem e0cr (c : Nat) (i : Int) (hc : c ≠ 10) : absC M0c c i = absR M0r c i := by
  match c, hc with
  | 0, _ =>
    show absC M0c 0 i = absS (M0r 1) 0 i
    by_cases h : 0 ≤ i ∧ i ≤ 10
    · rcases (show i = 0 ∨ i = 1 ∨ i = 2 ∨ i = 3 ∨ i = 4 ∨ i = 5 ∨ i = 6 ∨ i = 7 ∨ i = 8 ∨ i = 9 ∨ i = 10 by omega) with rfl | rfl | rfl | rfl | rfl | rfl | rfl | rfl | rfl | rfl | rfl <;> rfl
    · have h0 : ¬ i = 0 := by omega
      have h1 : ¬ i = 1 := by omega
      have h2 : ¬ i = 2 := by omega
      have h3 : ¬ i = 3 := by omega
      have h4 : ¬ i = 4 := by omega
      have h5 : ¬ i = 5 := by omega
      have h6 : ¬ i = 6 := by omega
      have h7 : ¬ i = 7 := by omega
      have h8 : ¬ i = 8 := by omega
      have h9 : ¬ i = 9 := by omega
      have h10 : ¬ i = 10 := by omega
      have g : ¬ (0 ≤ i ∧ i < 9) := by omega
      simp [absC, absS, h0, h1, h2, h3, h4, h5, h6, h7, h8, h9, h10, g]
  | 10, hc => exact absurd rfl hc
  | 1, _ =>
    simp [absC, absR, absS, msk, M0c, M0r]
    try (intros; omega)
  | 2, _ =>
    simp [absC, absR, absS, msk, M0c, M0r]
    try (intros; omega)
  | 3, _ =>
    simp [absC, absR, absS, msk, M0c, M0r]
    try (intros; omega)
  | 4, _ =>
    simp [absC, absR, absS, msk, M0c, M0r]
    try (intros; omega)
  | 5, _ =>
    simp [absC, absR, absS, msk, M0c, M0r]
    try (intros; omega)
  | 6, _ =>
    simp [absC, absR, absS, msk, M0c, M0r]
    try (intros; omega)
  | 7, _ =>
    simp [absC, absR, absS, msk, M0c, M0r]
    try (intros; omega)
  | 8, _ =>
    simp [absC, absR, absS, msk, M0c, M0r]
    try (intros; omega)
  | 9, _ => simp [absC, absR, absS, msk, M0c, M0r]
  | 11, _ => simp [absC, absR, absS, msk, M0c, M0r]
  | 12, _ => simp [absC, absR, absS, msk, M0c, M0r]
  | 13, _ => simp [absC, absR, absS, msk, M0c, M0r]
  | 14, _ => simp [absC, absR, absS, msk, M0c, M0r]
  | 15, _ => simp [absC, absR, absS, msk, M0c, M0r]
  | 16, _ => simp [absC, absR, absS, msk, M0c, M0r]
  | 17, _ =>
    simp [absC, absR, absS, msk, M0c, M0r]
    try (intros; omega)
  | 18, _ =>
    simp [absC, absR, absS, msk, M0c, M0r]
    try (intros; omega)
  | 19, _ => simp [absC, absR, absS, msk, M0c, M0r]
  | 20, _ => simp [absC, absR, absS, msk, M0c, M0r] <;> (repeat' split) <;> first | rfl | omega
  | 21, _ => simp [absC, absR, absS, msk, M0c, M0r]
  | 22, _ => simp [absC, absR, absS, msk, M0c, M0r]
  | 23, _ => simp [absC, absR, absS, msk, M0c, M0r]
  | 24, _ => simp [absC, absR, absS, msk, M0c, M0r]
  | 25, _ => simp [absC, absR, absS, msk, M0c, M0r]
  | n + 26, _ =>
    have a : ¬ n + 26 < 10 := by omega
    have b : ¬ n + 26 < 20 := by omega
    simp [absC, absR, a, b]
theorem I0c : iN (absC M0c) := by
  unfold iN
  decide
theorem I0r : iN (absR M0r) := by
  unfold iN
  decide
theorem z0c (j : Int) : absC M0c 1 j = 0 := by simp [absC, msk, M0c]
theorem J0c : iB (absC M0c) := by
  intro t h0 h1
  unfold thOk
  simp only [z0c]
  decide
theorem z0r (j : Int) : absR M0r 1 j = 0 := by rw [← e0cr 1 j (by decide)]; exact z0c j
theorem J0r : iB (absR M0r) := by
  intro t h0 h1
  unfold thOk
  simp only [z0r]
  decide
theorem ea0 (i : Int) : absC M0c 0 i = absR M0r 0 i := e0cr 0 i (by decide)
theorem ea1 (i : Int) : absC M0c 1 i = absR M0r 1 i := e0cr 1 i (by decide)
theorem ea20 (i : Int) : absC M0c 20 i = absR M0r 20 i := e0cr 20 i (by decide)
theorem ea21 (i : Int) : absC M0c 21 i = absR M0r 21 i := e0cr 21 i (by decide)
theorem ea22 (i : Int) : absC M0c 22 i = absR M0r 22 i := e0cr 22 i (by decide)
def RelF (i : Nat) (Mc Mr : gSt) : Prop := i = 0 → Mc = M0c ∧ Mr = M0r
theorem pf_thing : lawP_thing 6 RelF := by
  intro i x Mc Mr K hi hR hK
  obtain ⟨rfl, rfl⟩ := hR (by omega)
  have kk : ∀ a b, K a b := fun a b => hK a b (fun h => absurd h (by omega))
  refine sC_thing (inX _) (inX _) I0c cK0 (fun Mc' _ _ => sR_thing (inX _) (inX _) I0r (fun Mr' _ _ => ⟨congrArg wrap (by simp only [S_thing, S_err, apply_ite Prod.fst, ea0, ea1, ea20, ea21, ea22]), kk _ _⟩))
theorem pf_thingIs : lawP_thingIs 6 RelF := by
  intro i x Mc Mr K hi hR hK
  obtain ⟨rfl, rfl⟩ := hR (by omega)
  have kk : ∀ a b, K a b := fun a b => hK a b (fun h => absurd h (by omega))
  exact fC_thingIs (inX _) (fun _ => fR_thingIs (inX _) (fun _ => ⟨rfl, kk _ _⟩))
theorem pf_as : lawP_as 6 RelF := by
  intro i x Mc Mr K hi hR hK
  obtain ⟨rfl, rfl⟩ := hR (by omega)
  have kk : ∀ a b, K a b := fun a b => hK a b (fun h => absurd h (by omega))
  refine sC_as (inX _) (inX _) I0c J0c cK0 (fun Mc' _ _ => sR_as (inX _) (inX _) I0r J0r (fun Mr' _ _ => ⟨congrArg wrap (by simp only [S_as, S_err, apply_ite Prod.fst, ea0, ea1, ea20, ea21, ea22]), kk _ _⟩))
theorem pf_set : lawP_set 6 RelF := by
  intro i x Mc Mr K hi hR hK
  obtain ⟨rfl, rfl⟩ := hR (by omega)
  have kk : ∀ a b, K a b := fun a b => hK a b (fun h => absurd h (by omega))
  refine sC_set (inX _) (inX _) (inX _) I0c J0c cK0 (fun Mc' _ _ => sR_set (inX _) (inX _) (inX _) I0r J0r (fun Mr' _ _ => ⟨congrArg wrap (by simp only [S_set, S_err, apply_ite Prod.fst, ea0, ea1, ea20, ea21, ea22]), kk _ _⟩))
theorem pf_melt : lawP_melt 6 RelF := by
  intro i x Mc Mr K hi hR hK
  obtain ⟨rfl, rfl⟩ := hR (by omega)
  have kk : ∀ a b, K a b := fun a b => hK a b (fun h => absurd h (by omega))
  exact fC_melt (inX _) (fun _ => fR_melt (inX _) (fun _ => ⟨rfl, kk _ _⟩))
theorem pf_crucible : lawP_crucible 6 RelF := by
  intro i x Mc Mr K hi hR hK
  obtain ⟨rfl, rfl⟩ := hR (by omega)
  have kk : ∀ a b, K a b := fun a b => hK a b (fun h => absurd h (by omega))
  refine sC_crucible (inX _) cK0 (fun Mc' _ _ => sR_crucible (inX _) (fun Mr' _ _ => ⟨congrArg wrap (by simp only [S_crucible, S_err, apply_ite Prod.fst, ea0, ea1, ea20, ea21, ea22]), kk _ _⟩))
theorem pf_cast : lawP_cast 6 RelF := by
  intro i x Mc Mr K hi hR hK
  obtain ⟨rfl, rfl⟩ := hR (by omega)
  have kk : ∀ a b, K a b := fun a b => hK a b (fun h => absurd h (by omega))
  exact fC_cast (inX _) (inX _) (inX _) (fun q _ => fR_cast (inX _) (inX _) (inX _) (fun _ _ => ⟨rfl, kk _ _⟩) (fun z => absurd z q)) (fun q _ => fR_cast (inX _) (inX _) (inX _) (fun z => absurd q z) (fun _ _ => ⟨rfl, kk _ _⟩))
theorem pf_years : lawP_years 6 RelF := by
  intro i x Mc Mr K hi hR hK
  obtain ⟨rfl, rfl⟩ := hR (by omega)
  have kk : ∀ a b, K a b := fun a b => hK a b (fun h => absurd h (by omega))
  exact fC_years (inX _) (fun q _ => fR_years (inX _) (fun _ _ => ⟨rfl, kk _ _⟩) (fun z => absurd z q)) (fun q _ => fR_years (inX _) (fun z => absurd q z) (fun _ _ => ⟨rfl, kk _ _⟩))
theorem pf_then : lawP_then 6 RelF := by
  intro i x Mc Mr K hi hR hK
  obtain ⟨rfl, rfl⟩ := hR (by omega)
  have kk : ∀ a b, K a b := fun a b => hK a b (fun h => absurd h (by omega))
  exact fC_then (inX _) (inX _) (fun _ => fR_then (inX _) (inX _) (fun _ => ⟨rfl, kk _ _⟩))
theorem pf_seed : lawP_seed 6 RelF := by
  intro i x Mc Mr K hi hR hK
  obtain ⟨rfl, rfl⟩ := hR (by omega)
  have kk : ∀ a b, K a b := fun a b => hK a b (fun h => absurd h (by omega))
  refine sC_seed cK0 (fun Mc' _ _ => sR_seed I0r (fun Mr' _ _ => ⟨congrArg wrap (by simp only [S_seed, S_err, apply_ite Prod.fst, ea0, ea1, ea20, ea21, ea22]), kk _ _⟩))
theorem pf_feed : lawP_feed 6 RelF := by
  intro i x Mc Mr K hi hR hK
  obtain ⟨rfl, rfl⟩ := hR (by omega)
  have kk : ∀ a b, K a b := fun a b => hK a b (fun h => absurd h (by omega))
  exact fC_feed (inX _) (fun q _ => fR_feed (inX _) (fun _ _ => ⟨rfl, kk _ _⟩) (fun z => absurd z q)) (fun q _ => fR_feed (inX _) (fun z => absurd q z) (fun _ _ => ⟨rfl, kk _ _⟩))
theorem pf_text : lawP_text 6 RelF := by
  intro i x Mc Mr K hi hR hK
  obtain ⟨rfl, rfl⟩ := hR (by omega)
  have kk : ∀ a b, K a b := fun a b => hK a b (fun h => absurd h (by omega))
  exact fC_text (inX _) (fun q _ => fR_text (inX _) (fun _ _ => ⟨rfl, kk _ _⟩) (fun z => absurd z q)) (fun q _ => fR_text (inX _) (fun z => absurd q z) (fun _ _ => ⟨rfl, kk _ _⟩))
theorem pf_untell : lawP_untell 6 RelF := by
  intro i x Mc Mr K hi hR hK
  obtain ⟨rfl, rfl⟩ := hR (by omega)
  have kk : ∀ a b, K a b := fun a b => hK a b (fun h => absurd h (by omega))
  exact fC_untell (inX _) (fun q _ => fR_untell (inX _) (fun _ _ => ⟨rfl, kk _ _⟩) (fun z => absurd z q)) (fun q _ => fR_untell (inX _) (fun z => absurd q z) (fun _ _ => ⟨rfl, kk _ _⟩))
theorem pf_claim : lawP_claim 6 RelF := by
  intro i x Mc Mr K hi hR hK
  obtain ⟨rfl, rfl⟩ := hR (by omega)
  have kk : ∀ a b, K a b := fun a b => hK a b (fun h => absurd h (by omega))
  refine sC_claim (inX _) (inX _) I0c cK0 (fun Mc' _ _ => sR_claim (inX _) (inX _) I0r (fun Mr' _ _ => ⟨congrArg wrap (by simp only [S_claim, S_err, apply_ite Prod.fst, ea0, ea1, ea20, ea21, ea22]), kk _ _⟩))
theorem pf_claimIs : lawP_claimIs 6 RelF := by
  intro i x Mc Mr K hi hR hK
  obtain ⟨rfl, rfl⟩ := hR (by omega)
  have kk : ∀ a b, K a b := fun a b => hK a b (fun h => absurd h (by omega))
  exact fC_claimIs (inX _) (fun _ => fR_claimIs (inX _) (fun _ => ⟨rfl, kk _ _⟩))
theorem pf_share : lawP_share 6 RelF := by
  intro i x Mc Mr K hi hR hK
  obtain ⟨rfl, rfl⟩ := hR (by omega)
  have kk : ∀ a b, K a b := fun a b => hK a b (fun h => absurd h (by omega))
  exact fC_share (inX _) (fun _ => fR_share (inX _) (fun _ => ⟨rfl, kk _ _⟩))
theorem pf_left : lawP_left 6 RelF := by
  intro i x Mc Mr K hi hR hK
  obtain ⟨rfl, rfl⟩ := hR (by omega)
  have kk : ∀ a b, K a b := fun a b => hK a b (fun h => absurd h (by omega))
  exact fC_left (inX _) (fun _ => fR_left (inX _) (fun _ => ⟨rfl, kk _ _⟩))
theorem pf_paper : lawP_paper 6 RelF := by
  intro i x Mc Mr K hi hR hK
  obtain ⟨rfl, rfl⟩ := hR (by omega)
  have kk : ∀ a b, K a b := fun a b => hK a b (fun h => absurd h (by omega))
  refine sC_paper (inX _) (inX _) (inX _) I0c cK0 (fun Mc' _ _ => sR_paper (inX _) (inX _) (inX _) I0r (fun Mr' _ _ => ⟨congrArg wrap (by simp only [S_paper, S_err, apply_ite Prod.fst, ea0, ea1, ea20, ea21, ea22]), kk _ _⟩))
theorem pf_weigh : lawP_weigh 6 RelF := by
  intro i x Mc Mr K hi hR hK
  obtain ⟨rfl, rfl⟩ := hR (by omega)
  have kk : ∀ a b, K a b := fun a b => hK a b (fun h => absurd h (by omega))
  refine sC_weigh (inX _) (inX _) (inX _) I0c cK0 (fun Mc' _ _ => sR_weigh (inX _) (inX _) (inX _) I0r (fun Mr' _ _ => ⟨congrArg wrap (by simp only [S_weigh, S_err, apply_ite Prod.fst, ea0, ea1, ea20, ea21, ea22]), kk _ _⟩))
theorem pf_forget : lawP_forget 6 RelF := by
  intro i x Mc Mr K hi hR hK
  obtain ⟨rfl, rfl⟩ := hR (by omega)
  have kk : ∀ a b, K a b := fun a b => hK a b (fun h => absurd h (by omega))
  refine sC_forget (inX _) cK0 (fun Mc' _ _ => sR_forget (inX _) I0r (fun Mr' _ _ => ⟨congrArg wrap (by simp only [S_forget, S_err, apply_ite Prod.fst, ea0, ea1, ea20, ea21, ea22]), kk _ _⟩))
theorem pf_by : lawP_by 6 RelF := by
  intro i x Mc Mr K hi hR hK
  obtain ⟨rfl, rfl⟩ := hR (by omega)
  have kk : ∀ a b, K a b := fun a b => hK a b (fun h => absurd h (by omega))
  exact fC_by (inX _) (inX _) (fun _ => fR_by (inX _) (inX _) (fun _ => ⟨rfl, kk _ _⟩))
theorem pf_fits : lawP_fits 6 RelF := by
  intro i x Mc Mr K hi hR hK
  obtain ⟨rfl, rfl⟩ := hR (by omega)
  have kk : ∀ a b, K a b := fun a b => hK a b (fun h => absurd h (by omega))
  exact fC_fits (inX _) (fun q _ => fR_fits (inX _) (fun _ _ => ⟨rfl, kk _ _⟩) (fun z => absurd z q)) (fun q _ => fR_fits (inX _) (fun z => absurd q z) (fun _ _ => ⟨rfl, kk _ _⟩))
theorem pf_span : lawP_span 6 RelF := by
  intro i x Mc Mr K hi hR hK
  obtain ⟨rfl, rfl⟩ := hR (by omega)
  have kk : ∀ a b, K a b := fun a b => hK a b (fun h => absurd h (by omega))
  exact fC_span (inX _) (fun _ => fR_span (inX _) (fun _ => ⟨rfl, kk _ _⟩))
theorem pf_next : lawP_next 6 RelF := by
  intro i x Mc Mr K hi hR hK
  obtain ⟨rfl, rfl⟩ := hR (by omega)
  have kk : ∀ a b, K a b := fun a b => hK a b (fun h => absurd h (by omega))
  exact fC_next (fun _ => fR_next (fun _ => ⟨rfl, kk _ _⟩))
theorem pf_most : lawP_most 6 RelF := by
  intro i x Mc Mr K hi hR hK
  obtain ⟨rfl, rfl⟩ := hR (by omega)
  have kk : ∀ a b, K a b := fun a b => hK a b (fun h => absurd h (by omega))
  exact fC_most (inX _) (inX _) (inX _) (fun q _ => fR_most (inX _) (inX _) (inX _) (fun _ _ => ⟨rfl, kk _ _⟩) (fun z => absurd z q)) (fun q _ => fR_most (inX _) (inX _) (inX _) (fun z => absurd q z) (fun _ _ => ⟨rfl, kk _ _⟩))
theorem pf_voice : lawP_voice 6 RelF := by
  intro i x Mc Mr K hi hR hK
  obtain ⟨rfl, rfl⟩ := hR (by omega)
  have kk : ∀ a b, K a b := fun a b => hK a b (fun h => absurd h (by omega))
  exact fC_voice (inX _) (fun _ => fR_voice (inX _) (fun _ => ⟨rfl, kk _ _⟩))
theorem pf_body : lawP_body 6 RelF := by
  intro i x Mc Mr K hi hR hK
  obtain ⟨rfl, rfl⟩ := hR (by omega)
  have kk : ∀ a b, K a b := fun a b => hK a b (fun h => absurd h (by omega))
  refine sC_body (inX _) (by unfold iTr; decide) cK0 (fun Mc' _ _ => sR_body (inX _) (by unfold iTr; decide) (fun Mr' _ _ => ⟨congrArg wrap (by simp only [S_body, S_err, apply_ite Prod.fst, ea0, ea1, ea20, ea21, ea22]), kk _ _⟩))
theorem pf_sheet : lawP_sheet 6 RelF := by
  intro i x Mc Mr K hi hR hK
  obtain ⟨rfl, rfl⟩ := hR (by omega)
  have kk : ∀ a b, K a b := fun a b => hK a b (fun h => absurd h (by omega))
  exact fC_sheet (σ := absR M0r) (inX _) (inX _) (inX _) (fun _ => sR_sheet (inX _) (inX _) (inX _) (fun _ _ _ => ⟨rfl, kk _ _⟩))
theorem pf_put : lawP_put 6 RelF := by
  intro i x Mc Mr K hi hR hK
  obtain ⟨rfl, rfl⟩ := hR (by omega)
  have kk : ∀ a b, K a b := fun a b => hK a b (fun h => absurd h (by omega))
  have z23 : ∀ q : Int, absR M0r 23 q = 0 := fun q => by simp [absR, msk, M0r]
  have I : iSh (absR M0r) := by
    intro q _ _
    refine ⟨Or.inl (z23 q), ?_, fun i _ _ => ?_⟩
    · rw [show absR M0r 24 q = 0 from by simp [absR, msk, M0r]]; decide
    · rw [show absR M0r 25 (24 * q + i) = 0 from by simp [absR, msk, M0r]]; constructor <;> decide
  exact fC_put (inX _) (fun q _ => sR_put (inX _) (inX _) I (fun _ _ _ => ⟨by rw [show (S_put (x 1).toInt (x 2).toInt (x 3).toInt (absR M0r)) = S_err (absR M0r) 1 from if_pos q]; rfl, kk _ _⟩)) (fun q _ => sR_put (inX _) (inX _) I (fun _ _ _ => ⟨by rw [show (S_put (x 1).toInt (x 2).toInt (x 3).toInt (absR M0r)) = S_err (absR M0r) 2 from (if_neg (fun z => z q)).trans (if_pos (z23 _))]; rfl, kk _ _⟩))
theorem pf_move : lawP_move 6 RelF := by
  intro i x Mc Mr K hi hR hK
  obtain ⟨rfl, rfl⟩ := hR (by omega)
  have kk : ∀ a b, K a b := fun a b => hK a b (fun h => absurd h (by omega))
  exact fC_move (inX _) (inX _) (fun q _ => fR_move (inX _) (inX _) (fun _ _ => ⟨rfl, kk _ _⟩) (fun z => absurd z q)) (fun q _ => fR_move (inX _) (inX _) (fun z => absurd q z) (fun _ _ => ⟨rfl, kk _ _⟩))
theorem pf_papers : lawP_papers 6 RelF := by
  intro i x Mc Mr K hi hR hK
  obtain ⟨rfl, rfl⟩ := hR (by omega)
  have kk : ∀ a b, K a b := fun a b => hK a b (fun h => absurd h (by omega))
  exact fC_papers (inX _) (fun q _ => fR_papers (inX _) (fun _ _ => ⟨rfl, kk _ _⟩) (fun z => absurd z q)) (fun q _ => fR_papers (inX _) (fun z => absurd q z) (fun _ _ => ⟨rfl, kk _ _⟩))
theorem pf_judge : lawP_judge 6 RelF := by
  intro i x Mc Mr K hi hR hK
  obtain ⟨rfl, rfl⟩ := hR (by omega)
  have kk : ∀ a b, K a b := fun a b => hK a b (fun h => absurd h (by omega))
  exact fC_judge (inX _) (inX _) (fun q _ => fR_judge (inX _) (inX _) (fun _ _ => ⟨rfl, kk _ _⟩) (fun z => absurd z q)) (fun q _ => fR_judge (inX _) (inX _) (fun z => absurd q z) (fun _ _ => ⟨rfl, kk _ _⟩))
theorem pf_image : lawP_image 6 RelF := by
  intro i x Mc Mr K hi hR hK
  obtain ⟨rfl, rfl⟩ := hR (by omega)
  have kk : ∀ a b, K a b := fun a b => hK a b (fun h => absurd h (by omega))
  exact fC_image (fun _ => sR_image I0r (fun _ _ _ _ => ⟨rfl, kk _ _⟩))
theorem pf_restore : lawP_restore 6 RelF := by
  intro i x Mc Mr K hi hR hK
  obtain ⟨rfl, rfl⟩ := hR (by omega)
  have kk : ∀ a b, K a b := fun a b => hK a b (fun h => absurd h (by omega))
  have z : absR M0r 21 0 = 0 := rfl
  exact fC_restore (fun _ => sR_restore (by rw [z]; decide) (fun n => absurd z n) (fun _ _ _ _ => ⟨by rw [show S_restore (absR M0r) = S_err (absR M0r) 2 from if_pos z]; rfl, kk _ _⟩))
theorem pf_tell : lawP_tell 6 RelF := by
  intro i x Mc Mr K hi hR hK
  obtain ⟨rfl, rfl⟩ := hR (by omega)
  have kk : ∀ a b, K a b := fun a b => hK a b (fun h => absurd h (by omega))
  refine sC_tell I0c cK0 (fun Mc' _ _ => sR_tell I0r (fun Mr' _ _ => ⟨congrArg wrap (by simp only [S_tell, S_err, apply_ite Prod.fst, ea0, ea1, ea20, ea21, ea22]), kk _ _⟩))
theorem pf_check : lawP_check 6 RelF := by
  intro i x Mc Mr K hi hR hK
  obtain ⟨rfl, rfl⟩ := hR (by omega)
  have kk : ∀ a b, K a b := fun a b => hK a b (fun h => absurd h (by omega))
  exact fC_check (fun _ => fR_check (fun _ => ⟨rfl, kk _ _⟩))
theorem pf_count : lawP_count 6 RelF := by
  intro i x Mc Mr K hi hR hK
  obtain ⟨rfl, rfl⟩ := hR (by omega)
  have kk : ∀ a b, K a b := fun a b => hK a b (fun h => absurd h (by omega))
  refine sC_count (inX _) I0c cK0 (fun Mc' _ _ => sR_count (inX _) I0r (fun Mr' _ _ => ⟨congrArg wrap (by simp only [S_count, S_err, apply_ite Prod.fst, ea0, ea1, ea20, ea21, ea22]), kk _ _⟩))
theorem pf_told : lawP_told 6 RelF := by
  intro i x Mc Mr K hi hR hK
  obtain ⟨rfl, rfl⟩ := hR (by omega)
  have kk : ∀ a b, K a b := fun a b => hK a b (fun h => absurd h (by omega))
  refine sC_told (inX _) cK0 (fun Mc' _ _ => sR_told (inX _) (fun Mr' _ _ => ⟨congrArg wrap (by simp only [S_told, S_err, apply_ite Prod.fst, ea0, ea1, ea20, ea21, ea22]), kk _ _⟩))
theorem law1 : lawOK 6 RelF := ⟨pf_thing, pf_thingIs, pf_as, pf_set, pf_melt, pf_crucible, pf_cast, pf_years, pf_then, pf_seed, pf_feed, pf_text, pf_untell, pf_claim, pf_claimIs, pf_share, pf_left, pf_paper, pf_weigh, pf_forget, pf_by, pf_fits, pf_span, pf_next, pf_most, pf_voice, pf_body, pf_sheet, pf_put, pf_move, pf_papers, pf_judge, pf_image, pf_restore, pf_tell, pf_check, pf_count, pf_told, fun i _ _ _ _ h => absurd h (by omega)⟩
