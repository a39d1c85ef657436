-- the start, and the law case by case
theorem e0cr (c : Nat) (i : Int) : absC M0c c i = absR M0r c i := by
  match c with
  | 0 =>
    show absC M0c 0 i = absS (M0r 1) 0 i
    by_cases h : 0 ≤ i ∧ i ≤ 10
    · rcases (show i = 0 ∨ i = 1 ∨ i = 2 ∨ i = 3 ∨ i = 4 ∨ i = 5 ∨ i = 6 ∨ i = 7 ∨ i = 8 ∨ i = 9 ∨ i = 10 by omega) with rfl | rfl | rfl | rfl | rfl | rfl | rfl | rfl | rfl | rfl | rfl <;> rfl
    · have h0 : ¬ i = 0 := by omega
      have h1 : ¬ i = 1 := by omega
      have h2 : ¬ i = 2 := by omega
      have h3 : ¬ i = 3 := by omega
      have h4 : ¬ i = 4 := by omega
      have h5 : ¬ i = 5 := by omega
      have h6 : ¬ i = 6 := by omega
      have h7 : ¬ i = 7 := by omega
      have h8 : ¬ i = 8 := by omega
      have h9 : ¬ i = 9 := by omega
      have h10 : ¬ i = 10 := by omega
      have g : ¬ (0 ≤ i ∧ i < 9) := by omega
      simp [absC, absS, h0, h1, h2, h3, h4, h5, h6, h7, h8, h9, h10, g]
  | 10 => simp [absC, absR, absS, msk, M0c, M0r]
  | 1 =>
    simp [absC, absR, absS, msk, M0c, M0r]
    try (intros; omega)
  | 2 =>
    simp [absC, absR, absS, msk, M0c, M0r]
    try (intros; omega)
  | 3 =>
    simp [absC, absR, absS, msk, M0c, M0r]
    try (intros; omega)
  | 4 =>
    simp [absC, absR, absS, msk, M0c, M0r]
    try (intros; omega)
  | 5 =>
    simp [absC, absR, absS, msk, M0c, M0r]
    try (intros; omega)
  | 6 =>
    simp [absC, absR, absS, msk, M0c, M0r]
    try (intros; omega)
  | 7 =>
    simp [absC, absR, absS, msk, M0c, M0r]
    try (intros; omega)
  | 8 =>
    simp [absC, absR, absS, msk, M0c, M0r]
    try (intros; omega)
  | 9 => simp [absC, absR, absS, msk, M0c, M0r]
  | 11 => simp [absC, absR, absS, msk, M0c, M0r]
  | 12 => simp [absC, absR, absS, msk, M0c, M0r]
  | 13 => simp [absC, absR, absS, msk, M0c, M0r]
  | 14 => simp [absC, absR, absS, msk, M0c, M0r]
  | 15 => simp [absC, absR, absS, msk, M0c, M0r]
  | 16 => simp [absC, absR, absS, msk, M0c, M0r]
  | 17 =>
    simp [absC, absR, absS, msk, M0c, M0r]
    try (intros; omega)
  | 18 =>
    simp [absC, absR, absS, msk, M0c, M0r]
    try (intros; omega)
  | 19 => simp [absC, absR, absS, msk, M0c, M0r]
  | 20 => simp [absC, absR, absS, msk, M0c, M0r] <;> (repeat' split) <;> first | rfl | omega
  | 21 => simp [absC, absR, absS, msk, M0c, M0r]
  | 22 => simp [absC, absR, absS, msk, M0c, M0r]
  | 23 => simp [absC, absR, absS, msk, M0c, M0r]
  | 24 => simp [absC, absR, absS, msk, M0c, M0r]
  | 25 => simp [absC, absR, absS, msk, M0c, M0r]
  | n + 26 =>
    have a : ¬ n + 26 < 10 := by omega
    have b : ¬ n + 26 < 20 := by omega
    simp [absC, absR, a, b]
theorem e0 : absC M0c = absR M0r := by
  funext c i
  exact e0cr c i
theorem z0n' : ∀ j : Int, absC M0c 1 j = 0 := fun j => by simp [absC, msk, M0c]
theorem I0c : iN (absC M0c) := by
  unfold iN
  decide
theorem inv0 : Inv 0 (absR M0r) := by
  rw [← e0]
  refine ⟨⟨I0c, fun t _ _ => ?_, ⟨z0n' _, z0n' _⟩, fun j _ _ => ?_, ⟨fun h => absurd h (by decide), fun h => absurd h (by decide)⟩, fun i a b => ?_, fun i a b => ?_, fun i a b => ?_⟩, fun q a b => ?_, by decide, fun h => absurd rfl h⟩
  · unfold thOk
    simp only [z0n']
    decide
  · rw [show absC M0c 5 j = 0 from by simp [absC, msk, M0c]]
    constructor <;> decide
  · exact absurd b (by rw [show absC M0c 0 2 = 0 from rfl]; omega)
  · exact absurd b (by rw [show absC M0c 0 3 = 0 from rfl]; omega)
  · exact absurd b (by rw [show absC M0c 0 4 = 0 from rfl]; omega)
  · rw [e0]
    refine ⟨Or.inl (by simp [absR, msk, M0r]), ?_, fun i _ _ => ?_⟩
    · rw [show absR M0r 24 q = 0 from by simp [absR, msk, M0r]]; decide
    · rw [show absR M0r 25 (24 * q + i) = 0 from by simp [absR, msk, M0r]]; constructor <;> decide
theorem cK0 : cK M0c := by
  refine ⟨fun q hq => ?_, by decide, by decide⟩
  simp only [cRows, List.mem_cons, List.not_mem_nil, or_false] at hq
  rcases hq with rfl | rfl | rfl | rfl | rfl | rfl | rfl | rfl | rfl | rfl | rfl | rfl | rfl | rfl | rfl | rfl | rfl | rfl <;> exact ⟨rfl, rfl⟩
theorem rel0 : Rel 0 M0c M0r := by
  have z1 : ∀ j, 9 < j → M0r 1 j = 0 := fun j h => by
    simp [M0r]
    try (intros; omega)
  have z2 : ∀ j, M0r 2 j = 0 := fun j => by simp [M0r]
  refine ⟨e0, cK0, inv0, fun i a b => ?_, fun i a b => ?_, fun i a b => ?_, fun i a b => ?_, by decide⟩
  · rw [z1 _ (by decide)] at b; omega
  · rw [z1 _ (by decide)] at b; omega
  · rw [z2] at b; omega
  · rw [z2] at b; omega
theorem ok_thing : lawP_thing 384 Rel := by
  intro i x Mc Mr K hi hR hK
  first
  | exact al_thing (Q := fun _ a _ b => K a b) (inX _) (inX _) hR (fun _ _ a b _ h => hK a b h)
  | exact al_thing (Q := fun r a r' b => wrap r = wrap r' ∧ K a b) (inX _) (inX _) hR (fun _ _ a b e h => ⟨e, hK a b h⟩)
theorem ok_thingIs : lawP_thingIs 384 Rel := by
  intro i x Mc Mr K hi hR hK
  first
  | exact al_thingIs (Q := fun _ a _ b => K a b) (inX _) (inX _) hR (fun _ _ a b _ h => hK a b h)
  | exact al_thingIs (Q := fun r a r' b => wrap r = wrap r' ∧ K a b) (inX _) (inX _) hR (fun _ _ a b e h => ⟨e, hK a b h⟩)
theorem ok_as : lawP_as 384 Rel := by
  intro i x Mc Mr K hi hR hK
  first
  | exact al_as (Q := fun _ a _ b => K a b) (inX _) (inX _) hR (fun _ _ a b _ h => hK a b h)
  | exact al_as (Q := fun r a r' b => wrap r = wrap r' ∧ K a b) (inX _) (inX _) hR (fun _ _ a b e h => ⟨e, hK a b h⟩)
theorem ok_set : lawP_set 384 Rel := by
  intro i x Mc Mr K hi hR hK
  first
  | exact al_set (Q := fun _ a _ b => K a b) (inX _) (inX _) (inX _) hR (fun _ _ a b _ h => hK a b h)
  | exact al_set (Q := fun r a r' b => wrap r = wrap r' ∧ K a b) (inX _) (inX _) (inX _) hR (fun _ _ a b e h => ⟨e, hK a b h⟩)
theorem ok_melt : lawP_melt 384 Rel := by
  intro i x Mc Mr K hi hR hK
  first
  | exact al_melt (Q := fun _ a _ b => K a b) (inX _) (inX _) hR (fun _ _ a b _ h => hK a b h)
  | exact al_melt (Q := fun r a r' b => wrap r = wrap r' ∧ K a b) (inX _) (inX _) hR (fun _ _ a b e h => ⟨e, hK a b h⟩)
theorem ok_crucible : lawP_crucible 384 Rel := by
  intro i x Mc Mr K hi hR hK
  first
  | exact al_crucible (Q := fun _ a _ b => K a b) (inX _) hR (fun _ _ a b _ h => hK a b h)
  | exact al_crucible (Q := fun r a r' b => wrap r = wrap r' ∧ K a b) (inX _) hR (fun _ _ a b e h => ⟨e, hK a b h⟩)
theorem ok_cast : lawP_cast 384 Rel := by
  intro i x Mc Mr K hi hR hK
  first
  | exact al_cast (Q := fun _ a _ b => K a b) (inX _) (inX _) (inX _) hR (fun _ _ a b _ h => hK a b h)
  | exact al_cast (Q := fun r a r' b => wrap r = wrap r' ∧ K a b) (inX _) (inX _) (inX _) hR (fun _ _ a b e h => ⟨e, hK a b h⟩)
theorem ok_years : lawP_years 384 Rel := by
  intro i x Mc Mr K hi hR hK
  first
  | exact al_years (Q := fun _ a _ b => K a b) (inX _) hR (fun _ _ a b _ h => hK a b h)
  | exact al_years (Q := fun r a r' b => wrap r = wrap r' ∧ K a b) (inX _) hR (fun _ _ a b e h => ⟨e, hK a b h⟩)
theorem ok_then : lawP_then 384 Rel := by
  intro i x Mc Mr K hi hR hK
  first
  | exact al_then (Q := fun _ a _ b => K a b) (inX _) (inX _) (inX _) hR (fun _ _ a b _ h => hK a b h)
  | exact al_then (Q := fun r a r' b => wrap r = wrap r' ∧ K a b) (inX _) (inX _) (inX _) hR (fun _ _ a b e h => ⟨e, hK a b h⟩)
theorem ok_seed : lawP_seed 384 Rel := by
  intro i x Mc Mr K hi hR hK
  first
  | exact al_seed (Q := fun _ a _ b => K a b) (inX _) hR (fun _ _ a b _ h => hK a b h)
  | exact al_seed (Q := fun r a r' b => wrap r = wrap r' ∧ K a b) (inX _) hR (fun _ _ a b e h => ⟨e, hK a b h⟩)
theorem ok_feed : lawP_feed 384 Rel := by
  intro i x Mc Mr K hi hR hK
  first
  | exact al_feed (Q := fun _ a _ b => K a b) (inX _) hR (fun _ _ a b _ h => hK a b h)
  | exact al_feed (Q := fun r a r' b => wrap r = wrap r' ∧ K a b) (inX _) hR (fun _ _ a b e h => ⟨e, hK a b h⟩)
theorem ok_text : lawP_text 384 Rel := by
  intro i x Mc Mr K hi hR hK
  first
  | exact al_text (Q := fun _ a _ b => K a b) (inX _) hR (fun _ _ a b _ h => hK a b h)
  | exact al_text (Q := fun r a r' b => wrap r = wrap r' ∧ K a b) (inX _) hR (fun _ _ a b e h => ⟨e, hK a b h⟩)
theorem ok_untell : lawP_untell 384 Rel := by
  intro i x Mc Mr K hi hR hK
  first
  | exact al_untell (Q := fun _ a _ b => K a b) (inX _) hR (fun _ _ a b _ h => hK a b h)
  | exact al_untell (Q := fun r a r' b => wrap r = wrap r' ∧ K a b) (inX _) hR (fun _ _ a b e h => ⟨e, hK a b h⟩)
theorem ok_claim : lawP_claim 384 Rel := by
  intro i x Mc Mr K hi hR hK
  first
  | exact al_claim (Q := fun _ a _ b => K a b) (inX _) (inX _) hR (fun _ _ a b _ h => hK a b h)
  | exact al_claim (Q := fun r a r' b => wrap r = wrap r' ∧ K a b) (inX _) (inX _) hR (fun _ _ a b e h => ⟨e, hK a b h⟩)
theorem ok_claimIs : lawP_claimIs 384 Rel := by
  intro i x Mc Mr K hi hR hK
  first
  | exact al_claimIs (Q := fun _ a _ b => K a b) (inX _) (inX _) hR (fun _ _ a b _ h => hK a b h)
  | exact al_claimIs (Q := fun r a r' b => wrap r = wrap r' ∧ K a b) (inX _) (inX _) hR (fun _ _ a b e h => ⟨e, hK a b h⟩)
theorem ok_share : lawP_share 384 Rel := by
  intro i x Mc Mr K hi hR hK
  first
  | exact al_share (Q := fun _ a _ b => K a b) (inX _) (inX _) hR (fun _ _ a b _ h => hK a b h)
  | exact al_share (Q := fun r a r' b => wrap r = wrap r' ∧ K a b) (inX _) (inX _) hR (fun _ _ a b e h => ⟨e, hK a b h⟩)
theorem ok_left : lawP_left 384 Rel := by
  intro i x Mc Mr K hi hR hK
  first
  | exact al_left (Q := fun _ a _ b => K a b) (inX _) (inX _) hR (fun _ _ a b _ h => hK a b h)
  | exact al_left (Q := fun r a r' b => wrap r = wrap r' ∧ K a b) (inX _) (inX _) hR (fun _ _ a b e h => ⟨e, hK a b h⟩)
theorem ok_paper : lawP_paper 384 Rel := by
  intro i x Mc Mr K hi hR hK
  first
  | exact al_paper (Q := fun _ a _ b => K a b) (inX _) (inX _) (inX _) hR (fun _ _ a b _ h => hK a b h)
  | exact al_paper (Q := fun r a r' b => wrap r = wrap r' ∧ K a b) (inX _) (inX _) (inX _) hR (fun _ _ a b e h => ⟨e, hK a b h⟩)
theorem ok_weigh : lawP_weigh 384 Rel := by
  intro i x Mc Mr K hi hR hK
  first
  | exact al_weigh (Q := fun _ a _ b => K a b) (inX _) (inX _) (inX _) hR (fun _ _ a b _ h => hK a b h)
  | exact al_weigh (Q := fun r a r' b => wrap r = wrap r' ∧ K a b) (inX _) (inX _) (inX _) hR (fun _ _ a b e h => ⟨e, hK a b h⟩)
theorem ok_forget : lawP_forget 384 Rel := by
  intro i x Mc Mr K hi hR hK
  first
  | exact al_forget (Q := fun _ a _ b => K a b) (inX _) hR (fun _ _ a b _ h => hK a b h)
  | exact al_forget (Q := fun r a r' b => wrap r = wrap r' ∧ K a b) (inX _) hR (fun _ _ a b e h => ⟨e, hK a b h⟩)
theorem ok_by : lawP_by 384 Rel := by
  intro i x Mc Mr K hi hR hK
  first
  | exact al_by (Q := fun _ a _ b => K a b) (inX _) (inX _) (inX _) hR (fun _ _ a b _ h => hK a b h)
  | exact al_by (Q := fun r a r' b => wrap r = wrap r' ∧ K a b) (inX _) (inX _) (inX _) hR (fun _ _ a b e h => ⟨e, hK a b h⟩)
theorem ok_fits : lawP_fits 384 Rel := by
  intro i x Mc Mr K hi hR hK
  first
  | exact al_fits (Q := fun _ a _ b => K a b) (inX _) hR (fun _ _ a b _ h => hK a b h)
  | exact al_fits (Q := fun r a r' b => wrap r = wrap r' ∧ K a b) (inX _) hR (fun _ _ a b e h => ⟨e, hK a b h⟩)
theorem ok_span : lawP_span 384 Rel := by
  intro i x Mc Mr K hi hR hK
  first
  | exact al_span (Q := fun _ a _ b => K a b) (inX _) (inX _) (inX _) hR (fun _ _ a b _ h => hK a b h)
  | exact al_span (Q := fun r a r' b => wrap r = wrap r' ∧ K a b) (inX _) (inX _) (inX _) hR (fun _ _ a b e h => ⟨e, hK a b h⟩)
theorem ok_next : lawP_next 384 Rel := by
  intro i x Mc Mr K hi hR hK
  first
  | exact al_next (Q := fun _ a _ b => K a b)  hR (fun _ _ a b _ h => hK a b h)
  | exact al_next (Q := fun r a r' b => wrap r = wrap r' ∧ K a b)  hR (fun _ _ a b e h => ⟨e, hK a b h⟩)
theorem ok_most : lawP_most 384 Rel := by
  intro i x Mc Mr K hi hR hK
  first
  | exact al_most (Q := fun _ a _ b => K a b) (inX _) (inX _) (inX _) hR (fun _ _ a b _ h => hK a b h)
  | exact al_most (Q := fun r a r' b => wrap r = wrap r' ∧ K a b) (inX _) (inX _) (inX _) hR (fun _ _ a b e h => ⟨e, hK a b h⟩)
theorem ok_voice : lawP_voice 384 Rel := by
  intro i x Mc Mr K hi hR hK
  first
  | exact al_voice (Q := fun _ a _ b => K a b) (inX _) (inX _) (inX _) hR (fun _ _ a b _ h => hK a b h)
  | exact al_voice (Q := fun r a r' b => wrap r = wrap r' ∧ K a b) (inX _) (inX _) (inX _) hR (fun _ _ a b e h => ⟨e, hK a b h⟩)
theorem ok_body : lawP_body 384 Rel := by
  intro i x Mc Mr K hi hR hK
  exact al_body (Q := fun _ a _ b => K a b) (inX _) hR (fun _ _ a b h => hK a b h)
theorem ok_sheet : lawP_sheet 384 Rel := by
  intro i x Mc Mr K hi hR hK
  first
  | exact al_sheet (Q := fun _ a _ b => K a b) (inX _) (inX _) (inX _) hR (fun _ _ a b _ h => hK a b h)
  | exact al_sheet (Q := fun r a r' b => wrap r = wrap r' ∧ K a b) (inX _) (inX _) (inX _) hR (fun _ _ a b e h => ⟨e, hK a b h⟩)
theorem ok_put : lawP_put 384 Rel := by
  intro i x Mc Mr K hi hR hK
  first
  | exact al_put (Q := fun _ a _ b => K a b) (inX _) (inX _) (inX _) hR (fun _ _ a b _ h => hK a b h)
  | exact al_put (Q := fun r a r' b => wrap r = wrap r' ∧ K a b) (inX _) (inX _) (inX _) hR (fun _ _ a b e h => ⟨e, hK a b h⟩)
theorem ok_move : lawP_move 384 Rel := by
  intro i x Mc Mr K hi hR hK
  first
  | exact al_move (Q := fun _ a _ b => K a b) (inX _) (inX _) (inX _) (inX _) (inX _) hR (fun _ _ a b _ h => hK a b h)
  | exact al_move (Q := fun r a r' b => wrap r = wrap r' ∧ K a b) (inX _) (inX _) (inX _) (inX _) (inX _) hR (fun _ _ a b e h => ⟨e, hK a b h⟩)
theorem ok_papers : lawP_papers 384 Rel := by
  intro i x Mc Mr K hi hR hK
  first
  | exact al_papers (Q := fun _ a _ b => K a b) (inX _) hR (fun _ _ a b _ h => hK a b h)
  | exact al_papers (Q := fun r a r' b => wrap r = wrap r' ∧ K a b) (inX _) hR (fun _ _ a b e h => ⟨e, hK a b h⟩)
theorem ok_judge : lawP_judge 384 Rel := by
  intro i x Mc Mr K hi hR hK
  first
  | exact al_judge (Q := fun _ a _ b => K a b) (inX _) (inX _) hR (fun _ _ a b _ h => hK a b h)
  | exact al_judge (Q := fun r a r' b => wrap r = wrap r' ∧ K a b) (inX _) (inX _) hR (fun _ _ a b e h => ⟨e, hK a b h⟩)
theorem ok_image : lawP_image 384 Rel := by
  intro i x Mc Mr K hi hR hK
  first
  | exact al_image (Q := fun _ a _ b => K a b)  hR (fun _ _ a b _ h => hK a b h)
  | exact al_image (Q := fun r a r' b => wrap r = wrap r' ∧ K a b)  hR (fun _ _ a b e h => ⟨e, hK a b h⟩)
theorem ok_restore : lawP_restore 384 Rel := by
  intro i x Mc Mr K hi hR hK
  first
  | exact al_restore (Q := fun _ a _ b => K a b) (by omega) hR (fun _ _ a b _ h => hK a b h)
  | exact al_restore (Q := fun r a r' b => wrap r = wrap r' ∧ K a b) (by omega) hR (fun _ _ a b e h => ⟨e, hK a b h⟩)
theorem ok_tell : lawP_tell 384 Rel := by
  intro i x Mc Mr K hi hR hK
  first
  | exact al_tell (Q := fun _ a _ b => K a b) (inX _) hR (fun _ _ a b _ h => hK a b h)
  | exact al_tell (Q := fun r a r' b => wrap r = wrap r' ∧ K a b) (inX _) hR (fun _ _ a b e h => ⟨e, hK a b h⟩)
theorem ok_check : lawP_check 384 Rel := by
  intro i x Mc Mr K hi hR hK
  first
  | exact al_check (Q := fun _ a _ b => K a b)  hR (fun _ _ a b _ h => hK a b h)
  | exact al_check (Q := fun r a r' b => wrap r = wrap r' ∧ K a b)  hR (fun _ _ a b e h => ⟨e, hK a b h⟩)
theorem ok_count : lawP_count 384 Rel := by
  intro i x Mc Mr K hi hR hK
  exact al_count (Q := fun _ a _ b => K a b) (inX _) hR (fun _ _ a b h => hK a b h)
theorem ok_told : lawP_told 384 Rel := by
  intro i x Mc Mr K hi hR hK
  exact al_told (Q := fun _ a _ b => K a b) (inX _) hR (fun _ _ a b h => hK a b h)
theorem law_ok : lawOK 384 Rel := ⟨ok_thing, ok_thingIs, ok_as, ok_set, ok_melt, ok_crucible, ok_cast, ok_years, ok_then, ok_seed, ok_feed, ok_text, ok_untell, ok_claim, ok_claimIs, ok_share, ok_left, ok_paper, ok_weigh, ok_forget, ok_by, ok_fits, ok_span, ok_next, ok_most, ok_voice, ok_body, ok_sheet, ok_put, ok_move, ok_papers, ok_judge, ok_image, ok_restore, ok_tell, ok_check, ok_count, ok_told, fun i Mc Mr _ R => ⟨R.1, R.2.1, inv_mono (by omega) R.2.2.1, R.2.2.2⟩⟩
