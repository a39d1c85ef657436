-- the reference's law worked out; tone, thingIs
def rawT (u : Int) (s : Int → Int) : Prop := ∀ i, 0 ≤ i → i < s (202 + 125 * u) → tokOk u (s (203 + 125 * u + 2 * i)) (s (204 + 125 * u + 2 * i))
theorem enc_cases {u a b : Int} (hu : u = 0 ∨ u = 1) (h : tokOk u a b) : (a = 0 ∧ encT u a b = b ∧ 0 ≤ b) ∨ (a = 1 ∧ encT u a b = encT u 1 b ∧ isNm u b ∧ -3 ≤ encT u a b ∧ encT u a b ≤ -1) ∨ (a = 2 ∧ encT u a b = -33) ∨ (a = 3 ∧ encT u a b = -b ∧ 0 ≤ lvl b ∧ -b < -3 ∧ ¬ -b = -33) := by
  rcases h with ⟨rfl, h1, h2⟩ | ⟨rfl, h1⟩ | ⟨rfl, h1⟩ | ⟨rfl, h1⟩
  · exact Or.inl ⟨rfl, rfl, h1⟩
  · refine Or.inr (Or.inl ⟨rfl, rfl, h1, ?_, ?_⟩) <;> (unfold encT; rcases hu with rfl | rfl <;> simp only [show ¬ ((1 : Int) = 0) from by decide, if_false, if_true] <;> split <;> (try split) <;> omega)
  · exact Or.inr (Or.inr (Or.inl ⟨rfl, rfl⟩))
  · refine Or.inr (Or.inr (Or.inr ⟨rfl, rfl, h1, ?_, ?_⟩)) <;> (unfold lvl at h1; omega)
def pileR (f : Int → Int) (g s m : Int) (n : Nat) (M0 M : gSt) : Prop := (∀ p, p ≠ 7 → M p = M0 p) ∧ ∀ j, 0 ≤ j → j < hX f n → wrap (M 7 j) = stk f g s m n j
theorem r_worked {u g s m L : Int} {M0 : gSt} {kk : Int → gSt → Prop} {X : gSt → Prop} {f : Int → Int} (hu : u = 0 ∨ u = 1) (hL : M0 1 (202 + 125 * u) = L) (bL : 0 ≤ L ∧ L ≤ 60) (raw : rawT u (M0 1)) (hf : ∀ j, 0 ≤ j → j < L → f j = encT u (M0 1 (203 + 125 * u + 2 * j)) (M0 1 (204 + 125 * u + 2 * j))) (hn : ∀ b, isNm u b → wrap (M0 6 b) = tokV g s m (encT u 1 b)) (wf : wfX f L.toNat) (h : ∀ M, pileR f g s m L.toNat M0 M → X M) : ∀ (r n : Nat) (M : gSt), n + r = L.toNat → pileR f g s m n M0 M → wL_Rworked_14 u kk X (r + 1) (202 + 125 * u) (hX f n) n M := by
  intro r
  induction r with
  | zero =>
    intro n M hn' hp
    obtain ⟨p1, p2⟩ := hp
    unfold wL_Rworked_14 wC_Rworked_14
    rw [p1 1 (by decide), hL, wI (x := L) ⟨by omega, by omega⟩, wI (x := (n : Int)) ⟨by omega, by omega⟩]
    refine ⟨⟨by omega, by omega⟩, fun _ => h M ?_, fun z => absurd z (by omega)⟩
    rw [show L.toNat = n from by omega]
    exact ⟨p1, p2⟩
  | succ r ih =>
    intro n M hn' hp
    have hp' := hp
    obtain ⟨p1, p2⟩ := hp'
    obtain ⟨t1, t2, t3, t4⟩ := wf.1 n (by omega)
    have hle := hX_le (f := f) n
    have ef := hf (n : Int) (by omega) (by omega)
    have rw1 := raw (n : Int) (by omega) (by rw [hL]; omega)
    have i1 : 202 + 125 * u + 1 + 2 * (n : Int) = 203 + 125 * u + 2 * (n : Int) := by omega
    have i2 : 202 + 125 * u + 2 + 2 * (n : Int) = 204 + 125 * u + 2 * (n : Int) := by omega
    generalize hA : M0 1 (203 + 125 * u + 2 * (n : Int)) = A at ef rw1
    generalize hB : M0 1 (204 + 125 * u + 2 * (n : Int)) = B at ef rw1
    have cs := enc_cases hu rw1
    rw [← ef] at cs
    unfold wL_Rworked_14 wC_Rworked_14
    rw [p1 1 (by decide), hL, wI (x := L) ⟨by omega, by omega⟩, wI (x := (n : Int)) ⟨by omega, by omega⟩]
    refine ⟨⟨by omega, by omega⟩, fun z => absurd z (by omega), fun _ => ⟨⟨by omega, by omega⟩, fun x ex => ⟨⟨by omega, by omega⟩, fun y ey => ?_⟩⟩⟩
    rw [i1, hA] at ex
    rw [i2, hB] at ey
    subst ex; subst ey
    have next : ∀ M' v, v = hX f (n + 1) → pileR f g s m (n + 1) M0 M' → wL_Rworked_14 u kk X (r + 1) (202 + 125 * u) v ((n : Int) + 1) M' := fun M' v hv q => by
      have := ih (n + 1) M' (by omega) q
      rw [show ((n + 1 : Nat) : Int) = (n : Int) + 1 from by omega] at this
      rw [hv]
      exact this
    have push : ∀ v, ¬ f n = -33 → ¬ f n < -3 → wrap v = tokV g s m (f n) → wB_Rworked_88 u kk (wL_Rworked_14 u kk X (r + 1)) X (202 + 125 * u) (hX f n) n v (hX f n) M := fun v z1 z2 hv => by
      unfold wB_Rworked_88 wB_Rworked_158
      refine ⟨⟨by omega, by omega⟩, fun M1 e1 => next M1 _ (by rw [hX_s, if_neg z1, if_neg z2]) ⟨fun p a => by rw [e1, wrO' a]; exact p1 p a, fun j a b => ?_⟩⟩
      rw [hX_s, if_neg z1, if_neg z2] at b
      rw [e1, stk_s, if_neg z1, if_neg z2]
      by_cases hj : j = hX f n
      · rw [if_pos hj, hj, wrI]; exact hv
      · rw [if_neg hj, wrN hj]; exact p2 j a (by omega)
    unfold wB_Rworked_66
    rcases cs with ⟨a0, e0, b0⟩ | ⟨a0, e0, b0, l1, l2⟩ | ⟨a0, e0⟩ | ⟨a0, e0, b0, l1, l2⟩
    · rw [a0]
      refine ⟨fun _ => ⟨fun z => absurd wrap_0 z, fun _ => push _ (by omega) (by omega) ?_⟩, fun z => absurd wrap_0 z⟩
      unfold tokV
      rw [if_pos (by omega), e0]
    · rw [a0]
      refine ⟨fun z => absurd z (by decide), fun _ => ⟨fun z => absurd (show wrap 1 = 1 by decide) z, fun _ => ⟨fun _ => ⟨⟨by omega, by omega⟩, push _ (by omega) (by omega) ?_⟩, fun z => absurd z (by decide)⟩⟩⟩
      rw [p1 6 (by decide), e0]
      exact hn _ b0
    · have h1 := t2 e0
      rw [a0]
      refine ⟨fun z => absurd z (by decide), fun _ => ⟨fun _ => ⟨fun z => absurd (show wrap 2 = 2 by decide) z, fun _ => ⟨⟨by omega, by omega⟩, ?_⟩⟩, fun z => absurd z (by decide)⟩⟩
      have fin : ∀ v, v = (if stk f g s m n (hX f n - 1) = 0 then 1 else 0) → wB_Rworked_124 u kk (wL_Rworked_14 u kk X (r + 1)) X (202 + 125 * u) (hX f n) n v (hX f n - 1) M := fun v hv => by
        unfold wB_Rworked_124 wB_Rworked_158
        refine ⟨⟨by omega, by omega⟩, fun M1 e1 => next M1 _ (by rw [hX_s, if_pos e0]; omega) ⟨fun p a => by rw [e1, wrO' a]; exact p1 p a, fun j a b => ?_⟩⟩
        rw [hX_s, if_pos e0] at b
        rw [e1, stk_s, if_pos e0]
        by_cases hj : j = hX f n - 1
        · rw [if_pos hj, hj, wrI, hv]
          by_cases w : stk f g s m n (hX f n - 1) = 0
          · rw [if_pos w]; decide
          · rw [if_neg w]; decide
        · rw [if_neg hj, wrN hj]; exact p2 j a (by omega)
      rw [p2 _ (by omega) (by omega)]
      exact ⟨fun z => fin 0 (by rw [if_neg z]), fun z => fin 1 (by rw [if_pos z])⟩
    · have n33 : ¬ f n = -33 := by omega
      have low : f n < -3 := by omega
      have h2 := t3 low n33
      rw [a0]
      refine ⟨fun z => absurd z (by decide), fun _ => ⟨fun _ => ⟨fun _ => ⟨⟨by omega, by omega⟩, ⟨by omega, by omega⟩, ?_⟩, fun z => absurd z (by decide)⟩, fun z => absurd z (by decide)⟩⟩
      rw [show hX f n + -1 - 1 = hX f n - 2 from by omega, show hX f n + -1 = hX f n - 1 from by omega]
      refine r_join b0 (fun x hx => ⟨⟨by omega, by omega⟩, fun M1 e1 => ?_⟩)
      unfold wB_Rworked_158
      rw [p2 _ (by omega) (by omega), p2 _ (by omega) (by omega)] at hx
      refine next M1 _ (by rw [hX_s, if_neg n33, if_pos low]; omega) ⟨fun p a => by rw [e1, wrO' a]; exact p1 p a, fun j a b => ?_⟩
      rw [hX_s, if_neg n33, if_pos low] at b
      rw [e1, stk_s, if_neg n33, if_pos low]
      by_cases hj : j = hX f n - 2
      · rw [if_pos hj, hj, wrI, show -(f n) = y from by omega]; exact hx
      · rw [if_neg hj, wrN hj]; exact p2 j a (by omega)
theorem sp_Rworked {u g s m L : Int} {M : gSt} {k : Int → gSt → Prop} {f : Int → Int} (hu : u = 0 ∨ u = 1) (hL : M 1 (202 + 125 * u) = L) (bL : 0 ≤ L ∧ L ≤ 60) (raw : rawT u (M 1)) (hf : ∀ j, 0 ≤ j → j < L → f j = encT u (M 1 (203 + 125 * u + 2 * j)) (M 1 (204 + 125 * u + 2 * j))) (hn : ∀ b, isNm u b → wrap (M 6 b) = tokV g s m (encT u 1 b)) (wf : wfX f L.toNat) (h : ∀ r M', wrap r = stk f g s m L.toNat 0 → (∀ p, p ≠ 7 → M' p = M p) → k r M') : w_Rworked u M k := by
  unfold w_Rworked
  intro x ex
  subst ex
  refine ⟨L.toNat + 1, r_worked (M0 := M) hu hL bL raw hf hn wf (fun M1 q => ?_) L.toNat 0 M (by omega) ⟨fun _ _ => rfl, fun j a b => absurd b (by show ¬ j < 0; omega)⟩⟩
  obtain ⟨q1, q2⟩ := q
  rw [wf.2] at q2
  exact h _ _ (q2 0 (by decide) (by decide)) q1
