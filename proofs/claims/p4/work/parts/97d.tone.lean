-- tone, thingIs: both sides
def thS (B : Int → Int) (t : Int) : Int := if B (10 * t + 2) = 0 then 0 else B (10 * t + 3) * 1000 / B (10 * t + 2)
def heldS (x lo hi : Int) : Int := if x < lo then lo else if hi < x then hi else x
def ringS (B f : Int → Int) (L t : Int) : Int := if 0 < L then heldS (stk f (B (10 * t + 2)) (thS B t) (B (10 * t + 1)) L.toNat 0) 0 9999 else 1000 - thS B t + B (10 * t + 1)
def toneS (B f : Int → Int) (L t : Int) : Int :=
  if B (10 * t + 0) = 1 then ringS B f L t else if B (10 * t + 0) = 2 then Int.tdiv (1000 - thS B t) 2 + B (10 * t + 1) else if B (10 * t + 0) = 3 then 1000 - thS B t - 2 * B (10 * t + 1)
  else if B (10 * t + 0) = 4 then ringS B f L t + 2 * B (10 * t + 1) else if B (10 * t + 0) = 5 then Int.tdiv (1000 - thS B t) 2 + B (10 * t + 1) + Int.tdiv (B (10 * t + 2)) 1000
  else if B (10 * t + 0) = 6 then 0 - (1000 - thS B t - 2 * B (10 * t + 1)) else 1000 - thS B t
theorem thS_rng {B : Int → Int} {t : Int} (h : thOk B (10 * t)) : 0 ≤ thS B t ∧ thS B t ≤ 1000 := by
  obtain ⟨-, -, h2, h3, -⟩ := h
  unfold thS
  by_cases z : B (10 * t + 2) = 0
  · rw [if_pos z]; decide
  · rw [if_neg z]
    exact ⟨Int.ediv_nonneg (by omega) (by omega), Int.ediv_le_of_le_mul (by omega) (by omega)⟩
theorem held_rng {x : Int} : 0 ≤ heldS x 0 9999 ∧ heldS x 0 9999 ≤ 9999 := by unfold heldS; split <;> (try split) <;> omega
theorem ring_rng {B f : Int → Int} {L t : Int} (h : thOk B (10 * t)) : 0 ≤ ringS B f L t ∧ ringS B f L t ≤ 9999 := by
  have a := thS_rng h
  obtain ⟨-, h1, -⟩ := h
  unfold ringS
  by_cases z : 0 < L
  · rw [if_pos z]; exact held_rng
  · rw [if_neg z]; omega
theorem c_held {r : Int} {M : gSt} {k : Int → gSt → Prop} (h : ∀ x, wrap x = heldS (wrap r) 0 9999 → k x M) : w_X1_held r 9999 M k := by
  unfold w_X1_held
  refine h _ ?_
  have w0 : wrap 0 = 0 := rfl
  have w9 : wrap 9999 = 9999 := by decide
  have e1 : wrap (xmin 9999 r) = if 9999 < wrap r then 9999 else wrap r := by
    unfold xmin
    rw [w9]
    by_cases z : wrap r < 9999
    · rw [if_pos z, if_neg (by omega)]
    · rw [if_neg z, w9]
      by_cases z2 : 9999 < wrap r
      · rw [if_pos z2]
      · rw [if_neg z2]; omega
  unfold xmax heldS
  rw [w0, e1]
  by_cases z : wrap r < 0
  · rw [if_pos z, if_neg (by split <;> omega), w0]
  · rw [if_neg z]
    by_cases z2 : 0 < if 9999 < wrap r then 9999 else wrap r
    · rw [if_pos z2, e1]
    · rw [if_neg z2, w0]
      by_cases z3 : 9999 < wrap r
      · rw [if_pos z3] at z2; omega
      · rw [if_neg z3] at z2 ⊢; omega
theorem c_ring {g s m : Int} {M : gSt} {k : Int → gSt → Prop} (hK : cK M) (bL : 0 ≤ M 14 3 ∧ M 14 3 ≤ 60) (wf : 0 < M 14 3 → wfX (absC M 7) (M 14 3).toNat) (bs : 0 ≤ s ∧ s ≤ 1000) (bm : 0 ≤ m ∧ m ≤ 99) (h : ∀ r M', wrap r = (if 0 < M 14 3 then heldS (stk (absC M 7) g s m (M 14 3).toNat 0) 0 9999 else 1000 - s + m) → (∀ p, p ≠ 18 → p ≠ 19 → M' p = M p) → k r M') : w_X1_ring 1 g s m M k := by
  unfold w_X1_ring
  refine ⟨pl_1, sp_size4 pl_14 ?_⟩
  show (¬ wrap (M 14 3) = 0 → w_X7_value 18 14 g s m M _) ∧ (wrap (M 14 3) = 0 → k (1000 - s + m) M)
  rw [wI (x := M 14 3) ⟨by omega, by omega⟩]
  refine ⟨fun z => sp_value (u := 0) (Or.inl rfl) rfl hK bL (wf (by omega)) (fun r M1 hr e1 => c_held (fun x hx => h x M1 ?_ e1)), fun z => h _ M ?_ (fun _ _ _ => rfl)⟩
  · rw [if_pos (by omega), hx, hr]
    rfl
  · rw [if_neg (by omega), wI ⟨by omega, by omega⟩]
theorem c_tone {a : Nat} {t : Int} {M : gSt} {k : Int → gSt → Prop} (hb : isBronze a) (hl : lenC (a + 1) = 130) (ht : 0 ≤ t ∧ t ≤ 12) (hK : cK M) (tk : thOk (M (a + 1)) (10 * t)) (bL : 0 ≤ M 14 3 ∧ M 14 3 ≤ 60) (wf : 0 < M 14 3 → wfX (absC M 7) (M 14 3).toNat) (h : ∀ r M', wrap r = toneS (M (a + 1)) (absC M 7) (M 14 3) t → (∀ p, p ≠ 18 → p ≠ 19 → M' p = M p) → k r M') : w_X1_tone 1 a t M k := by
  have sr := thS_rng tk
  have rr := ring_rng (f := absC M 7) (L := M 14 3) tk
  have tk' := tk
  obtain ⟨h0, h1, h2, h3, -⟩ := tk'
  unfold w_X1_tone
  refine ⟨pl_1, hb, sp_number hb hl ht (by decide) (sp_number hb hl ht (by decide) (sp_number hb hl ht (by decide) ?_))⟩
  rw [wI (x := M (a + 1) (10 * t + 3)) ⟨by omega, by omega⟩, wI (x := M (a + 1) (10 * t + 2)) ⟨by omega, by omega⟩]
  refine sp_quot ⟨by omega, by omega⟩ ⟨by omega, by omega⟩ ?_
  have es : qz (1000 * M (a + 1) (10 * t + 3)) (M (a + 1) (10 * t + 2)) = thS (M (a + 1)) t := by
    unfold qz thS
    rw [Int.mul_comm 1000]
  rw [es]
  intro x ex
  subst ex
  refine sp_number hb hl ht (by decide) ?_
  generalize hS : thS (M (a + 1)) t = S at sr ⊢
  have d1 : Int.tdiv (1000 - S) 2 = (1000 - S) / 2 := tdiv_pos (by omega)
  have d2 : Int.tdiv (M (a + 1) (10 * t + 2)) 1000 = M (a + 1) (10 * t + 2) / 1000 := tdiv_pos (by omega)
  rw [wI (x := M (a + 1) (10 * t + 0)) ⟨by omega, by omega⟩, wI (x := 1000 - S) ⟨by omega, by omega⟩]
  unfold toneS at h
  rw [hS] at h
  refine ⟨fun e => ?_, fun e => ?_, fun e => ?_, fun e => ?_, fun e => ?_, fun e => ?_, fun e => ?_⟩
  · rw [e] at h
    simp only [if_true] at h
    refine c_ring hK bL wf sr h1 (fun r M' hr e' => h r M' ?_ e')
    unfold ringS
    rw [hS]
    exact hr
  · rw [e] at h
    simp only [show ¬ ((2 : Int) = 1) from by decide, if_false, if_true] at h
    exact h _ M (wI ⟨by omega, by omega⟩) (fun _ _ _ => rfl)
  · rw [e] at h
    simp only [show ¬ ((3 : Int) = 1) from by decide, show ¬ ((3 : Int) = 2) from by decide, if_false, if_true] at h
    exact h _ M (wI ⟨by omega, by omega⟩) (fun _ _ _ => rfl)
  · rw [e] at h
    simp only [show ¬ ((4 : Int) = 1) from by decide, show ¬ ((4 : Int) = 2) from by decide, show ¬ ((4 : Int) = 3) from by decide, if_false, if_true] at h
    refine c_ring hK bL wf sr h1 (fun r M' hr e' => h _ M' ?_ e')
    have er : wrap r = ringS (M (a + 1)) (absC M 7) (M 14 3) t := by
      unfold ringS
      rw [hS]
      exact hr
    have : wrap (r + 2 * M (a + 1) (10 * t + 1)) = wrap (wrap r + 2 * M (a + 1) (10 * t + 1)) := by unfold wrap; omega
    rw [this, er]
    exact wI ⟨by omega, by omega⟩
  · rw [e] at h
    simp only [show ¬ ((5 : Int) = 1) from by decide, show ¬ ((5 : Int) = 2) from by decide, show ¬ ((5 : Int) = 3) from by decide, show ¬ ((5 : Int) = 4) from by decide, if_false, if_true] at h
    exact h _ M (wI ⟨by omega, by omega⟩) (fun _ _ _ => rfl)
  · rw [e] at h
    simp only [show ¬ ((6 : Int) = 1) from by decide, show ¬ ((6 : Int) = 2) from by decide, show ¬ ((6 : Int) = 3) from by decide, show ¬ ((6 : Int) = 4) from by decide, show ¬ ((6 : Int) = 5) from by decide, if_false, if_true] at h
    exact h _ M (wI ⟨by omega, by omega⟩) (fun _ _ _ => rfl)
  · rw [if_neg (by omega), if_neg (by omega), if_neg (by omega), if_neg (by omega), if_neg (by omega), if_neg (by omega)] at h
    exact h _ M (wI ⟨by omega, by omega⟩) (fun _ _ _ => rfl)
def S_thingIs (t w : Int) (σ : gSt) : Int := if ¬ ((0 ≤ t ∧ t < σ 0 0) ∧ (0 ≤ w ∧ w ≤ 10)) then -1000000001 else if w = 10 then toneS (σ 1) (σ 7) (σ 0 9) t else σ 1 (10 * t + w)
/-- the texts as they can be -/
def iX (σ : gSt) : Prop := (0 < σ 0 9 → wfX (σ 7) (σ 0 9).toNat) ∧ (0 < σ 0 10 → wfX (σ 8) (σ 0 10).toNat)
theorem toneS_congr {B B' f : Int → Int} {L t : Int} (ht : 0 ≤ t ∧ t ≤ 12) (h : ∀ j, 0 ≤ j → j < 130 → B' j = B j) : toneS B' f L t = toneS B f L t := by
  unfold toneS ringS thS
  rw [h (10 * t + 0) (by omega) (by omega), h (10 * t + 1) (by omega) (by omega), h (10 * t + 2) (by omega) (by omega), h (10 * t + 3) (by omega) (by omega)]
theorem thOk_cg {B B' : Int → Int} {t : Int} (ht : 0 ≤ t ∧ t ≤ 12) (h : ∀ j, 0 ≤ j → j < 130 → B' j = B j) (k : thOk B (10 * t)) : thOk B' (10 * t) := by
  unfold thOk at k ⊢
  rw [h (10 * t + 0) (by omega) (by omega), h (10 * t + 1) (by omega) (by omega), h (10 * t + 2) (by omega) (by omega), h (10 * t + 3) (by omega) (by omega), h (10 * t + 4) (by omega) (by omega), h (10 * t + 5) (by omega) (by omega), h (10 * t + 6) (by omega) (by omega), h (10 * t + 7) (by omega) (by omega), h (10 * t + 8) (by omega) (by omega), h (10 * t + 9) (by omega) (by omega)]
  exact k
theorem sC_thingIs {t w : Int} {M : gSt} {k : Int → gSt → Prop} (i1 : inI t) (i2 : inI w) (I : iN (absC M)) (J : iB (absC M)) (X : iX (absC M)) (hK : cK M) (h : ∀ r M', wrap r = wrap (S_thingIs t w (absC M)) → absC M' = absC M → cK M' → k r M') : w_X8_thingIs t w M k := by
  unfold iN at I
  have n0 := rc00 M
  have n9 := rc09 M
  unfold w_X8_thingIs wB_X8_thingIs_24
  have bad : ¬ ((0 ≤ t ∧ t < absC M 0 0) ∧ (0 ≤ w ∧ w ≤ 10)) → w_X8_refuse 1 M (fun r26c M26 => k r26c M26) := fun z =>
    sp_refuse (by decide) (by decide) (h _ _ (by unfold S_thingIs; rw [if_pos z]; rfl) (ac_eq (fun o ho => wrO' (by unfold scr at ho; omega))) (cK_wr hK (Or.inr (by decide))))
  refine sp_has0 pl_2 i1 ⟨by omega, by omega⟩ (fun h1 => z1 ?_) (fun h1 => z0 (bad (by omega)))
  refine sp_within i2 (by constructor <;> decide) (by constructor <;> decide) (fun h2 => z1n ?_) (fun h2 => z0n (bad (by omega)))
  have hS : S_thingIs t w (absC M) = if w = 10 then toneS (absC M 1) (absC M 7) (absC M 0 9) t else absC M 1 (10 * t + w) := by
    unfold S_thingIs; rw [if_neg (by omega)]
  rw [hS] at h
  unfold w_X1_numberOf
  rw [wI i2]
  refine ⟨pl_1, pl_2, fun z => sp_number pl_2 rfl ⟨by omega, by omega⟩ ⟨by omega, by omega⟩ (h _ M ?_ rfl hK), fun z => ?_⟩
  · rw [if_neg z, rc1 M (i := 10 * t + w) (by omega) (by omega)]
  · rw [if_pos z] at h
    have bj : ∀ j, 0 ≤ j → j < 130 → M 3 j = absC M 1 j := fun j a b => (rc1 M a b).symm
    refine c_tone (a := 2) pl_2 rfl ⟨by omega, by omega⟩ hK (thOk_cg (B := absC M 1) ⟨by omega, by omega⟩ bj (J t (by omega) (by omega))) ⟨by omega, by omega⟩ (fun q => by rw [← n9] at q ⊢; exact X.1 q) (fun r M' hr e' => h r M' ?_ ?_ ?_)
    · have tS : toneS (M 3) (absC M 7) (M 14 3) t = toneS (absC M 1) (absC M 7) (absC M 0 9) t := by rw [n9]; exact toneS_congr ⟨by omega, by omega⟩ bj
      change wrap r = toneS (M 3) (absC M 7) (M 14 3) t at hr
      rw [← tS, ← hr, wwrap]
    · exact ac_eq (fun o ho => e' o (by unfold scr at ho; omega) (by unfold scr at ho; omega))
    · exact cK_eq hK (fun o a b c d i hi => by rw [e' o (by omega) (by omega)])
-- the reference
theorem r_ths {t : Int} {M : gSt} {k : Int → gSt → Prop} (ht : 0 ≤ t ∧ t ≤ 12) (tk : thOk (absR M 1) (10 * t)) (h : k (thS (absR M 1) t) M) : w_Rthousandths t M k := by
  obtain ⟨-, -, h2, h3, -⟩ := tk
  unfold thS at h
  unfold w_Rthousandths
  refine sp_Rits ht (by decide) ?_
  rw [wI (x := absR M 1 (10 * t + 2)) ⟨by omega, by omega⟩]
  refine ⟨fun z => ?_, fun z => ?_⟩
  · rw [if_neg z] at h
    exact sp_Rits ht (by decide) (sp_Rits ht (by decide) (sp_RpartOf ⟨by omega, by omega⟩ (by decide) ⟨by omega, by omega⟩ h))
  · rw [if_pos z] at h
    exact h
theorem r_held {r : Int} {M : gSt} {k : Int → gSt → Prop} (h : ∀ x, wrap x = heldS (wrap r) 0 9999 → k x M) : w_Rheld r 0 9999 M k := by
  unfold w_Rheld
  have w0 : wrap 0 = 0 := rfl
  have w9 : wrap 9999 = 9999 := by decide
  unfold heldS at h
  rw [w0, w9]
  refine ⟨fun a => ⟨fun b => h r (by rw [if_neg (by omega), if_neg (by omega)]), fun b => h 9999 (by rw [if_neg (by omega), if_pos b, w9])⟩, fun a => h 0 (by rw [if_pos a, w0])⟩
/-- only the rooms 6 and 7 changed -/
def on67 (M M' : gSt) : Prop := ∀ p, p ≠ 6 → p ≠ 7 → M' p = M p
theorem on67_abs {M M' : gSt} (h : on67 M M') : absR M' = absR M ∧ fr M M' := by
  refine ⟨absR_eq (h 1 (by decide) (by decide)) (h 2 (by decide) (by decide)) (by rw [h 0 (by decide) (by decide)]) (h 11 (by decide) (by decide)) (h 12 (by decide) (by decide)) (h 13 (by decide) (by decide)), fun j _ _ => by rw [h 1 (by decide) (by decide)], h 2 (by decide) (by decide), by rw [h 0 (by decide) (by decide)]⟩
theorem r_rings {t : Int} {M : gSt} {k : Int → gSt → Prop} (ht : 0 ≤ t ∧ t ≤ 12) (tk : thOk (absR M 1) (10 * t)) (bL : 0 ≤ absR M 0 9 ∧ absR M 0 9 ≤ 60) (raw : rawT 0 (M 1)) (wf : 0 < absR M 0 9 → wfX (absR M 7) (absR M 0 9).toNat) (h : ∀ r M', wrap r = ringS (absR M 1) (absR M 7) (absR M 0 9) t → on67 M M' → k r M') : w_Rrings t M k := by
  have sr := thS_rng tk
  have l := rdL (M := M) (u := 0) (Or.inl rfl)
  change M 1 202 = absR M 0 9 at l
  unfold w_Rrings w_RhasText
  refine r_ths ht tk ⟨by decide, ?_⟩
  show (wrap (M 1 202) ≤ 0 → _) ∧ (0 < wrap (M 1 202) → _)
  rw [l, wI (x := absR M 0 9) ⟨by omega, by omega⟩]
  obtain ⟨-, h1, h2, -⟩ := tk
  refine ⟨fun z => z0n (sp_Rits ht (by decide) (r_held (fun x hx => h x M ?_ (fun _ _ _ => rfl)))), fun z => z1n (sp_Rits ht (by decide) (fun M1 e1 M2 e2 => ?_))⟩
  · unfold ringS
    rw [if_neg (by omega), hx, wI ⟨by omega, by omega⟩]
    unfold heldS
    rw [if_neg (by omega), if_neg (by omega)]
  · have o1 : on67 M M2 := fun p a b => by rw [e2, wrO' a, e1, wrO' a]
    have a2 := (on67_abs o1).1
    refine sp_Rits ht (by decide) (fun M3 e3 => ?_)
    rw [a2] at e3
    have o3 : on67 M M3 := fun p a b => by rw [e3, wrO' a]; exact o1 p a b
    have e31 : M3 1 = M 1 := o3 1 (by decide) (by decide)
    have m103 : M3 6 103 = absR M 1 (10 * t + 2) := by rw [e3, wrN (by decide), e2, wrN (by decide), e1, wrI]
    have m115 : M3 6 115 = thS (absR M 1) t := by rw [e3, wrN (by decide), e2, wrI]
    have m109 : M3 6 109 = absR M 1 (10 * t + 1) := by rw [e3, wrI]
    refine sp_Rworked (u := 0) (g := absR M 1 (10 * t + 2)) (s := thS (absR M 1) t) (m := absR M 1 (10 * t + 1)) (L := absR M 0 9) (f := absR M 7) (Or.inl rfl) (by rw [e31]; exact l) bL (by rw [e31]; exact raw) (fun j a b => ?_) (fun b hb => ?_) (wf z) (fun r M' hr e' => r_held (fun x hx => h x M' ?_ (fun p a b => (e' p b).trans (o3 p a b))))
    · rw [e31]
      have : absR M 7 j = msk (M 1 202) (fun i => encT 0 (M 1 (203 + 2 * i)) (M 1 (204 + 2 * i))) j := rfl
      rw [this]
      unfold msk
      rw [l, if_pos ⟨a, b⟩]
      rfl
    · rcases hb with rfl | ⟨-, rfl | rfl⟩ | ⟨z, -⟩
      · rw [m103]; rfl
      · rw [m115]; rfl
      · rw [m109]; rfl
      · exact absurd rfl z
    · unfold ringS
      rw [if_pos z, hx, hr]
theorem r_tone {t : Int} {M : gSt} {k : Int → gSt → Prop} (ht : 0 ≤ t ∧ t ≤ 12) (tk : thOk (absR M 1) (10 * t)) (bL : 0 ≤ absR M 0 9 ∧ absR M 0 9 ≤ 60) (raw : rawT 0 (M 1)) (wf : 0 < absR M 0 9 → wfX (absR M 7) (absR M 0 9).toNat) (h : ∀ r M', wrap r = toneS (absR M 1) (absR M 7) (absR M 0 9) t → on67 M M' → k r M') : w_Rtone t M k := by
  have sr := thS_rng tk
  have rr := ring_rng (f := absR M 7) (L := absR M 0 9) tk
  have tk' := tk
  obtain ⟨h0, h1, h2, h3, -⟩ := tk'
  have rf : on67 M M := fun _ _ _ => rfl
  unfold w_Rtone
  refine r_ths ht tk (fun x ex => sp_Rits ht (by decide) (sp_Rits ht (by decide) ?_))
  subst ex
  generalize hS : thS (absR M 1) t = S at sr ⊢
  have d1 : Int.tdiv (1000 - S) 2 = (1000 - S) / 2 := tdiv_pos (by omega)
  have d2 : Int.tdiv (absR M 1 (10 * t + 2)) 1000 = absR M 1 (10 * t + 2) / 1000 := tdiv_pos (by omega)
  rw [wI (x := absR M 1 (10 * t + 0)) ⟨by omega, by omega⟩, wI (x := 1000 - S) ⟨by omega, by omega⟩]
  unfold toneS at h
  rw [hS] at h
  refine ⟨fun e => ?_, fun e => ?_, fun e => ?_, fun e => ?_, fun e => ?_, fun e => ?_, fun e => ?_⟩
  · rw [e] at h
    simp only [if_true] at h
    exact r_rings ht tk bL raw wf h
  · rw [e] at h
    simp only [show ¬ ((2 : Int) = 1) from by decide, if_false, if_true] at h
    exact h _ M (wI ⟨by omega, by omega⟩) rf
  · rw [e] at h
    simp only [show ¬ ((3 : Int) = 1) from by decide, show ¬ ((3 : Int) = 2) from by decide, if_false, if_true] at h
    exact h _ M (wI ⟨by omega, by omega⟩) rf
  · rw [e] at h
    simp only [show ¬ ((4 : Int) = 1) from by decide, show ¬ ((4 : Int) = 2) from by decide, show ¬ ((4 : Int) = 3) from by decide, if_false, if_true] at h
    refine r_rings ht tk bL raw wf (fun r M' hr e' => h _ M' ?_ e')
    have : wrap (r + 2 * absR M 1 (10 * t + 1)) = wrap (wrap r + 2 * absR M 1 (10 * t + 1)) := by unfold wrap; omega
    rw [this, hr]
    exact wI ⟨by omega, by omega⟩
  · rw [e] at h
    simp only [show ¬ ((5 : Int) = 1) from by decide, show ¬ ((5 : Int) = 2) from by decide, show ¬ ((5 : Int) = 3) from by decide, show ¬ ((5 : Int) = 4) from by decide, if_false, if_true] at h
    refine sp_Rits ht (by decide) ?_
    rw [wI (x := absR M 1 (10 * t + 2)) ⟨by omega, by omega⟩]
    exact h _ M (wI ⟨by omega, by omega⟩) rf
  · rw [e] at h
    simp only [show ¬ ((6 : Int) = 1) from by decide, show ¬ ((6 : Int) = 2) from by decide, show ¬ ((6 : Int) = 3) from by decide, show ¬ ((6 : Int) = 4) from by decide, show ¬ ((6 : Int) = 5) from by decide, if_false, if_true] at h
    exact h _ M (wI ⟨by omega, by omega⟩) rf
  · rw [if_neg (by omega), if_neg (by omega), if_neg (by omega), if_neg (by omega), if_neg (by omega), if_neg (by omega)] at h
    exact h _ M (wI ⟨by omega, by omega⟩) rf
theorem sR_thingIs {t w : Int} {M : gSt} {k : Int → gSt → Prop} (i1 : inI t) (i2 : inI w) (I : iN (absR M)) (J : iB (absR M)) (X : iX (absR M)) (raw : rawT 0 (M 1)) (h : ∀ r M', wrap r = wrap (S_thingIs t w (absR M)) → absR M' = absR M → fr M M' → k r M') : w_RthingIs t w M k := by
  unfold iN at I
  unfold w_RthingIs wB_RthingIs_27
  have bad : ¬ ((0 ≤ t ∧ t < absR M 0 0) ∧ (0 ≤ w ∧ w ≤ 10)) → w_Rerror 1 M (fun r29c M29 => k r29c M29) := fun z =>
    sp_Rerror (by decide) (by decide) (fun M' e f => h _ M' (by unfold S_thingIs; rw [if_pos z]; rfl) e f)
  refine sp_RisThing i1 ⟨by omega, by omega⟩ (fun h1 => z1 ?_) (fun h1 => z0 (bad (by omega)))
  refine sp_Rin i2 (by constructor <;> decide) (by constructor <;> decide) (fun h2 => z1 ?_) (fun h2 => z0 (bad (by omega)))
  have hS : S_thingIs t w (absR M) = if w = 10 then toneS (absR M 1) (absR M 7) (absR M 0 9) t else absR M 1 (10 * t + w) := by
    unfold S_thingIs; rw [if_neg (by omega)]
  rw [hS] at h
  unfold w_Rtold1
  rw [wI i2]
  refine ⟨fun z => sp_Rits ⟨by omega, by omega⟩ ⟨by omega, by omega⟩ (h _ M (by rw [if_neg z]) rfl fr_rf), fun z => ?_⟩
  rw [if_pos z] at h
  refine r_tone ⟨by omega, by omega⟩ (J t (by omega) (by omega)) ⟨by omega, by omega⟩ raw X.1 (fun r M' hr e' => h r M' (by rw [← hr, wwrap]) (on67_abs e').1 (on67_abs e').2)
