section
-- voices: both sides
def abv (x : Int) : Int := if x = 4 then 1 else if x = 5 then 2 else if x = 6 then 3 else 0
def att (f v : Int) : Int := if ¬ tb_BODIES (f * 4 + v) = 0 then f else if ¬ tb_BODIES (abv f * 4 + v) = 0 then abv f else 0
def bdy (f v : Int) : Int := tb_BODIES (att f v * 4 + v)
theorem fb_rng : ∀ n : Nat, n < 28 → 0 ≤ fb_BODIES n ∧ fb_BODIES n ≤ 71 := by decide
theorem tb_rng {f v : Int} (hf : 0 ≤ f ∧ f ≤ 6) (hv : 0 ≤ v ∧ v ≤ 3) : 0 ≤ tb_BODIES (f * 4 + v) ∧ tb_BODIES (f * 4 + v) ≤ 71 := fb_rng _ (by omega)
theorem sp_body {f v : Int} {M : gSt} {k : Int → gSt → Prop} (hf : 0 ≤ f ∧ f ≤ 6) (hv : 0 ≤ v ∧ v ≤ 3) (h : k (tb_BODIES (f * 4 + v)) M) : w_X6_bodyOf f v M k := by
  unfold w_X6_bodyOf
  intro x ex
  rw [wI (x := x) ⟨by omega, by omega⟩]
  refine ⟨fun z => absurd z (by omega), fun _ => ⟨fun z => absurd z (by omega), fun _ => ⟨⟨by omega, by omega⟩, ?_⟩⟩⟩
  rw [ex]
  exact h
theorem abv_rng {f : Int} (hf : 0 ≤ f ∧ f ≤ 6) : (0 ≤ abv f ∧ abv f ≤ 3) ∧ abv (abv f) = 0 := by
  rcases (show f = 0 ∨ f = 1 ∨ f = 2 ∨ f = 3 ∨ f = 4 ∨ f = 5 ∨ f = 6 by omega) with rfl | rfl | rfl | rfl | rfl | rfl | rfl <;> decide
theorem tb_0 {v : Int} (hv : 0 ≤ v ∧ v ≤ 3) : ¬ tb_BODIES (0 * 4 + v) = 0 := by
  rcases (show v = 0 ∨ v = 1 ∨ v = 2 ∨ v = 3 by omega) with rfl | rfl | rfl | rfl <;> decide
def vC (kd k m pt : Int) (M0 M : gSt) : Prop := (∀ p, p ≠ 52 → p ≠ 53 → p ≠ 54 → M p = M0 p) ∧ M 52 1 = kd ∧ M 52 2 = k ∧ M 52 3 = m ∧ M 52 4 = pt ∧ M 53 0 = 1 ∧ M 53 2 = 30 ∧ (0 ≤ M 53 3 ∧ M 53 3 ≤ 30)
theorem vC_app {kd k m pt b y z : Int} {M0 M : gSt} {kk : Int → gSt → Prop} (g : vC kd k m pt M0 M) (h : ∀ r M', vC kd k m pt M0 M' → kk r M') : w_X4_append 53 b y z M kk := by
  obtain ⟨g0, g1, g2, g3, g4, g5, g6, g7⟩ := g
  by_cases f : M 53 3 < 30
  · refine sp_app1 (L := 30) pl_53 g5 g6 ⟨g7.1, f⟩ (by decide) rfl (h _ _ ⟨fun p a b c => by rw [wrO' b, wrO' c]; exact g0 p a b c, ?_, ?_, ?_, ?_, ?_, ?_, ?_⟩)
    · rw [wrO (by decide), wrO (by decide)]; exact g1
    · rw [wrO (by decide), wrO (by decide)]; exact g2
    · rw [wrO (by decide), wrO (by decide)]; exact g3
    · rw [wrO (by decide), wrO (by decide)]; exact g4
    · rw [wrN (by decide), wrO (by decide)]; exact g5
    · rw [wrN (by decide), wrO (by decide)]; exact g6
    · rw [wrI]; omega
  · unfold w_X4_append
    refine ⟨pl_53, sp_room4 pl_53 ?_⟩
    rw [g6, wI (x := 30 - M 53 3) ⟨by omega, by omega⟩]
    exact ⟨fun z => absurd z (by omega), fun _ => h _ M ⟨g0, g1, g2, g3, g4, g5, g6, g7⟩⟩
theorem c_snd {kd k m pt f v x a : Int} {d : Nat} {M0 M : gSt} {kk : Int → gSt → Prop} (hf : 0 ≤ f ∧ f ≤ 6) (hv : 0 ≤ v ∧ v ≤ 3) (ha : 0 ≤ a ∧ a ≤ 40) (g : vC kd k m pt M0 M) (h : ∀ M', vC kd k m pt M0 M' → wg_X6_own 52 d 2 [bdy f v, abv (att f v), x, a + 1] M' (fun r M => kk r M)) : wg_X6_own 52 (d + 1) 1 [f, v, x, a] M kk := by
  show wb_X6_sound (wg_X6_own 52 d) 52 f v x a M kk
  have stop : ∀ z, (0 ≤ z ∧ z ≤ 6) → z = att f v → wB_X6_sound_35 (wg_X6_own 52 d) 52 f v x a kk z M := by
    intro z hz ez
    unfold wB_X6_sound_35
    refine sp_body hz hv (vC_app g (fun r M' g' => ?_))
    rw [wI (x := a) ⟨by omega, by omega⟩]
    refine ⟨fun _ => sp_above ⟨by omega, by omega⟩ ?_, fun y => absurd y (by omega)⟩
    have := h M' g'
    unfold bdy abv at this
    rw [← ez] at this
    exact this
  have ar := abv_rng hf
  have r0 := tb_rng hf hv
  have r1 := tb_rng (f := abv f) (v := v) ⟨by omega, by omega⟩ hv
  have r2 := tb_0 hv
  have r3 := tb_rng (f := 0) (v := v) (by decide) hv
  have ea : att f v = if ¬ tb_BODIES (f * 4 + v) = 0 then f else if ¬ tb_BODIES (abv f * 4 + v) = 0 then abv f else 0 := rfl
  unfold wb_X6_sound
  refine ⟨pl_52, 3, ?_⟩
  simp only [wL_X6_sound_6, wC_X6_sound_6]
  rw [wrap_0, show wrap (0 + 1) = 1 from by decide, show wrap (0 + 1 + 1) = 2 from by decide]
  refine ⟨fun z => absurd z (by decide), fun _ => sp_body hf hv ?_⟩
  rw [wI (x := tb_BODIES (f * 4 + v)) ⟨by omega, by omega⟩]
  refine ⟨fun z => stop f hf (by rw [ea, if_pos z]), fun z => sp_above ⟨by omega, by omega⟩ ?_⟩
  rw [if_neg (fun q => q z)] at ea
  change (7 ≤ (1 : Int) → _) ∧ ((1 : Int) < 7 → w_X6_bodyOf (abv f) v M _)
  refine ⟨fun z => absurd z (by decide), fun _ => sp_body ⟨by omega, by omega⟩ hv ?_⟩
  rw [wI (x := tb_BODIES (abv f * 4 + v)) ⟨by omega, by omega⟩]
  refine ⟨fun z1 => stop (abv f) ⟨by omega, by omega⟩ (by rw [ea, if_pos z1]), fun z1 => sp_above ⟨by omega, by omega⟩ ?_⟩
  rw [if_neg (fun q => q z1)] at ea
  change (7 ≤ (2 : Int) → _) ∧ ((2 : Int) < 7 → w_X6_bodyOf (abv (abv f)) v M _)
  rw [ar.2]
  refine ⟨fun z => absurd z (by decide), fun _ => sp_body (by decide) hv ?_⟩
  rw [wI (x := tb_BODIES (0 * 4 + v)) ⟨by omega, by omega⟩]
  exact ⟨fun _ => stop (abv (abv f)) ⟨by omega, by omega⟩ (by rw [ar.2]; exact ea.symm), fun y => absurd y r2⟩
theorem c_own {kd k m pt v x a : Int} {d : Nat} {M0 M : gSt} {kk : Int → gSt → Prop} (g : vC kd k m pt M0 M) (h : wg_X6_own 52 d 1 [kd, v, x, a] M (fun r M => kk r M)) : wg_X6_own 52 (d + 1) 0 [v, x, a] M kk := by
  show wb_X6_own (wg_X6_own 52 d) 52 v x a M kk
  unfold wb_X6_own
  rw [g.2.1]
  exact ⟨pl_52, h⟩
theorem wk_10 {c x a : Int} {d : Nat} {M : gSt} {kk : Int → gSt → Prop} (h : kk (x + M 52 2) M) : wg_X6_own 52 (d + 1) 2 [10, c, x, a] M kk := by
  show wb_X6_work (wg_X6_own 52 d) 52 10 c x a M kk
  unfold wb_X6_work
  exact ⟨pl_52, fun _ => h, fun z => absurd z (by decide), fun z => absurd z (by decide), fun z => absurd z (by decide), fun z => absurd z (by decide), fun z => absurd z (by decide), fun z => absurd z (by decide), fun z => absurd z (by decide), fun z => absurd z (by decide), fun z => absurd z (by decide), fun z => absurd z (by decide), fun z => absurd z (by decide), fun z => absurd z (by decide), fun z => absurd z (by decide)⟩
theorem wk_11 {c x a : Int} {d : Nat} {M : gSt} {kk : Int → gSt → Prop} (h : wg_X6_own 52 d 0 [0, x, a] M (fun r M => kk (r * 2) M)) : wg_X6_own 52 (d + 1) 2 [11, c, x, a] M kk := by
  show wb_X6_work (wg_X6_own 52 d) 52 11 c x a M kk
  unfold wb_X6_work
  exact ⟨pl_52, fun z => absurd z (by decide), fun _ => h, fun z => absurd z (by decide), fun z => absurd z (by decide), fun z => absurd z (by decide), fun z => absurd z (by decide), fun z => absurd z (by decide), fun z => absurd z (by decide), fun z => absurd z (by decide), fun z => absurd z (by decide), fun z => absurd z (by decide), fun z => absurd z (by decide), fun z => absurd z (by decide), fun z => absurd z (by decide)⟩
theorem wk_12 {c x a : Int} {d : Nat} {M : gSt} {kk : Int → gSt → Prop} (h : wg_X6_own 52 d 0 [1, x, a] M (fun r M => kk (r - M 52 3) M)) : wg_X6_own 52 (d + 1) 2 [12, c, x, a] M kk := by
  show wb_X6_work (wg_X6_own 52 d) 52 12 c x a M kk
  unfold wb_X6_work
  exact ⟨pl_52, fun z => absurd z (by decide), fun z => absurd z (by decide), fun _ => h, fun z => absurd z (by decide), fun z => absurd z (by decide), fun z => absurd z (by decide), fun z => absurd z (by decide), fun z => absurd z (by decide), fun z => absurd z (by decide), fun z => absurd z (by decide), fun z => absurd z (by decide), fun z => absurd z (by decide), fun z => absurd z (by decide), fun z => absurd z (by decide)⟩
theorem wk_13 {c x a : Int} {d : Nat} {M : gSt} {kk : Int → gSt → Prop} (h : w_X6_part 52 x M (fun r M => kk r M)) : wg_X6_own 52 (d + 1) 2 [13, c, x, a] M kk := by
  show wb_X6_work (wg_X6_own 52 d) 52 13 c x a M kk
  unfold wb_X6_work
  exact ⟨pl_52, fun z => absurd z (by decide), fun z => absurd z (by decide), fun z => absurd z (by decide), fun _ => h, fun z => absurd z (by decide), fun z => absurd z (by decide), fun z => absurd z (by decide), fun z => absurd z (by decide), fun z => absurd z (by decide), fun z => absurd z (by decide), fun z => absurd z (by decide), fun z => absurd z (by decide), fun z => absurd z (by decide), fun z => absurd z (by decide)⟩
theorem wk_20 {c x a : Int} {d : Nat} {M : gSt} {kk : Int → gSt → Prop} (h : wg_X6_own 52 d 1 [c, 0, x, a] M (fun r M => kk (r - 4) M)) : wg_X6_own 52 (d + 1) 2 [20, c, x, a] M kk := by
  show wb_X6_work (wg_X6_own 52 d) 52 20 c x a M kk
  unfold wb_X6_work
  exact ⟨pl_52, fun z => absurd z (by decide), fun z => absurd z (by decide), fun z => absurd z (by decide), fun z => absurd z (by decide), fun _ => h, fun z => absurd z (by decide), fun z => absurd z (by decide), fun z => absurd z (by decide), fun z => absurd z (by decide), fun z => absurd z (by decide), fun z => absurd z (by decide), fun z => absurd z (by decide), fun z => absurd z (by decide), fun z => absurd z (by decide)⟩
theorem wk_21 {c x a : Int} {d : Nat} {M : gSt} {kk : Int → gSt → Prop} (h : wg_X6_own 52 d 1 [c, 3, x, a] M (fun q M => wg_X6_own 52 d 0 [1, 1, a] M (fun r M => kk (q + r) M))) : wg_X6_own 52 (d + 1) 2 [21, c, x, a] M kk := by
  show wb_X6_work (wg_X6_own 52 d) 52 21 c x a M kk
  unfold wb_X6_work
  exact ⟨pl_52, fun z => absurd z (by decide), fun z => absurd z (by decide), fun z => absurd z (by decide), fun z => absurd z (by decide), fun z => absurd z (by decide), fun _ => h, fun z => absurd z (by decide), fun z => absurd z (by decide), fun z => absurd z (by decide), fun z => absurd z (by decide), fun z => absurd z (by decide), fun z => absurd z (by decide), fun z => absurd z (by decide), fun z => absurd z (by decide)⟩
theorem wk_30 {c x a : Int} {d : Nat} {M : gSt} {kk : Int → gSt → Prop} (h : wg_X6_own 52 d 1 [c, 1, x, a] M (fun r M => kk (0 - r) M)) : wg_X6_own 52 (d + 1) 2 [30, c, x, a] M kk := by
  show wb_X6_work (wg_X6_own 52 d) 52 30 c x a M kk
  unfold wb_X6_work
  exact ⟨pl_52, fun z => absurd z (by decide), fun z => absurd z (by decide), fun z => absurd z (by decide), fun z => absurd z (by decide), fun z => absurd z (by decide), fun z => absurd z (by decide), fun _ => h, fun z => absurd z (by decide), fun z => absurd z (by decide), fun z => absurd z (by decide), fun z => absurd z (by decide), fun z => absurd z (by decide), fun z => absurd z (by decide), fun z => absurd z (by decide)⟩
theorem wk_40 {c x a : Int} {d : Nat} {M : gSt} {kk : Int → gSt → Prop} (h : wg_X6_own 52 d 1 [c, 2, Int.tdiv (wrap x) 2, a] M (fun r M => kk r M)) : wg_X6_own 52 (d + 1) 2 [40, c, x, a] M kk := by
  show wb_X6_work (wg_X6_own 52 d) 52 40 c x a M kk
  unfold wb_X6_work
  exact ⟨pl_52, fun z => absurd z (by decide), fun z => absurd z (by decide), fun z => absurd z (by decide), fun z => absurd z (by decide), fun z => absurd z (by decide), fun z => absurd z (by decide), fun z => absurd z (by decide), fun _ => h, fun z => absurd z (by decide), fun z => absurd z (by decide), fun z => absurd z (by decide), fun z => absurd z (by decide), fun z => absurd z (by decide), fun z => absurd z (by decide)⟩
theorem wk_50 {c x a : Int} {d : Nat} {M : gSt} {kk : Int → gSt → Prop} (h : wg_X6_own 52 d 1 [c, 0, x, a] M (fun r M => kk (r * 3) M)) : wg_X6_own 52 (d + 1) 2 [50, c, x, a] M kk := by
  show wb_X6_work (wg_X6_own 52 d) 52 50 c x a M kk
  unfold wb_X6_work
  exact ⟨pl_52, fun z => absurd z (by decide), fun z => absurd z (by decide), fun z => absurd z (by decide), fun z => absurd z (by decide), fun z => absurd z (by decide), fun z => absurd z (by decide), fun z => absurd z (by decide), fun z => absurd z (by decide), fun _ => h, fun z => absurd z (by decide), fun z => absurd z (by decide), fun z => absurd z (by decide), fun z => absurd z (by decide), fun z => absurd z (by decide)⟩
theorem wk_51 {c x a : Int} {d : Nat} {M : gSt} {kk : Int → gSt → Prop} (h : wg_X6_own 52 d 1 [c, 2, x, a] M (fun r M => kk (xxor r (M 52 2)) M)) : wg_X6_own 52 (d + 1) 2 [51, c, x, a] M kk := by
  show wb_X6_work (wg_X6_own 52 d) 52 51 c x a M kk
  unfold wb_X6_work
  exact ⟨pl_52, fun z => absurd z (by decide), fun z => absurd z (by decide), fun z => absurd z (by decide), fun z => absurd z (by decide), fun z => absurd z (by decide), fun z => absurd z (by decide), fun z => absurd z (by decide), fun z => absurd z (by decide), fun z => absurd z (by decide), fun _ => h, fun z => absurd z (by decide), fun z => absurd z (by decide), fun z => absurd z (by decide), fun z => absurd z (by decide)⟩
theorem wk_60 {c x a : Int} {d : Nat} {M : gSt} {kk : Int → gSt → Prop} (h : wg_X6_own 52 d 1 [c, 1, x + 1, a] M (fun r M => kk r M)) : wg_X6_own 52 (d + 1) 2 [60, c, x, a] M kk := by
  show wb_X6_work (wg_X6_own 52 d) 52 60 c x a M kk
  unfold wb_X6_work
  exact ⟨pl_52, fun z => absurd z (by decide), fun z => absurd z (by decide), fun z => absurd z (by decide), fun z => absurd z (by decide), fun z => absurd z (by decide), fun z => absurd z (by decide), fun z => absurd z (by decide), fun z => absurd z (by decide), fun z => absurd z (by decide), fun z => absurd z (by decide), fun _ => h, fun z => absurd z (by decide), fun z => absurd z (by decide), fun z => absurd z (by decide)⟩
theorem wk_70 {c x a : Int} {d : Nat} {M : gSt} {kk : Int → gSt → Prop} (h : kk 6 M) : wg_X6_own 52 (d + 1) 2 [70, c, x, a] M kk := by
  show wb_X6_work (wg_X6_own 52 d) 52 70 c x a M kk
  unfold wb_X6_work
  exact ⟨pl_52, fun z => absurd z (by decide), fun z => absurd z (by decide), fun z => absurd z (by decide), fun z => absurd z (by decide), fun z => absurd z (by decide), fun z => absurd z (by decide), fun z => absurd z (by decide), fun z => absurd z (by decide), fun z => absurd z (by decide), fun z => absurd z (by decide), fun z => absurd z (by decide), fun _ => h, fun z => absurd z (by decide), fun z => absurd z (by decide)⟩
theorem wk_71 {c x a : Int} {d : Nat} {M : gSt} {kk : Int → gSt → Prop} (h : wg_X6_own 52 d 1 [c, 1, x, a] M (fun r M => kk (r + M 52 3) M)) : wg_X6_own 52 (d + 1) 2 [71, c, x, a] M kk := by
  show wb_X6_work (wg_X6_own 52 d) 52 71 c x a M kk
  unfold wb_X6_work
  exact ⟨pl_52, fun z => absurd z (by decide), fun z => absurd z (by decide), fun z => absurd z (by decide), fun z => absurd z (by decide), fun z => absurd z (by decide), fun z => absurd z (by decide), fun z => absurd z (by decide), fun z => absurd z (by decide), fun z => absurd z (by decide), fun z => absurd z (by decide), fun z => absurd z (by decide), fun z => absurd z (by decide), fun _ => h, fun z => absurd z (by decide)⟩
def vR (k f x : Int) : Int := if f = 1 then x + k - 4 else if f = 4 then (x + k - 4) * 3 else if f = 6 then 6 else x + k
def vW (k m kd f x : Int) : Int := if f = 2 then 0 - vR k kd x * 2 else if f = 5 then 0 - vR k kd (x + 1) * 2 else if f = 6 then vR k kd x * 2 + m else vR k kd x * 2
def vM (k m kd f x : Int) : Int := if f = 3 ∨ f = 6 then vW k m kd kd (Int.tdiv (wrap x) 2) - m else if f = 4 then xxor (vW k m kd kd x - m) k else vW k m kd kd x - m
def qP (k m x : Int) : Int := if wrap (m - k) = 0 then 0 else Int.tdiv (wrap x) (wrap (m - k))
def vP (k m kd f x : Int) : Int := if f = 1 ∨ f = 4 then qP k m x + vW k m kd kd 1 else qP k m x
section VC
variable {kd k m pt : Int} {M0 : gSt}
def goV (kd k m pt : Int) (M0 : gSt) (r : Int) (P : gSt → (Int → gSt → Prop) → Prop) : Prop := ∀ M kk, vC kd k m pt M0 M → (∀ M', vC kd k m pt M0 M' → kk r M') → P M kk
theorem vr0 {f x a : Int} {d : Nat} (hf : f = 0 ∨ f = 2 ∨ f = 3 ∨ f = 5) (ha : 0 ≤ a ∧ a ≤ 40) : goV kd k m pt M0 (x + k) (wg_X6_own 52 (d + 2) 1 [f, 0, x, a]) := by
  intro M kk g h
  rcases hf with rfl | rfl | rfl | rfl
  · refine c_snd (f := 0) (v := 0) (by decide) (by decide) ⟨by omega, by omega⟩ g (fun M1 g1 => ?_)
    change wg_X6_own 52 _ 2 [10, 0, x, a + 1] M1 _
    refine wk_10 ?_
    rw [g1.2.2.1]
    exact h M1 g1
  · refine c_snd (f := 2) (v := 0) (by decide) (by decide) ⟨by omega, by omega⟩ g (fun M1 g1 => ?_)
    change wg_X6_own 52 _ 2 [10, 0, x, a + 1] M1 _
    refine wk_10 ?_
    rw [g1.2.2.1]
    exact h M1 g1
  · refine c_snd (f := 3) (v := 0) (by decide) (by decide) ⟨by omega, by omega⟩ g (fun M1 g1 => ?_)
    change wg_X6_own 52 _ 2 [10, 0, x, a + 1] M1 _
    refine wk_10 ?_
    rw [g1.2.2.1]
    exact h M1 g1
  · refine c_snd (f := 5) (v := 0) (by decide) (by decide) ⟨by omega, by omega⟩ g (fun M1 g1 => ?_)
    change wg_X6_own 52 _ 2 [10, 0, x, a + 1] M1 _
    refine wk_10 ?_
    rw [g1.2.2.1]
    exact h M1 g1
theorem vr1 {x a : Int} {d : Nat} (ha : 0 ≤ a ∧ a ≤ 39) : goV kd k m pt M0 (x + k - 4) (wg_X6_own 52 (d + 4) 1 [1, 0, x, a]) := by
  intro M kk g h
  · refine c_snd (f := 1) (v := 0) (by decide) (by decide) ⟨by omega, by omega⟩ g (fun M1 g1 => ?_)
    change wg_X6_own 52 _ 2 [20, 0, x, a + 1] M1 _
    exact wk_20 (vr0 (Or.inl rfl) ⟨by omega, by omega⟩ M1 _ g1 h)
theorem v_rings {f x a : Int} {d : Nat} (hf : 0 ≤ f ∧ f ≤ 6) (ha : 0 ≤ a ∧ a ≤ 30) : goV kd k m pt M0 (vR k f x) (wg_X6_own 52 (d + 8) 1 [f, 0, x, a]) := by
  intro M kk g h
  rcases (show (f = 0 ∨ f = 2 ∨ f = 3 ∨ f = 5) ∨ f = 1 ∨ f = 4 ∨ f = 6 by omega) with hz | rfl | rfl | rfl
  · have e : vR k f x = x + k := by unfold vR; rw [if_neg (by omega), if_neg (by omega), if_neg (by omega)]
    rw [e] at h
    exact vr0 hz ⟨by omega, by omega⟩ M kk g h
  · exact vr1 ⟨by omega, by omega⟩ M kk g h
  · refine c_snd (f := 4) (v := 0) (by decide) (by decide) ⟨by omega, by omega⟩ g (fun M1 g1 => ?_)
    change wg_X6_own 52 _ 2 [50, 1, x, a + 1] M1 _
    exact wk_50 (vr1 ⟨by omega, by omega⟩ M1 _ g1 h)
  · refine c_snd (f := 6) (v := 0) (by decide) (by decide) ⟨by omega, by omega⟩ g (fun M1 g1 => ?_)
    change wg_X6_own 52 _ 2 [70, 3, x, a + 1] M1 _
    exact wk_70 (h M1 g1)
theorem vw0 {f x a : Int} {d : Nat} (hk : 0 ≤ kd ∧ kd ≤ 6) (hf : f = 0 ∨ f = 1 ∨ f = 3 ∨ f = 4) (ha : 0 ≤ a ∧ a ≤ 25) : goV kd k m pt M0 (vR k kd x * 2) (wg_X6_own 52 (d + 11) 1 [f, 1, x, a]) := by
  intro M kk g h
  rcases hf with rfl | rfl | rfl | rfl
  · refine c_snd (f := 0) (v := 1) (by decide) (by decide) ⟨by omega, by omega⟩ g (fun M1 g1 => ?_)
    change wg_X6_own 52 _ 2 [11, 0, x, a + 1] M1 _
    exact wk_11 (c_own g1 (v_rings hk ⟨by omega, by omega⟩ M1 _ g1 h))
  · refine c_snd (f := 1) (v := 1) (by decide) (by decide) ⟨by omega, by omega⟩ g (fun M1 g1 => ?_)
    change wg_X6_own 52 _ 2 [11, 0, x, a + 1] M1 _
    exact wk_11 (c_own g1 (v_rings hk ⟨by omega, by omega⟩ M1 _ g1 h))
  · refine c_snd (f := 3) (v := 1) (by decide) (by decide) ⟨by omega, by omega⟩ g (fun M1 g1 => ?_)
    change wg_X6_own 52 _ 2 [11, 0, x, a + 1] M1 _
    exact wk_11 (c_own g1 (v_rings hk ⟨by omega, by omega⟩ M1 _ g1 h))
  · refine c_snd (f := 4) (v := 1) (by decide) (by decide) ⟨by omega, by omega⟩ g (fun M1 g1 => ?_)
    change wg_X6_own 52 _ 2 [11, 0, x, a + 1] M1 _
    exact wk_11 (c_own g1 (v_rings hk ⟨by omega, by omega⟩ M1 _ g1 h))
theorem vw2 {x a : Int} {d : Nat} (hk : 0 ≤ kd ∧ kd ≤ 6) (ha : 0 ≤ a ∧ a ≤ 24) : goV kd k m pt M0 (0 - vR k kd x * 2) (wg_X6_own 52 (d + 13) 1 [2, 1, x, a]) := by
  intro M kk g h
  · refine c_snd (f := 2) (v := 1) (by decide) (by decide) ⟨by omega, by omega⟩ g (fun M1 g1 => ?_)
    change wg_X6_own 52 _ 2 [30, 0, x, a + 1] M1 _
    exact wk_30 (vw0 hk (Or.inl rfl) ⟨by omega, by omega⟩ M1 _ g1 h)
theorem v_weighs {f x a : Int} {d : Nat} (hk : 0 ≤ kd ∧ kd ≤ 6) (hf : 0 ≤ f ∧ f ≤ 6) (ha : 0 ≤ a ∧ a ≤ 20) : goV kd k m pt M0 (vW k m kd f x) (wg_X6_own 52 (d + 16) 1 [f, 1, x, a]) := by
  intro M kk g h
  rcases (show (f = 0 ∨ f = 1 ∨ f = 3 ∨ f = 4) ∨ f = 2 ∨ f = 5 ∨ f = 6 by omega) with hz | rfl | rfl | rfl
  · have e : vW k m kd f x = vR k kd x * 2 := by unfold vW; rw [if_neg (by omega), if_neg (by omega), if_neg (by omega)]
    rw [e] at h
    exact vw0 hk hz ⟨by omega, by omega⟩ M kk g h
  · exact vw2 hk ⟨by omega, by omega⟩ M kk g h
  · refine c_snd (f := 5) (v := 1) (by decide) (by decide) ⟨by omega, by omega⟩ g (fun M1 g1 => ?_)
    change wg_X6_own 52 _ 2 [60, 2, x, a + 1] M1 _
    exact wk_60 (vw2 hk ⟨by omega, by omega⟩ M1 _ g1 h)
  · refine c_snd (f := 6) (v := 1) (by decide) (by decide) ⟨by omega, by omega⟩ g (fun M1 g1 => ?_)
    change wg_X6_own 52 _ 2 [71, 3, x, a + 1] M1 _
    refine wk_71 (vw0 hk (Or.inr (Or.inr (Or.inl rfl))) ⟨by omega, by omega⟩ M1 _ g1 (fun M2 g2 => ?_))
    rw [g2.2.2.2.1]
    exact h M2 g2
theorem vm0 {f x a : Int} {d : Nat} (hk : 0 ≤ kd ∧ kd ≤ 6) (hf : f = 0 ∨ f = 1 ∨ f = 2 ∨ f = 5) (ha : 0 ≤ a ∧ a ≤ 15) : goV kd k m pt M0 (vW k m kd kd x - m) (wg_X6_own 52 (d + 19) 1 [f, 2, x, a]) := by
  intro M kk g h
  rcases hf with rfl | rfl | rfl | rfl
  · refine c_snd (f := 0) (v := 2) (by decide) (by decide) ⟨by omega, by omega⟩ g (fun M1 g1 => ?_)
    change wg_X6_own 52 _ 2 [12, 0, x, a + 1] M1 _
    refine wk_12 (c_own g1 (v_weighs hk hk ⟨by omega, by omega⟩ M1 _ g1 (fun M2 g2 => ?_)))
    rw [g2.2.2.2.1]
    exact h M2 g2
  · refine c_snd (f := 1) (v := 2) (by decide) (by decide) ⟨by omega, by omega⟩ g (fun M1 g1 => ?_)
    change wg_X6_own 52 _ 2 [12, 0, x, a + 1] M1 _
    refine wk_12 (c_own g1 (v_weighs hk hk ⟨by omega, by omega⟩ M1 _ g1 (fun M2 g2 => ?_)))
    rw [g2.2.2.2.1]
    exact h M2 g2
  · refine c_snd (f := 2) (v := 2) (by decide) (by decide) ⟨by omega, by omega⟩ g (fun M1 g1 => ?_)
    change wg_X6_own 52 _ 2 [12, 0, x, a + 1] M1 _
    refine wk_12 (c_own g1 (v_weighs hk hk ⟨by omega, by omega⟩ M1 _ g1 (fun M2 g2 => ?_)))
    rw [g2.2.2.2.1]
    exact h M2 g2
  · refine c_snd (f := 5) (v := 2) (by decide) (by decide) ⟨by omega, by omega⟩ g (fun M1 g1 => ?_)
    change wg_X6_own 52 _ 2 [12, 0, x, a + 1] M1 _
    refine wk_12 (c_own g1 (v_weighs hk hk ⟨by omega, by omega⟩ M1 _ g1 (fun M2 g2 => ?_)))
    rw [g2.2.2.2.1]
    exact h M2 g2
theorem v_melts {f x a : Int} {d : Nat} (hk : 0 ≤ kd ∧ kd ≤ 6) (hf : 0 ≤ f ∧ f ≤ 6) (ha : 0 ≤ a ∧ a ≤ 10) : goV kd k m pt M0 (vM k m kd f x) (wg_X6_own 52 (d + 22) 1 [f, 2, x, a]) := by
  intro M kk g h
  rcases (show (f = 0 ∨ f = 1 ∨ f = 2 ∨ f = 5) ∨ f = 3 ∨ f = 4 ∨ f = 6 by omega) with hz | rfl | rfl | rfl
  · have e : vM k m kd f x = vW k m kd kd x - m := by unfold vM; rw [if_neg (by omega), if_neg (by omega)]
    rw [e] at h
    exact vm0 hk hz ⟨by omega, by omega⟩ M kk g h
  · refine c_snd (f := 3) (v := 2) (by decide) (by decide) ⟨by omega, by omega⟩ g (fun M1 g1 => ?_)
    change wg_X6_own 52 _ 2 [40, 0, x, a + 1] M1 _
    exact wk_40 (vm0 hk (Or.inl rfl) ⟨by omega, by omega⟩ M1 _ g1 h)
  · refine c_snd (f := 4) (v := 2) (by decide) (by decide) ⟨by omega, by omega⟩ g (fun M1 g1 => ?_)
    change wg_X6_own 52 _ 2 [51, 1, x, a + 1] M1 _
    refine wk_51 (vm0 hk (Or.inr (Or.inl rfl)) ⟨by omega, by omega⟩ M1 _ g1 (fun M2 g2 => ?_))
    rw [g2.2.2.1]
    exact h M2 g2
  · refine c_snd (f := 6) (v := 2) (by decide) (by decide) ⟨by omega, by omega⟩ g (fun M1 g1 => ?_)
    change wg_X6_own 52 _ 2 [40, 0, x, a + 1] M1 _
    exact wk_40 (vm0 hk (Or.inl rfl) ⟨by omega, by omega⟩ M1 _ g1 h)
def pC (k m : Int) : Int := if wrap (m - k) = 0 then 1 else 0
theorem vp0 {f x a : Int} {d : Nat} {M : gSt} {kk : Int → gSt → Prop} (hf : f = 0 ∨ f = 2 ∨ f = 3 ∨ f = 5 ∨ f = 6) (ha : 0 ≤ a ∧ a ≤ 40) (g : vC kd k m 0 M0 M) (h : ∀ M', vC kd k m (pC k m) M0 M' → kk (qP k m x) M') : wg_X6_own 52 (d + 2) 1 [f, 3, x, a] M kk := by
  have pt : ∀ M1 (q : Int → gSt → Prop), vC kd k m 0 M0 M1 → (∀ M', vC kd k m (pC k m) M0 M' → q (qP k m x) M') → w_X6_part 52 x M1 q := by
    intro M1 q g1 h1
    unfold w_X6_part
    refine ⟨pl_52, fun y ey => ?_⟩
    rw [g1.2.2.1, g1.2.2.2.1] at ey
    subst ey
    unfold pC qP at h1
    refine ⟨fun z => ⟨z, ?_⟩, fun z M2 e2 => ?_⟩
    · have := h1 M1 (by rw [if_neg z]; exact g1)
      rw [if_neg z] at this
      exact this
    · obtain ⟨g0, a1, a2, a3, a4, a5, a6, a7⟩ := g1
      have := h1 M2 (by
        rw [if_pos z, e2]
        exact ⟨fun p a b c => by rw [wrO' a]; exact g0 p a b c, by rw [wrN (by decide)]; exact a1, by rw [wrN (by decide)]; exact a2, by rw [wrN (by decide)]; exact a3, wrI, by rw [wrO (by decide)]; exact a5, by rw [wrO (by decide)]; exact a6, by rw [wrO (by decide)]; exact a7⟩)
      rw [if_pos z] at this
      exact this
  rcases hf with rfl | rfl | rfl | rfl | rfl
  · refine c_snd (f := 0) (v := 3) (by decide) (by decide) ⟨by omega, by omega⟩ g (fun M1 g1 => ?_)
    change wg_X6_own 52 _ 2 [13, 0, x, a + 1] M1 _
    exact wk_13 (pt M1 _ g1 h)
  · refine c_snd (f := 2) (v := 3) (by decide) (by decide) ⟨by omega, by omega⟩ g (fun M1 g1 => ?_)
    change wg_X6_own 52 _ 2 [13, 0, x, a + 1] M1 _
    exact wk_13 (pt M1 _ g1 h)
  · refine c_snd (f := 3) (v := 3) (by decide) (by decide) ⟨by omega, by omega⟩ g (fun M1 g1 => ?_)
    change wg_X6_own 52 _ 2 [13, 0, x, a + 1] M1 _
    exact wk_13 (pt M1 _ g1 h)
  · refine c_snd (f := 5) (v := 3) (by decide) (by decide) ⟨by omega, by omega⟩ g (fun M1 g1 => ?_)
    change wg_X6_own 52 _ 2 [13, 0, x, a + 1] M1 _
    exact wk_13 (pt M1 _ g1 h)
  · refine c_snd (f := 6) (v := 3) (by decide) (by decide) ⟨by omega, by omega⟩ g (fun M1 g1 => ?_)
    change wg_X6_own 52 _ 2 [13, 0, x, a + 1] M1 _
    exact wk_13 (pt M1 _ g1 h)
theorem v_parts {f x a : Int} {d : Nat} {M : gSt} {kk : Int → gSt → Prop} (hk : 0 ≤ kd ∧ kd ≤ 6) (hf : 0 ≤ f ∧ f ≤ 6) (ha : 0 ≤ a ∧ a ≤ 10) (g : vC kd k m 0 M0 M) (h : ∀ M', vC kd k m (pC k m) M0 M' → kk (vP k m kd f x) M') : wg_X6_own 52 (d + 30) 1 [f, 3, x, a] M kk := by
  rcases (show (f = 0 ∨ f = 2 ∨ f = 3 ∨ f = 5 ∨ f = 6) ∨ f = 1 ∨ f = 4 by omega) with hz | rfl | rfl
  · have e : vP k m kd f x = qP k m x := by unfold vP; rw [if_neg (by omega)]
    rw [e] at h
    exact vp0 hz ⟨by omega, by omega⟩ g h
  · refine c_snd (f := 1) (v := 3) (by decide) (by decide) ⟨by omega, by omega⟩ g (fun M1 g1 => ?_)
    change wg_X6_own 52 _ 2 [21, 0, x, a + 1] M1 _
    exact wk_21 (vp0 (Or.inl rfl) ⟨by omega, by omega⟩ g1 (fun M2 g2 => c_own g2 (v_weighs hk hk ⟨by omega, by omega⟩ M2 _ g2 h)))
  · refine c_snd (f := 4) (v := 3) (by decide) (by decide) ⟨by omega, by omega⟩ g (fun M1 g1 => ?_)
    change wg_X6_own 52 _ 2 [21, 0, x, a + 1] M1 _
    exact wk_21 (vp0 (Or.inl rfl) ⟨by omega, by omega⟩ g1 (fun M2 g2 => c_own g2 (v_weighs hk hk ⟨by omega, by omega⟩ M2 _ g2 h)))
end VC
theorem vC_cK {kd k m pt : Int} {M0 M : gSt} (g : vC kd k m pt M0 M) (hK : cK M0) : absC M = absC M0 ∧ cK M := by
  obtain ⟨g0, -, -, -, -, g5, g6, g7⟩ := g
  refine ⟨ac_eq (fun o ho => g0 o (by unfold scr at ho; omega) (by unfold scr at ho; omega) (by unfold scr at ho; omega)), fun q hq => ?_, g7⟩
  obtain ⟨h1, h2⟩ := hK.1 q hq
  have ne := List.all_eq_true.mp (show (cRows.all fun q => q.1 != 52 && q.1 != 54) = true by decide) q hq
  rw [Bool.and_eq_true, bne_iff_ne, bne_iff_ne] at ne
  by_cases e : q.1 = 53
  · have e0 := cK_53 hK
    rw [e] at h1 h2 ⊢
    exact ⟨by rw [g5, ← h1, e0.1], by rw [g6, ← h2, e0.2]⟩
  · rw [g0 q.1 ne.1 e ne.2]
    exact ⟨h1, h2⟩
def S_voice (t v x : Int) (σ : gSt) : Int := if ¬ ((0 ≤ t ∧ t < σ 0 0) ∧ (0 ≤ v ∧ v ≤ 3)) then -1000000000 - 1 else if v = 3 ∧ wrap (σ 1 (10 * t + 1) - t) = 0 then -1000000000 - 6 else if v = 0 then vR t (σ 1 (10 * t + 0)) x else if v = 1 then vW t (σ 1 (10 * t + 1)) (σ 1 (10 * t + 0)) (σ 1 (10 * t + 0)) x else if v = 2 then vM t (σ 1 (10 * t + 1)) (σ 1 (10 * t + 0)) (σ 1 (10 * t + 0)) x else vP t (σ 1 (10 * t + 1)) (σ 1 (10 * t + 0)) (σ 1 (10 * t + 0)) x
theorem sC_voice {t v x : Int} {M : gSt} {k : Int → gSt → Prop} (i0 : inI t) (i1 : inI v) (I : iN (absC M)) (J : iB (absC M)) (hK : cK M) (hh : ∀ r M', wrap r = wrap (S_voice t v x (absC M)) → absC M' = absC M → cK M' → k r M') : w_X8_voice t v x M k := by
  have I' := I
  unfold iN at I'
  have n0 := rc00 M
  have r1 := fun i (a : 0 ≤ i) (b : i < 130) => rc1 M a b
  have e53 := cK_53 hK
  generalize hA : absC M = σ at *
  have bd : ¬ ((0 ≤ t ∧ t < σ 0 0) ∧ (0 ≤ v ∧ v ≤ 3)) → wB_X8_voice_23 t v x k M := fun h => bad2 (S := S_voice t v x σ) (by decide) (by decide) hK (if_pos h) (fun r M' a b c => hh r M' a (b.trans hA) c)
  unfold w_X8_voice
  refine sp_has0 pl_2 i0 ⟨by omega, by omega⟩ (fun h0 => z1 ?_) (fun h0 => z0 (bd (by omega)))
  refine sp_within i1 (by constructor <;> decide) (by constructor <;> decide) (fun h1 => z1n ?_) (fun h1 => z0n (bd (by omega)))
  have hg : ¬ ¬ ((0 ≤ t ∧ t < σ 0 0) ∧ (0 ≤ v ∧ v ≤ 3)) := fun q => q ⟨⟨h0.1, by omega⟩, h1⟩
  refine sp_number pl_2 rfl ⟨by omega, by omega⟩ (by decide) (sp_number pl_2 rfl ⟨by omega, by omega⟩ (by decide) ?_)
  have ek : M (2 + 1) (10 * t + 0) = σ 1 (10 * t + 0) := (r1 _ (by omega) (by omega)).symm
  have em : M (2 + 1) (10 * t + 1) = σ 1 (10 * t + 1) := (r1 _ (by omega) (by omega)).symm
  rw [ek, em]
  obtain ⟨tk, tm, -⟩ := J t h0.1 (by omega)
  have hS : S_voice t v x σ = _ := if_neg hg
  rw [hS] at hh
  generalize σ 1 (10 * t + 0) = kd at *
  generalize σ 1 (10 * t + 1) = m at *
  unfold w_X6_begin
  refine ⟨pl_52, sp_clear pl_53 (fun M1 e1 M2 e2 M3 e3 M4 e4 => ?_)⟩
  have g : vC kd t m 0 M M4 := by
    subst e4; subst e3; subst e2; subst e1
    exact ⟨fun p a b c => by rw [wrO' a, wrO' a, wrO' a, wrO' a, wrO' b], by rw [wrN (by decide), wrN (by decide), wrN (by decide), wrI], by rw [wrN (by decide), wrN (by decide), wrI], by rw [wrN (by decide), wrI], wrI, by rw [wrO (by decide), wrO (by decide), wrO (by decide), wrO (by decide), wrN (by decide)]; exact e53.1, by rw [wrO (by decide), wrO (by decide), wrO (by decide), wrO (by decide), wrN (by decide)]; exact e53.2, by rw [wrO (by decide), wrO (by decide), wrO (by decide), wrO (by decide), wrI]; decide⟩
  clear e1 e2 e3 e4
  unfold w_X6_own
  refine ⟨pl_52, ?_⟩
  have out : ∀ r M5 pt, vC kd t m pt M M5 → (pt = 0 ∨ pt = 1) → (pt = 0 → wrap r = wrap (if v = 3 ∧ wrap (m - t) = 0 then -1000000000 - 6 else if v = 0 then vR t kd x else if v = 1 then vW t m kd kd x else if v = 2 then vM t m kd kd x else vP t m kd kd x)) → (pt = 1 → v = 3 ∧ wrap (m - t) = 0) → w_X6_isParted 52 M5 (fun r77c M77 => (wrap r77c = 0 → k r M77) ∧ (¬ wrap r77c = 0 → w_X8_refuse 6 M77 (fun r86c M86 => k r86c M86))) := by
    intro r M5 pt g5 hp q0 q1
    obtain ⟨a5, K5⟩ := vC_cK g5 hK
    rw [hA] at a5
    unfold w_X6_isParted
    rw [g5.2.2.2.2.1]
    refine ⟨pl_52, hp, ?_⟩
    rcases hp with rfl | rfl
    · exact z0 (hh r M5 (q0 rfl) a5 K5)
    · refine z1 (bad2 (S := if v = 3 ∧ wrap (m - t) = 0 then -1000000000 - 6 else if v = 0 then vR t kd x else if v = 1 then vW t m kd kd x else if v = 2 then vM t m kd kd x else vP t m kd kd x) (by decide) (by decide) K5 (if_pos (q1 rfl)) (fun r M' a b c => hh r M' a (b.trans a5) c))
  show wg_X6_own 52 (59 + 1) 0 [v, x, 0] M4 _
  refine c_own g ?_
  rcases (show v = 0 ∨ v = 1 ∨ v = 2 ∨ v = 3 by omega) with rfl | rfl | rfl | rfl
  · exact v_rings (d := 51) tk (by decide) M4 _ g (fun M5 g5 => out _ M5 0 g5 (Or.inl rfl) (fun _ => rfl) (fun z => absurd z (by decide)))
  · exact v_weighs (d := 43) tk tk (by decide) M4 _ g (fun M5 g5 => out _ M5 0 g5 (Or.inl rfl) (fun _ => rfl) (fun z => absurd z (by decide)))
  · exact v_melts (d := 37) tk tk (by decide) M4 _ g (fun M5 g5 => out _ M5 0 g5 (Or.inl rfl) (fun _ => rfl) (fun z => absurd z (by decide)))
  · refine v_parts (d := 29) tk tk (by decide) g (fun M5 g5 => out _ M5 (pC t m) g5 ?_ (fun z => ?_) (fun z => ?_))
    · unfold pC; split
      · exact Or.inr rfl
      · exact Or.inl rfl
    · unfold pC at z
      by_cases y : wrap (m - t) = 0
      · rw [if_pos y] at z; exact absurd z (by decide)
      · rw [if_neg (fun q => y q.2), if_neg (by decide), if_neg (by decide), if_neg (by decide)]
    · unfold pC at z
      by_cases y : wrap (m - t) = 0
      · exact ⟨rfl, y⟩
      · rw [if_neg y] at z; exact absurd z (by decide)
-- the reference's voices
theorem r_abv {x : Int} {M : gSt} {k : Int → gSt → Prop} (hx : 0 ≤ x ∧ x ≤ 6) (h : k (abv x) M) : w_Rabove x M k := by
  unfold w_Rabove
  unfold abv at h
  rw [wI (x := x) ⟨by omega, by omega⟩]
  refine ⟨fun a => ⟨fun b => ⟨fun c => ?_, fun c => ?_⟩, fun b => ?_⟩, fun a => ?_⟩
  · rw [if_neg a, if_neg b, if_neg c] at h; exact h
  · rw [if_neg a, if_neg b, if_pos c] at h; exact h
  · rw [if_neg a, if_pos b] at h; exact h
  · rw [if_pos a] at h; exact h
def rV (t pt : Int) (M0 M : gSt) : Prop := (∀ p, p ≠ 0 → p ≠ 10 → M p = M0 p) ∧ (∀ i, i ≠ 16 → i ≠ 17 → i ≠ 18 → M 0 i = M0 0 i) ∧ M 0 17 = t ∧ M 0 18 = pt ∧ (0 ≤ M 0 16 ∧ M 0 16 ≤ 30)
theorem rV_abs {t pt : Int} {M0 M : gSt} (g : rV t pt M0 M) : absR M = absR M0 := absR_eq (g.1 1 (by decide) (by decide)) (g.1 2 (by decide) (by decide)) (g.2.1 3 (by decide) (by decide) (by decide)) (g.1 11 (by decide) (by decide)) (g.1 12 (by decide) (by decide)) (g.1 13 (by decide) (by decide))
theorem r_begins {t pt b : Int} {M0 M : gSt} {k : gSt → Prop} (g : rV t pt M0 M) (h : ∀ M', rV t pt M0 M' → k M') : w_Rbegins b M k := by
  obtain ⟨g1, g2, g3, g4, g5⟩ := g
  unfold w_Rbegins
  rw [wI (x := M 0 16) ⟨by omega, by omega⟩]
  refine ⟨fun _ => h M ⟨g1, g2, g3, g4, g5⟩, fun z => ⟨⟨g5.1, z⟩, fun M1 e1 M2 e2 => h M2 ?_⟩⟩
  have q : M1 0 = M 0 := by rw [e1]; exact wrO' (by decide)
  refine ⟨fun p a b => by rw [e2, wrO' a, e1, wrO' b]; exact g1 p a b, fun i a b c => by rw [e2, wrN a, q]; exact g2 i a b c, by rw [e2, wrN (by decide), q]; exact g3, by rw [e2, wrN (by decide), q]; exact g4, by rw [e2, wrI, q]; omega⟩
section VR
variable {t pt kd m : Int} {M0 : gSt}
def goR (t pt : Int) (M0 : gSt) (r : Int) (P : gSt → (Int → gSt → Prop) → Prop) : Prop := ∀ M kk, rV t pt M0 M → (∀ M', rV t pt M0 M' → kk r M') → P M kk
theorem r_kind (ht : 0 ≤ t ∧ t ≤ 12) (ek : absR M0 1 (10 * t + 0) = kd) : goR t pt M0 kd (fun M k => w_RkindNow M k) := by
  intro M kk g h
  show w_RkindNow M kk
  unfold w_RkindNow
  rw [g.2.2.1]
  refine sp_Rits ht (by decide) ?_
  rw [rV_abs g, ek]
  exact h M g
theorem r_m (ht : 0 ≤ t ∧ t ≤ 12) (em : absR M0 1 (10 * t + 1) = m) : goR t pt M0 m (fun M k => w_RmNow M k) := by
  intro M kk g h
  show w_RmNow M kk
  unfold w_RmNow
  rw [g.2.2.1]
  refine sp_Rits ht (by decide) ?_
  rw [rV_abs g, em]
  exact h M g
theorem rr0 {f x : Int} {d : Nat} (hf : f = 0 ∨ f = 2 ∨ f = 3 ∨ f = 5) : goR t pt M0 (x + t) (wg_RringsBy (d + 3) 0 [f, x]) := by
  have b0 : ∀ d : Nat, goR t pt M0 (x + t) (wg_RringsBy (d + 1) 0 [0, x]) := by
    intro d M kk g h
    show wb_RringsBy (wg_RringsBy _) 0 x M kk
    unfold wb_RringsBy
    refine ⟨fun _ => ?_, fun z => absurd z (by decide), fun z => absurd z (by decide), fun z => absurd z (by decide), fun z => absurd z (by decide)⟩
    refine r_begins g (fun M1 g1 => ?_)
    rw [g1.2.2.1]
    exact h M1 g1
  have b2 : ∀ d : Nat, goR t pt M0 (x + t) (wg_RringsBy (d + 2) 0 [2, x]) := by
    intro d M kk g h
    show wb_RringsBy (wg_RringsBy _) 2 x M kk
    unfold wb_RringsBy
    refine ⟨fun z => absurd z (by decide), fun z => absurd z (by decide), fun z => absurd z (by decide), fun z => absurd z (by decide), fun _ => ?_⟩
    exact r_abv (by decide) (b0 d M _ g h)
  intro M kk g h
  rcases hf with rfl | rfl | rfl | rfl
  · exact b0 _ M kk g h
  · exact b2 _ M kk g h
  · show wb_RringsBy (wg_RringsBy _) 3 x M kk
    unfold wb_RringsBy
    refine ⟨fun z => absurd z (by decide), fun z => absurd z (by decide), fun z => absurd z (by decide), fun z => absurd z (by decide), fun _ => ?_⟩
    exact r_abv (by decide) (b0 _ M _ g h)
  · show wb_RringsBy (wg_RringsBy _) 5 x M kk
    unfold wb_RringsBy
    refine ⟨fun z => absurd z (by decide), fun z => absurd z (by decide), fun z => absurd z (by decide), fun z => absurd z (by decide), fun _ => ?_⟩
    exact r_abv (by decide) (b2 _ M _ g h)
theorem rr1 {x : Int} {d : Nat} : goR t pt M0 (x + t - 4) (wg_RringsBy (d + 4) 0 [1, x]) := by
  intro M kk g h
  · show wb_RringsBy (wg_RringsBy _) 1 x M kk
    unfold wb_RringsBy
    refine ⟨fun z => absurd z (by decide), fun _ => ?_, fun z => absurd z (by decide), fun z => absurd z (by decide), fun z => absurd z (by decide)⟩
    exact r_begins g (fun M1 g1 => r_abv (by decide) (rr0 (Or.inl rfl) M1 _ g1 h))
theorem r_rings8 {f x : Int} (hf : 0 ≤ f ∧ f ≤ 6) : goR t pt M0 (vR t f x) (w_RringsBy f x) := by
  intro M kk g h
  show wg_RringsBy 8 0 [f, x] M kk
  rcases (show (f = 0 ∨ f = 2 ∨ f = 3 ∨ f = 5) ∨ f = 1 ∨ f = 4 ∨ f = 6 by omega) with hz | rfl | rfl | rfl
  · have e : vR t f x = x + t := by unfold vR; rw [if_neg (by omega), if_neg (by omega), if_neg (by omega)]
    rw [e] at h
    exact rr0 (d := 5) hz M kk g h
  · exact rr1 (d := 4) M kk g h
  · show wb_RringsBy (wg_RringsBy _) 4 x M kk
    unfold wb_RringsBy
    refine ⟨fun z => absurd z (by decide), fun z => absurd z (by decide), fun _ => ?_, fun z => absurd z (by decide), fun z => absurd z (by decide)⟩
    exact r_begins g (fun M1 g1 => r_abv (by decide) (rr1 (d := 3) M1 _ g1 h))
  · show wb_RringsBy (wg_RringsBy _) 6 x M kk
    unfold wb_RringsBy
    refine ⟨fun z => absurd z (by decide), fun z => absurd z (by decide), fun z => absurd z (by decide), fun _ => ?_, fun z => absurd z (by decide)⟩
    exact r_begins g (fun M1 g1 => h M1 g1)
theorem rw0 {f x : Int} {d : Nat} (ht : 0 ≤ t ∧ t ≤ 12) (ek : absR M0 1 (10 * t + 0) = kd) (hk : 0 ≤ kd ∧ kd ≤ 6) (hf : f = 0 ∨ f = 1 ∨ f = 3 ∨ f = 4) : goR t pt M0 (vR t kd x * 2) (wg_RweighsBy (d + 3) 0 [f, x]) := by
  have b0 : ∀ d : Nat, goR t pt M0 (vR t kd x * 2) (wg_RweighsBy (d + 1) 0 [0, x]) := by
    intro d M kk g h
    show wb_RweighsBy (wg_RweighsBy _) 0 x M kk
    unfold wb_RweighsBy
    refine ⟨fun _ => ?_, fun z => absurd z (by decide), fun z => absurd z (by decide), fun z => absurd z (by decide), fun z => absurd z (by decide)⟩
    exact r_begins g (fun M1 g1 => r_kind ht ek M1 _ g1 (fun M2 g2 => r_rings8 hk M2 _ g2 h))
  have b1 : ∀ d : Nat, goR t pt M0 (vR t kd x * 2) (wg_RweighsBy (d + 2) 0 [1, x]) := by
    intro d M kk g h
    show wb_RweighsBy (wg_RweighsBy _) 1 x M kk
    unfold wb_RweighsBy
    refine ⟨fun z => absurd z (by decide), fun z => absurd z (by decide), fun z => absurd z (by decide), fun z => absurd z (by decide), fun _ => ?_⟩
    exact r_abv (by decide) (b0 d M _ g h)
  intro M kk g h
  rcases hf with rfl | rfl | rfl | rfl
  · exact b0 _ M kk g h
  · exact b1 _ M kk g h
  · show wb_RweighsBy (wg_RweighsBy _) 3 x M kk
    unfold wb_RweighsBy
    refine ⟨fun z => absurd z (by decide), fun z => absurd z (by decide), fun z => absurd z (by decide), fun z => absurd z (by decide), fun _ => ?_⟩
    exact r_abv (by decide) (b0 _ M _ g h)
  · show wb_RweighsBy (wg_RweighsBy _) 4 x M kk
    unfold wb_RweighsBy
    refine ⟨fun z => absurd z (by decide), fun z => absurd z (by decide), fun z => absurd z (by decide), fun z => absurd z (by decide), fun _ => ?_⟩
    exact r_abv (by decide) (b1 _ M _ g h)
theorem rw2 {x : Int} {d : Nat} (ht : 0 ≤ t ∧ t ≤ 12) (ek : absR M0 1 (10 * t + 0) = kd) (hk : 0 ≤ kd ∧ kd ≤ 6) : goR t pt M0 (0 - vR t kd x * 2) (wg_RweighsBy (d + 4) 0 [2, x]) := by
  intro M kk g h
  · show wb_RweighsBy (wg_RweighsBy _) 2 x M kk
    unfold wb_RweighsBy
    refine ⟨fun z => absurd z (by decide), fun _ => ?_, fun z => absurd z (by decide), fun z => absurd z (by decide), fun z => absurd z (by decide)⟩
    exact r_begins g (fun M1 g1 => r_abv (by decide) (rw0 ht ek hk (Or.inl rfl) M1 _ g1 h))
theorem r_weighs8 {f x : Int} (ht : 0 ≤ t ∧ t ≤ 12) (ek : absR M0 1 (10 * t + 0) = kd) (em : absR M0 1 (10 * t + 1) = m) (hk : 0 ≤ kd ∧ kd ≤ 6) (hf : 0 ≤ f ∧ f ≤ 6) : goR t pt M0 (vW t m kd f x) (w_RweighsBy f x) := by
  intro M kk g h
  show wg_RweighsBy 8 0 [f, x] M kk
  rcases (show (f = 0 ∨ f = 1 ∨ f = 3 ∨ f = 4) ∨ f = 2 ∨ f = 5 ∨ f = 6 by omega) with hz | rfl | rfl | rfl
  · have e : vW t m kd f x = vR t kd x * 2 := by unfold vW; rw [if_neg (by omega), if_neg (by omega), if_neg (by omega)]
    rw [e] at h
    exact rw0 (d := 5) ht ek hk hz M kk g h
  · exact rw2 (d := 4) ht ek hk M kk g h
  · show wb_RweighsBy (wg_RweighsBy _) 5 x M kk
    unfold wb_RweighsBy
    refine ⟨fun z => absurd z (by decide), fun z => absurd z (by decide), fun _ => ?_, fun z => absurd z (by decide), fun z => absurd z (by decide)⟩
    exact r_begins g (fun M1 g1 => r_abv (by decide) (rw2 (d := 3) ht ek hk M1 _ g1 h))
  · show wb_RweighsBy (wg_RweighsBy _) 6 x M kk
    unfold wb_RweighsBy
    refine ⟨fun z => absurd z (by decide), fun z => absurd z (by decide), fun z => absurd z (by decide), fun _ => ?_, fun z => absurd z (by decide)⟩
    exact r_begins g (fun M1 g1 => r_abv (by decide) (rw0 (d := 4) ht ek hk (Or.inr (Or.inr (Or.inl rfl))) M1 _ g1 (fun M2 g2 => r_m ht em M2 _ g2 h)))
theorem rm0v {f x : Int} {d : Nat} (ht : 0 ≤ t ∧ t ≤ 12) (ek : absR M0 1 (10 * t + 0) = kd) (em : absR M0 1 (10 * t + 1) = m) (hk : 0 ≤ kd ∧ kd ≤ 6) (hf : f = 0 ∨ f = 1 ∨ f = 2 ∨ f = 5) : goR t pt M0 (vW t m kd kd x - m) (wg_RmeltsBy (d + 3) 0 [f, x]) := by
  have b0 : ∀ d : Nat, goR t pt M0 (vW t m kd kd x - m) (wg_RmeltsBy (d + 1) 0 [0, x]) := by
    intro d M kk g h
    show wb_RmeltsBy (wg_RmeltsBy _) 0 x M kk
    unfold wb_RmeltsBy
    refine ⟨fun _ => ?_, fun z => absurd z (by decide), fun z => absurd z (by decide), fun z => absurd z (by decide)⟩
    exact r_begins g (fun M1 g1 => r_kind ht ek M1 _ g1 (fun M2 g2 => r_weighs8 ht ek em hk hk M2 _ g2 (fun M3 g3 => r_m ht em M3 _ g3 h)))
  have b2 : ∀ d : Nat, goR t pt M0 (vW t m kd kd x - m) (wg_RmeltsBy (d + 2) 0 [2, x]) := by
    intro d M kk g h
    show wb_RmeltsBy (wg_RmeltsBy _) 2 x M kk
    unfold wb_RmeltsBy
    refine ⟨fun z => absurd z (by decide), fun z => absurd z (by decide), fun z => absurd z (by decide), fun _ => ?_⟩
    exact r_abv (by decide) (b0 d M _ g h)
  intro M kk g h
  rcases hf with rfl | rfl | rfl | rfl
  · exact b0 _ M kk g h
  · show wb_RmeltsBy (wg_RmeltsBy _) 1 x M kk
    unfold wb_RmeltsBy
    refine ⟨fun z => absurd z (by decide), fun z => absurd z (by decide), fun z => absurd z (by decide), fun _ => ?_⟩
    exact r_abv (by decide) (b0 _ M _ g h)
  · exact b2 _ M kk g h
  · show wb_RmeltsBy (wg_RmeltsBy _) 5 x M kk
    unfold wb_RmeltsBy
    refine ⟨fun z => absurd z (by decide), fun z => absurd z (by decide), fun z => absurd z (by decide), fun _ => ?_⟩
    exact r_abv (by decide) (b2 _ M _ g h)
theorem rm3 {x : Int} {d : Nat} (ht : 0 ≤ t ∧ t ≤ 12) (ek : absR M0 1 (10 * t + 0) = kd) (em : absR M0 1 (10 * t + 1) = m) (hk : 0 ≤ kd ∧ kd ≤ 6) : goR t pt M0 (vW t m kd kd (Int.tdiv (wrap x) 2) - m) (wg_RmeltsBy (d + 4) 0 [3, x]) := by
  intro M kk g h
  · show wb_RmeltsBy (wg_RmeltsBy _) 3 x M kk
    unfold wb_RmeltsBy
    refine ⟨fun z => absurd z (by decide), fun _ => ?_, fun z => absurd z (by decide), fun z => absurd z (by decide)⟩
    exact r_begins g (fun M1 g1 => r_abv (by decide) (rm0v ht ek em hk (Or.inl rfl) M1 _ g1 h))
theorem r_melts8 {f x : Int} (ht : 0 ≤ t ∧ t ≤ 12) (ek : absR M0 1 (10 * t + 0) = kd) (em : absR M0 1 (10 * t + 1) = m) (hk : 0 ≤ kd ∧ kd ≤ 6) (hf : 0 ≤ f ∧ f ≤ 6) : goR t pt M0 (vM t m kd f x) (w_RmeltsBy f x) := by
  intro M kk g h
  show wg_RmeltsBy 8 0 [f, x] M kk
  rcases (show (f = 0 ∨ f = 1 ∨ f = 2 ∨ f = 5) ∨ f = 3 ∨ f = 4 ∨ f = 6 by omega) with hz | rfl | rfl | rfl
  · have e : vM t m kd f x = vW t m kd kd x - m := by unfold vM; rw [if_neg (by omega), if_neg (by omega)]
    rw [e] at h
    exact rm0v (d := 5) ht ek em hk hz M kk g h
  · exact rm3 (d := 4) ht ek em hk M kk g h
  · show wb_RmeltsBy (wg_RmeltsBy _) 4 x M kk
    unfold wb_RmeltsBy
    refine ⟨fun z => absurd z (by decide), fun z => absurd z (by decide), fun _ => ?_, fun z => absurd z (by decide)⟩
    refine r_begins g (fun M1 g1 => r_abv (by decide) (rm0v (d := 4) ht ek em hk (Or.inr (Or.inl rfl)) M1 _ g1 (fun M2 g2 => ?_)))
    rw [g2.2.2.1]
    exact h M2 g2
  · show wb_RmeltsBy (wg_RmeltsBy _) 6 x M kk
    unfold wb_RmeltsBy
    refine ⟨fun z => absurd z (by decide), fun z => absurd z (by decide), fun z => absurd z (by decide), fun _ => ?_⟩
    exact r_abv (by decide) (rm3 (d := 3) ht ek em hk M _ g h)
theorem wrap_neg {x : Int} : wrap (-x) = wrap (Int.tdiv (wrap x) (-1)) := by
  rw [Int.tdiv_neg, Int.tdiv_one]
  unfold wrap
  omega
theorem rp0v {f x : Int} {d : Nat} {M : gSt} {kk : Int → gSt → Prop} (ht : 0 ≤ t ∧ t ≤ 12) (em : absR M0 1 (10 * t + 1) = m) (hf : f = 0 ∨ f = 2 ∨ f = 3 ∨ f = 5 ∨ f = 6) (g : rV t 0 M0 M) (h : ∀ r M', wrap r = wrap (qP t m x) → rV t (pC t m) M0 M' → kk r M') : wg_RpartsBy (d + 3) 0 [f, x] M kk := by
  have b0 : ∀ (d : Nat) (M : gSt) (kk : Int → gSt → Prop), rV t 0 M0 M → (∀ r M', wrap r = wrap (qP t m x) → rV t (pC t m) M0 M' → kk r M') → wg_RpartsBy (d + 1) 0 [0, x] M kk := by
    intro d M kk g h
    show wb_RpartsBy (wg_RpartsBy _) 0 x M kk
    unfold wb_RpartsBy
    refine ⟨fun _ => ?_, fun z => absurd z (by decide), fun z => absurd z (by decide)⟩
    refine r_begins g (fun M1 g1 => r_m ht em M1 _ g1 (fun M2 g2 y ey => ?_))
    rw [g2.2.2.1] at ey
    subst ey
    unfold wB_RpartsBy_54
    have st : ∀ v M3, M3 = wr M2 0 18 v → rV t v M0 M3 := fun v M3 e => by
      obtain ⟨q1, q2, q3, q4, q5⟩ := g2
      rw [e]
      exact ⟨fun p a b => by rw [wrO' a]; exact q1 p a b, fun i a b c => by rw [wrN c]; exact q2 i a b c, by rw [wrN (by decide)]; exact q3, wrI, by rw [wrN (by decide)]; exact q5⟩
    unfold pC qP at h
    refine ⟨fun z => ⟨Or.inl rfl, fun M3 e3 => ⟨fun _ => ⟨fun n => ⟨z, ?_⟩, fun n => ?_⟩, fun z2 => absurd z2 z⟩⟩, fun z => ⟨Or.inr rfl, fun M3 e3 => ⟨fun z2 => absurd z z2, fun _ => ?_⟩⟩⟩
    · exact h _ M3 (by rw [if_neg z]) (by rw [if_neg z]; exact st 0 M3 e3)
    · exact h _ M3 (by rw [if_neg z, n]; exact wrap_neg) (by rw [if_neg z]; exact st 0 M3 e3)
    · exact h _ M3 (by rw [if_pos z]) (by rw [if_pos z]; exact st 1 M3 e3)
  have b2 : ∀ (f : Int) (d : Nat) (M : gSt) (kk : Int → gSt → Prop), f = 2 ∨ f = 3 → rV t 0 M0 M → (∀ r M', wrap r = wrap (qP t m x) → rV t (pC t m) M0 M' → kk r M') → wg_RpartsBy (d + 2) 0 [f, x] M kk := by
    intro f d M kk hf g h
    rcases hf with rfl | rfl
    · show wb_RpartsBy (wg_RpartsBy _) 2 x M kk
      unfold wb_RpartsBy
      refine ⟨fun z => absurd z (by decide), fun z => absurd z (by decide), fun _ => ?_⟩
      exact r_abv (by decide) (b0 d M _ g h)
    · show wb_RpartsBy (wg_RpartsBy _) 3 x M kk
      unfold wb_RpartsBy
      refine ⟨fun z => absurd z (by decide), fun z => absurd z (by decide), fun _ => ?_⟩
      exact r_abv (by decide) (b0 d M _ g h)
  rcases hf with rfl | rfl | rfl | rfl | rfl
  · exact b0 _ M kk g h
  · exact b2 2 _ M kk (Or.inl rfl) g h
  · exact b2 3 _ M kk (Or.inr rfl) g h
  · show wb_RpartsBy (wg_RpartsBy _) 5 x M kk
    unfold wb_RpartsBy
    refine ⟨fun z => absurd z (by decide), fun z => absurd z (by decide), fun _ => ?_⟩
    exact r_abv (by decide) (b2 2 _ M _ (Or.inl rfl) g h)
  · show wb_RpartsBy (wg_RpartsBy _) 6 x M kk
    unfold wb_RpartsBy
    refine ⟨fun z => absurd z (by decide), fun z => absurd z (by decide), fun _ => ?_⟩
    exact r_abv (by decide) (b2 3 _ M _ (Or.inr rfl) g h)
theorem rp1v {x : Int} {d : Nat} {M : gSt} {kk : Int → gSt → Prop} (ht : 0 ≤ t ∧ t ≤ 12) (ek : absR M0 1 (10 * t + 0) = kd) (em : absR M0 1 (10 * t + 1) = m) (hk : 0 ≤ kd ∧ kd ≤ 6) (g : rV t 0 M0 M) (h : ∀ r M', (pC t m = 0 → wrap r = wrap (qP t m x + vW t m kd kd 1)) → rV t (pC t m) M0 M' → kk r M') : wg_RpartsBy (d + 4) 0 [1, x] M kk := by
  · show wb_RpartsBy (wg_RpartsBy _) 1 x M kk
    unfold wb_RpartsBy
    refine ⟨fun z => absurd z (by decide), fun _ => ?_, fun z => absurd z (by decide)⟩
    refine r_begins g (fun M1 g1 => r_abv (by decide) (rp0v ht em (Or.inl rfl) g1 (fun r M2 e2 g2 => ?_)))
    have p01 : pC t m = 0 ∨ pC t m = 1 := by unfold pC; split <;> omega
    rw [g2.2.2.2.1]
    refine ⟨fun z => ?_, fun z => h 0 M2 (fun y => absurd (by rw [y]; rfl) z) g2⟩
    refine r_kind ht ek M2 _ g2 (fun M3 g3 => r_weighs8 ht ek em hk hk M3 _ g3 (fun M4 g4 => h _ M4 (fun _ => ?_) g4))
    unfold wrap at e2 ⊢
    omega
theorem r_parts8 {f x : Int} {M : gSt} {kk : Int → gSt → Prop} (ht : 0 ≤ t ∧ t ≤ 12) (ek : absR M0 1 (10 * t + 0) = kd) (em : absR M0 1 (10 * t + 1) = m) (hk : 0 ≤ kd ∧ kd ≤ 6) (hf : 0 ≤ f ∧ f ≤ 6) (g : rV t 0 M0 M) (h : ∀ r M', (pC t m = 0 → wrap r = wrap (vP t m kd f x)) → rV t (pC t m) M0 M' → kk r M') : w_RpartsBy f x M kk := by
  show wg_RpartsBy 8 0 [f, x] M kk
  rcases (show (f = 0 ∨ f = 2 ∨ f = 3 ∨ f = 5 ∨ f = 6) ∨ f = 1 ∨ f = 4 by omega) with hz | rfl | rfl
  · have e : vP t m kd f x = qP t m x := by unfold vP; rw [if_neg (by omega)]
    rw [e] at h
    exact rp0v (d := 5) ht em hz g (fun r M' a b => h r M' (fun _ => a) b)
  · exact rp1v (d := 4) ht ek em hk g h
  · show wb_RpartsBy (wg_RpartsBy _) 4 x M kk
    unfold wb_RpartsBy
    refine ⟨fun z => absurd z (by decide), fun z => absurd z (by decide), fun _ => ?_⟩
    exact r_abv (by decide) (rp1v (d := 3) ht ek em hk g h)
end VR
/-- raw texts, image: as fr, but the trace's length -/
def frV (M M' : gSt) : Prop := (∀ j, 202 ≤ j → j < 452 → M' 1 j = M 1 j) ∧ M' 2 = M 2 ∧ (0 ≤ M' 0 16 ∧ M' 0 16 ≤ 30)
theorem sR_voice {t v x : Int} {M : gSt} {k : Int → gSt → Prop} (i0 : inI t) (i1 : inI v) (I : iN (absR M)) (J : iB (absR M)) (h16 : 0 ≤ M 0 16 ∧ M 0 16 ≤ 30) (hh : ∀ r M', wrap r = wrap (S_voice t v x (absR M)) → absR M' = absR M → frV M M' → k r M') : w_Rvoice t v x M k := by
  have I' := I
  unfold iN at I'
  generalize hA : absR M = σ at *
  have bd : ¬ ((0 ≤ t ∧ t < σ 0 0) ∧ (0 ≤ v ∧ v ≤ 3)) → wB_Rvoice_17 t v x k M := fun h => bad2R (S := S_voice t v x σ) (by decide) (by decide) (if_pos h) (fun r M' a b c => hh r M' a (b.trans hA) ⟨c.1, c.2.1, by rw [c.2.2]; exact h16⟩)
  unfold w_Rvoice
  refine sp_RisThing i0 (by rw [hA]; exact ⟨by omega, by omega⟩) (fun h0 => z1 ?_) (fun h0 => z0 (bd (by rw [hA] at h0; omega)))
  rw [hA] at h0
  refine sp_Rin i1 (by constructor <;> decide) (by constructor <;> decide) (fun h1 => z1n ?_) (fun h1 => z0n (bd (by omega)))
  have hg : ¬ ¬ ((0 ≤ t ∧ t < σ 0 0) ∧ (0 ≤ v ∧ v ≤ 3)) := fun q => q ⟨h0, h1⟩
  intro M1 e1 M2 e2 M3 e3
  have g : rV t 0 M M3 := by
    subst e3; subst e2; subst e1
    exact ⟨fun p a b => by rw [wrO' a, wrO' a, wrO' a], fun i a b c => by rw [wrN c, wrN b, wrN a], by rw [wrN (by decide), wrI], wrI, by rw [wrN (by decide), wrN (by decide), wrI]; decide⟩
  clear e1 e2 e3
  have hS : S_voice t v x σ = _ := if_neg hg
  rw [hS] at hh
  obtain ⟨tk, tm, -⟩ := J t h0.1 (by omega)
  have ht : 0 ≤ t ∧ t ≤ 12 := ⟨by omega, by omega⟩
  have ek : absR M 1 (10 * t + 0) = σ 1 (10 * t + 0) := by rw [hA]
  have em : absR M 1 (10 * t + 1) = σ 1 (10 * t + 1) := by rw [hA]
  generalize σ 1 (10 * t + 0) = kd at *
  generalize σ 1 (10 * t + 1) = m at *
  have fv : ∀ pt M5, rV t pt M M5 → frV M M5 := fun pt M5 g5 => ⟨fun j _ _ => by rw [g5.1 1 (by decide) (by decide)], g5.1 2 (by decide) (by decide), g5.2.2.2.2⟩
  have out : ∀ r M5 pt, rV t pt M M5 → (pt = 0 ∨ pt = 1) → (pt = 0 → wrap r = wrap (if v = 3 ∧ wrap (m - t) = 0 then -1000000000 - 6 else if v = 0 then vR t kd x else if v = 1 then vW t m kd kd x else if v = 2 then vM t m kd kd x else vP t m kd kd x)) → (pt = 1 → v = 3 ∧ wrap (m - t) = 0) → wB_Rvoice_95 t v x k r M5 := by
    intro r M5 pt g5 hp q0 q1
    unfold wB_Rvoice_95
    rw [g5.2.2.2.1]
    rcases hp with rfl | rfl
    · exact z0 (hh r M5 (q0 rfl) ((rV_abs g5).trans hA) (fv _ M5 g5))
    · refine z1 (bad2R (S := if v = 3 ∧ wrap (m - t) = 0 then -1000000000 - 6 else if v = 0 then vR t kd x else if v = 1 then vW t m kd kd x else if v = 2 then vM t m kd kd x else vP t m kd kd x) (by decide) (by decide) (if_pos (q1 rfl)) (fun r M' a b c => hh r M' a (b.trans ((rV_abs g5).trans hA)) ⟨fun j p q => (c.1 j p q).trans ((fv _ M5 g5).1 j p q), c.2.1.trans (fv _ M5 g5).2.1, by rw [c.2.2]; exact g5.2.2.2.2⟩))
  refine r_kind ht ek M3 _ g (fun M4 g4 => ?_)
  rw [wI i1]
  rcases (show v = 0 ∨ v = 1 ∨ v = 2 ∨ v = 3 by omega) with rfl | rfl | rfl | rfl
  · exact ⟨fun z => absurd rfl z, fun _ => r_rings8 tk M4 _ g4 (fun M5 g5 => out _ M5 0 g5 (Or.inl rfl) (fun _ => rfl) (fun z => absurd z (by decide)))⟩
  · exact ⟨fun _ => ⟨fun z => absurd rfl z, fun _ => r_weighs8 ht ek em tk tk M4 _ g4 (fun M5 g5 => out _ M5 0 g5 (Or.inl rfl) (fun _ => rfl) (fun z => absurd z (by decide)))⟩, fun z => absurd z (by decide)⟩
  · exact ⟨fun _ => ⟨fun _ => ⟨fun z => absurd rfl z, fun _ => r_melts8 ht ek em tk tk M4 _ g4 (fun M5 g5 => out _ M5 0 g5 (Or.inl rfl) (fun _ => rfl) (fun z => absurd z (by decide)))⟩, fun z => absurd z (by decide)⟩, fun z => absurd z (by decide)⟩
  · refine ⟨fun _ => ⟨fun _ => ⟨fun _ => r_parts8 ht ek em tk tk g4 (fun r M5 er g5 => out _ M5 (pC t m) g5 ?_ (fun z => ?_) (fun z => ?_)), fun z => absurd z (by decide)⟩, fun z => absurd z (by decide)⟩, fun z => absurd z (by decide)⟩
    · unfold pC; split
      · exact Or.inr rfl
      · exact Or.inl rfl
    · have e := er z
      unfold pC at z
      by_cases y : wrap (m - t) = 0
      · rw [if_pos y] at z; exact absurd z (by decide)
      · rw [if_neg (fun q => y q.2), if_neg (by decide), if_neg (by decide), if_neg (by decide)]
        exact e
    · unfold pC at z
      by_cases y : wrap (m - t) = 0
      · exact ⟨rfl, y⟩
      · rw [if_neg y] at z; exact absurd z (by decide)
end
section
-- most of one first thing: both sides
theorem xand1 (x : Int) : wrap (xand x 1) = 0 ∨ wrap (xand x 1) = 1 := by
  unfold xand
  have h : ∀ y : BitVec 32, (y &&& 1#32).toNat ≤ 1 := fun y => by
    rw [BitVec.toNat_and]
    exact Nat.and_le_right
  have e : (Int32.ofInt x &&& Int32.ofInt 1).toInt = ((Int32.ofInt x).toBitVec &&& 1#32).toInt := rfl
  rw [e]
  have h1 := h (Int32.ofInt x).toBitVec
  rw [BitVec.toInt_eq_toNat_of_lt (by omega)]
  unfold wrap
  omega
abbrev bitS (s t : Int) : Prop := wrap (xand (xshr s t) 1) = 1
def gS (B : Int → Int) (s : Int) : Nat → Int
  | 0 => 0
  | n + 1 => if bitS s n then gS B s n + B (10 * n + 2) else gS B s n
def hS (B : Int → Int) (w s : Int) : Nat → Int
  | 0 => 0
  | n + 1 => if bitS s n then hS B w s n + B (10 * n + 2) * B (10 * n + w) else hS B w s n
def okS (B : Int → Int) (s : Int) : Nat → Int
  | 0 => 1
  | n + 1 => if okS B s n = 0 then 0 else if bitS s n ∧ B (10 * n + 2) = 0 then 0 else 1
theorem gS_s {B : Int → Int} {s : Int} {n : Nat} : gS B s (n + 1) = if bitS s n then gS B s n + B (10 * n + 2) else gS B s n := rfl
theorem hS_s {B : Int → Int} {w s : Int} {n : Nat} : hS B w s (n + 1) = if bitS s n then hS B w s n + B (10 * n + 2) * B (10 * n + w) else hS B w s n := rfl
theorem okS_s {B : Int → Int} {s : Int} {n : Nat} : okS B s (n + 1) = if okS B s n = 0 then 0 else if bitS s n ∧ B (10 * n + 2) = 0 then 0 else 1 := rfl
def bOk (B : Int → Int) (w : Int) : Prop := ∀ t, 0 ≤ t → t < 12 → (0 ≤ B (10 * t + 2) ∧ B (10 * t + 2) ≤ 9999999) ∧ (0 ≤ B (10 * t + w) ∧ B (10 * t + w) ≤ 1000000)
theorem bOk_of {σ : gSt} {w : Int} (J : iB σ) (hw : 6 ≤ w ∧ w ≤ 9) : bOk (σ 1) w := by
  intro t a b
  obtain ⟨-, -, o2, -, -, -, o6, o7, o8, o9⟩ := J t a (by omega)
  rcases (show w = 6 ∨ w = 7 ∨ w = 8 ∨ w = 9 by omega) with rfl | rfl | rfl | rfl
  · exact ⟨o2, o6⟩
  · exact ⟨o2, o7⟩
  · exact ⟨o2, o8⟩
  · exact ⟨o2, o9⟩
theorem gh_rng {B : Int → Int} {w s : Int} (b : bOk B w) : ∀ n : Nat, n ≤ 12 → (0 ≤ gS B s n ∧ gS B s n ≤ 9999999 * n) ∧ (0 ≤ hS B w s n ∧ hS B w s n ≤ 1000000 * gS B s n)
  | 0, _ => ⟨⟨Int.le_refl _, Int.le_refl _⟩, ⟨Int.le_refl _, Int.le_refl _⟩⟩
  | n + 1, h => by
    have ih := gh_rng (s := s) b n (by omega)
    obtain ⟨b1, b2⟩ := b n (by omega) (by omega)
    have p : 0 ≤ B (10 * (n : Int) + 2) * B (10 * n + w) := Int.mul_nonneg b1.1 b2.1
    have p2 : B (10 * (n : Int) + 2) * B (10 * n + w) ≤ B (10 * (n : Int) + 2) * 1000000 := Int.mul_le_mul_of_nonneg_left b2.2 b1.1
    rw [gS_s, hS_s]
    by_cases z : bitS s n
    · rw [if_pos z, if_pos z]; omega
    · rw [if_neg z, if_neg z]; omega
theorem okS_01 {B : Int → Int} {s : Int} : ∀ n : Nat, okS B s n = 0 ∨ okS B s n = 1
  | 0 => Or.inr rfl
  | n + 1 => by
    rw [okS_s]
    split
    · exact Or.inl rfl
    · split
      · exact Or.inl rfl
      · exact Or.inr rfl
theorem okS_0 {B : Int → Int} {s : Int} {n : Nat} (h : okS B s n = 0) : ∀ r : Nat, okS B s (n + r) = 0
  | 0 => h
  | r + 1 => by
    show okS B s (n + r + 1) = 0
    rw [okS_s, if_pos (okS_0 h r)]
theorem okS_at {B : Int → Int} {s : Int} {t : Nat} (z : bitS s t) : ∀ n : Nat, t < n → ¬ okS B s n = 0 → ¬ B (10 * t + 2) = 0
  | 0, h, _ => absurd h (by omega)
  | n + 1, h, q => by
    rw [okS_s] at q
    by_cases e : okS B s n = 0
    · rw [if_pos e] at q; exact absurd rfl q
    · rw [if_neg e] at q
      by_cases f : t = n
      · subst f
        intro y
        rw [if_pos ⟨z, y⟩] at q
        exact q rfl
      · exact okS_at z n (by omega) e
theorem gS_ge {B : Int → Int} {w s : Int} (b : bOk B w) {t : Nat} (z : bitS s t) : ∀ n : Nat, n ≤ 12 → t < n → B (10 * t + 2) ≤ gS B s n
  | 0, _, h => absurd h (by omega)
  | n + 1, h12, h => by
    have r := (gh_rng (s := s) b n (by omega)).1
    have b1 := (b n (by omega) (by omega)).1
    rw [gS_s]
    by_cases f : t = n
    · subst f
      rw [if_pos z]; omega
    · have ih := gS_ge b z n (by omega) (by omega)
      split <;> omega
theorem xshl_pow : ∀ n : Nat, n ≤ 12 → xshl 1 (n : Int) = ((2 ^ n : Nat) : Int) := by decide +kernel
theorem full {B : Int → Int} {w s : Int} (b : bOk B w) {n : Nat} (h : n ≤ 12) (h0 : 1 ≤ s) (h1 : s < xshl 1 (n : Int)) (ok : ¬ okS B s n = 0) : ¬ gS B s n = 0 := by
  rw [xshl_pow n h] at h1
  have p12 : 2 ^ n ≤ 2 ^ 12 := Nat.pow_le_pow_right (by decide) h
  have e12 : (2 : Nat) ^ 12 = 4096 := by decide
  have sn : s.toNat ≠ 0 := by omega
  have l : Nat.log2 s.toNat < n := (Nat.log2_lt sn).mpr (by omega)
  have z := (bc_all (x := s) ⟨by omega, by omega⟩).2.2
  have z2 : bitS s ((Nat.log2 s.toNat : Nat) : Int) := z.resolve_left (by omega)
  have g := gS_ge b z2 n h l
  have nz := okS_at z2 n l ok
  have b1 := (b ((Nat.log2 s.toNat : Nat) : Int) (by omega) (by omega)).1
  omega
theorem bit0 {t : Nat} (h : t < 12) : ¬ bitS 0 t := by
  rcases (show t = 0 ∨ t = 1 ∨ t = 2 ∨ t = 3 ∨ t = 4 ∨ t = 5 ∨ t = 6 ∨ t = 7 ∨ t = 8 ∨ t = 9 ∨ t = 10 ∨ t = 11 by omega) with rfl | rfl | rfl | rfl | rfl | rfl | rfl | rfl | rfl | rfl | rfl | rfl <;> decide
theorem gS0 {B : Int → Int} : ∀ n : Nat, n ≤ 12 → gS B 0 n = 0
  | 0, _ => rfl
  | n + 1, h => by rw [gS_s, if_neg (bit0 (by omega))]; exact gS0 n (by omega)
def tgS (B : Int → Int) (w : Int) (N : Nat) (s : Int) : Int := qz (hS B w s N) (gS B s N)
theorem tg_rng {B : Int → Int} {w s : Int} (b : bOk B w) {N : Nat} (h : N ≤ 12) : 0 ≤ tgS B w N s ∧ tgS B w N s ≤ 1000000 := by
  have r := gh_rng (s := s) b N h
  unfold tgS qz
  split
  · omega
  · exact ⟨Int.ediv_nonneg r.2.1 r.1.1, Int.ediv_le_of_le_mul (by omega) r.2.2⟩
theorem tg_0 {B : Int → Int} {w : Int} {N : Nat} (h : N ≤ 12) : tgS B w N 0 = 0 := by
  unfold tgS qz
  rw [if_pos (gS0 N h)]
def tcS (B : Int → Int) (w : Int) (N : Nat) (s : Int) : Int := if okS B s N = 0 then -1 else if gS B s N = 0 then -1 else tgS B w N s
def moS (B : Int → Int) (w m : Int) (N : Nat) : Nat → Int
  | 0 => 0
  | s + 1 => if bc s ≤ m ∧ ¬ okS B s N = 0 ∧ (tgS B w N (moS B w m N s) < tgS B w N s ∨ (tgS B w N s = tgS B w N (moS B w m N s) ∧ bc s < bc (moS B w m N s))) then s else moS B w m N s
theorem moS_s {B : Int → Int} {w m : Int} {N s : Nat} : moS B w m N (s + 1) = if bc s ≤ m ∧ ¬ okS B s N = 0 ∧ (tgS B w N (moS B w m N s) < tgS B w N s ∨ (tgS B w N s = tgS B w N (moS B w m N s) ∧ bc s < bc (moS B w m N s))) then (s : Int) else moS B w m N s := rfl
theorem mo_rng {B : Int → Int} {w m : Int} {N : Nat} (b : bOk B w) (h : N ≤ 12) : ∀ s : Nat, (s : Int) ≤ xshl 1 (N : Int) → (0 ≤ moS B w m N s ∧ moS B w m N s ≤ s) ∧ (moS B w m N s = 0 ∨ (¬ okS B (moS B w m N s) N = 0 ∧ ¬ gS B (moS B w m N s) N = 0))
  | 0, _ => ⟨⟨Int.le_refl _, Int.le_refl _⟩, Or.inl rfl⟩
  | s + 1, hs => by
    have ih := mo_rng (m := m) b h s (by omega)
    rw [moS_s]
    split
    · rename_i c
      refine ⟨⟨by omega, by omega⟩, ?_⟩
      by_cases z : s = 0
      · exact Or.inl (by omega)
      · exact Or.inr ⟨c.2.1, full b h (by omega) (by omega) c.2.1⟩
    · exact ⟨⟨ih.1.1, by omega⟩, ih.2⟩
theorem mo_1 {B : Int → Int} {w m : Int} {N : Nat} : moS B w m N 1 = 0 := by
  rw [show (1 : Nat) = 0 + 1 from rfl, moS_s]
  split
  · rfl
  · rfl
def S_most (f m w : Int) (σ : gSt) : Int := if ¬ ((0 ≤ f ∧ f ≤ 3) ∧ (0 ≤ m ∧ m ≤ 3) ∧ (0 ≤ w ∧ w ≤ 1)) then -1000000000 - 1 else if w = 0 then moS (σ 1) (6 + f) m (σ 0 0).toNat (xshl 1 (σ 0 0)).toNat else tgS (σ 1) (6 + f) (σ 0 0).toNat (moS (σ 1) (6 + f) m (σ 0 0).toNat (xshl 1 (σ 0 0)).toNat)
theorem c_tog {σ M : gSt} {s w : Int} {k : Int → gSt → Prop} (hA : absC M = σ) (I : iN σ) (b : bOk (σ 1) w) (hw : 6 ≤ w ∧ w ≤ 9) (h : k (tcS (σ 1) w (σ 0 0).toNat s) M) : w_X0_together 2 s w M k := by
  unfold iN at I
  have n0 := rc00 M
  rw [hA] at n0
  have rd : ∀ i, 0 ≤ i → i < 130 → M 3 i = σ 1 i := fun i x y => by rw [← hA, rc1 M x y]
  have et : tcS (σ 1) w (σ 0 0).toNat s = if okS (σ 1) s (σ 0 0).toNat = 0 then -1 else if gS (σ 1) s (σ 0 0).toNat = 0 then -1 else tgS (σ 1) w (σ 0 0).toNat s := rfl
  unfold w_X0_together
  refine ⟨pl_2, (σ 0 0).toNat + 1, ?_⟩
  have lp : ∀ (r n : Nat), n + r = (σ 0 0).toNat → okS (σ 1) s n = 1 → wL_X0_together_8 2 s w k (fun M8 => k (-1) M8) (fun u3_8 u5_8 M8 => (¬ wrap (ycmp u5_8 0) = 0 → w_X8_quotient u3_8 u5_8 M8 (fun r86c M86 => k r86c M86)) ∧ (wrap (ycmp u5_8 0) = 0 → k (-1) M8)) (r + 1) (hS (σ 1) w s n) (gS (σ 1) s n) n M := by
    intro r
    induction r with
    | zero =>
      intro n hn ok
      have rg := gh_rng (s := s) b n (by omega)
      unfold wL_X0_together_8 wC_X0_together_8
      rw [← n0, wI (x := σ 0 0) ⟨by omega, by omega⟩, wI (x := (n : Int)) ⟨by omega, by omega⟩]
      refine ⟨fun _ => ?_, fun z => absurd z (by omega)⟩
      dsimp only
      rw [ycmpE ⟨by omega, by omega⟩ (by decide)]
      rw [show (σ 0 0).toNat = n from by omega, ok, if_neg (by decide)] at et
      rw [show (σ 0 0).toNat = n from by omega] at h
      by_cases z : gS (σ 1) s n = 0
      · rw [if_pos z] at et
        rw [et] at h
        rw [if_neg (by omega), if_pos z]
        exact ⟨fun y => absurd rfl y, fun _ => h⟩
      · rw [if_neg z] at et
        rw [et] at h
        rw [if_pos (by omega)]
        exact ⟨fun _ => sp_quot ⟨by omega, by omega⟩ ⟨by omega, by omega⟩ h, fun y => absurd y (by decide)⟩
    | succ r ih =>
      intro n hn ok
      obtain ⟨b1, b2⟩ := b n (by omega) (by omega)
      have nx := ih (n + 1) (by omega)
      rw [n1, okS_s, ok, if_neg (by decide), hS_s, gS_s] at nx
      unfold wL_X0_together_8 wC_X0_together_8
      rw [← n0, wI (x := σ 0 0) ⟨by omega, by omega⟩, wI (x := (n : Int)) ⟨by omega, by omega⟩]
      refine ⟨fun z => absurd z (by omega), fun _ => sp_number pl_2 rfl ⟨by omega, by omega⟩ (by decide) ?_⟩
      rw [show M (2 + 1) (10 * (n : Int) + 2) = σ 1 (10 * n + 2) from rd _ (by omega) (by omega), wI (x := σ 1 (10 * (n : Int) + 2)) ⟨by omega, by omega⟩]
      unfold wB_X0_together_66
      refine ⟨fun z => ?_, fun z => ⟨fun y => sp_number pl_2 rfl ⟨by omega, by omega⟩ ⟨by omega, by omega⟩ (fun p ep q eq => ?_), fun y => ?_⟩⟩
      · rw [if_neg (fun q => z q.1), if_neg z, if_neg z] at nx
        exact nx rfl
      · rw [show M (2 + 1) (10 * (n : Int) + w) = σ 1 (10 * n + w) from rd _ (by omega) (by omega), wI (x := σ 1 (10 * (n : Int) + w)) ⟨by omega, by omega⟩] at ep
        rw [if_neg (fun q => y q.2), if_pos z, if_pos z] at nx
        subst ep; subst eq
        exact nx rfl
      · have o0 : okS (σ 1) s (n + 1) = 0 := by rw [okS_s, ok, if_neg (by decide), if_pos ⟨z, y⟩]
        have o1 := okS_0 o0 r
        rw [show n + 1 + r = (σ 0 0).toNat from by omega] at o1
        rw [o1, if_pos rfl] at et
        rw [et] at h
        exact h
  exact lp _ 0 (by omega) rfl
theorem sC_most {f m w : Int} {M : gSt} {k : Int → gSt → Prop} (i0 : inI f) (i1 : inI m) (i2 : inI w) (I : iN (absC M)) (J : iB (absC M)) (hK : cK M) (hh : ∀ r M', wrap r = wrap (S_most f m w (absC M)) → absC M' = absC M → cK M' → k r M') : w_X8_most f m w M k := by
  have I' := I
  unfold iN at I'
  have n0 := rc00 M
  generalize hA : absC M = σ at *
  have bd : ¬ ((0 ≤ f ∧ f ≤ 3) ∧ (0 ≤ m ∧ m ≤ 3) ∧ (0 ≤ w ∧ w ≤ 1)) → wB_X8_most_27 f m w k M := fun h => bad2 (S := S_most f m w σ) (by decide) (by decide) hK (if_pos h) (fun r M' a b c => hh r M' a (b.trans hA) c)
  unfold w_X8_most
  refine sp_within i0 (by constructor <;> decide) (by constructor <;> decide) (fun h0 => z1 ?_) (fun h0 => z0 (bd (by omega)))
  refine sp_within i1 (by constructor <;> decide) (by constructor <;> decide) (fun h1 => z1 ?_) (fun h1 => z0 (bd (by omega)))
  refine sp_within i2 (by constructor <;> decide) (by constructor <;> decide) (fun h2 => z1n ?_) (fun h2 => z0n (bd (by omega)))
  have hg : ¬ ¬ ((0 ≤ f ∧ f ≤ 3) ∧ (0 ≤ m ∧ m ≤ 3) ∧ (0 ≤ w ∧ w ≤ 1)) := fun q => q ⟨h0, h1, h2⟩
  have hS : S_most f m w σ = _ := if_neg hg
  rw [hS] at hh
  have b : bOk (σ 1) (6 + f) := bOk_of J ⟨by omega, by omega⟩
  have N12 : (σ 0 0).toNat ≤ 12 := by omega
  have eN : (((σ 0 0).toNat : Nat) : Int) = σ 0 0 := by omega
  have xp := xshl_pow (σ 0 0).toNat N12
  rw [eN] at xp
  have p12 : 2 ^ (σ 0 0).toNat ≤ 2 ^ 12 := Nat.pow_le_pow_right (by decide) N12
  have e12 : (2 : Nat) ^ 12 = 4096 := by decide
  have p0 : 0 < 2 ^ (σ 0 0).toNat := Nat.pow_pos (by decide)
  have xr : 1 ≤ xshl 1 (σ 0 0) ∧ xshl 1 (σ 0 0) ≤ 4096 := by omega
  clear xp p12 e12 p0
  unfold w_X0_mostOf
  refine ⟨pl_2, (xshl 1 (σ 0 0)).toNat, ?_⟩
  have fin : ∀ b0, b0 = moS (σ 1) (6 + f) m (σ 0 0).toNat (xshl 1 (σ 0 0)).toNat → (¬ wrap w = 0 → w_X0_together 2 b0 (6 + f) M (fun r73c M73 => k (xmax 0 r73c) M73)) ∧ (wrap w = 0 → k b0 M) := by
    intro b0 eb
    rw [wI i2]
    refine ⟨fun z => c_tog hA I b ⟨by omega, by omega⟩ ?_, fun z => ?_⟩
    · rw [if_neg z] at hh
      refine hh _ M ?_ hA hK
      have mr := mo_rng (m := m) b N12 (xshl 1 (σ 0 0)).toNat (by rw [eN]; omega)
      rw [← eb] at mr ⊢
      have tr := tg_rng (s := b0) b N12
      have et : tcS (σ 1) (6 + f) (σ 0 0).toNat b0 = if okS (σ 1) b0 (σ 0 0).toNat = 0 then -1 else if gS (σ 1) b0 (σ 0 0).toNat = 0 then -1 else tgS (σ 1) (6 + f) (σ 0 0).toNat b0 := rfl
      rcases mr.2 with q | ⟨q1, q2⟩
      · subst q
        rw [gS0 _ N12, if_pos rfl] at et
        rw [tg_0 N12, et]
        split <;> decide
      · rw [if_neg q1, if_neg q2] at et
        rw [et, xmax_in (by constructor <;> decide) ⟨by omega, by omega⟩]
        split
        · rfl
        · rw [show tgS (σ 1) (6 + f) (σ 0 0).toNat b0 = 0 from by omega]
    · rw [if_pos z] at hh
      exact hh _ M (by rw [eb]) hA hK
  have lp : ∀ (r n : Nat), n + 1 + r = (xshl 1 (σ 0 0)).toNat → wL_X0_mostOf_8 2 (6 + f) m (fun r45c M45 => (¬ wrap w = 0 → w_X0_together 2 r45c (6 + f) M45 (fun r73c M73 => k (xmax 0 r73c) M73)) ∧ (wrap w = 0 → k r45c M45)) (fun u3_8 M8 => (¬ wrap w = 0 → w_X0_together 2 u3_8 (6 + f) M8 (fun r73c M73 => k (xmax 0 r73c) M73)) ∧ (wrap w = 0 → k u3_8 M8)) (r + 1) (moS (σ 1) (6 + f) m (σ 0 0).toNat (n + 1)) (tgS (σ 1) (6 + f) (σ 0 0).toNat (moS (σ 1) (6 + f) m (σ 0 0).toNat (n + 1))) ((n + 1 : Nat) : Int) M := by
    intro r
    induction r with
    | zero =>
      intro n hn
      unfold wL_X0_mostOf_8 wC_X0_mostOf_8
      rw [← n0, wI (x := xshl 1 (σ 0 0)) ⟨by omega, by omega⟩, wI (x := ((n + 1 : Nat) : Int)) ⟨by omega, by omega⟩]
      exact ⟨fun _ => fin _ (by rw [show (xshl 1 (σ 0 0)).toNat = n + 1 from by omega]), fun z => absurd z (by omega)⟩
    | succ r ih =>
      intro n hn
      have mr := mo_rng (m := m) b N12 (n + 1) (by rw [eN]; omega)
      have br := (bc_all (x := ((n + 1 : Nat) : Int)) ⟨by omega, by omega⟩).2.1
      have br2 := (bc_all (x := moS (σ 1) (6 + f) m (σ 0 0).toNat (n + 1)) ⟨by omega, by omega⟩).2.1
      have t1 := tg_rng (s := ((n + 1 : Nat) : Int)) b N12
      have t2 := tg_rng (s := moS (σ 1) (6 + f) m (σ 0 0).toNat (n + 1)) b N12
      have ms := moS_s (B := σ 1) (w := 6 + f) (m := m) (N := (σ 0 0).toNat) (s := n + 1)
      have fu := full (s := ((n + 1 : Nat) : Int)) b N12 (by omega) (by rw [eN]; omega)
      have nx := ih (n + 1) (by omega)
      rw [ms, show ((n + 1 + 1 : Nat) : Int) = ((n + 1 : Nat) : Int) + 1 from by omega] at nx
      clear ms ih
      generalize moS (σ 1) (6 + f) m (σ 0 0).toNat (n + 1) = b0 at *
      have go : ∀ s0, (s0 = -1 ∨ s0 = tgS (σ 1) (6 + f) (σ 0 0).toNat ((n + 1 : Nat) : Int)) → ((bc ((n + 1 : Nat) : Int) ≤ m ∧ ¬ okS (σ 1) ((n + 1 : Nat) : Int) (σ 0 0).toNat = 0) ↔ ¬ s0 = -1) → wB_X0_mostOf_43 2 (6 + f) m (fun r45c M45 => (¬ wrap w = 0 → w_X0_together 2 r45c (6 + f) M45 (fun r73c M73 => k (xmax 0 r73c) M73)) ∧ (wrap w = 0 → k r45c M45)) (wL_X0_mostOf_8 2 (6 + f) m (fun r45c M45 => (¬ wrap w = 0 → w_X0_together 2 r45c (6 + f) M45 (fun r73c M73 => k (xmax 0 r73c) M73)) ∧ (wrap w = 0 → k r45c M45)) (fun u3_8 M8 => (¬ wrap w = 0 → w_X0_together 2 u3_8 (6 + f) M8 (fun r73c M73 => k (xmax 0 r73c) M73)) ∧ (wrap w = 0 → k u3_8 M8)) (r + 1)) (fun u3_8 M8 => (¬ wrap w = 0 → w_X0_together 2 u3_8 (6 + f) M8 (fun r73c M73 => k (xmax 0 r73c) M73)) ∧ (wrap w = 0 → k u3_8 M8)) b0 (tgS (σ 1) (6 + f) (σ 0 0).toNat b0) ((n + 1 : Nat) : Int) (bc ((n + 1 : Nat) : Int)) s0 M := by
        intro s0 hs hc
        unfold wB_X0_mostOf_43 wB_X0_mostOf_68 wB_X0_mostOf_75
        rw [wI (x := s0) ⟨by omega, by omega⟩, wI (x := tgS (σ 1) (6 + f) (σ 0 0).toNat b0) ⟨by omega, by omega⟩, wI (x := bc ((n + 1 : Nat) : Int)) ⟨by omega, by omega⟩]
        refine ⟨fun z => ?_, fun z => ⟨fun z2 => ?_, fun z2 => c_bits ?_⟩⟩
        · have e := hs.resolve_left (by omega)
          have c := hc.mpr (by omega)
          rw [if_pos ⟨c.1, c.2, Or.inl (by omega)⟩] at nx
          rw [e]
          exact nx
        · rw [if_neg (fun q => by have c := hc.mp ⟨q.1, q.2.1⟩; have e := hs.resolve_left c; omega)] at nx
          exact nx
        · have e := hs.resolve_left (by omega)
          have c := hc.mpr (by omega)
          rw [wI (x := bc b0) ⟨by omega, by omega⟩]
          refine ⟨fun z3 => ?_, fun z3 => ?_⟩
          · rw [if_neg (fun q => by omega)] at nx
            exact nx
          · rw [if_pos ⟨c.1, c.2, Or.inr ⟨by omega, z3⟩⟩] at nx
            rw [e]
            exact nx
      unfold wL_X0_mostOf_8 wC_X0_mostOf_8
      rw [← n0, wI (x := xshl 1 (σ 0 0)) ⟨by omega, by omega⟩, wI (x := ((n + 1 : Nat) : Int)) ⟨by omega, by omega⟩]
      refine ⟨fun z => absurd z (by omega), fun _ => c_bits ?_⟩
      rw [wI (x := bc ((n + 1 : Nat) : Int)) ⟨by omega, by omega⟩, wI i1]
      refine ⟨fun z => go (-1) (Or.inl rfl) ⟨fun q => absurd q.1 (by omega), fun q => absurd rfl q⟩, fun z => c_tog hA I b ⟨by omega, by omega⟩ ?_⟩
      have et : tcS (σ 1) (6 + f) (σ 0 0).toNat ((n + 1 : Nat) : Int) = if okS (σ 1) ((n + 1 : Nat) : Int) (σ 0 0).toNat = 0 then -1 else if gS (σ 1) ((n + 1 : Nat) : Int) (σ 0 0).toNat = 0 then -1 else tgS (σ 1) (6 + f) (σ 0 0).toNat ((n + 1 : Nat) : Int) := rfl
      by_cases ok : okS (σ 1) ((n + 1 : Nat) : Int) (σ 0 0).toNat = 0
      · rw [if_pos ok] at et
        rw [et]
        exact go (-1) (Or.inl rfl) ⟨fun q => absurd ok q.2, fun q => absurd rfl q⟩
      · rw [if_neg ok, if_neg (fu ok)] at et
        rw [et]
        exact go _ (Or.inr rfl) ⟨fun _ => by omega, fun _ => ⟨z, ok⟩⟩
  have st := lp ((xshl 1 (σ 0 0)).toNat - 1) 0 (by omega)
  rw [show (xshl 1 (σ 0 0)).toNat - 1 + 1 = (xshl 1 (σ 0 0)).toNat from by omega, mo_1, tg_0 N12] at st
  exact st
theorem r_tog {σ M : gSt} {s f : Int} {k : Int → gSt → Prop} (hA : absR M = σ) (I : iN σ) (b : bOk (σ 1) (6 + f)) (hf : 0 ≤ f ∧ f ≤ 3) (h : k (tgS (σ 1) (6 + f) (σ 0 0).toNat s) M) : w_Rtogether f s M k := by
  unfold iN at I
  have n0 : M 1 0 = σ 0 0 := by rw [rdS M 0 (by decide) (by decide), hA]
  unfold w_Rtogether
  refine ⟨(σ 0 0).toNat + 1, ?_⟩
  have lp : ∀ (r n : Nat), n + r = (σ 0 0).toNat → wL_Rtogether_8 f s k (fun u3_8 u5_8 M8 => (¬ wrap (ycmp u3_8 0) = 0 → (wrapL u3_8 ≠ 0) ∧ (k (Int.tdiv (wrapL u5_8) (wrapL u3_8)) M8)) ∧ (wrap (ycmp u3_8 0) = 0 → k 0 M8)) (r + 1) (gS (σ 1) s n) (hS (σ 1) (6 + f) s n) n M := by
    intro r
    induction r with
    | zero =>
      intro n hn
      have rg := gh_rng (s := s) b n (by omega)
      unfold wL_Rtogether_8 wC_Rtogether_8
      rw [n0, wI (x := σ 0 0) ⟨by omega, by omega⟩, wI (x := (n : Int)) ⟨by omega, by omega⟩]
      refine ⟨fun _ => ?_, fun z => absurd z (by omega)⟩
      dsimp only
      rw [ycmpE ⟨by omega, by omega⟩ (by decide), wrapL_in (x := gS (σ 1) s n) (by omega) (by omega), wrapL_in (x := hS (σ 1) (6 + f) s n) (by omega) (by omega)]
      unfold tgS qz at h
      rw [show (σ 0 0).toNat = n from by omega] at h
      by_cases z : gS (σ 1) s n = 0
      · rw [if_pos z] at h
        rw [if_neg (by omega), if_pos z]
        exact ⟨fun y => absurd rfl y, fun _ => h⟩
      · rw [if_neg z] at h
        rw [if_pos (by omega)]
        exact ⟨fun _ => ⟨z, by rw [tdiv_pos rg.2.1]; exact h⟩, fun y => absurd y (by decide)⟩
    | succ r ih =>
      intro n hn
      obtain ⟨b1, b2⟩ := b n (by omega) (by omega)
      have nx := ih (n + 1) (by omega)
      rw [n1, hS_s, gS_s] at nx
      unfold wL_Rtogether_8 wC_Rtogether_8
      rw [n0, wI (x := σ 0 0) ⟨by omega, by omega⟩, wI (x := (n : Int)) ⟨by omega, by omega⟩]
      unfold wB_Rtogether_65
      refine ⟨fun z => absurd z (by omega), fun _ => ⟨fun z => ?_, fun z => sp_Rits ⟨by omega, by omega⟩ (by decide) (fun p ep => sp_Rits ⟨by omega, by omega⟩ (by decide) (sp_Rits ⟨by omega, by omega⟩ ⟨by omega, by omega⟩ (fun q eq => ?_)))⟩⟩
      · rw [if_neg z, if_neg z] at nx
        exact nx
      · rw [hA, wI (x := σ 1 (10 * (n : Int) + 2)) ⟨by omega, by omega⟩] at ep eq
        rw [wI (x := σ 1 (10 * (n : Int) + (6 + f))) ⟨by omega, by omega⟩] at eq
        rw [if_pos z, if_pos z] at nx
        subst ep; subst eq
        exact nx
  exact lp _ 0 (by omega)
theorem r_haveG {σ M : gSt} {s : Int} {k : Int → gSt → Prop} (hA : absR M = σ) (I : iN σ) (J : iB σ) (h : k (okS (σ 1) s (σ 0 0).toNat) M) : w_RhaveGrams s M k := by
  unfold iN at I
  have n0 : M 1 0 = σ 0 0 := by rw [rdS M 0 (by decide) (by decide), hA]
  unfold w_RhaveGrams
  refine ⟨(σ 0 0).toNat + 1, ?_⟩
  have lp : ∀ (r n : Nat), n + r = (σ 0 0).toNat → wL_RhaveGrams_4 s k (fun u2_4 M4 => (u2_4 = 0 ∨ u2_4 = 1) ∧ (k u2_4 M4)) (r + 1) (okS (σ 1) s n) n M := by
    intro r
    induction r with
    | zero =>
      intro n hn
      unfold wL_RhaveGrams_4 wC_RhaveGrams_4
      rw [n0, wI (x := σ 0 0) ⟨by omega, by omega⟩, wI (x := (n : Int)) ⟨by omega, by omega⟩]
      refine ⟨fun _ => ⟨okS_01 n, ?_⟩, fun z => absurd z (by omega)⟩
      rw [show n = (σ 0 0).toNat from by omega]
      exact h
    | succ r ih =>
      intro n hn
      have b1 := (J n (by omega) (by omega)).2.2.1
      have nx := ih (n + 1) (by omega)
      rw [n1, okS_s] at nx
      unfold wL_RhaveGrams_4 wC_RhaveGrams_4
      rw [n0, wI (x := σ 0 0) ⟨by omega, by omega⟩, wI (x := (n : Int)) ⟨by omega, by omega⟩]
      unfold wB_RhaveGrams_39 wB_RhaveGrams_35 wB_RhaveGrams_40
      refine ⟨fun z => absurd z (by omega), fun _ => ?_⟩
      rcases okS_01 (B := σ 1) (s := s) n with f | f
      · rw [f, if_pos rfl] at nx
        rw [f]
        exact z0 nx
      · rw [f, if_neg (by decide)] at nx
        rw [f]
        refine z1 ⟨fun z => ?_, fun z => sp_Rits ⟨by omega, by omega⟩ (by decide) ?_⟩
        · rw [if_neg (fun q => by have := q.1; unfold bitS at this; omega)] at nx
          exact nx
        · have z2 : bitS s n := (xand1 (xshr s n)).resolve_left z
          rw [hA, wI (x := σ 1 (10 * (n : Int) + 2)) ⟨by omega, by omega⟩]
          refine ⟨fun y => ?_, fun y => ?_⟩
          · rw [if_pos ⟨z2, by omega⟩] at nx; exact nx
          · rw [if_neg (fun q => by omega)] at nx; exact nx
  exact lp _ 0 (by omega)
theorem sR_most {f m w : Int} {M : gSt} {k : Int → gSt → Prop} (i0 : inI f) (i1 : inI m) (i2 : inI w) (I : iN (absR M)) (J : iB (absR M)) (hh : ∀ r M', wrap r = wrap (S_most f m w (absR M)) → absR M' = absR M → fr M M' → k r M') : w_Rmost f m w M k := by
  have I' := I
  unfold iN at I'
  generalize hA : absR M = σ at *
  have bd : ¬ ((0 ≤ f ∧ f ≤ 3) ∧ (0 ≤ m ∧ m ≤ 3) ∧ (0 ≤ w ∧ w ≤ 1)) → wB_Rmost_27 f m w k M := fun h => bad2R (S := S_most f m w σ) (by decide) (by decide) (if_pos h) (fun r M' a b c => hh r M' a (b.trans hA) c)
  unfold w_Rmost
  refine sp_Rin i0 (by constructor <;> decide) (by constructor <;> decide) (fun h0 => z1 ?_) (fun h0 => z0 (bd (by omega)))
  refine sp_Rin i1 (by constructor <;> decide) (by constructor <;> decide) (fun h1 => z1 ?_) (fun h1 => z0 (bd (by omega)))
  refine sp_Rin i2 (by constructor <;> decide) (by constructor <;> decide) (fun h2 => z1n ?_) (fun h2 => z0n (bd (by omega)))
  have hg : ¬ ¬ ((0 ≤ f ∧ f ≤ 3) ∧ (0 ≤ m ∧ m ≤ 3) ∧ (0 ≤ w ∧ w ≤ 1)) := fun q => q ⟨h0, h1, h2⟩
  have hS : S_most f m w σ = _ := if_neg hg
  rw [hS] at hh
  have n0 : M 1 0 = σ 0 0 := by rw [rdS M 0 (by decide) (by decide), hA]
  have b : bOk (σ 1) (6 + f) := bOk_of J ⟨by omega, by omega⟩
  have N12 : (σ 0 0).toNat ≤ 12 := by omega
  have eN : (((σ 0 0).toNat : Nat) : Int) = σ 0 0 := by omega
  have xp := xshl_pow (σ 0 0).toNat N12
  rw [eN] at xp
  have p12 : 2 ^ (σ 0 0).toNat ≤ 2 ^ 12 := Nat.pow_le_pow_right (by decide) N12
  have e12 : (2 : Nat) ^ 12 = 4096 := by decide
  have p0 : 0 < 2 ^ (σ 0 0).toNat := Nat.pow_pos (by decide)
  have xr : 1 ≤ xshl 1 (σ 0 0) ∧ xshl 1 (σ 0 0) ≤ 4096 := by omega
  clear xp p12 e12 p0
  refine ⟨(xshl 1 (σ 0 0)).toNat, ?_⟩
  have lp : ∀ (r n : Nat), n + 1 + r = (xshl 1 (σ 0 0)).toNat → wL_Rmost_39 f m w k (fun u4_39 M39 => (¬ wrap w = 0 → w_Rtogether f u4_39 M39 (fun r138c M138 => k r138c M138)) ∧ (wrap w = 0 → k u4_39 M39)) (r + 1) (moS (σ 1) (6 + f) m (σ 0 0).toNat (n + 1)) ((n + 1 : Nat) : Int) M := by
    intro r
    induction r with
    | zero =>
      intro n hn
      unfold wL_Rmost_39 wC_Rmost_39
      rw [n0, wI (x := xshl 1 (σ 0 0)) ⟨by omega, by omega⟩, wI (x := ((n + 1 : Nat) : Int)) ⟨by omega, by omega⟩]
      refine ⟨fun _ => ?_, fun z => absurd z (by omega)⟩
      dsimp only
      rw [wI i2]
      rw [show (xshl 1 (σ 0 0)).toNat = n + 1 from by omega] at hh
      refine ⟨fun z => r_tog hA I b h0 ?_, fun z => ?_⟩
      · rw [if_neg z] at hh
        exact hh _ M rfl hA fr_rf
      · rw [if_pos z] at hh
        exact hh _ M rfl hA fr_rf
    | succ r ih =>
      intro n hn
      have mr := mo_rng (m := m) b N12 (n + 1) (by rw [eN]; omega)
      have br := (bc_all (x := ((n + 1 : Nat) : Int)) ⟨by omega, by omega⟩).2.1
      have br2 := (bc_all (x := moS (σ 1) (6 + f) m (σ 0 0).toNat (n + 1)) ⟨by omega, by omega⟩).2.1
      have t1 := tg_rng (s := ((n + 1 : Nat) : Int)) b N12
      have t2 := tg_rng (s := moS (σ 1) (6 + f) m (σ 0 0).toNat (n + 1)) b N12
      have ms := moS_s (B := σ 1) (w := 6 + f) (m := m) (N := (σ 0 0).toNat) (s := n + 1)
      have nx := ih (n + 1) (by omega)
      rw [ms, show ((n + 1 + 1 : Nat) : Int) = ((n + 1 : Nat) : Int) + 1 from by omega] at nx
      clear ms ih
      generalize moS (σ 1) (6 + f) m (σ 0 0).toNat (n + 1) = b0 at *
      unfold wL_Rmost_39 wC_Rmost_39
      rw [n0, wI (x := xshl 1 (σ 0 0)) ⟨by omega, by omega⟩, wI (x := ((n + 1 : Nat) : Int)) ⟨by omega, by omega⟩]
      unfold wB_Rmost_110 wB_Rmost_115 wB_Rmost_117 wB_Rmost_119
      refine ⟨fun z => absurd z (by omega), fun _ => r_bits ⟨by omega, by omega⟩ ?_⟩
      rw [wI (x := bc ((n + 1 : Nat) : Int)) ⟨by omega, by omega⟩, wI i1]
      refine ⟨fun z => ?_, fun z => r_haveG hA I J ?_⟩
      · rw [if_neg (fun q => by omega)] at nx; exact nx
      · have o01 := okS_01 (B := σ 1) (s := ((n + 1 : Nat) : Int)) (σ 0 0).toNat
        rw [wI (x := okS (σ 1) ((n + 1 : Nat) : Int) (σ 0 0).toNat) ⟨by omega, by omega⟩]
        refine ⟨fun y => ?_, fun y => r_tog hA I b h0 (r_tog hA I b h0 (fun x ex => ?_))⟩
        · rw [if_neg (fun q => q.2.1 y)] at nx; exact nx
        · rw [wI (x := x) ⟨by omega, by omega⟩]
          refine ⟨fun a => ?_, fun a => ⟨fun c => ?_, fun c => r_bits ⟨by omega, by omega⟩ (r_bits ⟨by omega, by omega⟩ ?_)⟩⟩
          · rw [if_pos ⟨z, y, Or.inl (by omega)⟩] at nx; exact nx
          · rw [if_neg (fun q => by omega)] at nx; exact nx
          · rw [wI (x := bc ((n + 1 : Nat) : Int)) ⟨by omega, by omega⟩, wI (x := bc b0) ⟨by omega, by omega⟩]
            refine ⟨fun d => ?_, fun d => ?_⟩
            · rw [if_neg (fun q => by omega)] at nx; exact nx
            · rw [if_pos ⟨z, y, Or.inr ⟨by omega, d⟩⟩] at nx; exact nx
  have st := lp ((xshl 1 (σ 0 0)).toNat - 1) 0 (by omega)
  rw [show (xshl 1 (σ 0 0)).toNat - 1 + 1 = (xshl 1 (σ 0 0)).toNat from by omega, mo_1] at st
  exact st
end
