-- voices: both sides
def abv (x : Int) : Int := if x = 4 then 1 else if x = 5 then 2 else if x = 6 then 3 else 0
def att (f v : Int) : Int := if ¬ tb_BODIES (f * 4 + v) = 0 then f else if ¬ tb_BODIES (abv f * 4 + v) = 0 then abv f else 0
def bdy (f v : Int) : Int := tb_BODIES (att f v * 4 + v)
theorem fb_rng : ∀ n : Nat, n < 28 → 0 ≤ fb_BODIES n ∧ fb_BODIES n ≤ 71 := by decide
theorem tb_rng {f v : Int} (hf : 0 ≤ f ∧ f ≤ 6) (hv : 0 ≤ v ∧ v ≤ 3) : 0 ≤ tb_BODIES (f * 4 + v) ∧ tb_BODIES (f * 4 + v) ≤ 71 := fb_rng _ (by omega)
theorem sp_body {f v : Int} {M : gSt} {k : Int → gSt → Prop} (hf : 0 ≤ f ∧ f ≤ 6) (hv : 0 ≤ v ∧ v ≤ 3) (h : k (tb_BODIES (f * 4 + v)) M) : w_X6_bodyOf f v M k := by
  unfold w_X6_bodyOf
  intro x ex
  rw [wI (x := x) ⟨by omega, by omega⟩]
  refine ⟨fun z => absurd z (by omega), fun _ => ⟨fun z => absurd z (by omega), fun _ => ⟨⟨by omega, by omega⟩, ?_⟩⟩⟩
  rw [ex]
  exact h
theorem abv_rng {f : Int} (hf : 0 ≤ f ∧ f ≤ 6) : (0 ≤ abv f ∧ abv f ≤ 3) ∧ abv (abv f) = 0 := by
  rcases (show f = 0 ∨ f = 1 ∨ f = 2 ∨ f = 3 ∨ f = 4 ∨ f = 5 ∨ f = 6 by omega) with rfl | rfl | rfl | rfl | rfl | rfl | rfl <;> decide
theorem tb_0 {v : Int} (hv : 0 ≤ v ∧ v ≤ 3) : ¬ tb_BODIES (0 * 4 + v) = 0 := by
  rcases (show v = 0 ∨ v = 1 ∨ v = 2 ∨ v = 3 by omega) with rfl | rfl | rfl | rfl <;> decide
def vC (kd k m pt : Int) (M0 M : gSt) : Prop := (∀ p, p ≠ 52 → p ≠ 53 → p ≠ 54 → M p = M0 p) ∧ M 52 1 = kd ∧ M 52 2 = k ∧ M 52 3 = m ∧ M 52 4 = pt ∧ M 53 0 = 1 ∧ M 53 2 = 30 ∧ (0 ≤ M 53 3 ∧ M 53 3 ≤ 30)
theorem vC_app {kd k m pt b y z : Int} {M0 M : gSt} {kk : Int → gSt → Prop} (g : vC kd k m pt M0 M) (h : ∀ r M', vC kd k m pt M0 M' → kk r M') : w_X4_append 53 b y z M kk := by
  obtain ⟨g0, g1, g2, g3, g4, g5, g6, g7⟩ := g
  by_cases f : M 53 3 < 30
  · refine sp_app1 (L := 30) pl_53 g5 g6 ⟨g7.1, f⟩ (by decide) rfl (h _ _ ⟨fun p a b c => by rw [wrO' b, wrO' c]; exact g0 p a b c, ?_, ?_, ?_, ?_, ?_, ?_, ?_⟩)
    · rw [wrO (by decide), wrO (by decide)]; exact g1
    · rw [wrO (by decide), wrO (by decide)]; exact g2
    · rw [wrO (by decide), wrO (by decide)]; exact g3
    · rw [wrO (by decide), wrO (by decide)]; exact g4
    · rw [wrN (by decide), wrO (by decide)]; exact g5
    · rw [wrN (by decide), wrO (by decide)]; exact g6
    · rw [wrI]; omega
  · unfold w_X4_append
    refine ⟨pl_53, sp_room4 pl_53 ?_⟩
    rw [g6, wI (x := 30 - M 53 3) ⟨by omega, by omega⟩]
    exact ⟨fun z => absurd z (by omega), fun _ => h _ M ⟨g0, g1, g2, g3, g4, g5, g6, g7⟩⟩
theorem c_snd {kd k m pt f v x a : Int} {d : Nat} {M0 M : gSt} {kk : Int → gSt → Prop} (hf : 0 ≤ f ∧ f ≤ 6) (hv : 0 ≤ v ∧ v ≤ 3) (ha : 0 ≤ a ∧ a ≤ 40) (g : vC kd k m pt M0 M) (h : ∀ M', vC kd k m pt M0 M' → wg_X6_own 52 d 2 [bdy f v, abv (att f v), x, a + 1] M' (fun r M => kk r M)) : wg_X6_own 52 (d + 1) 1 [f, v, x, a] M kk := by
  show wb_X6_sound (wg_X6_own 52 d) 52 f v x a M kk
  have stop : ∀ z, (0 ≤ z ∧ z ≤ 6) → z = att f v → wB_X6_sound_35 (wg_X6_own 52 d) 52 f v x a kk z M := by
    intro z hz ez
    unfold wB_X6_sound_35
    refine sp_body hz hv (vC_app g (fun r M' g' => ?_))
    rw [wI (x := a) ⟨by omega, by omega⟩]
    refine ⟨fun _ => sp_above ⟨by omega, by omega⟩ ?_, fun y => absurd y (by omega)⟩
    have := h M' g'
    unfold bdy abv at this
    rw [← ez] at this
    exact this
  have ar := abv_rng hf
  have r0 := tb_rng hf hv
  have r1 := tb_rng (f := abv f) (v := v) ⟨by omega, by omega⟩ hv
  have r2 := tb_0 hv
  have r3 := tb_rng (f := 0) (v := v) (by decide) hv
  have ea : att f v = if ¬ tb_BODIES (f * 4 + v) = 0 then f else if ¬ tb_BODIES (abv f * 4 + v) = 0 then abv f else 0 := rfl
  unfold wb_X6_sound
  refine ⟨pl_52, 3, ?_⟩
  simp only [wL_X6_sound_6, wC_X6_sound_6]
  rw [wrap_0, show wrap (0 + 1) = 1 from by decide, show wrap (0 + 1 + 1) = 2 from by decide]
  refine ⟨fun z => absurd z (by decide), fun _ => sp_body hf hv ?_⟩
  rw [wI (x := tb_BODIES (f * 4 + v)) ⟨by omega, by omega⟩]
  refine ⟨fun z => stop f hf (by rw [ea, if_pos z]), fun z => sp_above ⟨by omega, by omega⟩ ?_⟩
  rw [if_neg (fun q => q z)] at ea
  change (7 ≤ (1 : Int) → _) ∧ ((1 : Int) < 7 → w_X6_bodyOf (abv f) v M _)
  refine ⟨fun z => absurd z (by decide), fun _ => sp_body ⟨by omega, by omega⟩ hv ?_⟩
  rw [wI (x := tb_BODIES (abv f * 4 + v)) ⟨by omega, by omega⟩]
  refine ⟨fun z1 => stop (abv f) ⟨by omega, by omega⟩ (by rw [ea, if_pos z1]), fun z1 => sp_above ⟨by omega, by omega⟩ ?_⟩
  rw [if_neg (fun q => q z1)] at ea
  change (7 ≤ (2 : Int) → _) ∧ ((2 : Int) < 7 → w_X6_bodyOf (abv (abv f)) v M _)
  rw [ar.2]
  refine ⟨fun z => absurd z (by decide), fun _ => sp_body (by decide) hv ?_⟩
  rw [wI (x := tb_BODIES (0 * 4 + v)) ⟨by omega, by omega⟩]
  exact ⟨fun _ => stop (abv (abv f)) ⟨by omega, by omega⟩ (by rw [ar.2]; exact ea.symm), fun y => absurd y r2⟩
theorem c_own {kd k m pt v x a : Int} {d : Nat} {M0 M : gSt} {kk : Int → gSt → Prop} (g : vC kd k m pt M0 M) (h : wg_X6_own 52 d 1 [kd, v, x, a] M (fun r M => kk r M)) : wg_X6_own 52 (d + 1) 0 [v, x, a] M kk := by
  show wb_X6_own (wg_X6_own 52 d) 52 v x a M kk
  unfold wb_X6_own
  rw [g.2.1]
  exact ⟨pl_52, h⟩
theorem wk_10 {c x a : Int} {d : Nat} {M : gSt} {kk : Int → gSt → Prop} (h : kk (x + M 52 2) M) : wg_X6_own 52 (d + 1) 2 [10, c, x, a] M kk := by
  show wb_X6_work (wg_X6_own 52 d) 52 10 c x a M kk
  unfold wb_X6_work
  exact ⟨pl_52, fun _ => h, fun z => absurd z (by decide), fun z => absurd z (by decide), fun z => absurd z (by decide), fun z => absurd z (by decide), fun z => absurd z (by decide), fun z => absurd z (by decide), fun z => absurd z (by decide), fun z => absurd z (by decide), fun z => absurd z (by decide), fun z => absurd z (by decide), fun z => absurd z (by decide), fun z => absurd z (by decide), fun z => absurd z (by decide)⟩
theorem wk_11 {c x a : Int} {d : Nat} {M : gSt} {kk : Int → gSt → Prop} (h : wg_X6_own 52 d 0 [0, x, a] M (fun r M => kk (r * 2) M)) : wg_X6_own 52 (d + 1) 2 [11, c, x, a] M kk := by
  show wb_X6_work (wg_X6_own 52 d) 52 11 c x a M kk
  unfold wb_X6_work
  exact ⟨pl_52, fun z => absurd z (by decide), fun _ => h, fun z => absurd z (by decide), fun z => absurd z (by decide), fun z => absurd z (by decide), fun z => absurd z (by decide), fun z => absurd z (by decide), fun z => absurd z (by decide), fun z => absurd z (by decide), fun z => absurd z (by decide), fun z => absurd z (by decide), fun z => absurd z (by decide), fun z => absurd z (by decide), fun z => absurd z (by decide)⟩
theorem wk_12 {c x a : Int} {d : Nat} {M : gSt} {kk : Int → gSt → Prop} (h : wg_X6_own 52 d 0 [1, x, a] M (fun r M => kk (r - M 52 3) M)) : wg_X6_own 52 (d + 1) 2 [12, c, x, a] M kk := by
  show wb_X6_work (wg_X6_own 52 d) 52 12 c x a M kk
  unfold wb_X6_work
  exact ⟨pl_52, fun z => absurd z (by decide), fun z => absurd z (by decide), fun _ => h, fun z => absurd z (by decide), fun z => absurd z (by decide), fun z => absurd z (by decide), fun z => absurd z (by decide), fun z => absurd z (by decide), fun z => absurd z (by decide), fun z => absurd z (by decide), fun z => absurd z (by decide), fun z => absurd z (by decide), fun z => absurd z (by decide), fun z => absurd z (by decide)⟩
theorem wk_13 {c x a : Int} {d : Nat} {M : gSt} {kk : Int → gSt → Prop} (h : w_X6_part 52 x M (fun r M => kk r M)) : wg_X6_own 52 (d + 1) 2 [13, c, x, a] M kk := by
  show wb_X6_work (wg_X6_own 52 d) 52 13 c x a M kk
  unfold wb_X6_work
  exact ⟨pl_52, fun z => absurd z (by decide), fun z => absurd z (by decide), fun z => absurd z (by decide), fun _ => h, fun z => absurd z (by decide), fun z => absurd z (by decide), fun z => absurd z (by decide), fun z => absurd z (by decide), fun z => absurd z (by decide), fun z => absurd z (by decide), fun z => absurd z (by decide), fun z => absurd z (by decide), fun z => absurd z (by decide), fun z => absurd z (by decide)⟩
theorem wk_20 {c x a : Int} {d : Nat} {M : gSt} {kk : Int → gSt → Prop} (h : wg_X6_own 52 d 1 [c, 0, x, a] M (fun r M => kk (r - 4) M)) : wg_X6_own 52 (d + 1) 2 [20, c, x, a] M kk := by
  show wb_X6_work (wg_X6_own 52 d) 52 20 c x a M kk
  unfold wb_X6_work
  exact ⟨pl_52, fun z => absurd z (by decide), fun z => absurd z (by decide), fun z => absurd z (by decide), fun z => absurd z (by decide), fun _ => h, fun z => absurd z (by decide), fun z => absurd z (by decide), fun z => absurd z (by decide), fun z => absurd z (by decide), fun z => absurd z (by decide), fun z => absurd z (by decide), fun z => absurd z (by decide), fun z => absurd z (by decide), fun z => absurd z (by decide)⟩
theorem wk_21 {c x a : Int} {d : Nat} {M : gSt} {kk : Int → gSt → Prop} (h : wg_X6_own 52 d 1 [c, 3, x, a] M (fun q M => wg_X6_own 52 d 0 [1, 1, a] M (fun r M => kk (q + r) M))) : wg_X6_own 52 (d + 1) 2 [21, c, x, a] M kk := by
  show wb_X6_work (wg_X6_own 52 d) 52 21 c x a M kk
  unfold wb_X6_work
  exact ⟨pl_52, fun z => absurd z (by decide), fun z => absurd z (by decide), fun z => absurd z (by decide), fun z => absurd z (by decide), fun z => absurd z (by decide), fun _ => h, fun z => absurd z (by decide), fun z => absurd z (by decide), fun z => absurd z (by decide), fun z => absurd z (by decide), fun z => absurd z (by decide), fun z => absurd z (by decide), fun z => absurd z (by decide), fun z => absurd z (by decide)⟩
theorem wk_30 {c x a : Int} {d : Nat} {M : gSt} {kk : Int → gSt → Prop} (h : wg_X6_own 52 d 1 [c, 1, x, a] M (fun r M => kk (0 - r) M)) : wg_X6_own 52 (d + 1) 2 [30, c, x, a] M kk := by
  show wb_X6_work (wg_X6_own 52 d) 52 30 c x a M kk
  unfold wb_X6_work
  exact ⟨pl_52, fun z => absurd z (by decide), fun z => absurd z (by decide), fun z => absurd z (by decide), fun z => absurd z (by decide), fun z => absurd z (by decide), fun z => absurd z (by decide), fun _ => h, fun z => absurd z (by decide), fun z => absurd z (by decide), fun z => absurd z (by decide), fun z => absurd z (by decide), fun z => absurd z (by decide), fun z => absurd z (by decide), fun z => absurd z (by decide)⟩
theorem wk_40 {c x a : Int} {d : Nat} {M : gSt} {kk : Int → gSt → Prop} (h : wg_X6_own 52 d 1 [c, 2, Int.tdiv (wrap x) 2, a] M (fun r M => kk r M)) : wg_X6_own 52 (d + 1) 2 [40, c, x, a] M kk := by
  show wb_X6_work (wg_X6_own 52 d) 52 40 c x a M kk
  unfold wb_X6_work
  exact ⟨pl_52, fun z => absurd z (by decide), fun z => absurd z (by decide), fun z => absurd z (by decide), fun z => absurd z (by decide), fun z => absurd z (by decide), fun z => absurd z (by decide), fun z => absurd z (by decide), fun _ => h, fun z => absurd z (by decide), fun z => absurd z (by decide), fun z => absurd z (by decide), fun z => absurd z (by decide), fun z => absurd z (by decide), fun z => absurd z (by decide)⟩
theorem wk_50 {c x a : Int} {d : Nat} {M : gSt} {kk : Int → gSt → Prop} (h : wg_X6_own 52 d 1 [c, 0, x, a] M (fun r M => kk (r * 3) M)) : wg_X6_own 52 (d + 1) 2 [50, c, x, a] M kk := by
  show wb_X6_work (wg_X6_own 52 d) 52 50 c x a M kk
  unfold wb_X6_work
  exact ⟨pl_52, fun z => absurd z (by decide), fun z => absurd z (by decide), fun z => absurd z (by decide), fun z => absurd z (by decide), fun z => absurd z (by decide), fun z => absurd z (by decide), fun z => absurd z (by decide), fun z => absurd z (by decide), fun _ => h, fun z => absurd z (by decide), fun z => absurd z (by decide), fun z => absurd z (by decide), fun z => absurd z (by decide), fun z => absurd z (by decide)⟩
theorem wk_51 {c x a : Int} {d : Nat} {M : gSt} {kk : Int → gSt → Prop} (h : wg_X6_own 52 d 1 [c, 2, x, a] M (fun r M => kk (xxor r (M 52 2)) M)) : wg_X6_own 52 (d + 1) 2 [51, c, x, a] M kk := by
  show wb_X6_work (wg_X6_own 52 d) 52 51 c x a M kk
  unfold wb_X6_work
  exact ⟨pl_52, fun z => absurd z (by decide), fun z => absurd z (by decide), fun z => absurd z (by decide), fun z => absurd z (by decide), fun z => absurd z (by decide), fun z => absurd z (by decide), fun z => absurd z (by decide), fun z => absurd z (by decide), fun z => absurd z (by decide), fun _ => h, fun z => absurd z (by decide), fun z => absurd z (by decide), fun z => absurd z (by decide), fun z => absurd z (by decide)⟩
theorem wk_60 {c x a : Int} {d : Nat} {M : gSt} {kk : Int → gSt → Prop} (h : wg_X6_own 52 d 1 [c, 1, x + 1, a] M (fun r M => kk r M)) : wg_X6_own 52 (d + 1) 2 [60, c, x, a] M kk := by
  show wb_X6_work (wg_X6_own 52 d) 52 60 c x a M kk
  unfold wb_X6_work
  exact ⟨pl_52, fun z => absurd z (by decide), fun z => absurd z (by decide), fun z => absurd z (by decide), fun z => absurd z (by decide), fun z => absurd z (by decide), fun z => absurd z (by decide), fun z => absurd z (by decide), fun z => absurd z (by decide), fun z => absurd z (by decide), fun z => absurd z (by decide), fun _ => h, fun z => absurd z (by decide), fun z => absurd z (by decide), fun z => absurd z (by decide)⟩
theorem wk_70 {c x a : Int} {d : Nat} {M : gSt} {kk : Int → gSt → Prop} (h : kk 6 M) : wg_X6_own 52 (d + 1) 2 [70, c, x, a] M kk := by
  show wb_X6_work (wg_X6_own 52 d) 52 70 c x a M kk
  unfold wb_X6_work
  exact ⟨pl_52, fun z => absurd z (by decide), fun z => absurd z (by decide), fun z => absurd z (by decide), fun z => absurd z (by decide), fun z => absurd z (by decide), fun z => absurd z (by decide), fun z => absurd z (by decide), fun z => absurd z (by decide), fun z => absurd z (by decide), fun z => absurd z (by decide), fun z => absurd z (by decide), fun _ => h, fun z => absurd z (by decide), fun z => absurd z (by decide)⟩
theorem wk_71 {c x a : Int} {d : Nat} {M : gSt} {kk : Int → gSt → Prop} (h : wg_X6_own 52 d 1 [c, 1, x, a] M (fun r M => kk (r + M 52 3) M)) : wg_X6_own 52 (d + 1) 2 [71, c, x, a] M kk := by
  show wb_X6_work (wg_X6_own 52 d) 52 71 c x a M kk
  unfold wb_X6_work
  exact ⟨pl_52, fun z => absurd z (by decide), fun z => absurd z (by decide), fun z => absurd z (by decide), fun z => absurd z (by decide), fun z => absurd z (by decide), fun z => absurd z (by decide), fun z => absurd z (by decide), fun z => absurd z (by decide), fun z => absurd z (by decide), fun z => absurd z (by decide), fun z => absurd z (by decide), fun z => absurd z (by decide), fun _ => h, fun z => absurd z (by decide)⟩
def vR (k f x : Int) : Int := if f = 1 then x + k - 4 else if f = 4 then (x + k - 4) * 3 else if f = 6 then 6 else x + k
def vW (k m kd f x : Int) : Int := if f = 2 then 0 - vR k kd x * 2 else if f = 5 then 0 - vR k kd (x + 1) * 2 else if f = 6 then vR k kd x * 2 + m else vR k kd x * 2
def vM (k m kd f x : Int) : Int := if f = 3 ∨ f = 6 then vW k m kd kd (Int.tdiv (wrap x) 2) - m else if f = 4 then xxor (vW k m kd kd x - m) k else vW k m kd kd x - m
def qP (k m x : Int) : Int := if wrap (m - k) = 0 then 0 else Int.tdiv (wrap x) (wrap (m - k))
def vP (k m kd f x : Int) : Int := if f = 1 ∨ f = 4 then qP k m x + vW k m kd kd 1 else qP k m x
section VC
variable {kd k m pt : Int} {M0 : gSt}
def goV (kd k m pt : Int) (M0 : gSt) (r : Int) (P : gSt → (Int → gSt → Prop) → Prop) : Prop := ∀ M kk, vC kd k m pt M0 M → (∀ M', vC kd k m pt M0 M' → kk r M') → P M kk
theorem vr0 {f x a : Int} {d : Nat} (hf : f = 0 ∨ f = 2 ∨ f = 3 ∨ f = 5) (ha : 0 ≤ a ∧ a ≤ 40) : goV kd k m pt M0 (x + k) (wg_X6_own 52 (d + 2) 1 [f, 0, x, a]) := by
  intro M kk g h
  rcases hf with rfl | rfl | rfl | rfl
  · refine c_snd (f := 0) (v := 0) (by decide) (by decide) ⟨by omega, by omega⟩ g (fun M1 g1 => ?_)
    change wg_X6_own 52 _ 2 [10, 0, x, a + 1] M1 _
    refine wk_10 ?_
    rw [g1.2.2.1]
    exact h M1 g1
  · refine c_snd (f := 2) (v := 0) (by decide) (by decide) ⟨by omega, by omega⟩ g (fun M1 g1 => ?_)
    change wg_X6_own 52 _ 2 [10, 0, x, a + 1] M1 _
    refine wk_10 ?_
    rw [g1.2.2.1]
    exact h M1 g1
  · refine c_snd (f := 3) (v := 0) (by decide) (by decide) ⟨by omega, by omega⟩ g (fun M1 g1 => ?_)
    change wg_X6_own 52 _ 2 [10, 0, x, a + 1] M1 _
    refine wk_10 ?_
    rw [g1.2.2.1]
    exact h M1 g1
  · refine c_snd (f := 5) (v := 0) (by decide) (by decide) ⟨by omega, by omega⟩ g (fun M1 g1 => ?_)
    change wg_X6_own 52 _ 2 [10, 0, x, a + 1] M1 _
    refine wk_10 ?_
    rw [g1.2.2.1]
    exact h M1 g1
theorem vr1 {x a : Int} {d : Nat} (ha : 0 ≤ a ∧ a ≤ 39) : goV kd k m pt M0 (x + k - 4) (wg_X6_own 52 (d + 4) 1 [1, 0, x, a]) := by
  intro M kk g h
  · refine c_snd (f := 1) (v := 0) (by decide) (by decide) ⟨by omega, by omega⟩ g (fun M1 g1 => ?_)
    change wg_X6_own 52 _ 2 [20, 0, x, a + 1] M1 _
    exact wk_20 (vr0 (Or.inl rfl) ⟨by omega, by omega⟩ M1 _ g1 h)
theorem v_rings {f x a : Int} {d : Nat} (hf : 0 ≤ f ∧ f ≤ 6) (ha : 0 ≤ a ∧ a ≤ 30) : goV kd k m pt M0 (vR k f x) (wg_X6_own 52 (d + 8) 1 [f, 0, x, a]) := by
  intro M kk g h
  rcases (show (f = 0 ∨ f = 2 ∨ f = 3 ∨ f = 5) ∨ f = 1 ∨ f = 4 ∨ f = 6 by omega) with hz | rfl | rfl | rfl
  · have e : vR k f x = x + k := by unfold vR; rw [if_neg (by omega), if_neg (by omega), if_neg (by omega)]
    rw [e] at h
    exact vr0 hz ⟨by omega, by omega⟩ M kk g h
  · exact vr1 ⟨by omega, by omega⟩ M kk g h
  · refine c_snd (f := 4) (v := 0) (by decide) (by decide) ⟨by omega, by omega⟩ g (fun M1 g1 => ?_)
    change wg_X6_own 52 _ 2 [50, 1, x, a + 1] M1 _
    exact wk_50 (vr1 ⟨by omega, by omega⟩ M1 _ g1 h)
  · refine c_snd (f := 6) (v := 0) (by decide) (by decide) ⟨by omega, by omega⟩ g (fun M1 g1 => ?_)
    change wg_X6_own 52 _ 2 [70, 3, x, a + 1] M1 _
    exact wk_70 (h M1 g1)
theorem vw0 {f x a : Int} {d : Nat} (hk : 0 ≤ kd ∧ kd ≤ 6) (hf : f = 0 ∨ f = 1 ∨ f = 3 ∨ f = 4) (ha : 0 ≤ a ∧ a ≤ 25) : goV kd k m pt M0 (vR k kd x * 2) (wg_X6_own 52 (d + 11) 1 [f, 1, x, a]) := by
  intro M kk g h
  rcases hf with rfl | rfl | rfl | rfl
  · refine c_snd (f := 0) (v := 1) (by decide) (by decide) ⟨by omega, by omega⟩ g (fun M1 g1 => ?_)
    change wg_X6_own 52 _ 2 [11, 0, x, a + 1] M1 _
    exact wk_11 (c_own g1 (v_rings hk ⟨by omega, by omega⟩ M1 _ g1 h))
  · refine c_snd (f := 1) (v := 1) (by decide) (by decide) ⟨by omega, by omega⟩ g (fun M1 g1 => ?_)
    change wg_X6_own 52 _ 2 [11, 0, x, a + 1] M1 _
    exact wk_11 (c_own g1 (v_rings hk ⟨by omega, by omega⟩ M1 _ g1 h))
  · refine c_snd (f := 3) (v := 1) (by decide) (by decide) ⟨by omega, by omega⟩ g (fun M1 g1 => ?_)
    change wg_X6_own 52 _ 2 [11, 0, x, a + 1] M1 _
    exact wk_11 (c_own g1 (v_rings hk ⟨by omega, by omega⟩ M1 _ g1 h))
  · refine c_snd (f := 4) (v := 1) (by decide) (by decide) ⟨by omega, by omega⟩ g (fun M1 g1 => ?_)
    change wg_X6_own 52 _ 2 [11, 0, x, a + 1] M1 _
    exact wk_11 (c_own g1 (v_rings hk ⟨by omega, by omega⟩ M1 _ g1 h))
theorem vw2 {x a : Int} {d : Nat} (hk : 0 ≤ kd ∧ kd ≤ 6) (ha : 0 ≤ a ∧ a ≤ 24) : goV kd k m pt M0 (0 - vR k kd x * 2) (wg_X6_own 52 (d + 13) 1 [2, 1, x, a]) := by
  intro M kk g h
  · refine c_snd (f := 2) (v := 1) (by decide) (by decide) ⟨by omega, by omega⟩ g (fun M1 g1 => ?_)
    change wg_X6_own 52 _ 2 [30, 0, x, a + 1] M1 _
    exact wk_30 (vw0 hk (Or.inl rfl) ⟨by omega, by omega⟩ M1 _ g1 h)
theorem v_weighs {f x a : Int} {d : Nat} (hk : 0 ≤ kd ∧ kd ≤ 6) (hf : 0 ≤ f ∧ f ≤ 6) (ha : 0 ≤ a ∧ a ≤ 20) : goV kd k m pt M0 (vW k m kd f x) (wg_X6_own 52 (d + 16) 1 [f, 1, x, a]) := by
  intro M kk g h
  rcases (show (f = 0 ∨ f = 1 ∨ f = 3 ∨ f = 4) ∨ f = 2 ∨ f = 5 ∨ f = 6 by omega) with hz | rfl | rfl | rfl
  · have e : vW k m kd f x = vR k kd x * 2 := by unfold vW; rw [if_neg (by omega), if_neg (by omega), if_neg (by omega)]
    rw [e] at h
    exact vw0 hk hz ⟨by omega, by omega⟩ M kk g h
  · exact vw2 hk ⟨by omega, by omega⟩ M kk g h
  · refine c_snd (f := 5) (v := 1) (by decide) (by decide) ⟨by omega, by omega⟩ g (fun M1 g1 => ?_)
    change wg_X6_own 52 _ 2 [60, 2, x, a + 1] M1 _
    exact wk_60 (vw2 hk ⟨by omega, by omega⟩ M1 _ g1 h)
  · refine c_snd (f := 6) (v := 1) (by decide) (by decide) ⟨by omega, by omega⟩ g (fun M1 g1 => ?_)
    change wg_X6_own 52 _ 2 [71, 3, x, a + 1] M1 _
    refine wk_71 (vw0 hk (Or.inr (Or.inr (Or.inl rfl))) ⟨by omega, by omega⟩ M1 _ g1 (fun M2 g2 => ?_))
    rw [g2.2.2.2.1]
    exact h M2 g2
theorem vm0 {f x a : Int} {d : Nat} (hk : 0 ≤ kd ∧ kd ≤ 6) (hf : f = 0 ∨ f = 1 ∨ f = 2 ∨ f = 5) (ha : 0 ≤ a ∧ a ≤ 15) : goV kd k m pt M0 (vW k m kd kd x - m) (wg_X6_own 52 (d + 19) 1 [f, 2, x, a]) := by
  intro M kk g h
  rcases hf with rfl | rfl | rfl | rfl
  · refine c_snd (f := 0) (v := 2) (by decide) (by decide) ⟨by omega, by omega⟩ g (fun M1 g1 => ?_)
    change wg_X6_own 52 _ 2 [12, 0, x, a + 1] M1 _
    refine wk_12 (c_own g1 (v_weighs hk hk ⟨by omega, by omega⟩ M1 _ g1 (fun M2 g2 => ?_)))
    rw [g2.2.2.2.1]
    exact h M2 g2
  · refine c_snd (f := 1) (v := 2) (by decide) (by decide) ⟨by omega, by omega⟩ g (fun M1 g1 => ?_)
    change wg_X6_own 52 _ 2 [12, 0, x, a + 1] M1 _
    refine wk_12 (c_own g1 (v_weighs hk hk ⟨by omega, by omega⟩ M1 _ g1 (fun M2 g2 => ?_)))
    rw [g2.2.2.2.1]
    exact h M2 g2
  · refine c_snd (f := 2) (v := 2) (by decide) (by decide) ⟨by omega, by omega⟩ g (fun M1 g1 => ?_)
    change wg_X6_own 52 _ 2 [12, 0, x, a + 1] M1 _
    refine wk_12 (c_own g1 (v_weighs hk hk ⟨by omega, by omega⟩ M1 _ g1 (fun M2 g2 => ?_)))
    rw [g2.2.2.2.1]
    exact h M2 g2
  · refine c_snd (f := 5) (v := 2) (by decide) (by decide) ⟨by omega, by omega⟩ g (fun M1 g1 => ?_)
    change wg_X6_own 52 _ 2 [12, 0, x, a + 1] M1 _
    refine wk_12 (c_own g1 (v_weighs hk hk ⟨by omega, by omega⟩ M1 _ g1 (fun M2 g2 => ?_)))
    rw [g2.2.2.2.1]
    exact h M2 g2
theorem v_melts {f x a : Int} {d : Nat} (hk : 0 ≤ kd ∧ kd ≤ 6) (hf : 0 ≤ f ∧ f ≤ 6) (ha : 0 ≤ a ∧ a ≤ 10) : goV kd k m pt M0 (vM k m kd f x) (wg_X6_own 52 (d + 22) 1 [f, 2, x, a]) := by
  intro M kk g h
  rcases (show (f = 0 ∨ f = 1 ∨ f = 2 ∨ f = 5) ∨ f = 3 ∨ f = 4 ∨ f = 6 by omega) with hz | rfl | rfl | rfl
  · have e : vM k m kd f x = vW k m kd kd x - m := by unfold vM; rw [if_neg (by omega), if_neg (by omega)]
    rw [e] at h
    exact vm0 hk hz ⟨by omega, by omega⟩ M kk g h
  · refine c_snd (f := 3) (v := 2) (by decide) (by decide) ⟨by omega, by omega⟩ g (fun M1 g1 => ?_)
    change wg_X6_own 52 _ 2 [40, 0, x, a + 1] M1 _
    exact wk_40 (vm0 hk (Or.inl rfl) ⟨by omega, by omega⟩ M1 _ g1 h)
  · refine c_snd (f := 4) (v := 2) (by decide) (by decide) ⟨by omega, by omega⟩ g (fun M1 g1 => ?_)
    change wg_X6_own 52 _ 2 [51, 1, x, a + 1] M1 _
    refine wk_51 (vm0 hk (Or.inr (Or.inl rfl)) ⟨by omega, by omega⟩ M1 _ g1 (fun M2 g2 => ?_))
    rw [g2.2.2.1]
    exact h M2 g2
  · refine c_snd (f := 6) (v := 2) (by decide) (by decide) ⟨by omega, by omega⟩ g (fun M1 g1 => ?_)
    change wg_X6_own 52 _ 2 [40, 0, x, a + 1] M1 _
    exact wk_40 (vm0 hk (Or.inl rfl) ⟨by omega, by omega⟩ M1 _ g1 h)
def pC (k m : Int) : Int := if wrap (m - k) = 0 then 1 else 0
theorem vp0 {f x a : Int} {d : Nat} {M : gSt} {kk : Int → gSt → Prop} (hf : f = 0 ∨ f = 2 ∨ f = 3 ∨ f = 5 ∨ f = 6) (ha : 0 ≤ a ∧ a ≤ 40) (g : vC kd k m 0 M0 M) (h : ∀ M', vC kd k m (pC k m) M0 M' → kk (qP k m x) M') : wg_X6_own 52 (d + 2) 1 [f, 3, x, a] M kk := by
  have pt : ∀ M1 (q : Int → gSt → Prop), vC kd k m 0 M0 M1 → (∀ M', vC kd k m (pC k m) M0 M' → q (qP k m x) M') → w_X6_part 52 x M1 q := by
    intro M1 q g1 h1
    unfold w_X6_part
    refine ⟨pl_52, fun y ey => ?_⟩
    rw [g1.2.2.1, g1.2.2.2.1] at ey
    subst ey
    unfold pC qP at h1
    refine ⟨fun z => ⟨z, ?_⟩, fun z M2 e2 => ?_⟩
    · have := h1 M1 (by rw [if_neg z]; exact g1)
      rw [if_neg z] at this
      exact this
    · obtain ⟨g0, a1, a2, a3, a4, a5, a6, a7⟩ := g1
      have := h1 M2 (by
        rw [if_pos z, e2]
        exact ⟨fun p a b c => by rw [wrO' a]; exact g0 p a b c, by rw [wrN (by decide)]; exact a1, by rw [wrN (by decide)]; exact a2, by rw [wrN (by decide)]; exact a3, wrI, by rw [wrO (by decide)]; exact a5, by rw [wrO (by decide)]; exact a6, by rw [wrO (by decide)]; exact a7⟩)
      rw [if_pos z] at this
      exact this
  rcases hf with rfl | rfl | rfl | rfl | rfl
  · refine c_snd (f := 0) (v := 3) (by decide) (by decide) ⟨by omega, by omega⟩ g (fun M1 g1 => ?_)
    change wg_X6_own 52 _ 2 [13, 0, x, a + 1] M1 _
    exact wk_13 (pt M1 _ g1 h)
  · refine c_snd (f := 2) (v := 3) (by decide) (by decide) ⟨by omega, by omega⟩ g (fun M1 g1 => ?_)
    change wg_X6_own 52 _ 2 [13, 0, x, a + 1] M1 _
    exact wk_13 (pt M1 _ g1 h)
  · refine c_snd (f := 3) (v := 3) (by decide) (by decide) ⟨by omega, by omega⟩ g (fun M1 g1 => ?_)
    change wg_X6_own 52 _ 2 [13, 0, x, a + 1] M1 _
    exact wk_13 (pt M1 _ g1 h)
  · refine c_snd (f := 5) (v := 3) (by decide) (by decide) ⟨by omega, by omega⟩ g (fun M1 g1 => ?_)
    change wg_X6_own 52 _ 2 [13, 0, x, a + 1] M1 _
    exact wk_13 (pt M1 _ g1 h)
  · refine c_snd (f := 6) (v := 3) (by decide) (by decide) ⟨by omega, by omega⟩ g (fun M1 g1 => ?_)
    change wg_X6_own 52 _ 2 [13, 0, x, a + 1] M1 _
    exact wk_13 (pt M1 _ g1 h)
theorem v_parts {f x a : Int} {d : Nat} {M : gSt} {kk : Int → gSt → Prop} (hk : 0 ≤ kd ∧ kd ≤ 6) (hf : 0 ≤ f ∧ f ≤ 6) (ha : 0 ≤ a ∧ a ≤ 10) (g : vC kd k m 0 M0 M) (h : ∀ M', vC kd k m (pC k m) M0 M' → kk (vP k m kd f x) M') : wg_X6_own 52 (d + 30) 1 [f, 3, x, a] M kk := by
  rcases (show (f = 0 ∨ f = 2 ∨ f = 3 ∨ f = 5 ∨ f = 6) ∨ f = 1 ∨ f = 4 by omega) with hz | rfl | rfl
  · have e : vP k m kd f x = qP k m x := by unfold vP; rw [if_neg (by omega)]
    rw [e] at h
    exact vp0 hz ⟨by omega, by omega⟩ g h
  · refine c_snd (f := 1) (v := 3) (by decide) (by decide) ⟨by omega, by omega⟩ g (fun M1 g1 => ?_)
    change wg_X6_own 52 _ 2 [21, 0, x, a + 1] M1 _
    exact wk_21 (vp0 (Or.inl rfl) ⟨by omega, by omega⟩ g1 (fun M2 g2 => c_own g2 (v_weighs hk hk ⟨by omega, by omega⟩ M2 _ g2 h)))
  · refine c_snd (f := 4) (v := 3) (by decide) (by decide) ⟨by omega, by omega⟩ g (fun M1 g1 => ?_)
    change wg_X6_own 52 _ 2 [21, 0, x, a + 1] M1 _
    exact wk_21 (vp0 (Or.inl rfl) ⟨by omega, by omega⟩ g1 (fun M2 g2 => c_own g2 (v_weighs hk hk ⟨by omega, by omega⟩ M2 _ g2 h)))
end VC
theorem vC_cK {kd k m pt : Int} {M0 M : gSt} (g : vC kd k m pt M0 M) (hK : cK M0) : absC M = absC M0 ∧ cK M := by
  obtain ⟨g0, -, -, -, -, g5, g6, g7⟩ := g
  refine ⟨ac_eq (fun o ho => g0 o (by unfold scr at ho; omega) (by unfold scr at ho; omega) (by unfold scr at ho; omega)), fun q hq => ?_, g7⟩
  obtain ⟨h1, h2⟩ := hK.1 q hq
  have ne := List.all_eq_true.mp (show (cRows.all fun q => q.1 != 52 && q.1 != 54) = true by decide) q hq
  rw [Bool.and_eq_true, bne_iff_ne, bne_iff_ne] at ne
  by_cases e : q.1 = 53
  · have e0 := cK_53 hK
    rw [e] at h1 h2 ⊢
    exact ⟨by rw [g5, ← h1, e0.1], by rw [g6, ← h2, e0.2]⟩
  · rw [g0 q.1 ne.1 e ne.2]
    exact ⟨h1, h2⟩
def S_voice (t v x : Int) (σ : gSt) : Int := if ¬ ((0 ≤ t ∧ t < σ 0 0) ∧ (0 ≤ v ∧ v ≤ 3)) then -1000000000 - 1 else if v = 3 ∧ wrap (σ 1 (10 * t + 1) - t) = 0 then -1000000000 - 6 else if v = 0 then vR t (σ 1 (10 * t + 0)) x else if v = 1 then vW t (σ 1 (10 * t + 1)) (σ 1 (10 * t + 0)) (σ 1 (10 * t + 0)) x else if v = 2 then vM t (σ 1 (10 * t + 1)) (σ 1 (10 * t + 0)) (σ 1 (10 * t + 0)) x else vP t (σ 1 (10 * t + 1)) (σ 1 (10 * t + 0)) (σ 1 (10 * t + 0)) x
theorem sC_voice {t v x : Int} {M : gSt} {k : Int → gSt → Prop} (i0 : inI t) (i1 : inI v) (I : iN (absC M)) (J : iB (absC M)) (hK : cK M) (hh : ∀ r M', wrap r = wrap (S_voice t v x (absC M)) → absC M' = absC M → cK M' → k r M') : w_X8_voice t v x M k := by
  have I' := I
  unfold iN at I'
  have n0 := rc00 M
  have r1 := fun i (a : 0 ≤ i) (b : i < 130) => rc1 M a b
  have e53 := cK_53 hK
  generalize hA : absC M = σ at *
  have bd : ¬ ((0 ≤ t ∧ t < σ 0 0) ∧ (0 ≤ v ∧ v ≤ 3)) → wB_X8_voice_23 t v x k M := fun h => bad2 (S := S_voice t v x σ) (by decide) (by decide) hK (if_pos h) (fun r M' a b c => hh r M' a (b.trans hA) c)
  unfold w_X8_voice
  refine sp_has0 pl_2 i0 ⟨by omega, by omega⟩ (fun h0 => z1 ?_) (fun h0 => z0 (bd (by omega)))
  refine sp_within i1 (by constructor <;> decide) (by constructor <;> decide) (fun h1 => z1n ?_) (fun h1 => z0n (bd (by omega)))
  have hg : ¬ ¬ ((0 ≤ t ∧ t < σ 0 0) ∧ (0 ≤ v ∧ v ≤ 3)) := fun q => q ⟨⟨h0.1, by omega⟩, h1⟩
  refine sp_number pl_2 rfl ⟨by omega, by omega⟩ (by decide) (sp_number pl_2 rfl ⟨by omega, by omega⟩ (by decide) ?_)
  have ek : M (2 + 1) (10 * t + 0) = σ 1 (10 * t + 0) := (r1 _ (by omega) (by omega)).symm
  have em : M (2 + 1) (10 * t + 1) = σ 1 (10 * t + 1) := (r1 _ (by omega) (by omega)).symm
  rw [ek, em]
  obtain ⟨tk, tm, -⟩ := J t h0.1 (by omega)
  have hS : S_voice t v x σ = _ := if_neg hg
  rw [hS] at hh
  generalize σ 1 (10 * t + 0) = kd at *
  generalize σ 1 (10 * t + 1) = m at *
  unfold w_X6_begin
  refine ⟨pl_52, sp_clear pl_53 (fun M1 e1 M2 e2 M3 e3 M4 e4 => ?_)⟩
  have g : vC kd t m 0 M M4 := by
    subst e4; subst e3; subst e2; subst e1
    exact ⟨fun p a b c => by rw [wrO' a, wrO' a, wrO' a, wrO' a, wrO' b], by rw [wrN (by decide), wrN (by decide), wrN (by decide), wrI], by rw [wrN (by decide), wrN (by decide), wrI], by rw [wrN (by decide), wrI], wrI, by rw [wrO (by decide), wrO (by decide), wrO (by decide), wrO (by decide), wrN (by decide)]; exact e53.1, by rw [wrO (by decide), wrO (by decide), wrO (by decide), wrO (by decide), wrN (by decide)]; exact e53.2, by rw [wrO (by decide), wrO (by decide), wrO (by decide), wrO (by decide), wrI]; decide⟩
  clear e1 e2 e3 e4
  unfold w_X6_own
  refine ⟨pl_52, ?_⟩
  have out : ∀ r M5 pt, vC kd t m pt M M5 → (pt = 0 ∨ pt = 1) → (pt = 0 → wrap r = wrap (if v = 3 ∧ wrap (m - t) = 0 then -1000000000 - 6 else if v = 0 then vR t kd x else if v = 1 then vW t m kd kd x else if v = 2 then vM t m kd kd x else vP t m kd kd x)) → (pt = 1 → v = 3 ∧ wrap (m - t) = 0) → w_X6_isParted 52 M5 (fun r77c M77 => (wrap r77c = 0 → k r M77) ∧ (¬ wrap r77c = 0 → w_X8_refuse 6 M77 (fun r86c M86 => k r86c M86))) := by
    intro r M5 pt g5 hp q0 q1
    obtain ⟨a5, K5⟩ := vC_cK g5 hK
    rw [hA] at a5
    unfold w_X6_isParted
    rw [g5.2.2.2.2.1]
    refine ⟨pl_52, hp, ?_⟩
    rcases hp with rfl | rfl
    · exact z0 (hh r M5 (q0 rfl) a5 K5)
    · refine z1 (bad2 (S := if v = 3 ∧ wrap (m - t) = 0 then -1000000000 - 6 else if v = 0 then vR t kd x else if v = 1 then vW t m kd kd x else if v = 2 then vM t m kd kd x else vP t m kd kd x) (by decide) (by decide) K5 (if_pos (q1 rfl)) (fun r M' a b c => hh r M' a (b.trans a5) c))
  show wg_X6_own 52 (59 + 1) 0 [v, x, 0] M4 _
  refine c_own g ?_
  rcases (show v = 0 ∨ v = 1 ∨ v = 2 ∨ v = 3 by omega) with rfl | rfl | rfl | rfl
  · exact v_rings (d := 51) tk (by decide) M4 _ g (fun M5 g5 => out _ M5 0 g5 (Or.inl rfl) (fun _ => rfl) (fun z => absurd z (by decide)))
  · exact v_weighs (d := 43) tk tk (by decide) M4 _ g (fun M5 g5 => out _ M5 0 g5 (Or.inl rfl) (fun _ => rfl) (fun z => absurd z (by decide)))
  · exact v_melts (d := 37) tk tk (by decide) M4 _ g (fun M5 g5 => out _ M5 0 g5 (Or.inl rfl) (fun _ => rfl) (fun z => absurd z (by decide)))
  · refine v_parts (d := 29) tk tk (by decide) g (fun M5 g5 => out _ M5 (pC t m) g5 ?_ (fun z => ?_) (fun z => ?_))
    · unfold pC; split
      · exact Or.inr rfl
      · exact Or.inl rfl
    · unfold pC at z
      by_cases y : wrap (m - t) = 0
      · rw [if_pos y] at z; exact absurd z (by decide)
      · rw [if_neg (fun q => y q.2), if_neg (by decide), if_neg (by decide), if_neg (by decide)]
    · unfold pC at z
      by_cases y : wrap (m - t) = 0
      · exact ⟨rfl, y⟩
      · rw [if_neg y] at z; exact absurd z (by decide)
-- the reference's voices
theorem r_abv {x : Int} {M : gSt} {k : Int → gSt → Prop} (hx : 0 ≤ x ∧ x ≤ 6) (h : k (abv x) M) : w_Rabove x M k := by
  unfold w_Rabove
  unfold abv at h
  rw [wI (x := x) ⟨by omega, by omega⟩]
  refine ⟨fun a => ⟨fun b => ⟨fun c => ?_, fun c => ?_⟩, fun b => ?_⟩, fun a => ?_⟩
  · rw [if_neg a, if_neg b, if_neg c] at h; exact h
  · rw [if_neg a, if_neg b, if_pos c] at h; exact h
  · rw [if_neg a, if_pos b] at h; exact h
  · rw [if_pos a] at h; exact h
def rV (t pt : Int) (M0 M : gSt) : Prop := (∀ p, p ≠ 0 → p ≠ 10 → M p = M0 p) ∧ (∀ i, i ≠ 16 → i ≠ 17 → i ≠ 18 → M 0 i = M0 0 i) ∧ M 0 17 = t ∧ M 0 18 = pt ∧ (0 ≤ M 0 16 ∧ M 0 16 ≤ 30)
theorem rV_abs {t pt : Int} {M0 M : gSt} (g : rV t pt M0 M) : absR M = absR M0 := absR_eq (g.1 1 (by decide) (by decide)) (g.1 2 (by decide) (by decide)) (g.2.1 3 (by decide) (by decide) (by decide)) (g.1 11 (by decide) (by decide)) (g.1 12 (by decide) (by decide)) (g.1 13 (by decide) (by decide))
theorem r_begins {t pt b : Int} {M0 M : gSt} {k : gSt → Prop} (g : rV t pt M0 M) (h : ∀ M', rV t pt M0 M' → k M') : w_Rbegins b M k := by
  obtain ⟨g1, g2, g3, g4, g5⟩ := g
  unfold w_Rbegins
  rw [wI (x := M 0 16) ⟨by omega, by omega⟩]
  refine ⟨fun _ => h M ⟨g1, g2, g3, g4, g5⟩, fun z => ⟨⟨g5.1, z⟩, fun M1 e1 M2 e2 => h M2 ?_⟩⟩
  have q : M1 0 = M 0 := by rw [e1]; exact wrO' (by decide)
  refine ⟨fun p a b => by rw [e2, wrO' a, e1, wrO' b]; exact g1 p a b, fun i a b c => by rw [e2, wrN a, q]; exact g2 i a b c, by rw [e2, wrN (by decide), q]; exact g3, by rw [e2, wrN (by decide), q]; exact g4, by rw [e2, wrI, q]; omega⟩
section VR
variable {t pt kd m : Int} {M0 : gSt}
def goR (t pt : Int) (M0 : gSt) (r : Int) (P : gSt → (Int → gSt → Prop) → Prop) : Prop := ∀ M kk, rV t pt M0 M → (∀ M', rV t pt M0 M' → kk r M') → P M kk
theorem r_kind (ht : 0 ≤ t ∧ t ≤ 12) (ek : absR M0 1 (10 * t + 0) = kd) : goR t pt M0 kd (fun M k => w_RkindNow M k) := by
  intro M kk g h
  show w_RkindNow M kk
  unfold w_RkindNow
  rw [g.2.2.1]
  refine sp_Rits ht (by decide) ?_
  rw [rV_abs g, ek]
  exact h M g
theorem r_m (ht : 0 ≤ t ∧ t ≤ 12) (em : absR M0 1 (10 * t + 1) = m) : goR t pt M0 m (fun M k => w_RmNow M k) := by
  intro M kk g h
  show w_RmNow M kk
  unfold w_RmNow
  rw [g.2.2.1]
  refine sp_Rits ht (by decide) ?_
  rw [rV_abs g, em]
  exact h M g
theorem rr0 {f x : Int} {d : Nat} (hf : f = 0 ∨ f = 2 ∨ f = 3 ∨ f = 5) : goR t pt M0 (x + t) (wg_RringsBy (d + 3) 0 [f, x]) := by
  have b0 : ∀ d : Nat, goR t pt M0 (x + t) (wg_RringsBy (d + 1) 0 [0, x]) := by
    intro d M kk g h
    show wb_RringsBy (wg_RringsBy _) 0 x M kk
    unfold wb_RringsBy
    refine ⟨fun _ => ?_, fun z => absurd z (by decide), fun z => absurd z (by decide), fun z => absurd z (by decide), fun z => absurd z (by decide)⟩
    refine r_begins g (fun M1 g1 => ?_)
    rw [g1.2.2.1]
    exact h M1 g1
  have b2 : ∀ d : Nat, goR t pt M0 (x + t) (wg_RringsBy (d + 2) 0 [2, x]) := by
    intro d M kk g h
    show wb_RringsBy (wg_RringsBy _) 2 x M kk
    unfold wb_RringsBy
    refine ⟨fun z => absurd z (by decide), fun z => absurd z (by decide), fun z => absurd z (by decide), fun z => absurd z (by decide), fun _ => ?_⟩
    exact r_abv (by decide) (b0 d M _ g h)
  intro M kk g h
  rcases hf with rfl | rfl | rfl | rfl
  · exact b0 _ M kk g h
  · exact b2 _ M kk g h
  · show wb_RringsBy (wg_RringsBy _) 3 x M kk
    unfold wb_RringsBy
    refine ⟨fun z => absurd z (by decide), fun z => absurd z (by decide), fun z => absurd z (by decide), fun z => absurd z (by decide), fun _ => ?_⟩
    exact r_abv (by decide) (b0 _ M _ g h)
  · show wb_RringsBy (wg_RringsBy _) 5 x M kk
    unfold wb_RringsBy
    refine ⟨fun z => absurd z (by decide), fun z => absurd z (by decide), fun z => absurd z (by decide), fun z => absurd z (by decide), fun _ => ?_⟩
    exact r_abv (by decide) (b2 _ M _ g h)
theorem rr1 {x : Int} {d : Nat} : goR t pt M0 (x + t - 4) (wg_RringsBy (d + 4) 0 [1, x]) := by
  intro M kk g h
  · show wb_RringsBy (wg_RringsBy _) 1 x M kk
    unfold wb_RringsBy
    refine ⟨fun z => absurd z (by decide), fun _ => ?_, fun z => absurd z (by decide), fun z => absurd z (by decide), fun z => absurd z (by decide)⟩
    exact r_begins g (fun M1 g1 => r_abv (by decide) (rr0 (Or.inl rfl) M1 _ g1 h))
theorem r_rings8 {f x : Int} (hf : 0 ≤ f ∧ f ≤ 6) : goR t pt M0 (vR t f x) (w_RringsBy f x) := by
  intro M kk g h
  show wg_RringsBy 8 0 [f, x] M kk
  rcases (show (f = 0 ∨ f = 2 ∨ f = 3 ∨ f = 5) ∨ f = 1 ∨ f = 4 ∨ f = 6 by omega) with hz | rfl | rfl | rfl
  · have e : vR t f x = x + t := by unfold vR; rw [if_neg (by omega), if_neg (by omega), if_neg (by omega)]
    rw [e] at h
    exact rr0 (d := 5) hz M kk g h
  · exact rr1 (d := 4) M kk g h
  · show wb_RringsBy (wg_RringsBy _) 4 x M kk
    unfold wb_RringsBy
    refine ⟨fun z => absurd z (by decide), fun z => absurd z (by decide), fun _ => ?_, fun z => absurd z (by decide), fun z => absurd z (by decide)⟩
    exact r_begins g (fun M1 g1 => r_abv (by decide) (rr1 (d := 3) M1 _ g1 h))
  · show wb_RringsBy (wg_RringsBy _) 6 x M kk
    unfold wb_RringsBy
    refine ⟨fun z => absurd z (by decide), fun z => absurd z (by decide), fun z => absurd z (by decide), fun _ => ?_, fun z => absurd z (by decide)⟩
    exact r_begins g (fun M1 g1 => h M1 g1)
theorem rw0 {f x : Int} {d : Nat} (ht : 0 ≤ t ∧ t ≤ 12) (ek : absR M0 1 (10 * t + 0) = kd) (hk : 0 ≤ kd ∧ kd ≤ 6) (hf : f = 0 ∨ f = 1 ∨ f = 3 ∨ f = 4) : goR t pt M0 (vR t kd x * 2) (wg_RweighsBy (d + 3) 0 [f, x]) := by
  have b0 : ∀ d : Nat, goR t pt M0 (vR t kd x * 2) (wg_RweighsBy (d + 1) 0 [0, x]) := by
    intro d M kk g h
    show wb_RweighsBy (wg_RweighsBy _) 0 x M kk
    unfold wb_RweighsBy
    refine ⟨fun _ => ?_, fun z => absurd z (by decide), fun z => absurd z (by decide), fun z => absurd z (by decide), fun z => absurd z (by decide)⟩
    exact r_begins g (fun M1 g1 => r_kind ht ek M1 _ g1 (fun M2 g2 => r_rings8 hk M2 _ g2 h))
  have b1 : ∀ d : Nat, goR t pt M0 (vR t kd x * 2) (wg_RweighsBy (d + 2) 0 [1, x]) := by
    intro d M kk g h
    show wb_RweighsBy (wg_RweighsBy _) 1 x M kk
    unfold wb_RweighsBy
    refine ⟨fun z => absurd z (by decide), fun z => absurd z (by decide), fun z => absurd z (by decide), fun z => absurd z (by decide), fun _ => ?_⟩
    exact r_abv (by decide) (b0 d M _ g h)
  intro M kk g h
  rcases hf with rfl | rfl | rfl | rfl
  · exact b0 _ M kk g h
  · exact b1 _ M kk g h
  · show wb_RweighsBy (wg_RweighsBy _) 3 x M kk
    unfold wb_RweighsBy
    refine ⟨fun z => absurd z (by decide), fun z => absurd z (by decide), fun z => absurd z (by decide), fun z => absurd z (by decide), fun _ => ?_⟩
    exact r_abv (by decide) (b0 _ M _ g h)
  · show wb_RweighsBy (wg_RweighsBy _) 4 x M kk
    unfold wb_RweighsBy
    refine ⟨fun z => absurd z (by decide), fun z => absurd z (by decide), fun z => absurd z (by decide), fun z => absurd z (by decide), fun _ => ?_⟩
    exact r_abv (by decide) (b1 _ M _ g h)
theorem rw2 {x : Int} {d : Nat} (ht : 0 ≤ t ∧ t ≤ 12) (ek : absR M0 1 (10 * t + 0) = kd) (hk : 0 ≤ kd ∧ kd ≤ 6) : goR t pt M0 (0 - vR t kd x * 2) (wg_RweighsBy (d + 4) 0 [2, x]) := by
  intro M kk g h
  · show wb_RweighsBy (wg_RweighsBy _) 2 x M kk
    unfold wb_RweighsBy
    refine ⟨fun z => absurd z (by decide), fun _ => ?_, fun z => absurd z (by decide), fun z => absurd z (by decide), fun z => absurd z (by decide)⟩
    exact r_begins g (fun M1 g1 => r_abv (by decide) (rw0 ht ek hk (Or.inl rfl) M1 _ g1 h))
theorem r_weighs8 {f x : Int} (ht : 0 ≤ t ∧ t ≤ 12) (ek : absR M0 1 (10 * t + 0) = kd) (em : absR M0 1 (10 * t + 1) = m) (hk : 0 ≤ kd ∧ kd ≤ 6) (hf : 0 ≤ f ∧ f ≤ 6) : goR t pt M0 (vW t m kd f x) (w_RweighsBy f x) := by
  intro M kk g h
  show wg_RweighsBy 8 0 [f, x] M kk
  rcases (show (f = 0 ∨ f = 1 ∨ f = 3 ∨ f = 4) ∨ f = 2 ∨ f = 5 ∨ f = 6 by omega) with hz | rfl | rfl | rfl
  · have e : vW t m kd f x = vR t kd x * 2 := by unfold vW; rw [if_neg (by omega), if_neg (by omega), if_neg (by omega)]
    rw [e] at h
    exact rw0 (d := 5) ht ek hk hz M kk g h
  · exact rw2 (d := 4) ht ek hk M kk g h
  · show wb_RweighsBy (wg_RweighsBy _) 5 x M kk
    unfold wb_RweighsBy
    refine ⟨fun z => absurd z (by decide), fun z => absurd z (by decide), fun _ => ?_, fun z => absurd z (by decide), fun z => absurd z (by decide)⟩
    exact r_begins g (fun M1 g1 => r_abv (by decide) (rw2 (d := 3) ht ek hk M1 _ g1 h))
  · show wb_RweighsBy (wg_RweighsBy _) 6 x M kk
    unfold wb_RweighsBy
    refine ⟨fun z => absurd z (by decide), fun z => absurd z (by decide), fun z => absurd z (by decide), fun _ => ?_, fun z => absurd z (by decide)⟩
    exact r_begins g (fun M1 g1 => r_abv (by decide) (rw0 (d := 4) ht ek hk (Or.inr (Or.inr (Or.inl rfl))) M1 _ g1 (fun M2 g2 => r_m ht em M2 _ g2 h)))
theorem rm0v {f x : Int} {d : Nat} (ht : 0 ≤ t ∧ t ≤ 12) (ek : absR M0 1 (10 * t + 0) = kd) (em : absR M0 1 (10 * t + 1) = m) (hk : 0 ≤ kd ∧ kd ≤ 6) (hf : f = 0 ∨ f = 1 ∨ f = 2 ∨ f = 5) : goR t pt M0 (vW t m kd kd x - m) (wg_RmeltsBy (d + 3) 0 [f, x]) := by
  have b0 : ∀ d : Nat, goR t pt M0 (vW t m kd kd x - m) (wg_RmeltsBy (d + 1) 0 [0, x]) := by
    intro d M kk g h
    show wb_RmeltsBy (wg_RmeltsBy _) 0 x M kk
    unfold wb_RmeltsBy
    refine ⟨fun _ => ?_, fun z => absurd z (by decide), fun z => absurd z (by decide), fun z => absurd z (by decide)⟩
    exact r_begins g (fun M1 g1 => r_kind ht ek M1 _ g1 (fun M2 g2 => r_weighs8 ht ek em hk hk M2 _ g2 (fun M3 g3 => r_m ht em M3 _ g3 h)))
  have b2 : ∀ d : Nat, goR t pt M0 (vW t m kd kd x - m) (wg_RmeltsBy (d + 2) 0 [2, x]) := by
    intro d M kk g h
    show wb_RmeltsBy (wg_RmeltsBy _) 2 x M kk
    unfold wb_RmeltsBy
    refine ⟨fun z => absurd z (by decide), fun z => absurd z (by decide), fun z => absurd z (by decide), fun _ => ?_⟩
    exact r_abv (by decide) (b0 d M _ g h)
  intro M kk g h
  rcases hf with rfl | rfl | rfl | rfl
  · exact b0 _ M kk g h
  · show wb_RmeltsBy (wg_RmeltsBy _) 1 x M kk
    unfold wb_RmeltsBy
    refine ⟨fun z => absurd z (by decide), fun z => absurd z (by decide), fun z => absurd z (by decide), fun _ => ?_⟩
    exact r_abv (by decide) (b0 _ M _ g h)
  · exact b2 _ M kk g h
  · show wb_RmeltsBy (wg_RmeltsBy _) 5 x M kk
    unfold wb_RmeltsBy
    refine ⟨fun z => absurd z (by decide), fun z => absurd z (by decide), fun z => absurd z (by decide), fun _ => ?_⟩
    exact r_abv (by decide) (b2 _ M _ g h)
theorem rm3 {x : Int} {d : Nat} (ht : 0 ≤ t ∧ t ≤ 12) (ek : absR M0 1 (10 * t + 0) = kd) (em : absR M0 1 (10 * t + 1) = m) (hk : 0 ≤ kd ∧ kd ≤ 6) : goR t pt M0 (vW t m kd kd (Int.tdiv (wrap x) 2) - m) (wg_RmeltsBy (d + 4) 0 [3, x]) := by
  intro M kk g h
  · show wb_RmeltsBy (wg_RmeltsBy _) 3 x M kk
    unfold wb_RmeltsBy
    refine ⟨fun z => absurd z (by decide), fun _ => ?_, fun z => absurd z (by decide), fun z => absurd z (by decide)⟩
    exact r_begins g (fun M1 g1 => r_abv (by decide) (rm0v ht ek em hk (Or.inl rfl) M1 _ g1 h))
theorem r_melts8 {f x : Int} (ht : 0 ≤ t ∧ t ≤ 12) (ek : absR M0 1 (10 * t + 0) = kd) (em : absR M0 1 (10 * t + 1) = m) (hk : 0 ≤ kd ∧ kd ≤ 6) (hf : 0 ≤ f ∧ f ≤ 6) : goR t pt M0 (vM t m kd f x) (w_RmeltsBy f x) := by
  intro M kk g h
  show wg_RmeltsBy 8 0 [f, x] M kk
  rcases (show (f = 0 ∨ f = 1 ∨ f = 2 ∨ f = 5) ∨ f = 3 ∨ f = 4 ∨ f = 6 by omega) with hz | rfl | rfl | rfl
  · have e : vM t m kd f x = vW t m kd kd x - m := by unfold vM; rw [if_neg (by omega), if_neg (by omega)]
    rw [e] at h
    exact rm0v (d := 5) ht ek em hk hz M kk g h
  · exact rm3 (d := 4) ht ek em hk M kk g h
  · show wb_RmeltsBy (wg_RmeltsBy _) 4 x M kk
    unfold wb_RmeltsBy
    refine ⟨fun z => absurd z (by decide), fun z => absurd z (by decide), fun _ => ?_, fun z => absurd z (by decide)⟩
    refine r_begins g (fun M1 g1 => r_abv (by decide) (rm0v (d := 4) ht ek em hk (Or.inr (Or.inl rfl)) M1 _ g1 (fun M2 g2 => ?_)))
    rw [g2.2.2.1]
    exact h M2 g2
  · show wb_RmeltsBy (wg_RmeltsBy _) 6 x M kk
    unfold wb_RmeltsBy
    refine ⟨fun z => absurd z (by decide), fun z => absurd z (by decide), fun z => absurd z (by decide), fun _ => ?_⟩
    exact r_abv (by decide) (rm3 (d := 3) ht ek em hk M _ g h)
theorem wrap_neg {x : Int} : wrap (-x) = wrap (Int.tdiv (wrap x) (-1)) := by
  rw [Int.tdiv_neg, Int.tdiv_one]
  unfold wrap
  omega
theorem rp0v {f x : Int} {d : Nat} {M : gSt} {kk : Int → gSt → Prop} (ht : 0 ≤ t ∧ t ≤ 12) (em : absR M0 1 (10 * t + 1) = m) (hf : f = 0 ∨ f = 2 ∨ f = 3 ∨ f = 5 ∨ f = 6) (g : rV t 0 M0 M) (h : ∀ r M', wrap r = wrap (qP t m x) → rV t (pC t m) M0 M' → kk r M') : wg_RpartsBy (d + 3) 0 [f, x] M kk := by
  have b0 : ∀ (d : Nat) (M : gSt) (kk : Int → gSt → Prop), rV t 0 M0 M → (∀ r M', wrap r = wrap (qP t m x) → rV t (pC t m) M0 M' → kk r M') → wg_RpartsBy (d + 1) 0 [0, x] M kk := by
    intro d M kk g h
    show wb_RpartsBy (wg_RpartsBy _) 0 x M kk
    unfold wb_RpartsBy
    refine ⟨fun _ => ?_, fun z => absurd z (by decide), fun z => absurd z (by decide)⟩
    refine r_begins g (fun M1 g1 => r_m ht em M1 _ g1 (fun M2 g2 y ey => ?_))
    rw [g2.2.2.1] at ey
    subst ey
    unfold wB_RpartsBy_54
    have st : ∀ v M3, M3 = wr M2 0 18 v → rV t v M0 M3 := fun v M3 e => by
      obtain ⟨q1, q2, q3, q4, q5⟩ := g2
      rw [e]
      exact ⟨fun p a b => by rw [wrO' a]; exact q1 p a b, fun i a b c => by rw [wrN c]; exact q2 i a b c, by rw [wrN (by decide)]; exact q3, wrI, by rw [wrN (by decide)]; exact q5⟩
    unfold pC qP at h
    refine ⟨fun z => ⟨Or.inl rfl, fun M3 e3 => ⟨fun _ => ⟨fun n => ⟨z, ?_⟩, fun n => ?_⟩, fun z2 => absurd z2 z⟩⟩, fun z => ⟨Or.inr rfl, fun M3 e3 => ⟨fun z2 => absurd z z2, fun _ => ?_⟩⟩⟩
    · exact h _ M3 (by rw [if_neg z]) (by rw [if_neg z]; exact st 0 M3 e3)
    · exact h _ M3 (by rw [if_neg z, n]; exact wrap_neg) (by rw [if_neg z]; exact st 0 M3 e3)
    · exact h _ M3 (by rw [if_pos z]) (by rw [if_pos z]; exact st 1 M3 e3)
  have b2 : ∀ (f : Int) (d : Nat) (M : gSt) (kk : Int → gSt → Prop), f = 2 ∨ f = 3 → rV t 0 M0 M → (∀ r M', wrap r = wrap (qP t m x) → rV t (pC t m) M0 M' → kk r M') → wg_RpartsBy (d + 2) 0 [f, x] M kk := by
    intro f d M kk hf g h
    rcases hf with rfl | rfl
    · show wb_RpartsBy (wg_RpartsBy _) 2 x M kk
      unfold wb_RpartsBy
      refine ⟨fun z => absurd z (by decide), fun z => absurd z (by decide), fun _ => ?_⟩
      exact r_abv (by decide) (b0 d M _ g h)
    · show wb_RpartsBy (wg_RpartsBy _) 3 x M kk
      unfold wb_RpartsBy
      refine ⟨fun z => absurd z (by decide), fun z => absurd z (by decide), fun _ => ?_⟩
      exact r_abv (by decide) (b0 d M _ g h)
  rcases hf with rfl | rfl | rfl | rfl | rfl
  · exact b0 _ M kk g h
  · exact b2 2 _ M kk (Or.inl rfl) g h
  · exact b2 3 _ M kk (Or.inr rfl) g h
  · show wb_RpartsBy (wg_RpartsBy _) 5 x M kk
    unfold wb_RpartsBy
    refine ⟨fun z => absurd z (by decide), fun z => absurd z (by decide), fun _ => ?_⟩
    exact r_abv (by decide) (b2 2 _ M _ (Or.inl rfl) g h)
  · show wb_RpartsBy (wg_RpartsBy _) 6 x M kk
    unfold wb_RpartsBy
    refine ⟨fun z => absurd z (by decide), fun z => absurd z (by decide), fun _ => ?_⟩
    exact r_abv (by decide) (b2 3 _ M _ (Or.inr rfl) g h)
theorem rp1v {x : Int} {d : Nat} {M : gSt} {kk : Int → gSt → Prop} (ht : 0 ≤ t ∧ t ≤ 12) (ek : absR M0 1 (10 * t + 0) = kd) (em : absR M0 1 (10 * t + 1) = m) (hk : 0 ≤ kd ∧ kd ≤ 6) (g : rV t 0 M0 M) (h : ∀ r M', (pC t m = 0 → wrap r = wrap (qP t m x + vW t m kd kd 1)) → rV t (pC t m) M0 M' → kk r M') : wg_RpartsBy (d + 4) 0 [1, x] M kk := by
  · show wb_RpartsBy (wg_RpartsBy _) 1 x M kk
    unfold wb_RpartsBy
    refine ⟨fun z => absurd z (by decide), fun _ => ?_, fun z => absurd z (by decide)⟩
    refine r_begins g (fun M1 g1 => r_abv (by decide) (rp0v ht em (Or.inl rfl) g1 (fun r M2 e2 g2 => ?_)))
    have p01 : pC t m = 0 ∨ pC t m = 1 := by unfold pC; split <;> omega
    rw [g2.2.2.2.1]
    refine ⟨fun z => ?_, fun z => h 0 M2 (fun y => absurd (by rw [y]; rfl) z) g2⟩
    refine r_kind ht ek M2 _ g2 (fun M3 g3 => r_weighs8 ht ek em hk hk M3 _ g3 (fun M4 g4 => h _ M4 (fun _ => ?_) g4))
    unfold wrap at e2 ⊢
    omega
theorem r_parts8 {f x : Int} {M : gSt} {kk : Int → gSt → Prop} (ht : 0 ≤ t ∧ t ≤ 12) (ek : absR M0 1 (10 * t + 0) = kd) (em : absR M0 1 (10 * t + 1) = m) (hk : 0 ≤ kd ∧ kd ≤ 6) (hf : 0 ≤ f ∧ f ≤ 6) (g : rV t 0 M0 M) (h : ∀ r M', (pC t m = 0 → wrap r = wrap (vP t m kd f x)) → rV t (pC t m) M0 M' → kk r M') : w_RpartsBy f x M kk := by
  show wg_RpartsBy 8 0 [f, x] M kk
  rcases (show (f = 0 ∨ f = 2 ∨ f = 3 ∨ f = 5 ∨ f = 6) ∨ f = 1 ∨ f = 4 by omega) with hz | rfl | rfl
  · have e : vP t m kd f x = qP t m x := by unfold vP; rw [if_neg (by omega)]
    rw [e] at h
    exact rp0v (d := 5) ht em hz g (fun r M' a b => h r M' (fun _ => a) b)
  · exact rp1v (d := 4) ht ek em hk g h
  · show wb_RpartsBy (wg_RpartsBy _) 4 x M kk
    unfold wb_RpartsBy
    refine ⟨fun z => absurd z (by decide), fun z => absurd z (by decide), fun _ => ?_⟩
    exact r_abv (by decide) (rp1v (d := 3) ht ek em hk g h)
end VR
/-- raw texts, image: as fr, but the trace's length -/
def frV (M M' : gSt) : Prop := (∀ j, 202 ≤ j → j < 452 → M' 1 j = M 1 j) ∧ M' 2 = M 2 ∧ (0 ≤ M' 0 16 ∧ M' 0 16 ≤ 30)
theorem sR_voice {t v x : Int} {M : gSt} {k : Int → gSt → Prop} (i0 : inI t) (i1 : inI v) (I : iN (absR M)) (J : iB (absR M)) (h16 : 0 ≤ M 0 16 ∧ M 0 16 ≤ 30) (hh : ∀ r M', wrap r = wrap (S_voice t v x (absR M)) → absR M' = absR M → frV M M' → k r M') : w_Rvoice t v x M k := by
  have I' := I
  unfold iN at I'
  generalize hA : absR M = σ at *
  have bd : ¬ ((0 ≤ t ∧ t < σ 0 0) ∧ (0 ≤ v ∧ v ≤ 3)) → wB_Rvoice_17 t v x k M := fun h => bad2R (S := S_voice t v x σ) (by decide) (by decide) (if_pos h) (fun r M' a b c => hh r M' a (b.trans hA) ⟨c.1, c.2.1, by rw [c.2.2]; exact h16⟩)
  unfold w_Rvoice
  refine sp_RisThing i0 (by rw [hA]; exact ⟨by omega, by omega⟩) (fun h0 => z1 ?_) (fun h0 => z0 (bd (by rw [hA] at h0; omega)))
  rw [hA] at h0
  refine sp_Rin i1 (by constructor <;> decide) (by constructor <;> decide) (fun h1 => z1n ?_) (fun h1 => z0n (bd (by omega)))
  have hg : ¬ ¬ ((0 ≤ t ∧ t < σ 0 0) ∧ (0 ≤ v ∧ v ≤ 3)) := fun q => q ⟨h0, h1⟩
  intro M1 e1 M2 e2 M3 e3
  have g : rV t 0 M M3 := by
    subst e3; subst e2; subst e1
    exact ⟨fun p a b => by rw [wrO' a, wrO' a, wrO' a], fun i a b c => by rw [wrN c, wrN b, wrN a], by rw [wrN (by decide), wrI], wrI, by rw [wrN (by decide), wrN (by decide), wrI]; decide⟩
  clear e1 e2 e3
  have hS : S_voice t v x σ = _ := if_neg hg
  rw [hS] at hh
  obtain ⟨tk, tm, -⟩ := J t h0.1 (by omega)
  have ht : 0 ≤ t ∧ t ≤ 12 := ⟨by omega, by omega⟩
  have ek : absR M 1 (10 * t + 0) = σ 1 (10 * t + 0) := by rw [hA]
  have em : absR M 1 (10 * t + 1) = σ 1 (10 * t + 1) := by rw [hA]
  generalize σ 1 (10 * t + 0) = kd at *
  generalize σ 1 (10 * t + 1) = m at *
  have fv : ∀ pt M5, rV t pt M M5 → frV M M5 := fun pt M5 g5 => ⟨fun j _ _ => by rw [g5.1 1 (by decide) (by decide)], g5.1 2 (by decide) (by decide), g5.2.2.2.2⟩
  have out : ∀ r M5 pt, rV t pt M M5 → (pt = 0 ∨ pt = 1) → (pt = 0 → wrap r = wrap (if v = 3 ∧ wrap (m - t) = 0 then -1000000000 - 6 else if v = 0 then vR t kd x else if v = 1 then vW t m kd kd x else if v = 2 then vM t m kd kd x else vP t m kd kd x)) → (pt = 1 → v = 3 ∧ wrap (m - t) = 0) → wB_Rvoice_95 t v x k r M5 := by
    intro r M5 pt g5 hp q0 q1
    unfold wB_Rvoice_95
    rw [g5.2.2.2.1]
    rcases hp with rfl | rfl
    · exact z0 (hh r M5 (q0 rfl) ((rV_abs g5).trans hA) (fv _ M5 g5))
    · refine z1 (bad2R (S := if v = 3 ∧ wrap (m - t) = 0 then -1000000000 - 6 else if v = 0 then vR t kd x else if v = 1 then vW t m kd kd x else if v = 2 then vM t m kd kd x else vP t m kd kd x) (by decide) (by decide) (if_pos (q1 rfl)) (fun r M' a b c => hh r M' a (b.trans ((rV_abs g5).trans hA)) ⟨fun j p q => (c.1 j p q).trans ((fv _ M5 g5).1 j p q), c.2.1.trans (fv _ M5 g5).2.1, by rw [c.2.2]; exact g5.2.2.2.2⟩))
  refine r_kind ht ek M3 _ g (fun M4 g4 => ?_)
  rw [wI i1]
  rcases (show v = 0 ∨ v = 1 ∨ v = 2 ∨ v = 3 by omega) with rfl | rfl | rfl | rfl
  · exact ⟨fun z => absurd rfl z, fun _ => r_rings8 tk M4 _ g4 (fun M5 g5 => out _ M5 0 g5 (Or.inl rfl) (fun _ => rfl) (fun z => absurd z (by decide)))⟩
  · exact ⟨fun _ => ⟨fun z => absurd rfl z, fun _ => r_weighs8 ht ek em tk tk M4 _ g4 (fun M5 g5 => out _ M5 0 g5 (Or.inl rfl) (fun _ => rfl) (fun z => absurd z (by decide)))⟩, fun z => absurd z (by decide)⟩
  · exact ⟨fun _ => ⟨fun _ => ⟨fun z => absurd rfl z, fun _ => r_melts8 ht ek em tk tk M4 _ g4 (fun M5 g5 => out _ M5 0 g5 (Or.inl rfl) (fun _ => rfl) (fun z => absurd z (by decide)))⟩, fun z => absurd z (by decide)⟩, fun z => absurd z (by decide)⟩
  · refine ⟨fun _ => ⟨fun _ => ⟨fun _ => r_parts8 ht ek em tk tk g4 (fun r M5 er g5 => out _ M5 (pC t m) g5 ?_ (fun z => ?_) (fun z => ?_)), fun z => absurd z (by decide)⟩, fun z => absurd z (by decide)⟩, fun z => absurd z (by decide)⟩
    · unfold pC; split
      · exact Or.inr rfl
      · exact Or.inl rfl
    · have e := er z
      unfold pC at z
      by_cases y : wrap (m - t) = 0
      · rw [if_pos y] at z; exact absurd z (by decide)
      · rw [if_neg (fun q => y q.2), if_neg (by decide), if_neg (by decide), if_neg (by decide)]
        exact e
    · unfold pC at z
      by_cases y : wrap (m - t) = 0
      · exact ⟨rfl, y⟩
      · rw [if_neg y] at z; exact absurd z (by decide)
