-- span, next: both sides
theorem his_ok {σ : gSt} {h : Int} (I : iN σ) (J : iB σ) (P : iP σ) : ∀ t, 0 ≤ t → t ≤ 12 → thOk (hisB σ h) (10 * t) := by
  unfold iN at I
  exact byB_ok J P (σ 0 3).toNat (by omega)
theorem gC_fol {σ M0 M M' : gSt} {B : Int → Int} (g : gFd σ M0 M) (f : folC B M M') : gFd σ M0 M' := by
  obtain ⟨g1, g2, g3, g4, g5⟩ := g
  have m44 : M' 44 = M 44 := f.1 44 (by decide) (by decide)
  have m45 : M' 45 = M 45 := f.1 45 (by decide) (by decide)
  have m46 : M' 46 = M 46 := f.1 46 (by decide) (by decide)
  exact ⟨fun p hp => by rw [f.1 p (by omega) (by omega)]; exact g1 p hp, by rw [m44]; exact g2, by rw [m44]; exact g3, by rw [m44]; exact g4, fun j a b => by rw [m45, m46]; exact g5 j a b⟩
theorem r_after {σ M0 M : gSt} {h t w : Int} {k : Int → gSt → Prop} (I : iN σ) (J : iB σ) (P : iP σ) (g : gRd σ M0 M) (ht : 0 ≤ t ∧ t ≤ 12) (hw : 0 ≤ w ∧ w ≤ 9) (hk : ∀ M', gRd σ M0 M' → M' 9 = M 9 → k (hisB σ h (10 * t + w)) M') : w_Rafter h t w M k := by
  obtain ⟨a, F, c, l⟩ := g
  unfold w_Rafter
  refine sp_Rcarry (Or.inl rfl) (Or.inr (Or.inr rfl)) (by decide) (r_goes (aside.trans a) I J P (fun M1 A O F1 => sp_Rits ht hw ?_))
  refine r_back (M := M) (by rw [a]; exact I) rfl (fun p hp => O p hp) (fun M' a' f e => ?_)
  rw [A]
  exact hk M' ⟨a'.trans a, fr_trans F f, by rw [e 0 (by decide) (by decide)]; exact c, by rw [e 8 (by decide) (by decide)]; exact l⟩ (e 9 (by decide) (by decide))
def vH (σ : gSt) (t w j : Int) : Int := hisB σ (fF σ j) (10 * t + w)
def outF (v : Int → Int) (g : Int) : Nat → Int
  | 0 => 0
  | n + 1 => if n = 0 then v n else if g = 1 then (if outF v g n < v n then v n else outF v g n) else (if v n < outF v g n then v n else outF v g n)
theorem outF_s {v : Int → Int} {g : Int} {n : Nat} : outF v g (n + 1) = if n = 0 then v n else if g = 1 then (if outF v g n < v n then v n else outF v g n) else (if v n < outF v g n then v n else outF v g n) := rfl
theorem outF_rng {v : Int → Int} {g hi : Int} (h : 0 ≤ hi) : ∀ n : Nat, (∀ j : Nat, j < n → 0 ≤ v j ∧ v j ≤ hi) → 0 ≤ outF v g n ∧ outF v g n ≤ hi
  | 0, _ => ⟨Int.le_refl _, h⟩
  | n + 1, hv => by
    have ih := outF_rng (g := g) h n (fun j hj => hv j (by omega))
    have := hv n (by omega)
    rw [outF_s]
    split
    · exact this
    · split <;> split <;> first | exact this | exact ih
theorem vH_rng {σ : gSt} {t w j : Int} (I : iN σ) (J : iB σ) (P : iP σ) (ht : 0 ≤ t ∧ t ≤ 12) (hw : 6 ≤ w ∧ w ≤ 9) : 0 ≤ vH σ t w j ∧ vH σ t w j ≤ 1000000 := by
  have o := his_ok (h := fF σ j) I J P t ht.1 ht.2
  obtain ⟨o0, o1, o2, o3, o4, o5, o6, o7, o8, o9⟩ := o
  unfold vH
  rcases (show w = 6 ∨ w = 7 ∨ w = 8 ∨ w = 9 by omega) with rfl | rfl | rfl | rfl
  · exact o6
  · exact o7
  · exact o8
  · exact o9
def S_span (t f g : Int) (σ : gSt) : Int := if ¬ ((0 ≤ t ∧ t < σ 0 0) ∧ (0 ≤ f ∧ f ≤ 3) ∧ (0 ≤ g ∧ g ≤ 1)) then -1000000000 - 1 else if fC σ = 0 then -1000000000 - 2 else outF (vH σ t (6 + f)) g (fC σ).toNat
theorem sC_span {t f g : Int} {M : gSt} {k : Int → gSt → Prop} (i0 : inI t) (i1 : inI f) (i2 : inI g) (I : iN (absC M)) (J : iB (absC M)) (P : iP (absC M)) (G : iG (absC M)) (hK : cK M) (hh : ∀ r M', wrap r = wrap (S_span t f g (absC M)) → absC M' = absC M → cK M' → k r M') : w_X8_span t f g M k := by
  have I' := I
  unfold iN at I'
  have n0 := rc00 M
  generalize hA : absC M = σ at *
  have rC := fC_rng I
  have bd : ¬ ((0 ≤ t ∧ t < σ 0 0) ∧ (0 ≤ f ∧ f ≤ 3) ∧ (0 ≤ g ∧ g ≤ 1)) → wB_X8_span_32 t f g k M := fun h => bad2 (S := S_span t f g σ) (by decide) (by decide) hK (if_pos h) (fun r M' a b c => hh r M' a (b.trans hA) c)
  unfold w_X8_span
  refine sp_has0 pl_2 i0 ⟨by omega, by omega⟩ (fun h0 => z1 ?_) (fun h0 => z0 (bd (by omega)))
  refine sp_within i1 (by constructor <;> decide) (by constructor <;> decide) (fun h1 => z1 ?_) (fun h1 => z0 (bd (by omega)))
  refine sp_within i2 (by constructor <;> decide) (by constructor <;> decide) (fun h2 => z1n ?_) (fun h2 => z0n (bd (by omega)))
  have hg : ¬ ¬ ((0 ≤ t ∧ t < σ 0 0) ∧ (0 ≤ f ∧ f ≤ 3) ∧ (0 ≤ g ∧ g ≤ 1)) := fun q => q ⟨⟨h0.1, by omega⟩, h1, h2⟩
  refine c_find hA hK I J P G (fun M1 ga => ?_)
  change gFd σ M M1 at ga
  obtain ⟨a1, K1⟩ := fnd_abs ga hK
  rw [hA] at a1
  unfold w_X2_size
  refine ⟨pl_41, c_many4 ga ?_⟩
  dsimp only
  rw [wI (x := fC σ) ⟨by omega, by omega⟩, wI i2]
  have main : ∀ s0, inI s0 → (s0 = 1 ↔ g = 1) → (s0 = 0 ∨ s0 = 1) → ¬ fC σ = 0 → wB_X8_span_88 t f g k s0 (6 + f) t M1 := by
    intro s0 is0 hs hs2 hc
    have hS : S_span t f g σ = _ := (if_neg hg).trans (if_neg hc)
    rw [hS] at hh
    unfold wB_X8_span_88 w_X2_outermost
    refine ⟨pl_41, pl_1, (fC σ).toNat + 1, ?_⟩
    have lp : ∀ (r n : Nat) (M2 : gSt), n + r = (fC σ).toNat → gFd σ M M2 → wL_X2_outermost_6 41 1 t (6 + f) s0 (fun r88c M88 => k r88c M88) (fun u5_6 M6 => k u5_6 M6) (r + 1) (outF (vH σ t (6 + f)) g n) n M2 := by
      intro r
      induction r with
      | zero =>
        intro n M2 hn g2
        obtain ⟨a2, K2⟩ := fnd_abs g2 hK
        rw [hA] at a2
        unfold wL_X2_outermost_6 wC_X2_outermost_6
        refine c_many4 g2 ?_
        rw [wI (x := fC σ) ⟨by omega, by omega⟩, wI (x := (n : Int)) ⟨by omega, by omega⟩]
        refine ⟨fun _ => hh _ M2 (by rw [show (fC σ).toNat = n from by omega]) a2 K2, fun z => absurd z (by omega)⟩
      | succ r ih =>
        intro n M2 hn g2
        obtain ⟨a2, K2⟩ := fnd_abs g2 hK
        rw [hA] at a2
        have vr : ∀ j : Nat, 0 ≤ vH σ t (6 + f) j ∧ vH σ t (6 + f) j ≤ 1000000 := fun j => vH_rng I J P ⟨by omega, by omega⟩ ⟨by omega, by omega⟩
        have vn := vr n
        have on := outF_rng (v := vH σ t (6 + f)) (g := g) (hi := 1000000) (by decide) n (fun j _ => vr j)
        unfold wL_X2_outermost_6 wC_X2_outermost_6
        refine c_many4 g2 ?_
        rw [wI (x := fC σ) ⟨by omega, by omega⟩, wI (x := (n : Int)) ⟨by omega, by omega⟩]
        refine ⟨fun z => absurd z (by omega), fun _ => c_fit I g2 ⟨by omega, by omega⟩ (c_follow a2 K2 I J P (fun M3 fo => ?_))⟩
        have g3 := gC_fol g2 fo
        refine sp_number pl_42 rfl ⟨by omega, by omega⟩ ⟨by omega, by omega⟩ ?_
        have ev : M3 (41 + 1 + 1) (10 * t + (6 + f)) = vH σ t (6 + f) n := fo.2 _ (by omega) (by omega)
        rw [ev, wI (x := vH σ t (6 + f) n) ⟨by omega, by omega⟩, wI (x := outF (vH σ t (6 + f)) g n) ⟨by omega, by omega⟩, wI is0]
        have nx := ih (n + 1) M3 (by omega) g3
        rw [n1, outF_s] at nx
        unfold wB_X2_outermost_67 wB_X2_outermost_71
        refine ⟨fun e => ?_, fun e => ⟨fun e2 => ⟨fun e3 => ?_, fun e3 => ?_⟩, fun e2 => ⟨fun e3 => ?_, fun e3 => ?_⟩⟩⟩
        · rw [if_pos (by omega)] at nx; exact nx
        · rw [if_neg (by omega), if_neg (by omega), if_neg (by omega)] at nx; exact nx
        · rw [if_neg (by omega), if_neg (by omega), if_pos e3] at nx; exact nx
        · rw [if_neg (by omega), if_pos (by omega), if_neg (by omega)] at nx; exact nx
        · rw [if_neg (by omega), if_pos (by omega), if_pos e3] at nx; exact nx
    exact lp _ 0 M1 (by omega) ga
  refine ⟨fun z => ⟨fun e => main 0 (by constructor <;> decide) (by omega) (Or.inl rfl) z, fun e => main 1 (by constructor <;> decide) (by omega) (Or.inr rfl) z⟩, fun z => bad2 (S := S_span t f g σ) (by decide) (by decide) K1 ((if_neg hg).trans (if_pos z)) (fun r M' a b c => hh r M' a (b.trans a1) c)⟩
theorem sR_span {t f g : Int} {M : gSt} {k : Int → gSt → Prop} (i0 : inI t) (i1 : inI f) (i2 : inI g) (I : iN (absR M)) (J : iB (absR M)) (P : iP (absR M)) (G : iG (absR M)) (hh : ∀ r M', wrap r = wrap (S_span t f g (absR M)) → absR M' = absR M → fr M M' → k r M') : w_Rspan t f g M k := by
  have I' := I
  unfold iN at I'
  generalize hA : absR M = σ at *
  have rC := fC_rng I
  have bd : ¬ ((0 ≤ t ∧ t < σ 0 0) ∧ (0 ≤ f ∧ f ≤ 3) ∧ (0 ≤ g ∧ g ≤ 1)) → wB_Rspan_26 t f g k M := fun h => bad2R (S := S_span t f g σ) (by decide) (by decide) (if_pos h) (fun r M' a b c => hh r M' a (b.trans hA) c)
  unfold w_Rspan
  refine sp_RisThing i0 (by rw [hA]; exact ⟨by omega, by omega⟩) (fun h0 => z1 ?_) (fun h0 => z0 (bd (by rw [hA] at h0; omega)))
  rw [hA] at h0
  refine sp_Rin i1 (by constructor <;> decide) (by constructor <;> decide) (fun h1 => z1 ?_) (fun h1 => z0 (bd (by omega)))
  refine sp_Rin i2 (by constructor <;> decide) (by constructor <;> decide) (fun h2 => z1n ?_) (fun h2 => z0n (bd (by omega)))
  have hg : ¬ ¬ ((0 ≤ t ∧ t < σ 0 0) ∧ (0 ≤ f ∧ f ≤ 3) ∧ (0 ≤ g ∧ g ≤ 1)) := fun q => q ⟨h0, h1, h2⟩
  refine r_find hA I J P G (fun M1 fo => ?_)
  have ga := gRd_of fo
  rw [show M1 0 13 = fC σ from ga.2.2.1, wI (x := fC σ) ⟨by omega, by omega⟩]
  refine ⟨fun z => ?_, fun z => bad2R (S := S_span t f g σ) (by decide) (by decide) ((if_neg hg).trans (if_pos z)) (fun r M' a b c => hh r M' a (b.trans ga.1) (fr_trans ga.2.1 c))⟩
  have hS : S_span t f g σ = _ := (if_neg hg).trans (if_neg z)
  rw [hS] at hh
  rw [ga.2.2.2 0 (by decide) (by omega)]
  refine r_after I J P ga ⟨by omega, by omega⟩ ⟨by omega, by omega⟩ (fun M2 g2 _ => ⟨(fC σ).toNat, ?_⟩)
  have vr : ∀ j : Nat, 0 ≤ vH σ t (6 + f) j ∧ vH σ t (6 + f) j ≤ 1000000 := fun j => vH_rng I J P ⟨by omega, by omega⟩ ⟨by omega, by omega⟩
  have lp : ∀ (r n : Nat) (M3 : gSt), n + 1 + r = (fC σ).toNat → gRd σ M M3 → wL_Rspan_69 t f g k (fun u4_69 M69 => k u4_69 M69) (r + 1) (outF (vH σ t (6 + f)) g (n + 1)) ((n + 1 : Nat) : Int) M3 := by
    intro r
    induction r with
    | zero =>
      intro n M3 hn g3
      unfold wL_Rspan_69 wC_Rspan_69
      rw [g3.2.2.1, wI (x := fC σ) ⟨by omega, by omega⟩, wI (x := ((n + 1 : Nat) : Int)) ⟨by omega, by omega⟩]
      refine ⟨fun _ => hh _ M3 (by rw [show (fC σ).toNat = n + 1 from by omega]) g3.1 g3.2.1, fun z => absurd z (by omega)⟩
    | succ r ih =>
      intro n M3 hn g3
      have vn := vr (n + 1)
      have on := outF_rng (v := vH σ t (6 + f)) (g := g) (hi := 1000000) (by decide) (n + 1) (fun j _ => vr j)
      unfold wL_Rspan_69 wC_Rspan_69
      rw [g3.2.2.1, wI (x := fC σ) ⟨by omega, by omega⟩, wI (x := ((n + 1 : Nat) : Int)) ⟨by omega, by omega⟩, g3.2.2.2 _ (by omega) (by omega)]
      refine ⟨fun z => absurd z (by omega), fun _ => ⟨⟨by omega, by omega⟩, r_after I J P g3 ⟨by omega, by omega⟩ ⟨by omega, by omega⟩ (fun M4 g4 _ => ?_)⟩⟩
      have nx := ih (n + 1) M4 (by omega) g4
      rw [show ((n + 1 + 1 : Nat) : Int) = ((n + 1 : Nat) : Int) + 1 from by omega, outF_s, if_neg (by omega)] at nx
      rw [show hisB σ (fF σ ((n + 1 : Nat) : Int)) (10 * t + (6 + f)) = vH σ t (6 + f) ((n + 1 : Nat) : Int) from rfl, wI (x := vH σ t (6 + f) ((n + 1 : Nat) : Int)) ⟨by omega, by omega⟩, wI (x := outF (vH σ t (6 + f)) g (n + 1)) ⟨by omega, by omega⟩, wI i2]
      unfold wB_Rspan_132
      refine ⟨fun e2 => ⟨fun e3 => ?_, fun e3 => ?_⟩, fun e2 => ⟨fun e3 => ?_, fun e3 => ?_⟩⟩
      · rw [if_neg e2, if_neg (by omega)] at nx; exact nx
      · rw [if_neg e2, if_pos e3] at nx; exact nx
      · rw [if_pos e2, if_neg (by omega)] at nx; exact nx
      · rw [if_pos e2, if_pos e3] at nx; exact nx
  have st := lp ((fC σ).toNat - 1) 0 M2 (by omega) g2
  rw [show (fC σ).toNat - 1 + 1 = (fC σ).toNat from by omega] at st
  exact st
-- heaps
def cnt (g : Int → Int) (x : Int) : Nat → Int
  | 0 => 0
  | n + 1 => if g n = x then cnt g x n + 1 else cnt g x n
theorem cnt_s {g : Int → Int} {x : Int} {n : Nat} : cnt g x (n + 1) = if g n = x then cnt g x n + 1 else cnt g x n := rfl
theorem cnt_rng {g : Int → Int} {x : Int} : ∀ n : Nat, 0 ≤ cnt g x n ∧ cnt g x n ≤ n
  | 0 => ⟨Int.le_refl _, Int.le_refl _⟩
  | n + 1 => by
    have ih := cnt_rng (g := g) (x := x) n
    rw [cnt_s]
    split <;> omega
theorem cnt_mono {g : Int → Int} {x : Int} {n : Nat} : ∀ r : Nat, cnt g x n ≤ cnt g x (n + r)
  | 0 => Int.le_refl _
  | r + 1 => by
    have ih := cnt_mono (g := g) (x := x) (n := n) r
    show cnt g x n ≤ cnt g x (n + r + 1)
    rw [cnt_s]
    split <;> omega
theorem cnt_first {g : Int → Int} {x : Int} : ∀ n : Nat, cnt g x n = 0 ∨ ∃ k0 : Nat, k0 < n ∧ g k0 = x ∧ cnt g x k0 = 0
  | 0 => Or.inl rfl
  | n + 1 => by
    rcases cnt_first (g := g) (x := x) n with h | ⟨k0, a, b, c⟩
    · by_cases e : g n = x
      · exact Or.inr ⟨n, by omega, e, h⟩
      · left; rw [cnt_s, if_neg e]; exact h
    · exact Or.inr ⟨k0, by omega, b, c⟩
/-- the greatest heap, counted from all (the reference) and from each on (the class) -/
def hpA (g : Int → Int) (N : Nat) : Nat → Int
  | 0 => 0
  | n + 1 => if hpA g N n < cnt g (g n) N then cnt g (g n) N else hpA g N n
def hpF (g : Int → Int) (N : Nat) : Nat → Int
  | 0 => 0
  | n + 1 => if hpF g N n < cnt g (g n) N - cnt g (g n) n then cnt g (g n) N - cnt g (g n) n else hpF g N n
theorem hpA_s {g : Int → Int} {N n : Nat} : hpA g N (n + 1) = if hpA g N n < cnt g (g n) N then cnt g (g n) N else hpA g N n := rfl
theorem hpF_s {g : Int → Int} {N n : Nat} : hpF g N (n + 1) = if hpF g N n < cnt g (g n) N - cnt g (g n) n then cnt g (g n) N - cnt g (g n) n else hpF g N n := rfl
theorem hpA_rng {g : Int → Int} {N : Nat} : ∀ n : Nat, 0 ≤ hpA g N n ∧ hpA g N n ≤ N
  | 0 => ⟨Int.le_refl _, by show (0 : Int) ≤ N; omega⟩
  | n + 1 => by
    have ih := hpA_rng (g := g) (N := N) n
    have := cnt_rng (g := g) (x := g n) N
    rw [hpA_s]
    split <;> omega
theorem hpF_le {g : Int → Int} {N : Nat} : ∀ n : Nat, 0 ≤ hpF g N n ∧ hpF g N n ≤ hpA g N n
  | 0 => ⟨Int.le_refl _, Int.le_refl _⟩
  | n + 1 => by
    have ih := hpF_le (g := g) (N := N) n
    have := cnt_rng (g := g) (x := g n) n
    rw [hpF_s, hpA_s]
    split <;> split <;> omega
theorem hpF_ge {g : Int → Int} {N : Nat} : ∀ (n k : Nat), k < n → cnt g (g k) N - cnt g (g k) k ≤ hpF g N n
  | 0, k, h => absurd h (by omega)
  | n + 1, k, h => by
    rw [hpF_s]
    by_cases e : k = n
    · rw [e]; split <;> omega
    · have ih := hpF_ge (g := g) (N := N) n k (by omega)
      split <;> omega
theorem hpA_le {g : Int → Int} {N : Nat} {b : Int} (hb : 0 ≤ b) : ∀ n : Nat, (∀ k : Nat, k < n → cnt g (g k) N ≤ b) → hpA g N n ≤ b
  | 0, _ => hb
  | n + 1, h => by
    have ih := hpA_le (g := g) (N := N) hb n (fun k hk => h k (by omega))
    have := h n (by omega)
    rw [hpA_s]
    split <;> omega
theorem hp_eq {g : Int → Int} {N : Nat} : hpF g N N = hpA g N N := by
  refine Int.le_antisymm (hpF_le N).2 (hpA_le (hpF_le N).1 N (fun k hk => ?_))
  rcases cnt_first (g := g) (x := g k) (k + 1) with h | ⟨k0, a, b, c⟩
  · rw [cnt_s, if_pos rfl] at h
    have := cnt_rng (g := g) (x := g k) k
    omega
  · have := hpF_ge (g := g) (N := N) N k0 (by omega)
    rw [b, c] at this
    omega
def hp (σ : gSt) (t : Int) : Int := hpA (vH σ t 2) (fC σ).toNat (fC σ).toNat
def nxB (h : Int → Int) : Nat → Int
  | 0 => 0
  | n + 1 => if h n < h (nxB h n) then n else nxB h n
theorem nxB_s {h : Int → Int} {n : Nat} : nxB h (n + 1) = if h n < h (nxB h n) then (n : Int) else nxB h n := rfl
theorem nxB_rng {h : Int → Int} : ∀ n : Nat, 0 ≤ nxB h n ∧ nxB h n ≤ n
  | 0 => ⟨Int.le_refl _, Int.le_refl _⟩
  | n + 1 => by
    have := nxB_rng (h := h) n
    rw [nxB_s]
    split <;> omega
theorem v2_rng {σ : gSt} {t j : Int} (I : iN σ) (J : iB σ) (P : iP σ) (ht : 0 ≤ t ∧ t ≤ 12) : 0 ≤ vH σ t 2 j ∧ vH σ t 2 j ≤ 9999999 := (his_ok (h := fF σ j) I J P t ht.1 ht.2).2.2.1
theorem c_noted {σ M0 M : gSt} {j t : Int} {k : Int → gSt → Prop} (I : iN σ) (g : gFd σ M0 M) (hj : 0 ≤ j ∧ j < fC σ) (ht : 0 ≤ t ∧ t < 12) (h : k (vH σ t 2 j) M) : w_X2_notedGrams 41 j t M k := by
  have r := fC_rng I
  unfold w_X2_notedGrams
  refine ⟨pl_41, fun x ex => ?_⟩
  rw [show (wrap (lenC (41 + 5) : Int)) = 768 from by decide, show ((lenC (41 + 5) : Nat) : Int) = 768 from rfl, wI (x := x) ⟨by omega, by omega⟩]
  refine ⟨fun z => absurd z (by omega), fun _ => ⟨fun z => absurd z (by omega), fun _ => ⟨⟨by omega, by omega⟩, ?_⟩⟩⟩
  rw [ex, show j * 12 + t = 12 * j + t from by omega]
  show k (M 46 (12 * j + t)) M
  rw [(g.2.2.2.2 j hj.1 hj.2).2 t ht.1 ht.2]
  exact h
theorem c_heap {σ M0 M : gSt} {t : Int} {k : Int → gSt → Prop} (I : iN σ) (J : iB σ) (P : iP σ) (g : gFd σ M0 M) (ht : 0 ≤ t ∧ t < 12) (h : k (hp σ t) M) : w_X2_greatestHeap 41 t M k := by
  have r := fC_rng I
  unfold w_X2_greatestHeap
  refine ⟨pl_41, (fC σ).toNat + 1, ?_⟩
  have lp : ∀ (r n : Nat), n + r = (fC σ).toNat → wL_X2_greatestHeap_4 41 t k (fun u2_4 M4 => k u2_4 M4) (r + 1) (hpF (vH σ t 2) (fC σ).toNat n) n M := by
    intro r
    induction r with
    | zero =>
      intro n hn
      unfold wL_X2_greatestHeap_4 wC_X2_greatestHeap_4
      refine c_many4 g ?_
      rw [wI (x := fC σ) ⟨by omega, by omega⟩, wI (x := (n : Int)) ⟨by omega, by omega⟩]
      refine ⟨fun _ => ?_, fun z => absurd z (by omega)⟩
      rw [show n = (fC σ).toNat from by omega, hp_eq]
      exact h
    | succ r ih =>
      intro n hn
      unfold wL_X2_greatestHeap_4 wC_X2_greatestHeap_4
      refine c_many4 g ?_
      rw [wI (x := fC σ) ⟨by omega, by omega⟩, wI (x := (n : Int)) ⟨by omega, by omega⟩]
      refine ⟨fun z => absurd z (by omega), fun _ => ⟨(fC σ).toNat - n + 1, ?_⟩⟩
      have fr := hpF_le (g := vH σ t 2) (N := (fC σ).toNat) n
      have ar := hpA_rng (g := vH σ t 2) (N := (fC σ).toNat) n
      have cr := cnt_rng (g := vH σ t 2) (x := vH σ t 2 n) (fC σ).toNat
      have cn := cnt_rng (g := vH σ t 2) (x := vH σ t 2 n) n
      have fin : ∀ x, x = xmax (hpF (vH σ t 2) (fC σ).toNat n) (cnt (vH σ t 2) (vH σ t 2 n) (fC σ).toNat - cnt (vH σ t 2) (vH σ t 2 n) n) → wL_X2_greatestHeap_4 41 t k (fun u2_4 M4 => k u2_4 M4) (r + 1) x ((n : Int) + 1) M := by
        intro x ex
        have := ih (n + 1) (by omega)
        rw [n1, hpF_s] at this
        rw [xmax_in ⟨by omega, by omega⟩ ⟨by omega, by omega⟩] at ex
        rw [ex]
        exact this
      have l2 : ∀ (q m : Nat), m + q = (fC σ).toNat → n ≤ m → wL_X2_greatestHeap_21 41 t k (wL_X2_greatestHeap_4 41 t k (fun u2_4 M4 => k u2_4 M4) (r + 1)) (fun u2_4 M4 => k u2_4 M4) (fun u2_21 u3_21 u4_21 M21 => ∀ x2_64 : Int, x2_64 = xmax u2_21 u4_21 → (wL_X2_greatestHeap_4 41 t k (fun u2_4 M4 => k u2_4 M4) (r + 1) x2_64 (u3_21 + 1) M21)) (q + 1) (hpF (vH σ t 2) (fC σ).toNat n) n (cnt (vH σ t 2) (vH σ t 2 n) m - cnt (vH σ t 2) (vH σ t 2 n) n) m M := by
        intro q
        induction q with
        | zero =>
          intro m hm _
          unfold wL_X2_greatestHeap_21 wC_X2_greatestHeap_21
          refine c_many4 g ?_
          rw [wI (x := fC σ) ⟨by omega, by omega⟩, wI (x := (m : Int)) ⟨by omega, by omega⟩]
          refine ⟨fun _ => ?_, fun z => absurd z (by omega)⟩
          rw [show m = (fC σ).toNat from by omega]
          exact fin
        | succ q iq =>
          intro m hm hnm
          have va := v2_rng (j := m) I J P (t := t) ⟨by omega, by omega⟩
          have vb := v2_rng (j := n) I J P (t := t) ⟨by omega, by omega⟩
          unfold wL_X2_greatestHeap_21 wC_X2_greatestHeap_21
          refine c_many4 g ?_
          rw [wI (x := fC σ) ⟨by omega, by omega⟩, wI (x := (m : Int)) ⟨by omega, by omega⟩]
          refine ⟨fun z => absurd z (by omega), fun _ => c_noted I g ⟨by omega, by omega⟩ ht (c_noted I g ⟨by omega, by omega⟩ ht ?_)⟩
          rw [wI (x := vH σ t 2 m) ⟨by omega, by omega⟩, wI (x := vH σ t 2 n) ⟨by omega, by omega⟩]
          have nx := iq (m + 1) (by omega) (by omega)
          rw [n1, cnt_s] at nx
          unfold wB_X2_greatestHeap_52
          refine ⟨fun e => ?_, fun e => ?_⟩
          · rw [if_neg e] at nx; exact nx
          · rw [if_pos e, show cnt (vH σ t 2) (vH σ t 2 n) m + 1 - cnt (vH σ t 2) (vH σ t 2 n) n = cnt (vH σ t 2) (vH σ t 2 n) m - cnt (vH σ t 2) (vH σ t 2 n) n + 1 from by omega] at nx
            exact nx
      have s0 := l2 ((fC σ).toNat - n) n (by omega) (Nat.le_refl _)
      rw [show cnt (vH σ t 2) (vH σ t 2 n) n - cnt (vH σ t 2) (vH σ t 2 n) n = 0 from by omega] at s0
      exact s0
  exact lp _ 0 (by omega)
theorem hp_rng {σ : gSt} (I : iN σ) (t : Int) : 0 ≤ hp σ t ∧ hp σ t ≤ 64 := by
  have r := fC_rng I
  have := hpA_rng (g := vH σ t 2) (N := (fC σ).toNat) (fC σ).toNat
  unfold hp
  omega
def S_next (σ : gSt) : Int := if fC σ = 0 ∨ σ 0 0 = 0 then -1000000000 - 2 else nxB (hp σ) (σ 0 0).toNat
theorem sC_next {M : gSt} {k : Int → gSt → Prop} (I : iN (absC M)) (J : iB (absC M)) (P : iP (absC M)) (G : iG (absC M)) (hK : cK M) (hh : ∀ r M', wrap r = wrap (S_next (absC M)) → absC M' = absC M → cK M' → k r M') : w_X8_next M k := by
  have I' := I
  unfold iN at I'
  generalize hA : absC M = σ at *
  have rC := fC_rng I
  unfold w_X8_next
  refine c_find hA hK I J P G (fun M1 ga => ?_)
  change gFd σ M M1 at ga
  obtain ⟨a1, K1⟩ := fnd_abs ga hK
  rw [hA] at a1
  have n0 := rc00 M1
  rw [a1] at n0
  have er : fC σ = 0 ∨ σ 0 0 = 0 → wB_X8_next_34 k M1 := fun z => bad2 (S := S_next σ) (by decide) (by decide) K1 (if_pos z) (fun r M' a b c => hh r M' a (b.trans a1) c)
  unfold w_X2_size
  refine ⟨pl_41, c_many4 ga ?_⟩
  dsimp only
  rw [wI (x := fC σ) ⟨by omega, by omega⟩]
  refine ⟨fun z => er (Or.inl z), fun z => ?_⟩
  unfold w_X0_size
  refine ⟨pl_2, ?_⟩
  dsimp only
  rw [← n0, wI (x := σ 0 0) ⟨by omega, by omega⟩]
  refine ⟨fun y => ⟨pl_2, ?_⟩, fun y => er (Or.inr y)⟩
  have hS : S_next σ = _ := if_neg (fun q => q.elim z y)
  rw [hS] at hh
  unfold w_X2_bestParted
  refine ⟨pl_41, (σ 0 0).toNat + 1, ?_⟩
  have lp : ∀ (r n : Nat) (b : Int), n + r = (σ 0 0).toNat → ((n = 0 ∧ b = 65) ∨ (1 ≤ n ∧ b = hp σ (nxB (hp σ) n))) → wL_X2_bestParted_8 41 (σ 0 0) (fun r54c M54 => k r54c M54) (fun u2_8 M8 => k u2_8 M8) (r + 1) (nxB (hp σ) n) b n M1 := by
    intro r
    induction r with
    | zero =>
      intro n b hn hb
      unfold wL_X2_bestParted_8 wC_X2_bestParted_8
      rw [wI (x := σ 0 0) ⟨by omega, by omega⟩, wI (x := (n : Int)) ⟨by omega, by omega⟩]
      refine ⟨fun _ => hh _ M1 (by rw [show (σ 0 0).toNat = n from by omega]) a1 K1, fun z => absurd z (by omega)⟩
    | succ r ih =>
      intro n b hn hb
      have h1 := hp_rng I (nxB (hp σ) n)
      have h2 := hp_rng I (n : Int)
      unfold wL_X2_bestParted_8 wC_X2_bestParted_8
      rw [wI (x := σ 0 0) ⟨by omega, by omega⟩, wI (x := (n : Int)) ⟨by omega, by omega⟩]
      refine ⟨fun z => absurd z (by omega), fun _ => c_heap I J P ga ⟨by omega, by omega⟩ ?_⟩
      rw [wI (x := hp σ n) ⟨by omega, by omega⟩, wI (x := b) ⟨by omega, by omega⟩]
      have ns := nxB_s (h := hp σ) (n := n)
      unfold wB_X2_bestParted_34
      refine ⟨fun e => ?_, fun e => ?_⟩
      · rw [if_neg (by omega)] at ns
        have nx := ih (n + 1) b (by omega) (Or.inr ⟨by omega, by rw [ns]; omega⟩)
        rw [n1, ns] at nx
        exact nx
      · have ex : nxB (hp σ) (n + 1) = (n : Int) := by
          rw [ns]
          by_cases q : hp σ n < hp σ (nxB (hp σ) n)
          · rw [if_pos q]
          · rw [if_neg q]
            rcases hb with ⟨q0, _⟩ | ⟨_, q1⟩
            · subst q0; rfl
            · exact absurd e (by omega)
        have nx := ih (n + 1) (hp σ n) (by omega) (Or.inr ⟨by omega, by rw [ex]⟩)
        rw [n1, ex] at nx
        exact nx
  exact lp _ 0 65 (by omega) (Or.inl ⟨rfl, rfl⟩)
theorem gR_9 {σ M0 M M' : gSt} {i x : Int} (g : gRd σ M0 M) (e : M' = wr M 9 i x) : gRd σ M0 M' := by
  obtain ⟨a, F, c, l⟩ := g
  have o : ∀ p, p ≠ 9 → M' p = M p := fun p hp => by rw [e]; exact wrO' hp
  exact ⟨(absR_eq (o 1 (by decide)) (o 2 (by decide)) (by rw [o 0 (by decide)]) (o 11 (by decide)) (o 12 (by decide)) (o 13 (by decide))).trans a, fr_trans F ⟨fun j _ _ => by rw [o 1 (by decide)], o 2 (by decide), by rw [o 0 (by decide)]⟩, by rw [o 0 (by decide)]; exact c, by rw [o 8 (by decide)]; exact l⟩
theorem r_heap {σ M0 M : gSt} {t : Int} {k : Int → gSt → Prop} (I : iN σ) (J : iB σ) (P : iP σ) (g : gRd σ M0 M) (ht : 0 ≤ t ∧ t < 12) (h : ∀ M', gRd σ M0 M' → k (hp σ t) M') : w_Rheap t M k := by
  have rC := fC_rng I
  unfold w_Rheap
  refine ⟨(fC σ).toNat + 1, ?_⟩
  have fill : ∀ (r n : Nat) (M1 : gSt) (X : gSt → Prop), n + r = (fC σ).toNat → gRd σ M0 M1 → (∀ j, 0 ≤ j → j < (n : Int) → M1 9 j = vH σ t 2 j) → (∀ M2, gRd σ M0 M2 → (∀ j, 0 ≤ j → j < fC σ → M2 9 j = vH σ t 2 j) → X M2) → wL_Rheap_2 t k X (r + 1) n M1 := by
    intro r
    induction r with
    | zero =>
      intro n M1 X hn g1 s1 hX
      unfold wL_Rheap_2 wC_Rheap_2
      rw [g1.2.2.1, wI (x := fC σ) ⟨by omega, by omega⟩, wI (x := (n : Int)) ⟨by omega, by omega⟩]
      exact ⟨fun _ => hX M1 g1 (fun j a b => s1 j a (by omega)), fun z => absurd z (by omega)⟩
    | succ r ih =>
      intro n M1 X hn g1 s1 hX
      unfold wL_Rheap_2 wC_Rheap_2
      rw [g1.2.2.1, wI (x := fC σ) ⟨by omega, by omega⟩, wI (x := (n : Int)) ⟨by omega, by omega⟩, g1.2.2.2 _ (by omega) (by omega)]
      refine ⟨fun z => absurd z (by omega), fun _ => ⟨⟨by omega, by omega⟩, r_after I J P g1 ⟨by omega, by omega⟩ (by decide) (fun M2 g2 e2 => ⟨⟨by omega, by omega⟩, fun M3 e3 => ?_⟩)⟩⟩
      have nx := ih (n + 1) M3 X (by omega) (gR_9 g2 e3) (fun j a b => by
        rw [e3]
        by_cases e : j = n
        · rw [e]; exact wrI
        · rw [wrN e, e2]; exact s1 j a (by omega)) hX
      rw [n1] at nx
      exact nx
  refine fill _ 0 M _ (by omega) g (fun j a b => absurd b (by omega)) (fun M2 g2 s2 => ⟨(fC σ).toNat + 1, ?_⟩)
  have lp : ∀ (r n : Nat), n + r = (fC σ).toNat → wL_Rheap_38 t k (fun u2_38 M38 => k u2_38 M38) (r + 1) (hpA (vH σ t 2) (fC σ).toNat n) n M2 := by
    intro r
    induction r with
    | zero =>
      intro n hn
      unfold wL_Rheap_38 wC_Rheap_38
      rw [g2.2.2.1, wI (x := fC σ) ⟨by omega, by omega⟩, wI (x := (n : Int)) ⟨by omega, by omega⟩]
      refine ⟨fun _ => ?_, fun z => absurd z (by omega)⟩
      rw [show n = (fC σ).toNat from by omega]
      exact h M2 g2
    | succ r ih =>
      intro n hn
      have ar := hpA_rng (g := vH σ t 2) (N := (fC σ).toNat) n
      have cr := cnt_rng (g := vH σ t 2) (x := vH σ t 2 n) (fC σ).toNat
      have nx := ih (n + 1) (by omega)
      rw [n1, hpA_s] at nx
      unfold wL_Rheap_38 wC_Rheap_38
      rw [g2.2.2.1, wI (x := fC σ) ⟨by omega, by omega⟩, wI (x := (n : Int)) ⟨by omega, by omega⟩]
      refine ⟨fun z => absurd z (by omega), fun _ => ⟨(fC σ).toNat + 1, ?_⟩⟩
      have l2 : ∀ (q m : Nat), m + q = (fC σ).toNat → wL_Rheap_52 t k (wL_Rheap_38 t k (fun u2_38 M38 => k u2_38 M38) (r + 1)) (fun u2_38 M38 => k u2_38 M38) (fun u2_52 u3_52 u4_52 M52 => (wrap u4_52 ≤ wrap u2_52 → wB_Rheap_105 t k (wL_Rheap_38 t k (fun u2_38 M38 => k u2_38 M38) (r + 1)) (fun u2_38 M38 => k u2_38 M38) u3_52 u2_52 M52) ∧ (wrap u2_52 < wrap u4_52 → wB_Rheap_105 t k (wL_Rheap_38 t k (fun u2_38 M38 => k u2_38 M38) (r + 1)) (fun u2_38 M38 => k u2_38 M38) u3_52 u4_52 M52)) (q + 1) (hpA (vH σ t 2) (fC σ).toNat n) n (cnt (vH σ t 2) (vH σ t 2 n) m) m M2 := by
        intro q
        induction q with
        | zero =>
          intro m hm
          unfold wL_Rheap_52 wC_Rheap_52
          rw [g2.2.2.1, wI (x := fC σ) ⟨by omega, by omega⟩, wI (x := (m : Int)) ⟨by omega, by omega⟩, show m = (fC σ).toNat from by omega]
          refine ⟨fun _ => ?_, fun z => absurd z (by omega)⟩
          dsimp only
          rw [wI (x := cnt (vH σ t 2) (vH σ t 2 n) (fC σ).toNat) ⟨by omega, by omega⟩, wI (x := hpA (vH σ t 2) (fC σ).toNat n) ⟨by omega, by omega⟩]
          unfold wB_Rheap_105
          refine ⟨fun e => ?_, fun e => ?_⟩
          · rw [if_neg (by omega)] at nx; exact nx
          · rw [if_pos e] at nx; exact nx
        | succ q iq =>
          intro m hm
          have va := v2_rng (j := m) I J P (t := t) ⟨by omega, by omega⟩
          have vb := v2_rng (j := n) I J P (t := t) ⟨by omega, by omega⟩
          have ns := iq (m + 1) (by omega)
          rw [n1, cnt_s] at ns
          unfold wL_Rheap_52 wC_Rheap_52
          rw [g2.2.2.1, wI (x := fC σ) ⟨by omega, by omega⟩, wI (x := (m : Int)) ⟨by omega, by omega⟩, s2 m (by omega) (by omega), s2 n (by omega) (by omega), wI (x := vH σ t 2 m) ⟨by omega, by omega⟩, wI (x := vH σ t 2 n) ⟨by omega, by omega⟩]
          unfold wB_Rheap_84
          refine ⟨fun z => absurd z (by omega), fun _ => ⟨⟨by omega, by omega⟩, ⟨by omega, by omega⟩, fun e x ex => ?_, fun e x ex => ?_⟩⟩
          · rw [if_neg e] at ns; rw [ex, Int.add_zero]; exact ns
          · rw [if_pos e] at ns; rw [ex]; exact ns
      exact l2 _ 0 (by omega)
  exact lp _ 0 (by omega)
theorem sR_next {M : gSt} {k : Int → gSt → Prop} (I : iN (absR M)) (J : iB (absR M)) (P : iP (absR M)) (G : iG (absR M)) (hh : ∀ r M', wrap r = wrap (S_next (absR M)) → absR M' = absR M → fr M M' → k r M') : w_Rnext M k := by
  have I' := I
  unfold iN at I'
  generalize hA : absR M = σ at *
  have rC := fC_rng I
  unfold w_Rnext
  refine r_find hA I J P G (fun M1 fo => ?_)
  have ga := gRd_of fo
  have n0 : M1 1 0 = σ 0 0 := by rw [rdS M1 0 (by decide) (by decide), ga.1]
  have er : fC σ = 0 ∨ σ 0 0 = 0 → wB_Rnext_20 k M1 := fun z => bad2R (S := S_next σ) (by decide) (by decide) (if_pos z) (fun r M' a b c => hh r M' a (b.trans ga.1) (fr_trans ga.2.1 c))
  rw [ga.2.2.1, n0, wI (x := fC σ) ⟨by omega, by omega⟩, wI (x := σ 0 0) ⟨by omega, by omega⟩]
  refine ⟨fun z => er (Or.inl z), fun z => ⟨fun y => ⟨(σ 0 0).toNat, ?_⟩, fun y => er (Or.inr y)⟩⟩
  have hS : S_next σ = _ := if_neg (fun q => q.elim z y)
  rw [hS] at hh
  have lp : ∀ (r n : Nat) (M2 : gSt), n + 1 + r = (σ 0 0).toNat → gRd σ M M2 → wL_Rnext_30 k (fun u1_30 M30 => k u1_30 M30) (r + 1) (nxB (hp σ) (n + 1)) ((n + 1 : Nat) : Int) M2 := by
    intro r
    induction r with
    | zero =>
      intro n M2 hn g2
      unfold wL_Rnext_30 wC_Rnext_30
      rw [rdS M2 0 (by decide) (by decide), g2.1, wI (x := σ 0 0) ⟨by omega, by omega⟩, wI (x := ((n + 1 : Nat) : Int)) ⟨by omega, by omega⟩]
      refine ⟨fun _ => hh _ M2 (by rw [show (σ 0 0).toNat = n + 1 from by omega]) g2.1 g2.2.1, fun z => absurd z (by omega)⟩
    | succ r ih =>
      intro n M2 hn g2
      have br := nxB_rng (h := hp σ) n
      have ns0 := nxB_s (h := hp σ) (n := n)
      have bb : 0 ≤ nxB (hp σ) (n + 1) ∧ nxB (hp σ) (n + 1) < 12 := by
        rw [ns0]
        split <;> omega
      have h1 := hp_rng I (nxB (hp σ) (n + 1))
      have h2 := hp_rng I ((n + 1 : Nat) : Int)
      unfold wL_Rnext_30 wC_Rnext_30
      rw [rdS M2 0 (by decide) (by decide), g2.1, wI (x := σ 0 0) ⟨by omega, by omega⟩, wI (x := ((n + 1 : Nat) : Int)) ⟨by omega, by omega⟩]
      refine ⟨fun z => absurd z (by omega), fun _ => r_heap I J P g2 ⟨by omega, by omega⟩ (fun M3 g3 => r_heap I J P g3 bb (fun M4 g4 => ?_))⟩
      rw [wI (x := hp σ ((n + 1 : Nat) : Int)) ⟨by omega, by omega⟩, wI (x := hp σ (nxB (hp σ) (n + 1))) ⟨by omega, by omega⟩]
      have nx := ih (n + 1) M4 (by omega) g4
      rw [show ((n + 1 + 1 : Nat) : Int) = ((n + 1 : Nat) : Int) + 1 from by omega, nxB_s] at nx
      unfold wB_Rnext_58
      refine ⟨fun e => ?_, fun e => ?_⟩
      · rw [if_neg (by omega)] at nx; exact nx
      · rw [if_pos e] at nx; exact nx
  have st := lp ((σ 0 0).toNat - 1) 0 M1 (by omega) ga
  rw [show (σ 0 0).toNat - 1 + 1 = (σ 0 0).toNat from by omega] at st
  have z1' : nxB (hp σ) (0 + 1) = 0 := by rw [nxB_s]; split <;> rfl
  rw [z1'] at st
  exact st
