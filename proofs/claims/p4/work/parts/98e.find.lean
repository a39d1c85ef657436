-- the list of the histories that fit: both sides
def hisB (σ : gSt) (h : Int) : Int → Int := byB σ h (σ 0 3).toNat
def fitH (σ : gSt) (h : Int) : Int := fitS σ (hisB σ h) (σ 0 4).toNat
/-- how many of the first n histories fit, and which -/
def flC (σ : gSt) : Nat → Int
  | 0 => 0
  | n + 1 => if fitH σ n = 0 then flC σ n else flC σ n + 1
def flF (σ : gSt) : Nat → Int → Int
  | 0 => fun _ => 0
  | n + 1 => fun j => if fitH σ n = 0 then flF σ n j else if j = flC σ n then n else flF σ n j
theorem flC_s {σ : gSt} {n : Nat} : flC σ (n + 1) = if fitH σ n = 0 then flC σ n else flC σ n + 1 := rfl
theorem flF_s {σ : gSt} {n : Nat} {j : Int} : flF σ (n + 1) j = if fitH σ n = 0 then flF σ n j else if j = flC σ n then n else flF σ n j := rfl
theorem flC_rng {σ : gSt} : ∀ n : Nat, 0 ≤ flC σ n ∧ flC σ n ≤ n
  | 0 => ⟨Int.le_refl _, Int.le_refl _⟩
  | n + 1 => by
    have := flC_rng (σ := σ) n
    rw [flC_s]
    split <;> omega
theorem flF_rng {σ : gSt} : ∀ n : Nat, ∀ j, 0 ≤ j → j < flC σ n → 0 ≤ flF σ n j ∧ flF σ n j < n
  | 0 => fun j a b => absurd b (by show ¬ j < 0; omega)
  | n + 1 => fun j a b => by
    have ih := flF_rng (σ := σ) n
    rw [flC_s] at b
    rw [flF_s]
    by_cases z : fitH σ n = 0
    · rw [if_pos z] at b ⊢
      have := ih j a b
      omega
    · rw [if_neg z] at b ⊢
      by_cases e : j = flC σ n
      · rw [if_pos e]; omega
      · rw [if_neg e]
        have := ih j a (by omega)
        omega
def fndC (σ : gSt) (n : Nat) (M0 M : gSt) : Prop := (∀ p, p < 42 ∨ 46 < p → M p = M0 p) ∧ M 44 0 = 1 ∧ M 44 2 = 64 ∧ M 44 3 = flC σ n ∧ ∀ j, 0 ≤ j → j < flC σ n → M 45 j = flF σ n j ∧ ∀ t, 0 ≤ t → t < 12 → M 46 (12 * j + t) = hisB σ (flF σ n j) (10 * t + 2)
theorem fnd_abs {σ : gSt} {n : Nat} {M0 M : gSt} (f : fndC σ n M0 M) (hK : cK M0) : absC M = absC M0 ∧ cK M := by
  refine ⟨ac_eq (fun o ho => f.1 o (by unfold scr at ho; omega)), cK_eq hK (fun o a b c d i hi => ?_)⟩
  by_cases e : o = 44
  · subst e
    obtain ⟨k0, k2⟩ := cK_44 hK
    rcases hi with i0 | i2 | z
    · rw [i0, f.2.1, k0]
    · rw [i2, f.2.2.1, k2]
    · exact absurd z.1 (by decide)
  · rw [f.1 o (by omega)]
theorem pow_x {n : Int} (h : 0 ≤ n ∧ n ≤ 6) : 1 ≤ xshl 1 n ∧ xshl 1 n ≤ 64 := by have := allP_rng h; omega
theorem c_find {σ M : gSt} {k : gSt → Prop} (hA : absC M = σ) (hK : cK M) (I : iN σ) (J : iB σ) (P : iP σ) (G : iG σ) (hk : ∀ M', fndC σ (xshl 1 (σ 0 3)).toNat M M' → k M') : w_X2_find 41 1 M k := by
  have I' := I
  unfold iN at I'
  have pw := pow_x (n := σ 0 3) ⟨by omega, by omega⟩
  have lp : ∀ (r n : Nat) (M1 : gSt), n + r = (xshl 1 (σ 0 3)).toNat → fndC σ n M M1 → wL_X2_find_9 41 1 k (fun M9 => k M9) (r + 1) n M1 := by
    intro r
    induction r with
    | zero =>
      intro n M1 hn f
      have n3 : M1 8 3 = σ 0 3 := by rw [f.1 8 (by decide), ← rc03 M, hA]
      unfold wL_X2_find_9 wC_X2_find_9
      refine sp_size4 pl_8 ?_
      rw [show M1 (1 + 7) 3 = σ 0 3 from n3, wI (x := xshl 1 (σ 0 3)) ⟨by omega, by omega⟩, wI (x := (n : Int)) ⟨by omega, by omega⟩]
      refine ⟨fun _ => hk M1 ?_, fun z => absurd z (by omega)⟩
      rw [show (xshl 1 (σ 0 3)).toNat = n from by omega]
      exact f
    | succ r ih =>
      intro n M1 hn f
      have n3 : M1 8 3 = σ 0 3 := by rw [f.1 8 (by decide), ← rc03 M, hA]
      obtain ⟨a1, K1⟩ := fnd_abs f hK
      rw [hA] at a1
      have cr := flC_rng (σ := σ) n
      have e1 : ((n + 1 : Nat) : Int) = (n : Int) + 1 := by omega
      have next : ∀ M2, fndC σ (n + 1) M M2 → wL_X2_find_9 41 1 k (fun M9 => k M9) (r + 1) ((n : Int) + 1) M2 := fun M2 g => by
        have := ih (n + 1) M2 (by omega) g
        rw [e1] at this
        exact this
      obtain ⟨f1, f2, f3, f4, f5⟩ := f
      unfold wL_X2_find_9 wC_X2_find_9 wB_X2_find_53
      refine sp_size4 pl_8 ?_
      rw [show M1 (1 + 7) 3 = σ 0 3 from n3, wI (x := xshl 1 (σ 0 3)) ⟨by omega, by omega⟩, wI (x := (n : Int)) ⟨by omega, by omega⟩]
      refine ⟨fun z => absurd z (by omega), fun _ => c_follow a1 K1 I J P (fun M2 fo => ?_)⟩
      have a2 : absC M2 = σ := (ac_eq (fun o ho => fo.1 o (by unfold scr at ho; omega) (by unfold scr at ho; omega))).trans a1
      have K2 : cK M2 := cK_eq K1 (fun o a b c d i hi => by rw [fo.1 o (by omega) (by omega)])
      refine c_isSo a2 K2 I G fo.2 (byB_ok J P (σ 0 3).toNat (by omega)) ?_
      have m44 : M2 44 = M1 44 := fo.1 44 (by decide) (by decide)
      have m45 : M2 45 = M1 45 := fo.1 45 (by decide) (by decide)
      have m46 : M2 46 = M1 46 := fo.1 46 (by decide) (by decide)
      change (wrap (fitH σ n) = 0 → _) ∧ (¬ wrap (fitH σ n) = 0 → _)
      have w01 : wrap (fitH σ n) = fitH σ n := by
        rcases fitS_01 (σ := σ) (B := hisB σ n) (σ 0 4).toNat with e | e
        · rw [show fitH σ n = 0 from e]; rfl
        · rw [show fitH σ n = 1 from e]; decide
      rw [w01]
      refine ⟨fun z => next M2 ⟨fun p hp => by rw [fo.1 p (by omega) (by omega)]; exact f1 p hp, by rw [m44]; exact f2, by rw [m44]; exact f3, by rw [m44, flC_s, if_pos z]; exact f4, fun j x y => ?_⟩, fun z => ?_⟩
      · rw [flC_s, if_pos z] at y
        rw [flF_s, if_pos z, m45, m46]
        exact f5 j x y
      · refine sp_app1 (L := 64) pl_44 (by rw [m44]; exact f2) (by rw [m44]; exact f3) (by rw [m44, f4]; exact ⟨cr.1, by omega⟩) (by decide) rfl ?_
        rw [m44, f4]
        refine sp_noteGrams ⟨cr.1, by omega⟩ (fun M3 n1 n2 => next M3 ⟨fun p hp => by rw [n1 p (by omega), wrO' (by omega), wrO' (by omega), fo.1 p (by omega) (by omega)]; exact f1 p hp, by rw [n1 44 (by decide), wrN (by decide), wrO (by decide), m44]; exact f2, by rw [n1 44 (by decide), wrN (by decide), wrO (by decide), m44]; exact f3, by rw [n1 44 (by decide), wrI, flC_s, if_neg z], fun j x y => ?_⟩)
        rw [flC_s, if_neg z] at y
        rw [flF_s, if_neg z]
        by_cases e : j = flC σ n
        · subst e
          rw [if_pos rfl]
          refine ⟨by rw [n1 45 (by decide), wrO (by decide)]; exact wrI, fun t t0 t1 => ?_⟩
          rw [n2, if_pos (by omega), wrO (by decide), wrO (by decide), show 10 * (12 * flC σ n + t - 12 * flC σ n) + 2 = 10 * t + 2 from by omega]
          exact fo.2 _ (by omega) (by omega)
        · rw [if_neg e]
          obtain ⟨g1, g2⟩ := f5 j x (by omega)
          refine ⟨by rw [n1 45 (by decide), wrO (by decide)]; exact (wrN e).trans (by rw [m45]; exact g1), fun t t0 t1 => ?_⟩
          rw [n2, if_neg (by omega), wrO (by decide), wrO (by decide), m46]
          exact g2 t t0 t1
  unfold w_X2_find
  refine ⟨pl_41, pl_1, sp_clear pl_44 ⟨_, lp (xshl 1 (σ 0 3)).toNat 0 _ (by omega) ?_⟩⟩
  obtain ⟨k0, k2⟩ := cK_44 hK
  exact ⟨fun p hp => wrO' (by omega), by rw [wrN (by decide)]; exact k0, by rw [wrN (by decide)]; exact k2, by rw [wrI]; rfl, fun j a b => absurd b (by show ¬ j < 0; omega)⟩
/-- the reference's list -/
def fndR (σ : gSt) (n : Nat) (M0 M : gSt) : Prop := absR M = σ ∧ fr M0 M ∧ (∀ p, p ≠ 0 → p ≠ 1 → p ≠ 3 → p ≠ 8 → M p = M0 p) ∧ (∀ i, i ≠ 13 → M 0 i = M0 0 i) ∧ M 0 13 = flC σ n ∧ ∀ j, 0 ≤ j → j < flC σ n → M 8 j = flF σ n j
theorem r_find {σ M : gSt} {k : gSt → Prop} (hA : absR M = σ) (I : iN σ) (J : iB σ) (P : iP σ) (G : iG σ) (hk : ∀ M', fndR σ (xshl 1 (σ 0 3)).toNat M M' → k M') : w_RfindFits M k := by
  have I' := I
  unfold iN at I'
  have pw := pow_x (n := σ 0 3) ⟨by omega, by omega⟩
  have lp : ∀ (r n : Nat) (M1 : gSt), n + r = (xshl 1 (σ 0 3)).toNat → fndR σ n M M1 → wL_RfindFits_7 k (fun M7 => k M7) (r + 1) n M1 := by
    intro r
    induction r with
    | zero =>
      intro n M1 hn f
      unfold wL_RfindFits_7 wC_RfindFits_7 w_RallPapers
      dsimp only
      rw [rdS M1 3 (by decide) (by decide), f.1, wI (x := xshl 1 (σ 0 3) - 1) ⟨by omega, by omega⟩, wI (x := (n : Int)) ⟨by omega, by omega⟩]
      refine ⟨fun _ => hk M1 ?_, fun z => absurd z (by omega)⟩
      rw [show (xshl 1 (σ 0 3)).toNat = n from by omega]
      exact f
    | succ r ih =>
      intro n M1 hn f
      have cr := flC_rng (σ := σ) n
      have e1 : ((n + 1 : Nat) : Int) = (n : Int) + 1 := by omega
      have next : ∀ M2, fndR σ (n + 1) M M2 → wL_RfindFits_7 k (fun M7 => k M7) (r + 1) ((n : Int) + 1) M2 := fun M2 g => by
        have := ih (n + 1) M2 (by omega) g
        rw [e1] at this
        exact this
      obtain ⟨f1, f2, f3, f4, f5, f6⟩ := f
      unfold wL_RfindFits_7 wC_RfindFits_7 w_RallPapers wB_RfindFits_43
      dsimp only
      rw [rdS M1 3 (by decide) (by decide), f1, wI (x := xshl 1 (σ 0 3) - 1) ⟨by omega, by omega⟩, wI (x := (n : Int)) ⟨by omega, by omega⟩]
      refine ⟨fun z => absurd z (by omega), fun _ => r_fit f1 I J P G (fun M2 a2 r2 o2 => ?_)⟩
      change (wrap (fitH σ n) = 0 → _) ∧ (¬ wrap (fitH σ n) = 0 → _)
      have w01 : wrap (fitH σ n) = fitH σ n := by
        rcases fitS_01 (σ := σ) (B := hisB σ n) (σ 0 4).toNat with e | e
        · rw [show fitH σ n = 0 from e]; rfl
        · rw [show fitH σ n = 1 from e]; decide
      have m0 : M2 0 = M1 0 := o2 0 (by decide) (by decide)
      have m8 : M2 8 = M1 8 := o2 8 (by decide) (by decide)
      rw [w01]
      refine ⟨fun z => next M2 ⟨a2, fr_trans f2 r2, fun p x0 x1 x3 x8 => by rw [o2 p x1 x3]; exact f3 p x0 x1 x3 x8, fun i hi => by rw [m0]; exact f4 i hi, by rw [m0, flC_s, if_pos z]; exact f5, fun j x y => ?_⟩, fun z => ?_⟩
      · rw [flC_s, if_pos z] at y
        rw [flF_s, if_pos z, m8]
        exact f6 j x y
      · rw [m0, f5]
        refine ⟨⟨by omega, by omega⟩, fun M3 e3 M4 e4 => ?_⟩
        have c13 : M3 0 13 = flC σ n := by rw [e3, wrO (by decide), m0]; exact f5
        rw [c13] at e4
        refine next M4 ⟨?_, ?_, fun p x0 x1 x3 x8 => ?_, fun i hi => ?_, ?_, fun j x y => ?_⟩
        · rw [← a2]
          exact absR_eq (by rw [e4, wrO' (by decide), e3, wrO' (by decide)]) (by rw [e4, wrO' (by decide), e3, wrO' (by decide)]) (by rw [e4, wrN (by decide), e3, wrO (by decide)]) (by rw [e4, wrO' (by decide), e3, wrO' (by decide)]) (by rw [e4, wrO' (by decide), e3, wrO' (by decide)]) (by rw [e4, wrO' (by decide), e3, wrO' (by decide)])
        · refine fr_trans f2 (fr_trans r2 ⟨fun j _ _ => by rw [e4, wrO (by decide), e3, wrO (by decide)], by rw [e4, wrO' (by decide), e3, wrO' (by decide)], by rw [e4, wrN (by decide), e3, wrO (by decide)]⟩)
        · rw [e4, wrO' x0, e3, wrO' x8, o2 p x1 x3]; exact f3 p x0 x1 x3 x8
        · rw [e4, wrN hi, e3, wrO (by decide), m0]; exact f4 i hi
        · rw [e4, wrI, flC_s, if_neg z]
        · rw [flC_s, if_neg z] at y
          rw [flF_s, if_neg z, e4, wrO (by decide), e3]
          by_cases e : j = flC σ n
          · rw [if_pos e, e]; exact wrI
          · rw [if_neg e]
            refine (wrN e).trans ?_
            rw [m8]
            exact f6 j x (by omega)
  unfold w_RfindFits
  intro M2 e2
  refine ⟨_, lp (xshl 1 (σ 0 3)).toNat 0 M2 (by omega) ⟨?_, ?_, fun p x0 _ _ _ => by rw [e2, wrO' x0], fun i hi => by rw [e2, wrN hi], by rw [e2, wrI]; rfl, fun j a b => absurd b (by show ¬ j < 0; omega)⟩⟩
  · rw [← hA]
    exact absR_eq (by rw [e2, wrO' (by decide)]) (by rw [e2, wrO' (by decide)]) (by rw [e2, wrN (by decide)]) (by rw [e2, wrO' (by decide)]) (by rw [e2, wrO' (by decide)]) (by rw [e2, wrO' (by decide)])
  · exact ⟨fun j _ _ => by rw [e2, wrO (by decide)], by rw [e2, wrO' (by decide)], by rw [e2, wrN (by decide)]⟩
