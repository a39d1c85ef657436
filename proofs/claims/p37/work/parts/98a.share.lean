section
-- what a claim counts, what is shared, what is left: the class
def iC (σ : gSt) : Prop := ∀ i, 0 ≤ i → i < σ 0 2 → (0 ≤ σ 2 (2 * i) ∧ σ 2 (2 * i) ≤ 12) ∧ (0 ≤ σ 2 (2 * i + 1) ∧ σ 2 (2 * i + 1) ≤ 9999999)
def manyN (c : Int → Int) (t : Int) : Nat → Int
  | 0 => 0
  | n + 1 => manyN c t n + (if c (2 * n) = t then 1 else 0)
def countS (σ : gSt) (i : Int) : Int := if 0 < σ 0 10 then heldS (stk (σ 8) (σ 2 (2 * i + 1)) (σ 1 (10 * σ 2 (2 * i) + 2)) (manyN (σ 2) (σ 2 (2 * i)) (σ 0 2).toNat) (σ 0 10).toNat 0) 0 (σ 2 (2 * i + 1)) else σ 2 (2 * i + 1)
def belowN (σ : gSt) (t : Int) : Nat → Int
  | 0 => 0
  | n + 1 => belowN σ t n + (if σ 2 (2 * n) = t then countS σ n else 0)
theorem many_rng {c : Int → Int} {t : Int} : ∀ n : Nat, 0 ≤ manyN c t n ∧ manyN c t n ≤ n
  | 0 => ⟨Int.le_refl _, Int.le_refl _⟩
  | n + 1 => by
    have := many_rng (c := c) (t := t) n
    unfold manyN
    split <;> omega
theorem many_pos {c : Int → Int} {t : Int} {i : Nat} (h : c (2 * i) = t) : ∀ n : Nat, i < n → 1 ≤ manyN c t n
  | 0, hn => absurd hn (by omega)
  | n + 1, hn => by
    unfold manyN
    by_cases e : i = n
    · subst e
      rw [if_pos h]
      have := (many_rng (c := c) (t := t) i).1
      omega
    · have := many_pos h n (by omega)
      split <;> omega
theorem held_rng2 {x hi : Int} (h : 0 ≤ hi) : 0 ≤ heldS x 0 hi ∧ heldS x 0 hi ≤ hi := by unfold heldS; split <;> (try split) <;> omega
theorem count_rng {σ : gSt} {i : Int} (h : 0 ≤ σ 2 (2 * i + 1)) : 0 ≤ countS σ i ∧ countS σ i ≤ σ 2 (2 * i + 1) := by
  unfold countS
  split
  · exact held_rng2 h
  · omega
theorem below_rng {σ : gSt} {t : Int} (C : iC σ) : ∀ n : Nat, (n : Int) ≤ σ 0 2 → 0 ≤ belowN σ t n ∧ belowN σ t n ≤ 9999999 * n
  | 0, _ => ⟨Int.le_refl _, Int.le_refl _⟩
  | n + 1, hn => by
    have ih := below_rng (t := t) C n (by omega)
    have b := (C n (by omega) (by omega)).2
    have c := count_rng (σ := σ) (i := n) b.1
    unfold belowN
    split <;> omega
theorem c_heldG {r hi : Int} {M : gSt} {k : Int → gSt → Prop} (hh : 0 ≤ wrap hi) (h : ∀ x, wrap x = heldS (wrap r) 0 (wrap hi) → k x M) : w_X1_held r hi M k := by
  unfold w_X1_held
  refine h _ ?_
  have w0 : wrap 0 = 0 := rfl
  have e1 : wrap (xmin hi r) = if wrap hi < wrap r then wrap hi else wrap r := by
    unfold xmin
    by_cases z : wrap r < wrap hi
    · rw [if_pos z, if_neg (by omega)]
    · rw [if_neg z]
      by_cases z2 : wrap hi < wrap r
      · rw [if_pos z2]
      · rw [if_neg z2]; omega
  unfold xmax heldS
  rw [w0, e1]
  by_cases z : wrap r < 0
  · rw [if_pos z, if_neg (by split <;> omega), w0]
  · rw [if_neg z]
    by_cases z2 : 0 < if wrap hi < wrap r then wrap hi else wrap r
    · rw [if_pos z2, e1]
    · rw [if_neg z2, w0]
      by_cases z3 : wrap hi < wrap r
      · rw [if_pos z3] at z2 ⊢; omega
      · rw [if_neg z3] at z2 ⊢; omega
/-- only the worker's rooms changed -/
def onC (M M' : gSt) : Prop := ∀ p, p ≠ 18 → p ≠ 19 → M' p = M p
theorem onC_abs {M M' : gSt} (h : onC M M') : absC M' = absC M := ac_eq (fun o ho => h o (by unfold scr at ho; omega) (by unfold scr at ho; omega))
theorem onC_cK {M M' : gSt} (h : onC M M') (hK : cK M) : cK M' := cK_eq hK (fun o a b c d i hi => by rw [h o (by omega) (by omega)])
theorem rc2 (M : gSt) {i : Int} (h0 : 0 ≤ i) (h1 : i < 20) : absC M 2 i = M 7 i := by simp [absC, msk, h0, h1]
theorem c_at6 {σ M : gSt} {i j : Int} {k : Int → gSt → Prop} (hA : absC M = σ) (hK : cK M) (hn : 0 ≤ σ 0 2 ∧ σ 0 2 ≤ 10) (hi : 0 ≤ i ∧ i < σ 0 2) (hj : j = 0 ∨ j = 1) (h : k (σ 2 (2 * i + j)) M) : w_X4_at 6 i j M k := by
  have n2 := rc02 M
  rw [hA] at n2
  refine sp_at (W := 2) pl_6 (cK_6 hK).1 (by rw [← n2]; exact hi) ⟨by omega, by omega⟩ ⟨by omega, by decide⟩ (by show i * 2 + j < 20; omega) (by decide) ?_
  rw [show i * 2 + j = 2 * i + j from by omega]
  show k (M 7 (2 * i + j)) M
  rw [← rc2 M (by omega) (by omega), hA]
  exact h
theorem c_many {σ M : gSt} {t : Int} {k : Int → gSt → Prop} (hA : absC M = σ) (hK : cK M) (hn : 0 ≤ σ 0 2 ∧ σ 0 2 ≤ 10) (C : iC σ) (ht : inI t) (h : k (manyN (σ 2) t (σ 0 2).toNat) M) : w_X1_claimants 1 t M k := by
  have n2 := rc02 M
  rw [hA] at n2
  have lp : ∀ r j : Nat, j + r = (σ 0 2).toNat → wL_X1_claimants_4 1 t k (fun u2_4 M4 => k u2_4 M4) (r + 1) (manyN (σ 2) t j) j M := by
    intro r
    induction r with
    | zero =>
      intro j hj
      unfold wL_X1_claimants_4 wC_X1_claimants_4
      refine sp_size4 pl_6 ?_
      rw [show M (1 + 5) 3 = σ 0 2 from n2.symm, wI (x := σ 0 2) ⟨by omega, by omega⟩, wI (x := (j : Int)) ⟨by omega, by omega⟩]
      refine ⟨fun _ => ?_, fun z => absurd z (by omega)⟩
      rw [show j = (σ 0 2).toNat from by omega]
      exact h
    | succ r ih =>
      intro j hj
      unfold wL_X1_claimants_4 wC_X1_claimants_4 wB_X1_claimants_31
      refine sp_size4 pl_6 ?_
      rw [show M (1 + 5) 3 = σ 0 2 from n2.symm, wI (x := σ 0 2) ⟨by omega, by omega⟩, wI (x := (j : Int)) ⟨by omega, by omega⟩]
      refine ⟨fun z => absurd z (by omega), fun _ => c_at6 hA hK hn ⟨by omega, by omega⟩ (Or.inl rfl) ?_⟩
      have cj := (C (j : Int) (by omega) (by omega)).1
      rw [show 2 * (j : Int) + 0 = 2 * (j : Int) from by omega, wI (x := σ 2 (2 * (j : Int))) ⟨by omega, by omega⟩, wI ht]
      have := ih (j + 1) (by omega)
      unfold manyN at this
      rw [show ((j + 1 : Nat) : Int) = (j : Int) + 1 from by omega] at this
      refine ⟨fun z => ?_, fun z => ?_⟩
      · rw [if_neg z, Int.add_zero] at this; exact this
      · rw [if_pos z] at this; exact this
  unfold w_X1_claimants
  exact ⟨pl_1, _, lp (σ 0 2).toNat 0 (by omega)⟩
theorem c_counted {σ M : gSt} {i : Int} {k : Int → gSt → Prop} (hA : absC M = σ) (hK : cK M) (I : iN σ) (C : iC σ) (X : iX σ) (hi : 0 ≤ i ∧ i < σ 0 2) (h : ∀ r M', wrap r = countS σ i → onC M M' → k r M') : w_X1_counted 1 i M k := by
  unfold iN at I
  have n10 := rc010 M
  rw [hA] at n10
  obtain ⟨c0, c1⟩ := C i hi.1 hi.2
  unfold w_X1_counted
  unfold countS at h
  refine ⟨pl_1, c_at6 hA hK ⟨by omega, by omega⟩ hi (Or.inr rfl) (sp_size4 pl_16 ?_)⟩
  rw [show M (1 + 15) 3 = σ 0 10 from n10.symm, wI (x := σ 0 10) ⟨by omega, by omega⟩]
  refine ⟨fun z => ?_, fun z => ?_⟩
  · rw [if_pos (by omega)] at h
    refine c_at6 hA hK ⟨by omega, by omega⟩ hi (Or.inl rfl) ?_
    rw [show 2 * i + 0 = 2 * i from by omega]
    refine sp_number pl_2 rfl c0 (by decide) ?_
    rw [show M (1 + 1 + 1) (10 * σ 2 (2 * i) + 2) = σ 1 (10 * σ 2 (2 * i) + 2) from by rw [← hA]; exact (rc1 M (by rw [hA]; omega) (by rw [hA]; omega)).symm]
    refine c_many hA hK ⟨by omega, by omega⟩ C ⟨by omega, by omega⟩ ?_
    refine sp_value (u := 1) (o := 16) (Or.inr rfl) rfl hK (by rw [← n10]; exact ⟨by omega, by omega⟩) (by rw [← n10, hA]; exact X.2 (by omega)) (fun r M' hr e' => c_heldG (by rw [wI ⟨by omega, by omega⟩]; exact c1.1) (fun x hx => h x M' ?_ e'))
    rw [hx, hr, ← n10, hA, wI (x := σ 2 (2 * i + 1)) ⟨by omega, by omega⟩]
    rfl
  · rw [if_neg (by omega)] at h
    exact h _ M (wI ⟨by omega, by omega⟩) (fun _ _ _ => rfl)
theorem c_below {σ M : gSt} {t m : Int} {k : Int → gSt → Prop} (hA : absC M = σ) (hK : cK M) (I : iN σ) (C : iC σ) (X : iX σ) (ht : inI t) (hm : 0 ≤ m ∧ m ≤ σ 0 2) (h : ∀ r M', wrap r = belowN σ t m.toNat → onC M M' → k r M') : w_X1_countedBelow 1 t m M k := by
  have I' := I
  unfold iN at I'
  have lp : ∀ (r j : Nat) (v : Int) (M1 : gSt), j + r = m.toNat → wrap v = belowN σ t j → onC M M1 → wL_X1_countedBelow_5 1 t m k (fun u3_5 M5 => k u3_5 M5) (r + 1) v j M1 := by
    intro r
    induction r with
    | zero =>
      intro j v M1 hj hv o1
      unfold wL_X1_countedBelow_5 wC_X1_countedBelow_5
      rw [wI (x := m) ⟨by omega, by omega⟩, wI (x := (j : Int)) ⟨by omega, by omega⟩]
      refine ⟨fun _ => h v M1 ?_ o1, fun z => absurd z (by omega)⟩
      rw [hv, show j = m.toNat from by omega]
    | succ r ih =>
      intro j v M1 hj hv o1
      have A1 : absC M1 = σ := (onC_abs o1).trans hA
      have K1 := onC_cK o1 hK
      have n2 := rc02 M1
      rw [A1] at n2
      unfold wL_X1_countedBelow_5 wC_X1_countedBelow_5 wB_X1_countedBelow_46
      rw [wI (x := m) ⟨by omega, by omega⟩, wI (x := (j : Int)) ⟨by omega, by omega⟩]
      refine ⟨fun z => absurd z (by omega), fun _ => sp_size4 pl_6 ?_⟩
      rw [show M1 (1 + 5) 3 = σ 0 2 from n2.symm, wI (x := σ 0 2) ⟨by omega, by omega⟩]
      refine ⟨fun z => absurd z (by omega), fun _ => c_at6 A1 K1 ⟨by omega, by omega⟩ ⟨by omega, by omega⟩ (Or.inl rfl) ?_⟩
      have cj := (C (j : Int) (by omega) (by omega)).1
      have cj1 := (C (j : Int) (by omega) (by omega)).2
      rw [show 2 * (j : Int) + 0 = 2 * (j : Int) from by omega, wI (x := σ 2 (2 * (j : Int))) ⟨by omega, by omega⟩, wI ht]
      have br := below_rng (t := t) C j (by omega)
      have cr := count_rng (σ := σ) (i := (j : Int)) cj1.1
      refine ⟨fun z => ?_, fun z => c_counted A1 K1 I C X ⟨by omega, by omega⟩ (fun r2 M2 hr o2 x ex => ?_)⟩
      · have := ih (j + 1) v M1 (by omega) (by unfold belowN; rw [if_neg z, Int.add_zero]; exact hv) o1
        rw [show ((j + 1 : Nat) : Int) = (j : Int) + 1 from by omega] at this
        exact this
      · have := ih (j + 1) x M2 (by omega) (by
          unfold belowN
          rw [if_pos z, ex, ← hv, ← hr]
          have e : wrap (v + r2) = wrap (wrap v + wrap r2) := by unfold wrap; omega
          rw [e, hv, hr]
          exact wI ⟨by omega, by omega⟩) (fun p a b => (o2 p a b).trans (o1 p a b))
        rw [show ((j + 1 : Nat) : Int) = (j : Int) + 1 from by omega] at this
        exact this
  unfold w_X1_countedBelow
  exact ⟨pl_1, _, lp m.toNat 0 0 M (by omega) rfl (fun _ _ _ => rfl)⟩
def shareS (σ : gSt) (i w : Int) : Int :=
  if w = 0 then (if σ 1 (10 * σ 2 (2 * i) + 2) / manyN (σ 2) (σ 2 (2 * i)) (σ 0 2).toNat < countS σ i then σ 1 (10 * σ 2 (2 * i) + 2) / manyN (σ 2) (σ 2 (2 * i)) (σ 0 2).toNat else countS σ i)
  else if w = 1 then (if σ 1 (10 * σ 2 (2 * i) + 2) < belowN σ (σ 2 (2 * i)) (σ 0 2).toNat then countS σ i * σ 1 (10 * σ 2 (2 * i) + 2) / belowN σ (σ 2 (2 * i)) (σ 0 2).toNat else countS σ i)
  else heldS (σ 1 (10 * σ 2 (2 * i) + 2) - belowN σ (σ 2 (2 * i)) i.toNat) 0 (countS σ i)
theorem c_share {σ M : gSt} {i w : Int} {k : Int → gSt → Prop} (hA : absC M = σ) (hK : cK M) (I : iN σ) (J : iB σ) (C : iC σ) (X : iX σ) (hi : 0 ≤ i ∧ i < σ 0 2) (hw : 0 ≤ w ∧ w ≤ 2) (h : ∀ r M', wrap r = shareS σ i w → onC M M' → k r M') : w_X1_shareOf 1 i w M k := by
  have I' := I
  unfold iN at I'
  obtain ⟨c0, c1⟩ := C i hi.1 hi.2
  have cr := count_rng (σ := σ) (i := i) c1.1
  have gr := (J (σ 2 (2 * i)) c0.1 c0.2).2.2.1
  unfold w_X1_shareOf
  unfold shareS at h
  refine ⟨pl_1, c_at6 hA hK ⟨by omega, by omega⟩ hi (Or.inl rfl) ?_⟩
  rw [show 2 * i + 0 = 2 * i from by omega]
  refine sp_number pl_2 rfl c0 (by decide) ?_
  rw [show M (1 + 1 + 1) (10 * σ 2 (2 * i) + 2) = σ 1 (10 * σ 2 (2 * i) + 2) from by rw [← hA]; exact (rc1 M (by rw [hA]; omega) (by rw [hA]; omega)).symm]
  generalize hT : σ 2 (2 * i) = t at *
  generalize hG : σ 1 (10 * t + 2) = g at *
  refine c_counted hA hK I C X hi (fun r M1 hr o1 => ?_)
  have A1 : absC M1 = σ := (onC_abs o1).trans hA
  have K1 := onC_cK o1 hK
  rw [wI (x := w) ⟨by omega, by omega⟩, wI (x := g) ⟨by omega, by omega⟩, hr]
  refine ⟨fun n0 => ⟨fun n1 => ?_, fun e1 => ?_⟩, fun e0 => ?_⟩
  · rw [if_neg n0, if_neg n1] at h
    have br := below_rng (t := t) C i.toNat (by omega)
    refine c_below A1 K1 I C X ⟨by omega, by omega⟩ ⟨by omega, by omega⟩ (fun r2 M2 hr2 o2 => c_heldG (by rw [hr]; exact cr.1) (fun x hx => h x M2 ?_ (fun p a b => (o2 p a b).trans (o1 p a b))))
    have e : wrap (g - r2) = wrap (g - wrap r2) := by unfold wrap; omega
    rw [hx, hr, e, hr2, wI (x := g - belowN σ t i.toNat) ⟨by omega, by omega⟩]
  · rw [if_neg n0, if_pos e1] at h
    have n2 := rc02 M1
    rw [A1] at n2
    have br := below_rng (t := t) C (σ 0 2).toNat (by omega)
    refine sp_size4 pl_6 ?_
    rw [show M1 (1 + 5) 3 = σ 0 2 from n2.symm]
    refine c_below A1 K1 I C X ⟨by omega, by omega⟩ ⟨by omega, by omega⟩ (fun r2 M2 hr2 o2 => ?_)
    rw [hr2]
    refine ⟨fun z => ?_, fun z => h r M2 ?_ (fun p a b => (o2 p a b).trans (o1 p a b))⟩
    · have pr : 0 ≤ g * countS σ i ∧ g * countS σ i ≤ 9999999 * 9999999 := ⟨Int.mul_nonneg (by omega) cr.1, Int.mul_le_mul (by omega) (by omega) cr.1 (by omega)⟩
      refine sp_quot ⟨pr.1, by omega⟩ ⟨br.1, by omega⟩ (h _ M2 ?_ (fun p a b => (o2 p a b).trans (o1 p a b)))
      rw [if_pos z]
      unfold qz
      rw [if_neg (by omega), Int.mul_comm g]
      refine wI ⟨?_, ?_⟩
      · have := Int.ediv_nonneg (a := countS σ i * g) (b := belowN σ t (σ 0 2).toNat) (by rw [Int.mul_comm]; exact pr.1) br.1
        omega
      · have : countS σ i * g / belowN σ t (σ 0 2).toNat ≤ countS σ i := Int.ediv_le_of_le_mul (by omega) (Int.mul_le_mul_of_nonneg_left (by omega) cr.1)
        omega
    · rw [if_neg (by omega)]; exact hr
  · rw [if_pos e0] at h
    have mr := many_rng (c := σ 2) (t := t) (σ 0 2).toNat
    have mp := many_pos (c := σ 2) (t := t) (i := i.toNat) (by rw [show ((i.toNat : Nat) : Int) = i from by omega]; exact hT) (σ 0 2).toNat (by omega)
    refine c_many A1 K1 ⟨by omega, by omega⟩ C ⟨by omega, by omega⟩ ?_
    rw [wI (x := manyN (σ 2) t (σ 0 2).toNat) ⟨by omega, by omega⟩]
    refine sp_quot ⟨by omega, by omega⟩ ⟨by omega, by omega⟩ (h _ M1 ?_ o1)
    have q : qz g (manyN (σ 2) t (σ 0 2).toNat) = g / manyN (σ 2) t (σ 0 2).toNat := by unfold qz; rw [if_neg (by omega)]
    have q0 : 0 ≤ g / manyN (σ 2) t (σ 0 2).toNat := Int.ediv_nonneg (by omega) (by omega)
    have q1 : g / manyN (σ 2) t (σ 0 2).toNat ≤ g := Int.ediv_le_self _ (by omega)
    rw [q]
    generalize g / manyN (σ 2) t (σ 0 2).toNat = Q at q0 q1 ⊢
    unfold xmin
    rw [hr, wI (x := Q) ⟨by omega, by omega⟩]
    by_cases z : Q < countS σ i
    · rw [if_pos z, if_pos z]; exact wI ⟨by omega, by omega⟩
    · rw [if_neg z, if_neg z]; exact hr
end
section
-- claimIs, share, left: the class's ends, and the reference
def leftN (σ : gSt) (t w : Int) : Nat → Int
  | 0 => σ 1 (10 * t + 2)
  | n + 1 => leftN σ t w n - (if σ 2 (2 * n) = t then shareS σ n w else 0)
def S_claimIs (i w : Int) (σ : gSt) : Int := if ¬ ((0 ≤ i ∧ i < σ 0 2) ∧ (0 ≤ w ∧ w ≤ 2)) then -1000000001 else if w = 2 then countS σ i else σ 2 (2 * i + w)
def S_share (i w : Int) (σ : gSt) : Int := if ¬ ((0 ≤ i ∧ i < σ 0 2) ∧ (0 ≤ w ∧ w ≤ 2)) then -1000000001 else shareS σ i w
def S_left (t w : Int) (σ : gSt) : Int := if ¬ ((0 ≤ t ∧ t < σ 0 0) ∧ (0 ≤ w ∧ w ≤ 2)) then -1000000001 else leftN σ t w (σ 0 2).toNat
theorem left_s {v L r S : Int} (hv : wrap v = wrap L) (hr : wrap r = S) : wrap (v - r) = wrap (L - S) := by
  unfold wrap at *; omega
theorem wrap_eq {r S : Int} (h : wrap r = S) : wrap r = wrap S := by rw [← h, wwrap]
theorem badC {M : gSt} {k : Int → gSt → Prop} {S : Int} (hK : cK M) (hS : S = -1000000001) (h : ∀ r M', wrap r = wrap S → absC M' = absC M → cK M' → k r M') : w_X8_refuse 1 M (fun r M' => k r M') :=
  sp_refuse (by decide) (by decide) (h _ _ (by rw [hS]; rfl) (ac_eq (fun o ho => wrO' (by unfold scr at ho; omega))) (cK_wr hK (Or.inr (by decide))))
theorem sC_claimIs {i w : Int} {M : gSt} {k : Int → gSt → Prop} (i1 : inI i) (i2 : inI w) (I : iN (absC M)) (C : iC (absC M)) (X : iX (absC M)) (hK : cK M) (h : ∀ r M', wrap r = wrap (S_claimIs i w (absC M)) → absC M' = absC M → cK M' → k r M') : w_X8_claimIs i w M k := by
  have I' := I
  unfold iN at I'
  have n2 := rc02 M
  unfold w_X8_claimIs wB_X8_claimIs_23
  refine sp_has4 pl_6 i1 ⟨by omega, by omega⟩ (fun h1 => z1 ?_) (fun h1 => z0 (badC (S := S_claimIs i w (absC M)) hK (if_pos (by omega)) h))
  refine sp_within i2 (by constructor <;> decide) (by constructor <;> decide) (fun h2 => z1n ?_) (fun h2 => z0n (badC (S := S_claimIs i w (absC M)) hK (if_pos (by omega)) h))
  unfold S_claimIs at h
  rw [if_neg (by omega)] at h
  rw [wI i2]
  refine ⟨fun z => c_at6 rfl hK ⟨by omega, by omega⟩ ⟨by omega, by omega⟩ (by omega) (h _ M (by rw [if_neg z]) rfl hK), fun z => c_counted rfl hK I C X ⟨by omega, by omega⟩ (fun r M' hr o => h r M' (by rw [if_pos z]; exact wrap_eq hr) (onC_abs o) (onC_cK o hK))⟩
theorem sC_share {i w : Int} {M : gSt} {k : Int → gSt → Prop} (i1 : inI i) (i2 : inI w) (I : iN (absC M)) (J : iB (absC M)) (C : iC (absC M)) (X : iX (absC M)) (hK : cK M) (h : ∀ r M', wrap r = wrap (S_share i w (absC M)) → absC M' = absC M → cK M' → k r M') : w_X8_share i w M k := by
  have I' := I
  unfold iN at I'
  have n2 := rc02 M
  unfold w_X8_share wB_X8_share_23
  refine sp_has4 pl_6 i1 ⟨by omega, by omega⟩ (fun h1 => z1 ?_) (fun h1 => z0 (badC (S := S_share i w (absC M)) hK (if_pos (by omega)) h))
  refine sp_within i2 (by constructor <;> decide) (by constructor <;> decide) (fun h2 => z1n ?_) (fun h2 => z0n (badC (S := S_share i w (absC M)) hK (if_pos (by omega)) h))
  unfold S_share at h
  rw [if_neg (by omega)] at h
  exact c_share rfl hK I J C X ⟨by omega, by omega⟩ h2 (fun r M' hr o => h r M' (wrap_eq hr) (onC_abs o) (onC_cK o hK))
theorem sC_left {t w : Int} {M : gSt} {k : Int → gSt → Prop} (i1 : inI t) (i2 : inI w) (I : iN (absC M)) (J : iB (absC M)) (C : iC (absC M)) (X : iX (absC M)) (hK : cK M) (h : ∀ r M', wrap r = wrap (S_left t w (absC M)) → absC M' = absC M → cK M' → k r M') : w_X8_left t w M k := by
  have I' := I
  unfold iN at I'
  have n0 := rc00 M
  unfold w_X8_left wB_X8_left_23
  refine sp_has0 pl_2 i1 ⟨by omega, by omega⟩ (fun h1 => z1 ?_) (fun h1 => z0 (badC (S := S_left t w (absC M)) hK (if_pos (by omega)) h))
  refine sp_within i2 (by constructor <;> decide) (by constructor <;> decide) (fun h2 => z1n ?_) (fun h2 => z0n (badC (S := S_left t w (absC M)) hK (if_pos (by omega)) h))
  unfold S_left at h
  rw [if_neg (by omega)] at h
  generalize hσ : absC M = σ at *
  have lp : ∀ (r j : Nat) (v : Int) (M1 : gSt), j + r = (σ 0 2).toNat → wrap v = wrap (leftN σ t w j) → onC M M1 → wL_X1_leftOf_13 1 t w k (fun u3_13 M13 => k u3_13 M13) (r + 1) v j M1 := by
    intro r
    induction r with
    | zero =>
      intro j v M1 hj hv o1
      have A1 : absC M1 = σ := (onC_abs o1).trans hσ
      have n2 := rc02 M1
      rw [A1] at n2
      unfold wL_X1_leftOf_13 wC_X1_leftOf_13
      refine sp_size4 pl_6 ?_
      rw [show M1 (1 + 5) 3 = σ 0 2 from n2.symm, wI (x := σ 0 2) ⟨by omega, by omega⟩, wI (x := (j : Int)) ⟨by omega, by omega⟩]
      refine ⟨fun _ => h v M1 (by rw [hv, show j = (σ 0 2).toNat from by omega]) A1 (onC_cK o1 hK), fun z => absurd z (by omega)⟩
    | succ r ih =>
      intro j v M1 hj hv o1
      have A1 : absC M1 = σ := (onC_abs o1).trans hσ
      have K1 := onC_cK o1 hK
      have n2 := rc02 M1
      rw [A1] at n2
      unfold wL_X1_leftOf_13 wC_X1_leftOf_13 wB_X1_leftOf_49
      refine sp_size4 pl_6 ?_
      rw [show M1 (1 + 5) 3 = σ 0 2 from n2.symm, wI (x := σ 0 2) ⟨by omega, by omega⟩, wI (x := (j : Int)) ⟨by omega, by omega⟩]
      refine ⟨fun z => absurd z (by omega), fun _ => c_at6 A1 K1 ⟨by omega, by omega⟩ ⟨by omega, by omega⟩ (Or.inl rfl) ?_⟩
      have cj := (C (j : Int) (by omega) (by omega)).1
      rw [show 2 * (j : Int) + 0 = 2 * (j : Int) from by omega, wI (x := σ 2 (2 * (j : Int))) ⟨by omega, by omega⟩, wI i1]
      have e1 : ((j + 1 : Nat) : Int) = (j : Int) + 1 := by omega
      refine ⟨fun z => ?_, fun z => c_share A1 K1 I J C X ⟨by omega, by omega⟩ h2 (fun r2 M2 hr o2 x ex => ?_)⟩
      · have := ih (j + 1) v M1 (by omega) (by unfold leftN; rw [if_neg z, Int.sub_zero]; exact hv) o1
        rw [e1] at this
        exact this
      · have := ih (j + 1) x M2 (by omega) (by unfold leftN; rw [if_pos z, ex]; exact left_s hv hr) (fun p a b => (o2 p a b).trans (o1 p a b))
        rw [e1] at this
        exact this
  unfold w_X1_leftOf
  refine ⟨pl_1, sp_number pl_2 rfl ⟨by omega, by omega⟩ (by decide) ⟨_, lp (σ 0 2).toNat 0 _ M (by omega) ?_ (fun _ _ _ => rfl)⟩⟩
  show wrap (M 3 (10 * t + 2)) = wrap (σ 1 (10 * t + 2))
  rw [← hσ, rc1 M (by omega) (by omega)]
-- the reference
theorem on67_tr {M M' M'' : gSt} (h : on67 M M') (h2 : on67 M' M'') : on67 M M'' := fun p a b => (h2 p a b).trans (h p a b)
theorem rdC2 (M : gSt) {i : Int} (h0 : 0 ≤ i) (h1 : i < 20) : M 1 (140 + i) = absR M 2 i := by simp [absR, absS, msk, h0, h1]
theorem r_of {σ M : gSt} {i j : Int} {k : Int → gSt → Prop} (hA : absR M = σ) (hn : 0 ≤ σ 0 2 ∧ σ 0 2 ≤ 10) (hi : 0 ≤ i ∧ i < σ 0 2) (hj : j = 0 ∨ j = 1) (h : k (σ 2 (2 * i + j)) M) : w_Rof i j M k := by
  unfold w_Rof
  refine ⟨⟨by omega, by omega⟩, ?_⟩
  rw [show 140 + 2 * i + j = 140 + (2 * i + j) from by omega, rdC2 M (by omega) (by omega), hA]
  exact h
theorem r_many {σ M : gSt} {t : Int} {k : Int → gSt → Prop} (hA : absR M = σ) (hn : 0 ≤ σ 0 2 ∧ σ 0 2 ≤ 10) (C : iC σ) (ht : inI t) (h : k (manyN (σ 2) t (σ 0 2).toNat) M) : w_RmanyOn t M k := by
  have n2 : M 1 2 = σ 0 2 := by rw [rdS M 2 (by decide) (by decide), hA]
  have lp : ∀ r j : Nat, j + r = (σ 0 2).toNat → wL_RmanyOn_4 t k (fun u2_4 M4 => k u2_4 M4) (r + 1) (manyN (σ 2) t j) j M := by
    intro r
    induction r with
    | zero =>
      intro j hj
      unfold wL_RmanyOn_4 wC_RmanyOn_4
      rw [n2, wI (x := σ 0 2) ⟨by omega, by omega⟩, wI (x := (j : Int)) ⟨by omega, by omega⟩]
      refine ⟨fun _ => ?_, fun z => absurd z (by omega)⟩
      rw [show j = (σ 0 2).toNat from by omega]
      exact h
    | succ r ih =>
      intro j hj
      unfold wL_RmanyOn_4 wC_RmanyOn_4 wB_RmanyOn_30
      rw [n2, wI (x := σ 0 2) ⟨by omega, by omega⟩, wI (x := (j : Int)) ⟨by omega, by omega⟩]
      refine ⟨fun z => absurd z (by omega), fun _ => r_of hA hn ⟨by omega, by omega⟩ (Or.inl rfl) ?_⟩
      have cj := (C (j : Int) (by omega) (by omega)).1
      rw [show 2 * (j : Int) + 0 = 2 * (j : Int) from by omega, wI (x := σ 2 (2 * (j : Int))) ⟨by omega, by omega⟩, wI ht]
      have := ih (j + 1) (by omega)
      unfold manyN at this
      rw [show ((j + 1 : Nat) : Int) = (j : Int) + 1 from by omega] at this
      refine ⟨fun z x ex => ?_, fun z x ex => ?_⟩
      · rw [if_neg z] at this; rw [ex]; exact this
      · rw [if_pos z] at this; rw [ex]; exact this
  unfold w_RmanyOn
  exact ⟨_, lp (σ 0 2).toNat 0 (by omega)⟩
theorem r_heldG {r hi : Int} {M : gSt} {k : Int → gSt → Prop} (hh : 0 ≤ wrap hi) (h : ∀ x, wrap x = heldS (wrap r) 0 (wrap hi) → k x M) : w_Rheld r 0 hi M k := by
  unfold w_Rheld
  have w0 : wrap 0 = 0 := rfl
  unfold heldS at h
  rw [w0]
  refine ⟨fun a => ⟨fun b => h r (by rw [if_neg (by omega), if_neg (by omega)]), fun b => h hi (by rw [if_neg (by omega), if_pos b])⟩, fun a => h 0 (by rw [if_pos a, w0])⟩
theorem r_counts {σ M : gSt} {i : Int} {k : Int → gSt → Prop} (hA : absR M = σ) (raw : rawT 1 (M 1)) (I : iN σ) (C : iC σ) (X : iX σ) (hi : 0 ≤ i ∧ i < σ 0 2) (h : ∀ r M', wrap r = countS σ i → on67 M M' → k r M') : w_Rcounts i M k := by
  unfold iN at I
  have l : M 1 327 = σ 0 10 := by rw [← hA]; exact rdL (u := 1) (Or.inr rfl)
  obtain ⟨c0, c1⟩ := C i hi.1 hi.2
  unfold w_Rcounts w_RhasText
  unfold countS at h
  refine r_of hA ⟨by omega, by omega⟩ hi (Or.inr rfl) ⟨by decide, ?_⟩
  show (wrap (M 1 327) ≤ 0 → _) ∧ (0 < wrap (M 1 327) → _)
  rw [l, wI (x := σ 0 10) ⟨by omega, by omega⟩]
  refine ⟨fun z => z0n ?_, fun z => z1n (fun M1 e1 => ?_)⟩
  · rw [if_neg (by omega)] at h
    exact h _ M (wI ⟨by omega, by omega⟩) (fun _ _ _ => rfl)
  · rw [if_pos z] at h
    have o1 : on67 M M1 := fun p a b => by rw [e1, wrO' a]
    have A1 : absR M1 = σ := (on67_abs o1).1.trans hA
    refine r_of A1 ⟨by omega, by omega⟩ hi (Or.inl rfl) ?_
    rw [show 2 * i + 0 = 2 * i from by omega]
    refine sp_Rits c0 (by decide) (fun M2 e2 => ?_)
    rw [A1] at e2
    have o2 : on67 M M2 := fun p a b => by rw [e2, wrO' a]; exact o1 p a b
    have A2 : absR M2 = σ := (on67_abs o2).1.trans hA
    refine r_of A2 ⟨by omega, by omega⟩ hi (Or.inl rfl) ?_
    rw [show 2 * i + 0 = 2 * i from by omega]
    refine r_many A2 ⟨by omega, by omega⟩ C ⟨by omega, by omega⟩ (fun M3 e3 => ?_)
    have o3 : on67 M M3 := fun p a b => by rw [e3, wrO' a]; exact o2 p a b
    have e31 : M3 1 = M 1 := o3 1 (by decide) (by decide)
    have m99 : M3 6 99 = σ 2 (2 * i + 1) := by rw [e3, wrN (by decide), e2, wrN (by decide), e1, wrI]
    have m103 : M3 6 103 = σ 1 (10 * σ 2 (2 * i) + 2) := by rw [e3, wrN (by decide), e2, wrI]
    have m110 : M3 6 110 = manyN (σ 2) (σ 2 (2 * i)) (σ 0 2).toNat := by rw [e3, wrI]
    refine sp_Rworked (u := 1) (g := σ 2 (2 * i + 1)) (s := σ 1 (10 * σ 2 (2 * i) + 2)) (m := manyN (σ 2) (σ 2 (2 * i)) (σ 0 2).toNat) (L := σ 0 10) (f := σ 8) (Or.inr rfl) (by rw [e31]; exact l) ⟨by omega, by omega⟩ (by rw [e31]; exact raw) (fun j a b => ?_) (fun b hb => ?_) (X.2 z) (fun r M' hr e' => r_heldG (by rw [wI ⟨by omega, by omega⟩]; exact c1.1) (fun x hx => h x M' ?_ (fun p a b => (e' p b).trans (o3 p a b))))
    · rw [e31, ← hA]
      have : absR M 8 j = msk (M 1 327) (fun i => encT 1 (M 1 (328 + 2 * i)) (M 1 (329 + 2 * i))) j := rfl
      rw [this]
      unfold msk
      rw [l, if_pos ⟨a, b⟩]
      rfl
    · rcases hb with rfl | ⟨z, -⟩ | ⟨-, rfl | rfl⟩
      · rw [m103]; rfl
      · exact absurd z (by decide)
      · rw [m99]; rfl
      · rw [m110]; rfl
    · rw [hx, hr, wI (x := σ 2 (2 * i + 1)) ⟨by omega, by omega⟩]
theorem r_below {σ M : gSt} {t m : Int} {k : Int → gSt → Prop} (hA : absR M = σ) (raw : rawT 1 (M 1)) (I : iN σ) (C : iC σ) (X : iX σ) (ht : inI t) (hm : 0 ≤ m ∧ m ≤ σ 0 2) (h : ∀ r M', wrap r = belowN σ t m.toNat → on67 M M' → k r M') : w_RcountsBelow t m M k := by
  have I' := I
  unfold iN at I'
  have lp : ∀ (r j : Nat) (v : Int) (M1 : gSt), j + r = m.toNat → wrap v = belowN σ t j → on67 M M1 → wL_RcountsBelow_5 t m k (fun u3_5 M5 => k u3_5 M5) (r + 1) v j M1 := by
    intro r
    induction r with
    | zero =>
      intro j v M1 hj hv o1
      unfold wL_RcountsBelow_5 wC_RcountsBelow_5
      rw [wI (x := m) ⟨by omega, by omega⟩, wI (x := (j : Int)) ⟨by omega, by omega⟩]
      refine ⟨fun _ => h v M1 ?_ o1, fun z => absurd z (by omega)⟩
      rw [hv, show j = m.toNat from by omega]
    | succ r ih =>
      intro j v M1 hj hv o1
      have A1 : absR M1 = σ := (on67_abs o1).1.trans hA
      have raw1 : rawT 1 (M1 1) := by rw [o1 1 (by decide) (by decide)]; exact raw
      unfold wL_RcountsBelow_5 wC_RcountsBelow_5 wB_RcountsBelow_33
      rw [wI (x := m) ⟨by omega, by omega⟩, wI (x := (j : Int)) ⟨by omega, by omega⟩]
      refine ⟨fun z => absurd z (by omega), fun _ => r_of A1 ⟨by omega, by omega⟩ ⟨by omega, by omega⟩ (Or.inl rfl) ?_⟩
      have cj := (C (j : Int) (by omega) (by omega)).1
      have cj1 := (C (j : Int) (by omega) (by omega)).2
      rw [show 2 * (j : Int) + 0 = 2 * (j : Int) from by omega, wI (x := σ 2 (2 * (j : Int))) ⟨by omega, by omega⟩, wI ht]
      have br := below_rng (t := t) C j (by omega)
      have cr := count_rng (σ := σ) (i := (j : Int)) cj1.1
      have e1 : ((j + 1 : Nat) : Int) = (j : Int) + 1 := by omega
      refine ⟨fun z x ex => ?_, fun z => r_counts A1 raw1 I C X ⟨by omega, by omega⟩ (fun r2 M2 hr o2 x ex => ?_)⟩
      · have := ih (j + 1) x M1 (by omega) (by unfold belowN; rw [if_neg z, Int.add_zero, ex, Int.add_zero]; exact hv) o1
        rw [e1] at this
        exact this
      · have := ih (j + 1) x M2 (by omega) (by
          unfold belowN
          rw [if_pos z, ex, ← hv, ← hr]
          have e : wrap (v + r2) = wrap (wrap v + wrap r2) := by unfold wrap; omega
          rw [e, hv, hr]
          exact wI ⟨by omega, by omega⟩) (on67_tr o1 o2)
        rw [e1] at this
        exact this
  unfold w_RcountsBelow
  exact ⟨_, lp m.toNat 0 0 M (by omega) rfl (fun _ _ _ => rfl)⟩
theorem r_share {σ M : gSt} {i w : Int} {k : Int → gSt → Prop} (hA : absR M = σ) (raw : rawT 1 (M 1)) (I : iN σ) (J : iB σ) (C : iC σ) (X : iX σ) (hi : 0 ≤ i ∧ i < σ 0 2) (hw : 0 ≤ w ∧ w ≤ 2) (h : ∀ r M', wrap r = shareS σ i w → on67 M M' → k r M') : w_RshareOf i w M k := by
  have I' := I
  unfold iN at I'
  obtain ⟨c0, c1⟩ := C i hi.1 hi.2
  have cr := count_rng (σ := σ) (i := i) c1.1
  have gr := (J (σ 2 (2 * i)) c0.1 c0.2).2.2.1
  unfold w_RshareOf
  unfold shareS at h
  refine r_of hA ⟨by omega, by omega⟩ hi (Or.inl rfl) ?_
  rw [show 2 * i + 0 = 2 * i from by omega]
  refine sp_Rits c0 (by decide) ?_
  rw [hA]
  generalize hT : σ 2 (2 * i) = t at *
  generalize hG : σ 1 (10 * t + 2) = g at *
  refine r_counts hA raw I C X hi (fun r M1 hr o1 => ?_)
  have A1 : absR M1 = σ := (on67_abs o1).1.trans hA
  have raw1 : rawT 1 (M1 1) := by rw [o1 1 (by decide) (by decide)]; exact raw
  have n2 : M1 1 2 = σ 0 2 := by rw [rdS M1 2 (by decide) (by decide), A1]
  rw [wI (x := w) ⟨by omega, by omega⟩, wI (x := g) ⟨by omega, by omega⟩]
  refine ⟨fun n0 => ⟨fun n1 => ?_, fun e1 => ?_⟩, fun e0 => ?_⟩
  · rw [if_neg n0, if_neg n1] at h
    have br := below_rng (t := t) C i.toNat (by omega)
    refine r_below A1 raw1 I C X ⟨by omega, by omega⟩ ⟨by omega, by omega⟩ (fun r2 M2 hr2 o2 => r_heldG (by decide) (fun x hx => r_heldG (by rw [hx]; exact (held_rng2 (by decide)).1) (fun y hy => h y M2 ?_ (on67_tr o1 o2))))
    have e : wrap (g - r2) = wrap (g - wrap r2) := by unfold wrap; omega
    rw [hy, hx, hr, e, hr2, wI (x := g - belowN σ t i.toNat) ⟨by omega, by omega⟩, show wrap 9999999 = 9999999 from by decide]
    unfold heldS
    generalize countS σ i = c at cr ⊢
    generalize g - belowN σ t i.toNat = x
    by_cases a : x < 0
    · rw [if_pos a, if_pos a]; split <;> (try split) <;> omega
    · rw [if_neg a, if_neg a]
      by_cases b : 9999999 < x
      · rw [if_pos b]; split <;> (try split) <;> (try split) <;> omega
      · rw [if_neg b]; split <;> (try split) <;> (try split) <;> omega
  · rw [if_neg n0, if_pos e1] at h
    have br := below_rng (t := t) C (σ 0 2).toNat (by omega)
    rw [n2]
    refine r_below A1 raw1 I C X ⟨by omega, by omega⟩ ⟨by omega, by omega⟩ (fun r2 M2 hr2 o2 => ?_)
    rw [hr2]
    refine ⟨fun z => ?_, fun z => h r M2 ?_ (on67_tr o1 o2)⟩
    · have pr : 0 ≤ countS σ i * g ∧ countS σ i * g ≤ 9999999 * 9999999 := ⟨Int.mul_nonneg cr.1 (by omega), Int.mul_le_mul (by omega) (by omega) (by omega) (by omega)⟩
      unfold w_RpartOf
      rw [hr, hr2, wI (x := g) ⟨by omega, by omega⟩, wrapL_in (x := belowN σ t (σ 0 2).toNat) (by omega) (by omega), wrapL_in (x := countS σ i * g) (by omega) (by omega), tdiv_pos pr.1]
      refine ⟨by omega, h _ M2 ?_ (on67_tr o1 o2)⟩
      rw [if_pos z]
      refine wI ⟨?_, ?_⟩
      · have := Int.ediv_nonneg (a := countS σ i * g) (b := belowN σ t (σ 0 2).toNat) pr.1 br.1
        omega
      · have : countS σ i * g / belowN σ t (σ 0 2).toNat ≤ countS σ i := Int.ediv_le_of_le_mul (by omega) (Int.mul_le_mul_of_nonneg_left (by omega) cr.1)
        omega
    · rw [if_neg (by omega)]; exact hr
  · rw [if_pos e0] at h
    have mr := many_rng (c := σ 2) (t := t) (σ 0 2).toNat
    have mp := many_pos (c := σ 2) (t := t) (i := i.toNat) (by rw [show ((i.toNat : Nat) : Int) = i from by omega]; exact hT) (σ 0 2).toNat (by omega)
    refine r_many A1 ⟨by omega, by omega⟩ C ⟨by omega, by omega⟩ ?_
    rw [wI (x := manyN (σ 2) t (σ 0 2).toNat) ⟨by omega, by omega⟩, tdiv_pos (by omega : 0 ≤ g)]
    have q0 : 0 ≤ g / manyN (σ 2) t (σ 0 2).toNat := Int.ediv_nonneg (by omega) (by omega)
    have q1 : g / manyN (σ 2) t (σ 0 2).toNat ≤ g := Int.ediv_le_self _ (by omega)
    generalize g / manyN (σ 2) t (σ 0 2).toNat = Q at q0 q1 h ⊢
    refine ⟨by omega, r_heldG (by rw [wI ⟨by omega, by omega⟩]; exact q0) (fun x hx => h x M1 ?_ o1)⟩
    rw [hx, hr, wI (x := Q) ⟨by omega, by omega⟩]
    unfold heldS
    rw [if_neg (by omega)]
theorem badR {M : gSt} {k : Int → gSt → Prop} {S : Int} (hS : S = -1000000001) (h : ∀ r M', wrap r = wrap S → absR M' = absR M → fr M M' → k r M') : w_Rerror 1 M (fun r M' => k r M') :=
  sp_Rerror (by decide) (by decide) (fun M' e f => h _ M' (by rw [hS]; rfl) e f)
theorem sR_claimIs {i w : Int} {M : gSt} {k : Int → gSt → Prop} (i1 : inI i) (i2 : inI w) (I : iN (absR M)) (C : iC (absR M)) (X : iX (absR M)) (raw : rawT 1 (M 1)) (h : ∀ r M', wrap r = wrap (S_claimIs i w (absR M)) → absR M' = absR M → fr M M' → k r M') : w_RclaimIs i w M k := by
  have I' := I
  unfold iN at I'
  unfold w_RclaimIs wB_RclaimIs_17 w_RisClaim
  rw [rdS M 2 (by decide) (by decide)]
  refine sp_Rin i1 (by constructor <;> decide) ⟨by omega, by omega⟩ (fun h1 => ⟨Or.inr rfl, z1 ?_⟩) (fun h1 => ⟨Or.inl rfl, z0 (badR (S := S_claimIs i w (absR M)) (if_pos (by omega)) h)⟩)
  refine sp_Rin i2 (by constructor <;> decide) (by constructor <;> decide) (fun h2 => z1n ?_) (fun h2 => z0n (badR (S := S_claimIs i w (absR M)) (if_pos (by omega)) h))
  unfold S_claimIs at h
  rw [if_neg (by omega)] at h
  rw [wI i2]
  refine ⟨fun z => r_of rfl ⟨by omega, by omega⟩ ⟨by omega, by omega⟩ (by omega) (h _ M (by rw [if_neg z]) rfl fr_rf), fun z => r_counts rfl raw I C X ⟨by omega, by omega⟩ (fun r M' hr o => h r M' (by rw [if_pos z]; exact wrap_eq hr) (on67_abs o).1 (on67_abs o).2)⟩
theorem sR_share {i w : Int} {M : gSt} {k : Int → gSt → Prop} (i1 : inI i) (i2 : inI w) (I : iN (absR M)) (J : iB (absR M)) (C : iC (absR M)) (X : iX (absR M)) (raw : rawT 1 (M 1)) (h : ∀ r M', wrap r = wrap (S_share i w (absR M)) → absR M' = absR M → fr M M' → k r M') : w_Rshare i w M k := by
  have I' := I
  unfold iN at I'
  unfold w_Rshare wB_Rshare_24 w_RisClaim w_RisLaw
  rw [rdS M 2 (by decide) (by decide)]
  refine sp_Rin i1 (by constructor <;> decide) ⟨by omega, by omega⟩ (fun h1 => ⟨Or.inr rfl, z1 ?_⟩) (fun h1 => ⟨Or.inl rfl, z0 (badR (S := S_share i w (absR M)) (if_pos (by omega)) h)⟩)
  refine sp_Rin i2 (by constructor <;> decide) (by constructor <;> decide) (fun h2 => ⟨Or.inr rfl, z1 ?_⟩) (fun h2 => ⟨Or.inl rfl, z0 (badR (S := S_share i w (absR M)) (if_pos (by omega)) h)⟩)
  unfold S_share at h
  rw [if_neg (by omega)] at h
  exact r_share rfl raw I J C X ⟨by omega, by omega⟩ h2 (fun r M' hr o => h r M' (wrap_eq hr) (on67_abs o).1 (on67_abs o).2)
theorem sR_left {t w : Int} {M : gSt} {k : Int → gSt → Prop} (i1 : inI t) (i2 : inI w) (I : iN (absR M)) (J : iB (absR M)) (C : iC (absR M)) (X : iX (absR M)) (raw : rawT 1 (M 1)) (h : ∀ r M', wrap r = wrap (S_left t w (absR M)) → absR M' = absR M → fr M M' → k r M') : w_Rleft t w M k := by
  have I' := I
  unfold iN at I'
  unfold w_Rleft wB_Rleft_15 w_RisLaw
  refine sp_RisThing i1 ⟨by omega, by omega⟩ (fun h1 => z1 ?_) (fun h1 => z0 (badR (S := S_left t w (absR M)) (if_pos (by omega)) h))
  refine sp_Rin i2 (by constructor <;> decide) (by constructor <;> decide) (fun h2 => ⟨Or.inr rfl, z1n ?_⟩) (fun h2 => ⟨Or.inl rfl, z0n (badR (S := S_left t w (absR M)) (if_pos (by omega)) h)⟩)
  unfold S_left at h
  rw [if_neg (by omega)] at h
  refine sp_Rits ⟨by omega, by omega⟩ (by decide) ?_
  generalize hσ : absR M = σ at *
  have lp : ∀ (r j : Nat) (v : Int) (M1 : gSt), j + r = (σ 0 2).toNat → wrap v = wrap (leftN σ t w j) → on67 M M1 → wL_Rleft_31 t w k (fun u3_31 M31 => k u3_31 M31) (r + 1) v j M1 := by
    intro r
    induction r with
    | zero =>
      intro j v M1 hj hv o1
      have A1 : absR M1 = σ := (on67_abs o1).1.trans hσ
      unfold wL_Rleft_31 wC_Rleft_31
      rw [rdS M1 2 (by decide) (by decide), A1, wI (x := σ 0 2) ⟨by omega, by omega⟩, wI (x := (j : Int)) ⟨by omega, by omega⟩]
      refine ⟨fun _ => h v M1 (by rw [hv, show j = (σ 0 2).toNat from by omega]) A1 (on67_abs o1).2, fun z => absurd z (by omega)⟩
    | succ r ih =>
      intro j v M1 hj hv o1
      have A1 : absR M1 = σ := (on67_abs o1).1.trans hσ
      have raw1 : rawT 1 (M1 1) := by rw [o1 1 (by decide) (by decide)]; exact raw
      unfold wL_Rleft_31 wC_Rleft_31 wB_Rleft_65
      rw [rdS M1 2 (by decide) (by decide), A1, wI (x := σ 0 2) ⟨by omega, by omega⟩, wI (x := (j : Int)) ⟨by omega, by omega⟩]
      refine ⟨fun z => absurd z (by omega), fun _ => r_of A1 ⟨by omega, by omega⟩ ⟨by omega, by omega⟩ (Or.inl rfl) ?_⟩
      have cj := (C (j : Int) (by omega) (by omega)).1
      rw [show 2 * (j : Int) + 0 = 2 * (j : Int) from by omega, wI (x := σ 2 (2 * (j : Int))) ⟨by omega, by omega⟩, wI i1]
      have e1 : ((j + 1 : Nat) : Int) = (j : Int) + 1 := by omega
      refine ⟨fun z x ex => ?_, fun z => r_share A1 raw1 I J C X ⟨by omega, by omega⟩ h2 (fun r2 M2 hr o2 x ex => ?_)⟩
      · have := ih (j + 1) x M1 (by omega) (by unfold leftN; rw [if_neg z, Int.sub_zero, ex, Int.sub_zero]; exact hv) o1
        rw [e1] at this
        exact this
      · have := ih (j + 1) x M2 (by omega) (by unfold leftN; rw [if_pos z, ex]; exact left_s hv hr) (on67_tr o1 o2)
        rw [e1] at this
        exact this
  exact ⟨_, lp (σ 0 2).toNat 0 _ M (by omega) rfl (fun _ _ _ => rfl)⟩
end
section
-- histories: things as they were by a history; by, both sides
theorem lose_mono {x y e : Int} (he : 1 ≤ e ∧ e ≤ 8) (h0 : 0 ≤ x) (h : x ≤ y) : 0 ≤ x - x * e / 8 ∧ x - x * e / 8 ≤ y - y * e / 8 ∧ y - y * e / 8 ≤ y := by
  rcases (show e = 1 ∨ e = 2 ∨ e = 3 ∨ e = 4 ∨ e = 5 ∨ e = 6 ∨ e = 7 ∨ e = 8 by omega) with rfl | rfl | rfl | rfl | rfl | rfl | rfl | rfl <;> omega
theorem cap_rng {x y : Int} (hx : 0 ≤ x) (hy : 0 ≤ y) : 0 ≤ cap x y ∧ cap x y ≤ y := by unfold cap; split <;> omega
theorem thOk_move {a b e t : Int} {B : Int → Int} (hab : a ≠ b) (he : 1 ≤ e ∧ e ≤ 8) (TA : thOk B (10 * a)) (TB : thOk B (10 * b)) (T : thOk B (10 * t)) : thOk (moveB a b e B) (10 * t) := by
  by_cases tb : t = b
  · subst tb
    obtain ⟨b0, b1, b2, b3, b4, b5, b6, b7, b8, b9⟩ := TB
    obtain ⟨a0, a1, a2, a3, a4, a5, a6, a7, a8, a9⟩ := TA
    have pr := part_rng a2 he
    have p3 := part_rng (g := B (10 * a + 3)) (by omega) he
    have p4 := part_rng (g := B (10 * a + 4)) (by omega) he
    have p5 := part_rng (g := B (10 * a + 5)) (by omega) he
    have v : ∀ w, w = 0 ∨ w = 1 → moveB a t e B (10 * t + w) = B (10 * t + w) := fun w hw => by
      unfold moveB; rw [if_neg (by omega), if_neg (by omega), if_neg (by omega), if_neg (by omega)]
    have v2 : moveB a t e B (10 * t + 2) = fA a t e B := by unfold moveB; rw [if_neg (by omega), if_pos rfl]
    have vT : ∀ w, 3 ≤ w → w < 6 → moveB a t e B (10 * t + w) = fT a t e B w := fun w x y => by
      unfold moveB; rw [if_neg (by omega), if_neg (by omega), if_pos (by omega), show 10 * t + w - 10 * t = w from by omega]
    have vH : ∀ w, 6 ≤ w → w < 10 → moveB a t e B (10 * t + w) = fH a t e B w := fun w x y => by
      unfold moveB; rw [if_pos (by omega), show 10 * t + w - 10 * t = w from by omega]
    have rA : 0 ≤ fA a t e B ∧ fA a t e B ≤ 9999999 := by unfold fA; exact cap_rng (by omega) (by decide)
    have rT : ∀ w, 0 ≤ B (10 * t + w) → 0 ≤ B (10 * a + w) * e / 8 → 0 ≤ fT a t e B w ∧ fT a t e B w ≤ fA a t e B := fun w x y => by unfold fT; exact cap_rng (by omega) rA.1
    have rH : ∀ w, 0 ≤ B (10 * t + w) ∧ B (10 * t + w) ≤ 1000000 → 0 ≤ B (10 * a + w) ∧ B (10 * a + w) ≤ 1000000 → 0 ≤ fH a t e B w ∧ fH a t e B w ≤ 1000000 := fun w x y => by unfold fH; exact qz_rng pr.2.2.1 b2.1 y x
    unfold thOk
    rw [v 0 (Or.inl rfl), v 1 (Or.inr rfl), v2, vT 3 (by decide) (by decide), vT 4 (by decide) (by decide), vT 5 (by decide) (by decide), vH 6 (by decide) (by decide), vH 7 (by decide) (by decide), vH 8 (by decide) (by decide), vH 9 (by decide) (by decide)]
    exact ⟨b0, b1, rA, rT 3 b3.1 p3.2.2.1, rT 4 b4.1 p4.2.2.1, rT 5 b5.1 p5.2.2.1, rH 6 b6 a6, rH 7 b7 a7, rH 8 b8 a8, rH 9 b9 a9⟩
  · by_cases ta : t = a
    · subst ta
      obtain ⟨a0, a1, a2, a3, a4, a5, a6, a7, a8, a9⟩ := TA
      have v : ∀ w, 0 ≤ w → w ≤ 9 → w < 2 ∨ 6 ≤ w → moveB t b e B (10 * t + w) = B (10 * t + w) := fun w x y z => by
        unfold moveB; rw [if_neg (by omega), if_neg (by omega), if_neg (by omega), if_neg (by omega)]
      have vL : ∀ w, 2 ≤ w → w < 6 → moveB t b e B (10 * t + w) = B (10 * t + w) - B (10 * t + w) * e / 8 := fun w x y => by
        unfold moveB; rw [if_neg (by omega), if_neg (by omega), if_neg (by omega), if_pos (by omega), show 10 * t + w - 10 * t = w from by omega]; rfl
      have m2 := lose_mono he a2.1 (Int.le_refl _)
      have m3 := lose_mono he a3.1 a3.2
      have m4 := lose_mono he a4.1 a4.2
      have m5 := lose_mono he a5.1 a5.2
      unfold thOk
      rw [v 0 (by decide) (by decide) (by decide), v 1 (by decide) (by decide) (by decide), vL 2 (by decide) (by decide), vL 3 (by decide) (by decide), vL 4 (by decide) (by decide), vL 5 (by decide) (by decide), v 6 (by decide) (by decide) (by decide), v 7 (by decide) (by decide) (by decide), v 8 (by decide) (by decide) (by decide), v 9 (by decide) (by decide) (by decide)]
      exact ⟨a0, a1, ⟨m2.1, by omega⟩, ⟨m3.1, m3.2.1⟩, ⟨m4.1, m4.2.1⟩, ⟨m5.1, m5.2.1⟩, a6, a7, a8, a9⟩
    · refine thOk_congr (fun w x y => ?_) T
      unfold moveB
      rw [if_neg (by omega), if_neg (by omega), if_neg (by omega), if_neg (by omega)]
/-- papers as they can be -/
def iP (σ : gSt) : Prop := ∀ i, 0 ≤ i → i < σ 0 3 → (0 ≤ σ 3 (3 * i) ∧ σ 3 (3 * i) ≤ 11) ∧ (0 ≤ σ 3 (3 * i + 1) ∧ σ 3 (3 * i + 1) ≤ 11) ∧ σ 3 (3 * i) ≠ σ 3 (3 * i + 1) ∧ (1 ≤ σ 3 (3 * i + 2) ∧ σ 3 (3 * i + 2) ≤ 8)
def byB (σ : gSt) (h : Int) : Nat → Int → Int
  | 0 => σ 1
  | n + 1 => if wrap (xand (xshr h n) 1) = 1 then moveB (σ 3 (3 * n)) (σ 3 (3 * n + 1)) (σ 3 (3 * n + 2)) (byB σ h n) else byB σ h n
theorem byB_s {σ : gSt} {h : Int} {n : Nat} : byB σ h (n + 1) = if wrap (xand (xshr h n) 1) = 1 then moveB (σ 3 (3 * n)) (σ 3 (3 * n + 1)) (σ 3 (3 * n + 2)) (byB σ h n) else byB σ h n := rfl
theorem byB_ok {σ : gSt} {h : Int} (J : iB σ) (P : iP σ) : ∀ n : Nat, (n : Int) ≤ σ 0 3 → ∀ t, 0 ≤ t → t ≤ 12 → thOk (byB σ h n) (10 * t)
  | 0, _ => J
  | n + 1, hn => fun t x y => by
    have ih := byB_ok (h := h) J P n (by omega)
    obtain ⟨p0, p1, p2, p3⟩ := P n (by omega) (by omega)
    rw [byB_s]
    by_cases w : wrap (xand (xshr h n) 1) = 1
    · rw [if_pos w]; exact thOk_move p2 p3 (ih _ p0.1 (by omega)) (ih _ p1.1 (by omega)) (ih t x y)
    · rw [if_neg w]; exact ih t x y
theorem rc3 (M : gSt) {i : Int} (h0 : 0 ≤ i) (h1 : i < 18) : absC M 3 i = M 9 i := by simp [absC, msk, h0, h1]
/-- the class's second cells hold things by a history -/
def folC (B : Int → Int) (M0 M : gSt) : Prop := (∀ p, p ≠ 42 → p ≠ 43 → M p = M0 p) ∧ ∀ j, 0 ≤ j → j < 130 → M 43 j = B j
theorem c_follow {σ M : gSt} {h : Int} {k : gSt → Prop} (hA : absC M = σ) (hK : cK M) (I : iN σ) (J : iB σ) (P : iP σ) (hk : ∀ M', folC (byB σ h (σ 0 3).toNat) M M' → k M') : w_X2_follow 41 1 h M k := by
  unfold iN at I
  have n3 := rc03 M
  rw [hA] at n3
  have k8 := (cK_8 hK).1
  have lp : ∀ (r n : Nat) (M1 : gSt), n + r = (σ 0 3).toNat → folC (byB σ h n) M M1 → wL_X2_follow_19 41 1 h k (fun M19 => k M19) (r + 1) 8 n M1 := by
    intro r
    induction r with
    | zero =>
      intro n M1 hn f
      unfold wL_X2_follow_19 wC_X2_follow_19
      refine sp_size4 pl_8 ?_
      rw [f.1 8 (by decide) (by decide), ← n3, wI (x := σ 0 3) ⟨by omega, by omega⟩, wI (x := (n : Int)) ⟨by omega, by omega⟩]
      refine ⟨fun _ => hk M1 ?_, fun z => absurd z (by omega)⟩
      rw [show (σ 0 3).toNat = n from by omega]
      exact f
    | succ r ih =>
      intro n M1 hn f
      obtain ⟨p0, p1, p2, p3⟩ := P n (by omega) (by omega)
      have ok := byB_ok (h := h) J P n (by omega)
      have m8 := f.1 8 (by decide) (by decide)
      have m9 := f.1 9 (by decide) (by decide)
      have rd : ∀ j, 0 ≤ j → j ≤ 2 → ∀ kk : Int → gSt → Prop, kk (σ 3 (3 * n + j)) M1 → w_X4_at 8 n j M1 kk := fun j x y kk hkk => by
        refine sp_at (W := 3) pl_8 (by rw [m8]; exact k8) (by rw [m8, ← n3]; exact ⟨by omega, by omega⟩) ⟨x, by omega⟩ ⟨by rw [m8, ← n3]; omega, by decide⟩ (by show (n : Int) * 3 + j < 18; omega) (by decide) ?_
        rw [show (n : Int) * 3 + j = 3 * n + j from by omega]
        show kk (M1 9 (3 * n + j)) M1
        rw [m9, ← rc3 M (by omega) (by omega), hA]
        exact hkk
      have e1 : ((n + 1 : Nat) : Int) = (n : Int) + 1 := by omega
      have next : ∀ M2, folC (byB σ h (n + 1)) M M2 → wL_X2_follow_19 41 1 h k (fun M19 => k M19) (r + 1) 8 ((n : Int) + 1) M2 := fun M2 g => by
        have := ih (n + 1) M2 (by omega) g
        rw [e1] at this
        exact this
      unfold wL_X2_follow_19 wC_X2_follow_19 wB_X2_follow_66
      refine sp_size4 pl_8 ?_
      rw [m8, ← n3, wI (x := σ 0 3) ⟨by omega, by omega⟩, wI (x := (n : Int)) ⟨by omega, by omega⟩]
      refine ⟨fun z => absurd z (by omega), fun _ => ⟨fun w => next M1 (by rw [byB_s, if_neg w]; exact f), fun w => rd 0 (by decide) (by decide) _ (rd 1 (by decide) (by decide) _ (rd 2 (by decide) (by decide) _ ?_))⟩⟩
      rw [show 3 * (n : Int) + 0 = 3 * n from by omega]
      refine sp_pour pl_42 rfl ⟨by omega, by omega⟩ ⟨by omega, by omega⟩ p2 p3 (thOk_cg ⟨by omega, by omega⟩ f.2 (ok _ p0.1 (by omega))) (thOk_cg ⟨by omega, by omega⟩ f.2 (ok _ p1.1 (by omega))) (next _ ⟨fun p x y => ?_, fun j x y => ?_⟩)
      · funext i
        unfold mvC
        rw [if_neg y, f.1 p x y]
      · rw [byB_s, if_pos w]
        show mvC 43 _ _ _ M1 43 j = _
        unfold mvC
        rw [if_pos rfl]
        exact moveB_congr ⟨by omega, by omega⟩ ⟨by omega, by omega⟩ f.2 x y
  unfold w_X2_follow
  refine ⟨pl_41, pl_1, sp_copy0F pl_42 pl_2 rfl (by decide) (fun M1 f b1 b2 b3 b4 c => ⟨_, lp (σ 0 3).toNat 0 M1 (by omega) ⟨f, fun j x y => ?_⟩⟩)⟩
  show M1 43 j = σ 1 j
  rw [← hA, rc1 M x y]
  exact c j x y
theorem allP_rng {n : Int} (h : 0 ≤ n ∧ n ≤ 6) : 0 ≤ xshl 1 n - 1 ∧ xshl 1 n - 1 ≤ 63 := by
  rcases (show n = 0 ∨ n = 1 ∨ n = 2 ∨ n = 3 ∨ n = 4 ∨ n = 5 ∨ n = 6 by omega) with rfl | rfl | rfl | rfl | rfl | rfl | rfl <;> decide
def S_by (h t w : Int) (σ : gSt) : Int := if ¬ ((0 ≤ h ∧ h ≤ xshl 1 (σ 0 3) - 1) ∧ (0 ≤ t ∧ t < σ 0 0) ∧ (2 ≤ w ∧ w ≤ 9)) then -1000000001 else byB σ h (σ 0 3).toNat (10 * t + w)
theorem sC_by {h t w : Int} {M : gSt} {k : Int → gSt → Prop} (i0 : inI h) (i1 : inI t) (i2 : inI w) (I : iN (absC M)) (J : iB (absC M)) (P : iP (absC M)) (hK : cK M) (hh : ∀ r M', wrap r = wrap (S_by h t w (absC M)) → absC M' = absC M → cK M' → k r M') : w_X8_by h t w M k := by
  have I' := I
  unfold iN at I'
  have n0 := rc00 M
  have n3 := rc03 M
  have ar := allP_rng (n := absC M 0 3) ⟨by omega, by omega⟩
  unfold w_X8_by wB_X8_by_32 w_X8_isHistory w_X8_allPapers
  refine sp_size4 pl_8 ?_
  rw [← n3]
  refine sp_within i0 (by constructor <;> decide) ⟨by omega, by omega⟩ (fun h0 => ⟨Or.inr rfl, z1 ?_⟩) (fun h0 => ⟨Or.inl rfl, z0 (badC (S := S_by h t w (absC M)) hK (if_pos (by omega)) hh)⟩)
  refine sp_has0 pl_2 i1 ⟨by omega, by omega⟩ (fun h1 => z1 ?_) (fun h1 => z0 (badC (S := S_by h t w (absC M)) hK (if_pos (by omega)) hh))
  refine sp_within i2 (by constructor <;> decide) (by constructor <;> decide) (fun h2 => z1n ?_) (fun h2 => z0n (badC (S := S_by h t w (absC M)) hK (if_pos (by omega)) hh))
  unfold S_by at hh
  rw [if_neg (by omega)] at hh
  refine c_follow rfl hK I J P (fun M1 f => ?_)
  unfold w_X2_numberBehind
  refine ⟨pl_41, sp_number pl_42 rfl ⟨by omega, by omega⟩ ⟨by omega, by omega⟩ (hh _ M1 ?_ ?_ ?_)⟩
  · show wrap (M1 43 (10 * t + w)) = _
    rw [f.2 _ (by omega) (by omega)]
  · exact ac_eq (fun o ho => f.1 o (by unfold scr at ho; omega) (by unfold scr at ho; omega))
  · exact cK_eq hK (fun o a b c d i hi => by rw [f.1 o (by omega) (by omega)])
-- the reference
def cellS (σ : gSt) (B : Int → Int) : gSt := fun p i => if p = 1 then B i else σ p i
theorem r_goes {σ M : gSt} {h : Int} {k : gSt → Prop} (hA : absR M = σ) (I : iN σ) (J : iB σ) (P : iP σ) (hk : ∀ M', absR M' = cellS σ (byB σ h (σ 0 3).toNat) → onlyS M M' → fr M M' → k M') : w_RgoesBy h M k := by
  have hx := iN_t I
  unfold iN at I
  have lp : ∀ (r n : Nat) (M1 : gSt), n + r = (σ 0 3).toNat → absR M1 = cellS σ (byB σ h n) → onlyS M M1 → fr M M1 → wL_RgoesBy_2 h k (fun M2 => k M2) (r + 1) n M1 := by
    intro r
    induction r with
    | zero =>
      intro n M1 hn A O F
      unfold wL_RgoesBy_2 wC_RgoesBy_2
      rw [rdS M1 3 (by decide) (by decide), A, show cellS σ (byB σ h n) 0 3 = σ 0 3 from rfl, wI (x := σ 0 3) ⟨by omega, by omega⟩, wI (x := (n : Int)) ⟨by omega, by omega⟩]
      refine ⟨fun _ => hk M1 ?_ O F, fun z => absurd z (by omega)⟩
      rw [show (σ 0 3).toNat = n from by omega]
      exact A
    | succ r ih =>
      intro n M1 hn A O F
      obtain ⟨p0, p1, p2, p3⟩ := P n (by omega) (by omega)
      have ok := byB_ok (h := h) J P n (by omega)
      have rd : ∀ j, 0 ≤ j → j < 18 → M1 1 (160 + j) = σ 3 j := fun j x y => by
        have : M1 1 (160 + j) = absR M1 3 j := by simp [absR, absS, msk, x, y]
        rw [this, A]
        rfl
      have e1 : ((n + 1 : Nat) : Int) = (n : Int) + 1 := by omega
      have next : ∀ M2, absR M2 = cellS σ (byB σ h (n + 1)) → onlyS M M2 → fr M M2 → wL_RgoesBy_2 h k (fun M2 => k M2) (r + 1) ((n : Int) + 1) M2 := fun M2 g o f => by
        have := ih (n + 1) M2 (by omega) g o f
        rw [e1] at this
        exact this
      unfold wL_RgoesBy_2 wC_RgoesBy_2 wB_RgoesBy_65
      rw [rdS M1 3 (by decide) (by decide), A, show cellS σ (byB σ h n) 0 3 = σ 0 3 from rfl, wI (x := σ 0 3) ⟨by omega, by omega⟩, wI (x := (n : Int)) ⟨by omega, by omega⟩]
      refine ⟨fun z => absurd z (by omega), fun _ => ⟨fun w => next M1 (by rw [byB_s, if_neg w]; exact A) O F, fun w => ⟨⟨by omega, by omega⟩, ⟨by omega, by omega⟩, ⟨by omega, by omega⟩, ?_⟩⟩⟩
      rw [show 160 + 3 * (n : Int) + 1 = 160 + (3 * n + 1) from by omega, show 160 + 3 * (n : Int) + 2 = 160 + (3 * n + 2) from by omega, rd _ (by omega) (by omega), rd _ (by omega) (by omega), rd _ (by omega) (by omega)]
      refine sp_Rmoves ⟨by omega, by omega⟩ ⟨by omega, by omega⟩ p2 p3 (by rw [A]; exact hx) (by rw [A]; exact ok _ p0.1 (by omega)) (by rw [A]; exact ok _ p1.1 (by omega)) (fun M2 A2 O2 F2 => next M2 ?_ (onlyS_trans O O2) (fr_trans F F2))
      rw [A2, A, byB_s, if_pos w]
      funext p i
      unfold mvC cellS
      by_cases p1 : p = 1
      · rw [if_pos p1, if_pos p1]; rfl
      · rw [if_neg p1, if_neg p1, if_neg p1]
  unfold w_RgoesBy
  refine ⟨_, lp (σ 0 3).toNat 0 M (by omega) ?_ onlyS_rf fr_rf⟩
  rw [hA]
  funext p i
  unfold cellS
  by_cases p1 : p = 1
  · rw [if_pos p1, p1]; rfl
  · rw [if_neg p1]
end
section
-- by of the reference; the histories that fit: both sides
theorem r_back {M M1 M2 : gSt} {k : gSt → Prop} (I : iN (absR M)) (h1 : M1 = cpyA M 1 3) (h2 : ∀ p, p ≠ 1 → M2 p = M1 p) (hk : ∀ M', absR M' = absR M → fr M M' → (∀ p, p ≠ 1 → p ≠ 3 → M' p = M p) → k M') : w_Rcarry 3 1 M2 k := by
  have c1 : ∀ p, p ≠ 3 → M1 p = M p := fun p hp => by
    rw [h1]; funext j; unfold cpyA; rw [if_neg (fun z => hp z.1)]
  have c3 : ∀ j, 0 ≤ j → j < 536 → M1 3 j = M 1 j := fun j a b => by rw [h1]; unfold cpyA; rw [if_pos ⟨rfl, a, b⟩]
  refine sp_Rcarry (Or.inr (Or.inr rfl)) (Or.inl rfl) (by decide) ?_
  have d1 : ∀ p, p ≠ 1 → cpyA M2 3 1 p = M2 p := fun p hp => by
    funext j; unfold cpyA; rw [if_neg (fun z => hp z.1)]
  have d3 : ∀ j, 0 ≤ j → j < 536 → cpyA M2 3 1 1 j = M 1 j := fun j a b => by
    unfold cpyA
    rw [if_pos ⟨rfl, a, b⟩, h2 3 (by decide)]
    exact c3 j a b
  generalize cpyA M2 3 1 = M4 at d1 d3 ⊢
  have e : ∀ p, p ≠ 1 → p ≠ 3 → M4 p = M p := fun p x1 x3 => by rw [d1 p x1, h2 p x1, c1 p x3]
  refine hk M4 ?_ ⟨fun j x y => d3 j (by omega) (by omega), e 2 (by decide) (by decide), by rw [e 0 (by decide) (by decide)]⟩ e
  exact absR_s1 (absS_536 (txtOk_abs (iN_t I)) d3) (e 2 (by decide) (by decide)) (by rw [e 0 (by decide) (by decide)]) (e 11 (by decide) (by decide)) (e 12 (by decide) (by decide)) (e 13 (by decide) (by decide))
theorem aside {M : gSt} : absR (cpyA M 1 3) = absR M := by
  have c1 : ∀ p, p ≠ 3 → cpyA M 1 3 p = M p := fun p hp => by
    funext j; unfold cpyA; rw [if_neg (fun z => hp z.1)]
  exact absR_eq (c1 1 (by decide)) (c1 2 (by decide)) (by rw [c1 0 (by decide)]) (c1 11 (by decide)) (c1 12 (by decide)) (c1 13 (by decide))
theorem sR_by {h t w : Int} {M : gSt} {k : Int → gSt → Prop} (i0 : inI h) (i1 : inI t) (i2 : inI w) (I : iN (absR M)) (J : iB (absR M)) (P : iP (absR M)) (hh : ∀ r M', wrap r = wrap (S_by h t w (absR M)) → absR M' = absR M → fr M M' → k r M') : w_Rby h t w M k := by
  have I' := I
  unfold iN at I'
  have ar := allP_rng (n := absR M 0 3) ⟨by omega, by omega⟩
  unfold w_Rby wB_Rby_26 w_RisHistory w_RallPapers
  rw [rdS M 3 (by decide) (by decide)]
  refine sp_Rin i0 (by constructor <;> decide) ⟨by omega, by omega⟩ (fun h0 => ⟨Or.inr rfl, z1 ?_⟩) (fun h0 => ⟨Or.inl rfl, z0 (badR (S := S_by h t w (absR M)) (if_pos (by omega)) hh)⟩)
  refine sp_RisThing i1 ⟨by omega, by omega⟩ (fun h1 => z1 ?_) (fun h1 => z0 (badR (S := S_by h t w (absR M)) (if_pos (by omega)) hh))
  refine sp_Rin i2 (by constructor <;> decide) (by constructor <;> decide) (fun h2 => z1n ?_) (fun h2 => z0n (badR (S := S_by h t w (absR M)) (if_pos (by omega)) hh))
  unfold S_by at hh
  rw [if_neg (by omega)] at hh
  unfold w_Rafter
  refine sp_Rcarry (Or.inl rfl) (Or.inr (Or.inr rfl)) (by decide) (r_goes aside I J P (fun M1 A O F => sp_Rits ⟨by omega, by omega⟩ ⟨by omega, by omega⟩ ?_))
  refine r_back (M := M) I rfl (fun p hp => O p hp) (fun M' a f _ => hh _ M' ?_ a f)
  rw [A]
  rfl
/-- weighings as they can be -/
def iG (σ : gSt) : Prop := ∀ i, 0 ≤ i → i < σ 0 4 → (0 ≤ σ 4 (3 * i) ∧ σ 4 (3 * i) ≤ 11) ∧ (0 ≤ σ 4 (3 * i + 1) ∧ σ 4 (3 * i + 1) ≤ 9999999) ∧ (0 ≤ σ 4 (3 * i + 2) ∧ σ 4 (3 * i + 2) ≤ 99)
abbrev wOk (σ : gSt) (B : Int → Int) (j : Int) : Prop := -(σ 4 (3 * j + 2)) ≤ B (10 * σ 4 (3 * j) + 2) - σ 4 (3 * j + 1) ∧ B (10 * σ 4 (3 * j) + 2) - σ 4 (3 * j + 1) ≤ σ 4 (3 * j + 2)
def fitS (σ : gSt) (B : Int → Int) : Nat → Int
  | 0 => 1
  | n + 1 => if fitS σ B n = 0 then 0 else if wOk σ B n then 1 else 0
theorem fitS_s {σ : gSt} {B : Int → Int} {n : Nat} : fitS σ B (n + 1) = if fitS σ B n = 0 then 0 else if wOk σ B n then 1 else 0 := rfl
theorem fitS_01 {σ : gSt} {B : Int → Int} : ∀ n : Nat, fitS σ B n = 0 ∨ fitS σ B n = 1
  | 0 => Or.inr rfl
  | n + 1 => by
    rw [fitS_s]
    split
    · exact Or.inl rfl
    · split
      · exact Or.inr rfl
      · exact Or.inl rfl
theorem fitS_0 {σ : gSt} {B : Int → Int} {n : Nat} (h : fitS σ B n = 0) : ∀ r : Nat, fitS σ B (n + r) = 0
  | 0 => h
  | r + 1 => by
    show fitS σ B (n + r + 1) = 0
    rw [fitS_s, if_pos (fitS_0 h r)]
theorem rc4 (M : gSt) {i : Int} (h0 : 0 ≤ i) (h1 : i < 24) : absC M 4 i = M 11 i := by simp [absC, msk, h0, h1]
theorem c_isSo {σ M : gSt} {B : Int → Int} {k : Int → gSt → Prop} (hA : absC M = σ) (hK : cK M) (I : iN σ) (G : iG σ) (hB : ∀ j, 0 ≤ j → j < 130 → M 43 j = B j) (ok : ∀ t, 0 ≤ t → t ≤ 12 → thOk B (10 * t)) (hk : k (fitS σ B (σ 0 4).toNat) M) : w_X2_isSo 41 10 M k := by
  unfold iN at I
  have n4 := rc04 M
  rw [hA] at n4
  have k10 := (cK_10 hK).1
  have lp : ∀ (r n : Nat), n + r = (σ 0 4).toNat → fitS σ B n = 1 → wL_X2_isSo_2 41 10 k (fun M2 => k 0 M2) (fun M2 => k 1 M2) (r + 1) n M := by
    intro r
    induction r with
    | zero =>
      intro n hn f
      unfold wL_X2_isSo_2 wC_X2_isSo_2
      refine sp_size4 pl_10 ?_
      rw [← n4, wI (x := σ 0 4) ⟨by omega, by omega⟩, wI (x := (n : Int)) ⟨by omega, by omega⟩]
      refine ⟨fun _ => ?_, fun z => absurd z (by omega)⟩
      rw [show (σ 0 4).toNat = n from by omega, f] at hk
      exact hk
    | succ r ih =>
      intro n hn f
      obtain ⟨p0, p1, p2⟩ := G n (by omega) (by omega)
      have rd : ∀ j, 0 ≤ j → j ≤ 2 → ∀ kk : Int → gSt → Prop, kk (σ 4 (3 * n + j)) M → w_X4_at 10 n j M kk := fun j x y kk hkk => by
        refine sp_at (W := 3) pl_10 k10 (by rw [← n4]; exact ⟨by omega, by omega⟩) ⟨x, by omega⟩ ⟨by rw [← n4]; omega, by decide⟩ (by show (n : Int) * 3 + j < 24; omega) (by decide) ?_
        rw [show (n : Int) * 3 + j = 3 * n + j from by omega]
        show kk (M 11 (3 * n + j)) M
        rw [← rc4 M (by omega) (by omega), hA]
        exact hkk
      have g := (ok _ p0.1 (by omega)).2.2.1
      unfold wL_X2_isSo_2 wC_X2_isSo_2
      refine sp_size4 pl_10 ?_
      rw [← n4, wI (x := σ 0 4) ⟨by omega, by omega⟩, wI (x := (n : Int)) ⟨by omega, by omega⟩]
      refine ⟨fun z => absurd z (by omega), fun _ => rd 0 (by decide) (by decide) _ ?_⟩
      rw [show 3 * (n : Int) + 0 = 3 * n from by omega]
      refine sp_number pl_42 rfl ⟨by omega, by omega⟩ (by decide) (rd 1 (by decide) (by decide) _ (fun x ex => rd 2 (by decide) (by decide) _ ?_))
      rw [show M (41 + 1 + 1) (10 * σ 4 (3 * n) + 2) = B (10 * σ 4 (3 * n) + 2) from hB _ (by omega) (by omega)] at ex
      have ax : wrap (xabs x) = if x < 0 then -x else x := by
        unfold xabs
        rw [wI (x := x) ⟨by omega, by omega⟩]
        by_cases z : x < 0
        · rw [if_neg (by omega), if_pos z, show 0 - x = -x from by omega]; exact wI ⟨by omega, by omega⟩
        · rw [if_pos (by omega), if_neg z]; exact wI ⟨by omega, by omega⟩
      rw [ax, wI (x := σ 4 (3 * n + 2)) ⟨by omega, by omega⟩]
      have e1 : ((n + 1 : Nat) : Int) = (n : Int) + 1 := by omega
      refine ⟨fun z => ?_, fun z => ?_⟩
      · have := ih (n + 1) (by omega) (by
          rw [fitS_s, f, if_neg (by decide), if_pos]
          unfold wOk
          by_cases y : x < 0
          · rw [if_pos y] at z; omega
          · rw [if_neg y] at z; omega)
        rw [e1] at this
        exact this
      · have z0 : fitS σ B (n + 1) = 0 := by
          rw [fitS_s, f, if_neg (by decide), if_neg]
          unfold wOk
          by_cases y : x < 0
          · rw [if_pos y] at z; omega
          · rw [if_neg y] at z; omega
        have := fitS_0 z0 r
        rw [show n + 1 + r = (σ 0 4).toNat from by omega] at this
        rw [this] at hk
        exact hk
  unfold w_X2_isSo
  exact ⟨pl_41, pl_10, _, lp (σ 0 4).toNat 0 (by omega) rfl⟩
theorem r_fit {σ M : gSt} {h : Int} {k : Int → gSt → Prop} (hA : absR M = σ) (I : iN σ) (J : iB σ) (P : iP σ) (G : iG σ) (hk : ∀ M', absR M' = σ → fr M M' → (∀ p, p ≠ 1 → p ≠ 3 → M' p = M p) → k (fitS σ (byB σ h (σ 0 3).toNat) (σ 0 4).toNat) M') : w_RdoesFit h M k := by
  have I' := I
  unfold iN at I'
  have ok := byB_ok (h := h) J P (σ 0 3).toNat (by omega)
  unfold w_RdoesFit
  refine sp_Rcarry (Or.inl rfl) (Or.inr (Or.inr rfl)) (by decide) (r_goes (aside.trans hA) I J P (fun M1 A O F => ?_))
  generalize hB : byB σ h (σ 0 3).toNat = B at *
  have rd : ∀ j, 0 ≤ j → j < 24 → M1 1 (178 + j) = σ 4 j := fun j x y => by
    have : M1 1 (178 + j) = absR M1 4 j := by simp [absR, absS, msk, x, y]
    rw [this, A]
    rfl
  have fin : ∀ v, v = fitS σ B (σ 0 4).toNat → wB_RdoesFit_101 h k v M1 := fun v hv => by
    unfold wB_RdoesFit_101
    refine r_back (M := M) (by rw [hA]; exact I) rfl (fun p hp => O p hp) (fun M' a f e => ⟨by rw [hv]; exact fitS_01 _, ?_⟩)
    rw [hv]
    exact hk M' (a.trans hA) f e
  have lp : ∀ (r n : Nat), n + r = (σ 0 4).toNat → wL_RdoesFit_20 h k (fun u2_20 M20 => wB_RdoesFit_101 h k u2_20 M20) (r + 1) (fitS σ B n) n M1 := by
    intro r
    induction r with
    | zero =>
      intro n hn
      unfold wL_RdoesFit_20 wC_RdoesFit_20
      rw [rdS M1 4 (by decide) (by decide), A, show cellS σ B 0 4 = σ 0 4 from rfl, wI (x := σ 0 4) ⟨by omega, by omega⟩, wI (x := (n : Int)) ⟨by omega, by omega⟩]
      exact ⟨fun _ => fin _ (by rw [show (σ 0 4).toNat = n from by omega]), fun z => absurd z (by omega)⟩
    | succ r ih =>
      intro n hn
      obtain ⟨p0, p1, p2⟩ := G n (by omega) (by omega)
      have g := (ok _ p0.1 (by omega)).2.2.1
      unfold wL_RdoesFit_20 wC_RdoesFit_20
      rw [rdS M1 4 (by decide) (by decide), A, show cellS σ B 0 4 = σ 0 4 from rfl, wI (x := σ 0 4) ⟨by omega, by omega⟩, wI (x := (n : Int)) ⟨by omega, by omega⟩]
      refine ⟨fun z => absurd z (by omega), fun _ => ?_⟩
      have e1 : ((n + 1 : Nat) : Int) = (n : Int) + 1 := by omega
      rcases fitS_01 (σ := σ) (B := B) n with f | f
      · rw [f]
        refine ⟨fun _ => fin 0 ?_, fun z => absurd wrap_0 z⟩
        have := fitS_0 f (r + 1)
        rw [show n + (r + 1) = (σ 0 4).toNat from by omega] at this
        exact this.symm
      · have fs := fitS_s (σ := σ) (B := B) (n := n)
        rw [f, if_neg (by decide)] at fs
        rw [f]
        refine ⟨fun z => absurd z (by decide), fun _ => ⟨⟨by omega, by omega⟩, ?_⟩⟩
        rw [rd _ (by omega) (by omega)]
        refine sp_Rits ⟨by omega, by omega⟩ (by decide) ⟨⟨by omega, by omega⟩, fun x ex => ⟨⟨by omega, by omega⟩, fun y ey => ?_⟩⟩
        rw [A, show 178 + 3 * (n : Int) + 1 = 178 + (3 * n + 1) from by omega, rd _ (by omega) (by omega), show cellS σ B 1 (10 * σ 4 (3 * n) + 2) = B (10 * σ 4 (3 * n) + 2) from rfl] at ex
        rw [show 178 + 3 * (n : Int) + 2 = 178 + (3 * n + 2) from by omega, rd _ (by omega) (by omega)] at ey
        subst ex; subst ey
        have := ih (n + 1) (by omega)
        rw [e1] at this
        refine sp_Rin ⟨by omega, by omega⟩ ⟨by omega, by omega⟩ ⟨by omega, by omega⟩ (fun z => ?_) (fun z => ?_)
        · rw [fs, if_pos z] at this; exact this
        · rw [fs, if_neg z] at this; exact this
  exact ⟨_, lp (σ 0 4).toNat 0 (by omega)⟩
end
section
-- the list of the histories that fit: both sides
def hisB (σ : gSt) (h : Int) : Int → Int := byB σ h (σ 0 3).toNat
def fitH (σ : gSt) (h : Int) : Int := fitS σ (hisB σ h) (σ 0 4).toNat
/-- how many of the first n histories fit, and which -/
def flC (σ : gSt) : Nat → Int
  | 0 => 0
  | n + 1 => if fitH σ n = 0 then flC σ n else flC σ n + 1
def flF (σ : gSt) : Nat → Int → Int
  | 0 => fun _ => 0
  | n + 1 => fun j => if fitH σ n = 0 then flF σ n j else if j = flC σ n then n else flF σ n j
theorem flC_s {σ : gSt} {n : Nat} : flC σ (n + 1) = if fitH σ n = 0 then flC σ n else flC σ n + 1 := rfl
theorem flF_s {σ : gSt} {n : Nat} {j : Int} : flF σ (n + 1) j = if fitH σ n = 0 then flF σ n j else if j = flC σ n then n else flF σ n j := rfl
theorem flC_rng {σ : gSt} : ∀ n : Nat, 0 ≤ flC σ n ∧ flC σ n ≤ n
  | 0 => ⟨Int.le_refl _, Int.le_refl _⟩
  | n + 1 => by
    have := flC_rng (σ := σ) n
    rw [flC_s]
    split <;> omega
theorem flF_rng {σ : gSt} : ∀ n : Nat, ∀ j, 0 ≤ j → j < flC σ n → 0 ≤ flF σ n j ∧ flF σ n j < n
  | 0 => fun j a b => absurd b (by show ¬ j < 0; omega)
  | n + 1 => fun j a b => by
    have ih := flF_rng (σ := σ) n
    rw [flC_s] at b
    rw [flF_s]
    by_cases z : fitH σ n = 0
    · rw [if_pos z] at b ⊢
      have := ih j a b
      omega
    · rw [if_neg z] at b ⊢
      by_cases e : j = flC σ n
      · rw [if_pos e]; omega
      · rw [if_neg e]
        have := ih j a (by omega)
        omega
def fndC (σ : gSt) (n : Nat) (M0 M : gSt) : Prop := (∀ p, p < 42 ∨ 46 < p → M p = M0 p) ∧ M 44 0 = 1 ∧ M 44 2 = 64 ∧ M 44 3 = flC σ n ∧ ∀ j, 0 ≤ j → j < flC σ n → M 45 j = flF σ n j ∧ ∀ t, 0 ≤ t → t < 12 → M 46 (12 * j + t) = hisB σ (flF σ n j) (10 * t + 2)
theorem fnd_abs {σ : gSt} {n : Nat} {M0 M : gSt} (f : fndC σ n M0 M) (hK : cK M0) : absC M = absC M0 ∧ cK M := by
  refine ⟨ac_eq (fun o ho => f.1 o (by unfold scr at ho; omega)), cK_eq hK (fun o a b c d i hi => ?_)⟩
  by_cases e : o = 44
  · subst e
    obtain ⟨k0, k2⟩ := cK_44 hK
    rcases hi with i0 | i2 | z
    · rw [i0, f.2.1, k0]
    · rw [i2, f.2.2.1, k2]
    · exact absurd z.1 (by decide)
  · rw [f.1 o (by omega)]
theorem pow_x {n : Int} (h : 0 ≤ n ∧ n ≤ 6) : 1 ≤ xshl 1 n ∧ xshl 1 n ≤ 64 := by have := allP_rng h; omega
theorem c_find {σ M : gSt} {k : gSt → Prop} (hA : absC M = σ) (hK : cK M) (I : iN σ) (J : iB σ) (P : iP σ) (G : iG σ) (hk : ∀ M', fndC σ (xshl 1 (σ 0 3)).toNat M M' → k M') : w_X2_find 41 1 M k := by
  have I' := I
  unfold iN at I'
  have pw := pow_x (n := σ 0 3) ⟨by omega, by omega⟩
  have lp : ∀ (r n : Nat) (M1 : gSt), n + r = (xshl 1 (σ 0 3)).toNat → fndC σ n M M1 → wL_X2_find_9 41 1 k (fun M9 => k M9) (r + 1) n M1 := by
    intro r
    induction r with
    | zero =>
      intro n M1 hn f
      have n3 : M1 8 3 = σ 0 3 := by rw [f.1 8 (by decide), ← rc03 M, hA]
      unfold wL_X2_find_9 wC_X2_find_9
      refine sp_size4 pl_8 ?_
      rw [show M1 (1 + 7) 3 = σ 0 3 from n3, wI (x := xshl 1 (σ 0 3)) ⟨by omega, by omega⟩, wI (x := (n : Int)) ⟨by omega, by omega⟩]
      refine ⟨fun _ => hk M1 ?_, fun z => absurd z (by omega)⟩
      rw [show (xshl 1 (σ 0 3)).toNat = n from by omega]
      exact f
    | succ r ih =>
      intro n M1 hn f
      have n3 : M1 8 3 = σ 0 3 := by rw [f.1 8 (by decide), ← rc03 M, hA]
      obtain ⟨a1, K1⟩ := fnd_abs f hK
      rw [hA] at a1
      have cr := flC_rng (σ := σ) n
      have e1 : ((n + 1 : Nat) : Int) = (n : Int) + 1 := by omega
      have next : ∀ M2, fndC σ (n + 1) M M2 → wL_X2_find_9 41 1 k (fun M9 => k M9) (r + 1) ((n : Int) + 1) M2 := fun M2 g => by
        have := ih (n + 1) M2 (by omega) g
        rw [e1] at this
        exact this
      obtain ⟨f1, f2, f3, f4, f5⟩ := f
      unfold wL_X2_find_9 wC_X2_find_9 wB_X2_find_53
      refine sp_size4 pl_8 ?_
      rw [show M1 (1 + 7) 3 = σ 0 3 from n3, wI (x := xshl 1 (σ 0 3)) ⟨by omega, by omega⟩, wI (x := (n : Int)) ⟨by omega, by omega⟩]
      refine ⟨fun z => absurd z (by omega), fun _ => c_follow a1 K1 I J P (fun M2 fo => ?_)⟩
      have a2 : absC M2 = σ := (ac_eq (fun o ho => fo.1 o (by unfold scr at ho; omega) (by unfold scr at ho; omega))).trans a1
      have K2 : cK M2 := cK_eq K1 (fun o a b c d i hi => by rw [fo.1 o (by omega) (by omega)])
      refine c_isSo a2 K2 I G fo.2 (byB_ok J P (σ 0 3).toNat (by omega)) ?_
      have m44 : M2 44 = M1 44 := fo.1 44 (by decide) (by decide)
      have m45 : M2 45 = M1 45 := fo.1 45 (by decide) (by decide)
      have m46 : M2 46 = M1 46 := fo.1 46 (by decide) (by decide)
      change (wrap (fitH σ n) = 0 → _) ∧ (¬ wrap (fitH σ n) = 0 → _)
      have w01 : wrap (fitH σ n) = fitH σ n := by
        rcases fitS_01 (σ := σ) (B := hisB σ n) (σ 0 4).toNat with e | e
        · rw [show fitH σ n = 0 from e]; rfl
        · rw [show fitH σ n = 1 from e]; decide
      rw [w01]
      refine ⟨fun z => next M2 ⟨fun p hp => by rw [fo.1 p (by omega) (by omega)]; exact f1 p hp, by rw [m44]; exact f2, by rw [m44]; exact f3, by rw [m44, flC_s, if_pos z]; exact f4, fun j x y => ?_⟩, fun z => ?_⟩
      · rw [flC_s, if_pos z] at y
        rw [flF_s, if_pos z, m45, m46]
        exact f5 j x y
      · refine sp_app1 (L := 64) pl_44 (by rw [m44]; exact f2) (by rw [m44]; exact f3) (by rw [m44, f4]; exact ⟨cr.1, by omega⟩) (by decide) rfl ?_
        rw [m44, f4]
        refine sp_noteGrams ⟨cr.1, by omega⟩ (fun M3 n1 n2 => next M3 ⟨fun p hp => by rw [n1 p (by omega), wrO' (by omega), wrO' (by omega), fo.1 p (by omega) (by omega)]; exact f1 p hp, by rw [n1 44 (by decide), wrN (by decide), wrO (by decide), m44]; exact f2, by rw [n1 44 (by decide), wrN (by decide), wrO (by decide), m44]; exact f3, by rw [n1 44 (by decide), wrI, flC_s, if_neg z], fun j x y => ?_⟩)
        rw [flC_s, if_neg z] at y
        rw [flF_s, if_neg z]
        by_cases e : j = flC σ n
        · subst e
          rw [if_pos rfl]
          refine ⟨by rw [n1 45 (by decide), wrO (by decide)]; exact wrI, fun t t0 t1 => ?_⟩
          rw [n2, if_pos (by omega), wrO (by decide), wrO (by decide), show 10 * (12 * flC σ n + t - 12 * flC σ n) + 2 = 10 * t + 2 from by omega]
          exact fo.2 _ (by omega) (by omega)
        · rw [if_neg e]
          obtain ⟨g1, g2⟩ := f5 j x (by omega)
          refine ⟨by rw [n1 45 (by decide), wrO (by decide)]; exact (wrN e).trans (by rw [m45]; exact g1), fun t t0 t1 => ?_⟩
          rw [n2, if_neg (by omega), wrO (by decide), wrO (by decide), m46]
          exact g2 t t0 t1
  unfold w_X2_find
  refine ⟨pl_41, pl_1, sp_clear pl_44 ⟨_, lp (xshl 1 (σ 0 3)).toNat 0 _ (by omega) ?_⟩⟩
  obtain ⟨k0, k2⟩ := cK_44 hK
  exact ⟨fun p hp => wrO' (by omega), by rw [wrN (by decide)]; exact k0, by rw [wrN (by decide)]; exact k2, by rw [wrI]; rfl, fun j a b => absurd b (by show ¬ j < 0; omega)⟩
/-- the reference's list -/
def fndR (σ : gSt) (n : Nat) (M0 M : gSt) : Prop := absR M = σ ∧ fr M0 M ∧ (∀ p, p ≠ 0 → p ≠ 1 → p ≠ 3 → p ≠ 8 → M p = M0 p) ∧ (∀ i, i ≠ 13 → M 0 i = M0 0 i) ∧ M 0 13 = flC σ n ∧ ∀ j, 0 ≤ j → j < flC σ n → M 8 j = flF σ n j
theorem r_find {σ M : gSt} {k : gSt → Prop} (hA : absR M = σ) (I : iN σ) (J : iB σ) (P : iP σ) (G : iG σ) (hk : ∀ M', fndR σ (xshl 1 (σ 0 3)).toNat M M' → k M') : w_RfindFits M k := by
  have I' := I
  unfold iN at I'
  have pw := pow_x (n := σ 0 3) ⟨by omega, by omega⟩
  have lp : ∀ (r n : Nat) (M1 : gSt), n + r = (xshl 1 (σ 0 3)).toNat → fndR σ n M M1 → wL_RfindFits_7 k (fun M7 => k M7) (r + 1) n M1 := by
    intro r
    induction r with
    | zero =>
      intro n M1 hn f
      unfold wL_RfindFits_7 wC_RfindFits_7 w_RallPapers
      dsimp only
      rw [rdS M1 3 (by decide) (by decide), f.1, wI (x := xshl 1 (σ 0 3) - 1) ⟨by omega, by omega⟩, wI (x := (n : Int)) ⟨by omega, by omega⟩]
      refine ⟨fun _ => hk M1 ?_, fun z => absurd z (by omega)⟩
      rw [show (xshl 1 (σ 0 3)).toNat = n from by omega]
      exact f
    | succ r ih =>
      intro n M1 hn f
      have cr := flC_rng (σ := σ) n
      have e1 : ((n + 1 : Nat) : Int) = (n : Int) + 1 := by omega
      have next : ∀ M2, fndR σ (n + 1) M M2 → wL_RfindFits_7 k (fun M7 => k M7) (r + 1) ((n : Int) + 1) M2 := fun M2 g => by
        have := ih (n + 1) M2 (by omega) g
        rw [e1] at this
        exact this
      obtain ⟨f1, f2, f3, f4, f5, f6⟩ := f
      unfold wL_RfindFits_7 wC_RfindFits_7 w_RallPapers wB_RfindFits_43
      dsimp only
      rw [rdS M1 3 (by decide) (by decide), f1, wI (x := xshl 1 (σ 0 3) - 1) ⟨by omega, by omega⟩, wI (x := (n : Int)) ⟨by omega, by omega⟩]
      refine ⟨fun z => absurd z (by omega), fun _ => r_fit f1 I J P G (fun M2 a2 r2 o2 => ?_)⟩
      change (wrap (fitH σ n) = 0 → _) ∧ (¬ wrap (fitH σ n) = 0 → _)
      have w01 : wrap (fitH σ n) = fitH σ n := by
        rcases fitS_01 (σ := σ) (B := hisB σ n) (σ 0 4).toNat with e | e
        · rw [show fitH σ n = 0 from e]; rfl
        · rw [show fitH σ n = 1 from e]; decide
      have m0 : M2 0 = M1 0 := o2 0 (by decide) (by decide)
      have m8 : M2 8 = M1 8 := o2 8 (by decide) (by decide)
      rw [w01]
      refine ⟨fun z => next M2 ⟨a2, fr_trans f2 r2, fun p x0 x1 x3 x8 => by rw [o2 p x1 x3]; exact f3 p x0 x1 x3 x8, fun i hi => by rw [m0]; exact f4 i hi, by rw [m0, flC_s, if_pos z]; exact f5, fun j x y => ?_⟩, fun z => ?_⟩
      · rw [flC_s, if_pos z] at y
        rw [flF_s, if_pos z, m8]
        exact f6 j x y
      · rw [m0, f5]
        refine ⟨⟨by omega, by omega⟩, fun M3 e3 M4 e4 => ?_⟩
        have c13 : M3 0 13 = flC σ n := by rw [e3, wrO (by decide), m0]; exact f5
        rw [c13] at e4
        refine next M4 ⟨?_, ?_, fun p x0 x1 x3 x8 => ?_, fun i hi => ?_, ?_, fun j x y => ?_⟩
        · rw [← a2]
          exact absR_eq (by rw [e4, wrO' (by decide), e3, wrO' (by decide)]) (by rw [e4, wrO' (by decide), e3, wrO' (by decide)]) (by rw [e4, wrN (by decide), e3, wrO (by decide)]) (by rw [e4, wrO' (by decide), e3, wrO' (by decide)]) (by rw [e4, wrO' (by decide), e3, wrO' (by decide)]) (by rw [e4, wrO' (by decide), e3, wrO' (by decide)])
        · refine fr_trans f2 (fr_trans r2 ⟨fun j _ _ => by rw [e4, wrO (by decide), e3, wrO (by decide)], by rw [e4, wrO' (by decide), e3, wrO' (by decide)], by rw [e4, wrN (by decide), e3, wrO (by decide)]⟩)
        · rw [e4, wrO' x0, e3, wrO' x8, o2 p x1 x3]; exact f3 p x0 x1 x3 x8
        · rw [e4, wrN hi, e3, wrO (by decide), m0]; exact f4 i hi
        · rw [e4, wrI, flC_s, if_neg z]
        · rw [flC_s, if_neg z] at y
          rw [flF_s, if_neg z, e4, wrO (by decide), e3]
          by_cases e : j = flC σ n
          · rw [if_pos e, e]; exact wrI
          · rw [if_neg e]
            refine (wrN e).trans ?_
            rw [m8]
            exact f6 j x (by omega)
  unfold w_RfindFits
  intro M2 e2
  refine ⟨_, lp (xshl 1 (σ 0 3)).toNat 0 M2 (by omega) ⟨?_, ?_, fun p x0 _ _ _ => by rw [e2, wrO' x0], fun i hi => by rw [e2, wrN hi], by rw [e2, wrI]; rfl, fun j a b => absurd b (by show ¬ j < 0; omega)⟩⟩
  · rw [← hA]
    exact absR_eq (by rw [e2, wrO' (by decide)]) (by rw [e2, wrO' (by decide)]) (by rw [e2, wrN (by decide)]) (by rw [e2, wrO' (by decide)]) (by rw [e2, wrO' (by decide)]) (by rw [e2, wrO' (by decide)])
  · exact ⟨fun j _ _ => by rw [e2, wrO (by decide)], by rw [e2, wrO' (by decide)], by rw [e2, wrN (by decide)]⟩
end
