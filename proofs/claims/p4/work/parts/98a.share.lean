-- what a claim counts, what is shared, what is left: the class
def iC (σ : gSt) : Prop := ∀ i, 0 ≤ i → i < σ 0 2 → (0 ≤ σ 2 (2 * i) ∧ σ 2 (2 * i) ≤ 12) ∧ (0 ≤ σ 2 (2 * i + 1) ∧ σ 2 (2 * i + 1) ≤ 9999999)
def manyN (c : Int → Int) (t : Int) : Nat → Int
  | 0 => 0
  | n + 1 => manyN c t n + (if c (2 * n) = t then 1 else 0)
def countS (σ : gSt) (i : Int) : Int := if 0 < σ 0 10 then heldS (stk (σ 8) (σ 2 (2 * i + 1)) (σ 1 (10 * σ 2 (2 * i) + 2)) (manyN (σ 2) (σ 2 (2 * i)) (σ 0 2).toNat) (σ 0 10).toNat 0) 0 (σ 2 (2 * i + 1)) else σ 2 (2 * i + 1)
def belowN (σ : gSt) (t : Int) : Nat → Int
  | 0 => 0
  | n + 1 => belowN σ t n + (if σ 2 (2 * n) = t then countS σ n else 0)
theorem many_rng {c : Int → Int} {t : Int} : ∀ n : Nat, 0 ≤ manyN c t n ∧ manyN c t n ≤ n
  | 0 => ⟨Int.le_refl _, Int.le_refl _⟩
  | n + 1 => by
    have := many_rng (c := c) (t := t) n
    unfold manyN
    split <;> omega
theorem many_pos {c : Int → Int} {t : Int} {i : Nat} (h : c (2 * i) = t) : ∀ n : Nat, i < n → 1 ≤ manyN c t n
  | 0, hn => absurd hn (by omega)
  | n + 1, hn => by
    unfold manyN
    by_cases e : i = n
    · subst e
      rw [if_pos h]
      have := (many_rng (c := c) (t := t) i).1
      omega
    · have := many_pos h n (by omega)
      split <;> omega
theorem held_rng2 {x hi : Int} (h : 0 ≤ hi) : 0 ≤ heldS x 0 hi ∧ heldS x 0 hi ≤ hi := by unfold heldS; split <;> (try split) <;> omega
theorem count_rng {σ : gSt} {i : Int} (h : 0 ≤ σ 2 (2 * i + 1)) : 0 ≤ countS σ i ∧ countS σ i ≤ σ 2 (2 * i + 1) := by
  unfold countS
  split
  · exact held_rng2 h
  · omega
theorem below_rng {σ : gSt} {t : Int} (C : iC σ) : ∀ n : Nat, (n : Int) ≤ σ 0 2 → 0 ≤ belowN σ t n ∧ belowN σ t n ≤ 9999999 * n
  | 0, _ => ⟨Int.le_refl _, Int.le_refl _⟩
  | n + 1, hn => by
    have ih := below_rng (t := t) C n (by omega)
    have b := (C n (by omega) (by omega)).2
    have c := count_rng (σ := σ) (i := n) b.1
    unfold belowN
    split <;> omega
theorem c_heldG {r hi : Int} {M : gSt} {k : Int → gSt → Prop} (hh : 0 ≤ wrap hi) (h : ∀ x, wrap x = heldS (wrap r) 0 (wrap hi) → k x M) : w_X1_held r hi M k := by
  unfold w_X1_held
  refine h _ ?_
  have w0 : wrap 0 = 0 := rfl
  have e1 : wrap (xmin hi r) = if wrap hi < wrap r then wrap hi else wrap r := by
    unfold xmin
    by_cases z : wrap r < wrap hi
    · rw [if_pos z, if_neg (by omega)]
    · rw [if_neg z]
      by_cases z2 : wrap hi < wrap r
      · rw [if_pos z2]
      · rw [if_neg z2]; omega
  unfold xmax heldS
  rw [w0, e1]
  by_cases z : wrap r < 0
  · rw [if_pos z, if_neg (by split <;> omega), w0]
  · rw [if_neg z]
    by_cases z2 : 0 < if wrap hi < wrap r then wrap hi else wrap r
    · rw [if_pos z2, e1]
    · rw [if_neg z2, w0]
      by_cases z3 : wrap hi < wrap r
      · rw [if_pos z3] at z2 ⊢; omega
      · rw [if_neg z3] at z2 ⊢; omega
/-- only the worker's rooms changed -/
def onC (M M' : gSt) : Prop := ∀ p, p ≠ 18 → p ≠ 19 → M' p = M p
theorem onC_abs {M M' : gSt} (h : onC M M') : absC M' = absC M := ac_eq (fun o ho => h o (by unfold scr at ho; omega) (by unfold scr at ho; omega))
theorem onC_cK {M M' : gSt} (h : onC M M') (hK : cK M) : cK M' := cK_eq hK (fun o a b c d i hi => by rw [h o (by omega) (by omega)])
theorem rc2 (M : gSt) {i : Int} (h0 : 0 ≤ i) (h1 : i < 20) : absC M 2 i = M 7 i := by simp [absC, msk, h0, h1]
theorem c_at6 {σ M : gSt} {i j : Int} {k : Int → gSt → Prop} (hA : absC M = σ) (hK : cK M) (hn : 0 ≤ σ 0 2 ∧ σ 0 2 ≤ 10) (hi : 0 ≤ i ∧ i < σ 0 2) (hj : j = 0 ∨ j = 1) (h : k (σ 2 (2 * i + j)) M) : w_X4_at 6 i j M k := by
  have n2 := rc02 M
  rw [hA] at n2
  refine sp_at (W := 2) pl_6 (cK_6 hK).1 (by rw [← n2]; exact hi) ⟨by omega, by omega⟩ ⟨by omega, by decide⟩ (by show i * 2 + j < 20; omega) (by decide) ?_
  rw [show i * 2 + j = 2 * i + j from by omega]
  show k (M 7 (2 * i + j)) M
  rw [← rc2 M (by omega) (by omega), hA]
  exact h
theorem c_many {σ M : gSt} {t : Int} {k : Int → gSt → Prop} (hA : absC M = σ) (hK : cK M) (hn : 0 ≤ σ 0 2 ∧ σ 0 2 ≤ 10) (C : iC σ) (ht : inI t) (h : k (manyN (σ 2) t (σ 0 2).toNat) M) : w_X1_claimants 1 t M k := by
  have n2 := rc02 M
  rw [hA] at n2
  have lp : ∀ r j : Nat, j + r = (σ 0 2).toNat → wL_X1_claimants_4 1 t k (fun u2_4 M4 => k u2_4 M4) (r + 1) (manyN (σ 2) t j) j M := by
    intro r
    induction r with
    | zero =>
      intro j hj
      unfold wL_X1_claimants_4 wC_X1_claimants_4
      refine sp_size4 pl_6 ?_
      rw [show M (1 + 5) 3 = σ 0 2 from n2.symm, wI (x := σ 0 2) ⟨by omega, by omega⟩, wI (x := (j : Int)) ⟨by omega, by omega⟩]
      refine ⟨fun _ => ?_, fun z => absurd z (by omega)⟩
      rw [show j = (σ 0 2).toNat from by omega]
      exact h
    | succ r ih =>
      intro j hj
      unfold wL_X1_claimants_4 wC_X1_claimants_4 wB_X1_claimants_31
      refine sp_size4 pl_6 ?_
      rw [show M (1 + 5) 3 = σ 0 2 from n2.symm, wI (x := σ 0 2) ⟨by omega, by omega⟩, wI (x := (j : Int)) ⟨by omega, by omega⟩]
      refine ⟨fun z => absurd z (by omega), fun _ => c_at6 hA hK hn ⟨by omega, by omega⟩ (Or.inl rfl) ?_⟩
      have cj := (C (j : Int) (by omega) (by omega)).1
      rw [show 2 * (j : Int) + 0 = 2 * (j : Int) from by omega, wI (x := σ 2 (2 * (j : Int))) ⟨by omega, by omega⟩, wI ht]
      have := ih (j + 1) (by omega)
      unfold manyN at this
      rw [show ((j + 1 : Nat) : Int) = (j : Int) + 1 from by omega] at this
      refine ⟨fun z => ?_, fun z => ?_⟩
      · rw [if_neg z, Int.add_zero] at this; exact this
      · rw [if_pos z] at this; exact this
  unfold w_X1_claimants
  exact ⟨pl_1, _, lp (σ 0 2).toNat 0 (by omega)⟩
theorem c_counted {σ M : gSt} {i : Int} {k : Int → gSt → Prop} (hA : absC M = σ) (hK : cK M) (I : iN σ) (C : iC σ) (X : iX σ) (hi : 0 ≤ i ∧ i < σ 0 2) (h : ∀ r M', wrap r = countS σ i → onC M M' → k r M') : w_X1_counted 1 i M k := by
  unfold iN at I
  have n10 := rc010 M
  rw [hA] at n10
  obtain ⟨c0, c1⟩ := C i hi.1 hi.2
  unfold w_X1_counted
  unfold countS at h
  refine ⟨pl_1, c_at6 hA hK ⟨by omega, by omega⟩ hi (Or.inr rfl) (sp_size4 pl_16 ?_)⟩
  rw [show M (1 + 15) 3 = σ 0 10 from n10.symm, wI (x := σ 0 10) ⟨by omega, by omega⟩]
  refine ⟨fun z => ?_, fun z => ?_⟩
  · rw [if_pos (by omega)] at h
    refine c_at6 hA hK ⟨by omega, by omega⟩ hi (Or.inl rfl) ?_
    rw [show 2 * i + 0 = 2 * i from by omega]
    refine sp_number pl_2 rfl c0 (by decide) ?_
    rw [show M (1 + 1 + 1) (10 * σ 2 (2 * i) + 2) = σ 1 (10 * σ 2 (2 * i) + 2) from by rw [← hA]; exact (rc1 M (by rw [hA]; omega) (by rw [hA]; omega)).symm]
    refine c_many hA hK ⟨by omega, by omega⟩ C ⟨by omega, by omega⟩ ?_
    refine sp_value (u := 1) (o := 16) (Or.inr rfl) rfl hK (by rw [← n10]; exact ⟨by omega, by omega⟩) (by rw [← n10, hA]; exact X.2 (by omega)) (fun r M' hr e' => c_heldG (by rw [wI ⟨by omega, by omega⟩]; exact c1.1) (fun x hx => h x M' ?_ e'))
    rw [hx, hr, ← n10, hA, wI (x := σ 2 (2 * i + 1)) ⟨by omega, by omega⟩]
    rfl
  · rw [if_neg (by omega)] at h
    exact h _ M (wI ⟨by omega, by omega⟩) (fun _ _ _ => rfl)
theorem c_below {σ M : gSt} {t m : Int} {k : Int → gSt → Prop} (hA : absC M = σ) (hK : cK M) (I : iN σ) (C : iC σ) (X : iX σ) (ht : inI t) (hm : 0 ≤ m ∧ m ≤ σ 0 2) (h : ∀ r M', wrap r = belowN σ t m.toNat → onC M M' → k r M') : w_X1_countedBelow 1 t m M k := by
  have I' := I
  unfold iN at I'
  have lp : ∀ (r j : Nat) (v : Int) (M1 : gSt), j + r = m.toNat → wrap v = belowN σ t j → onC M M1 → wL_X1_countedBelow_5 1 t m k (fun u3_5 M5 => k u3_5 M5) (r + 1) v j M1 := by
    intro r
    induction r with
    | zero =>
      intro j v M1 hj hv o1
      unfold wL_X1_countedBelow_5 wC_X1_countedBelow_5
      rw [wI (x := m) ⟨by omega, by omega⟩, wI (x := (j : Int)) ⟨by omega, by omega⟩]
      refine ⟨fun _ => h v M1 ?_ o1, fun z => absurd z (by omega)⟩
      rw [hv, show j = m.toNat from by omega]
    | succ r ih =>
      intro j v M1 hj hv o1
      have A1 : absC M1 = σ := (onC_abs o1).trans hA
      have K1 := onC_cK o1 hK
      have n2 := rc02 M1
      rw [A1] at n2
      unfold wL_X1_countedBelow_5 wC_X1_countedBelow_5 wB_X1_countedBelow_46
      rw [wI (x := m) ⟨by omega, by omega⟩, wI (x := (j : Int)) ⟨by omega, by omega⟩]
      refine ⟨fun z => absurd z (by omega), fun _ => sp_size4 pl_6 ?_⟩
      rw [show M1 (1 + 5) 3 = σ 0 2 from n2.symm, wI (x := σ 0 2) ⟨by omega, by omega⟩]
      refine ⟨fun z => absurd z (by omega), fun _ => c_at6 A1 K1 ⟨by omega, by omega⟩ ⟨by omega, by omega⟩ (Or.inl rfl) ?_⟩
      have cj := (C (j : Int) (by omega) (by omega)).1
      have cj1 := (C (j : Int) (by omega) (by omega)).2
      rw [show 2 * (j : Int) + 0 = 2 * (j : Int) from by omega, wI (x := σ 2 (2 * (j : Int))) ⟨by omega, by omega⟩, wI ht]
      have br := below_rng (t := t) C j (by omega)
      have cr := count_rng (σ := σ) (i := (j : Int)) cj1.1
      refine ⟨fun z => ?_, fun z => c_counted A1 K1 I C X ⟨by omega, by omega⟩ (fun r2 M2 hr o2 x ex => ?_)⟩
      · have := ih (j + 1) v M1 (by omega) (by unfold belowN; rw [if_neg z, Int.add_zero]; exact hv) o1
        rw [show ((j + 1 : Nat) : Int) = (j : Int) + 1 from by omega] at this
        exact this
      · have := ih (j + 1) x M2 (by omega) (by
          unfold belowN
          rw [if_pos z, ex, ← hv, ← hr]
          have e : wrap (v + r2) = wrap (wrap v + wrap r2) := by unfold wrap; omega
          rw [e, hv, hr]
          exact wI ⟨by omega, by omega⟩) (fun p a b => (o2 p a b).trans (o1 p a b))
        rw [show ((j + 1 : Nat) : Int) = (j : Int) + 1 from by omega] at this
        exact this
  unfold w_X1_countedBelow
  exact ⟨pl_1, _, lp m.toNat 0 0 M (by omega) rfl (fun _ _ _ => rfl)⟩
def shareS (σ : gSt) (i w : Int) : Int :=
  if w = 0 then (if σ 1 (10 * σ 2 (2 * i) + 2) / manyN (σ 2) (σ 2 (2 * i)) (σ 0 2).toNat < countS σ i then σ 1 (10 * σ 2 (2 * i) + 2) / manyN (σ 2) (σ 2 (2 * i)) (σ 0 2).toNat else countS σ i)
  else if w = 1 then (if σ 1 (10 * σ 2 (2 * i) + 2) < belowN σ (σ 2 (2 * i)) (σ 0 2).toNat then countS σ i * σ 1 (10 * σ 2 (2 * i) + 2) / belowN σ (σ 2 (2 * i)) (σ 0 2).toNat else countS σ i)
  else heldS (σ 1 (10 * σ 2 (2 * i) + 2) - belowN σ (σ 2 (2 * i)) i.toNat) 0 (countS σ i)
theorem c_share {σ M : gSt} {i w : Int} {k : Int → gSt → Prop} (hA : absC M = σ) (hK : cK M) (I : iN σ) (J : iB σ) (C : iC σ) (X : iX σ) (hi : 0 ≤ i ∧ i < σ 0 2) (hw : 0 ≤ w ∧ w ≤ 2) (h : ∀ r M', wrap r = shareS σ i w → onC M M' → k r M') : w_X1_shareOf 1 i w M k := by
  have I' := I
  unfold iN at I'
  obtain ⟨c0, c1⟩ := C i hi.1 hi.2
  have cr := count_rng (σ := σ) (i := i) c1.1
  have gr := (J (σ 2 (2 * i)) c0.1 c0.2).2.2.1
  unfold w_X1_shareOf
  unfold shareS at h
  refine ⟨pl_1, c_at6 hA hK ⟨by omega, by omega⟩ hi (Or.inl rfl) ?_⟩
  rw [show 2 * i + 0 = 2 * i from by omega]
  refine sp_number pl_2 rfl c0 (by decide) ?_
  rw [show M (1 + 1 + 1) (10 * σ 2 (2 * i) + 2) = σ 1 (10 * σ 2 (2 * i) + 2) from by rw [← hA]; exact (rc1 M (by rw [hA]; omega) (by rw [hA]; omega)).symm]
  generalize hT : σ 2 (2 * i) = t at *
  generalize hG : σ 1 (10 * t + 2) = g at *
  refine c_counted hA hK I C X hi (fun r M1 hr o1 => ?_)
  have A1 : absC M1 = σ := (onC_abs o1).trans hA
  have K1 := onC_cK o1 hK
  rw [wI (x := w) ⟨by omega, by omega⟩, wI (x := g) ⟨by omega, by omega⟩, hr]
  refine ⟨fun n0 => ⟨fun n1 => ?_, fun e1 => ?_⟩, fun e0 => ?_⟩
  · rw [if_neg n0, if_neg n1] at h
    have br := below_rng (t := t) C i.toNat (by omega)
    refine c_below A1 K1 I C X ⟨by omega, by omega⟩ ⟨by omega, by omega⟩ (fun r2 M2 hr2 o2 => c_heldG (by rw [hr]; exact cr.1) (fun x hx => h x M2 ?_ (fun p a b => (o2 p a b).trans (o1 p a b))))
    have e : wrap (g - r2) = wrap (g - wrap r2) := by unfold wrap; omega
    rw [hx, hr, e, hr2, wI (x := g - belowN σ t i.toNat) ⟨by omega, by omega⟩]
  · rw [if_neg n0, if_pos e1] at h
    have n2 := rc02 M1
    rw [A1] at n2
    have br := below_rng (t := t) C (σ 0 2).toNat (by omega)
    refine sp_size4 pl_6 ?_
    rw [show M1 (1 + 5) 3 = σ 0 2 from n2.symm]
    refine c_below A1 K1 I C X ⟨by omega, by omega⟩ ⟨by omega, by omega⟩ (fun r2 M2 hr2 o2 => ?_)
    rw [hr2]
    refine ⟨fun z => ?_, fun z => h r M2 ?_ (fun p a b => (o2 p a b).trans (o1 p a b))⟩
    · have pr : 0 ≤ g * countS σ i ∧ g * countS σ i ≤ 9999999 * 9999999 := ⟨Int.mul_nonneg (by omega) cr.1, Int.mul_le_mul (by omega) (by omega) cr.1 (by omega)⟩
      refine sp_quot ⟨pr.1, by omega⟩ ⟨br.1, by omega⟩ (h _ M2 ?_ (fun p a b => (o2 p a b).trans (o1 p a b)))
      rw [if_pos z]
      unfold qz
      rw [if_neg (by omega), Int.mul_comm g]
      refine wI ⟨?_, ?_⟩
      · have := Int.ediv_nonneg (a := countS σ i * g) (b := belowN σ t (σ 0 2).toNat) (by rw [Int.mul_comm]; exact pr.1) br.1
        omega
      · have : countS σ i * g / belowN σ t (σ 0 2).toNat ≤ countS σ i := Int.ediv_le_of_le_mul (by omega) (Int.mul_le_mul_of_nonneg_left (by omega) cr.1)
        omega
    · rw [if_neg (by omega)]; exact hr
  · rw [if_pos e0] at h
    have mr := many_rng (c := σ 2) (t := t) (σ 0 2).toNat
    have mp := many_pos (c := σ 2) (t := t) (i := i.toNat) (by rw [show ((i.toNat : Nat) : Int) = i from by omega]; exact hT) (σ 0 2).toNat (by omega)
    refine c_many A1 K1 ⟨by omega, by omega⟩ C ⟨by omega, by omega⟩ ?_
    rw [wI (x := manyN (σ 2) t (σ 0 2).toNat) ⟨by omega, by omega⟩]
    refine sp_quot ⟨by omega, by omega⟩ ⟨by omega, by omega⟩ (h _ M1 ?_ o1)
    have q : qz g (manyN (σ 2) t (σ 0 2).toNat) = g / manyN (σ 2) t (σ 0 2).toNat := by unfold qz; rw [if_neg (by omega)]
    have q0 : 0 ≤ g / manyN (σ 2) t (σ 0 2).toNat := Int.ediv_nonneg (by omega) (by omega)
    have q1 : g / manyN (σ 2) t (σ 0 2).toNat ≤ g := Int.ediv_le_self _ (by omega)
    rw [q]
    generalize g / manyN (σ 2) t (σ 0 2).toNat = Q at q0 q1 ⊢
    unfold xmin
    rw [hr, wI (x := Q) ⟨by omega, by omega⟩]
    by_cases z : Q < countS σ i
    · rw [if_pos z, if_pos z]; exact wI ⟨by omega, by omega⟩
    · rw [if_neg z, if_neg z]; exact hr
