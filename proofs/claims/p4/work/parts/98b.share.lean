-- claimIs, share, left: the class's ends, and the reference
def leftN (σ : gSt) (t w : Int) : Nat → Int
  | 0 => σ 1 (10 * t + 2)
  | n + 1 => leftN σ t w n - (if σ 2 (2 * n) = t then shareS σ n w else 0)
def S_claimIs (i w : Int) (σ : gSt) : Int := if ¬ ((0 ≤ i ∧ i < σ 0 2) ∧ (0 ≤ w ∧ w ≤ 2)) then -1000000001 else if w = 2 then countS σ i else σ 2 (2 * i + w)
def S_share (i w : Int) (σ : gSt) : Int := if ¬ ((0 ≤ i ∧ i < σ 0 2) ∧ (0 ≤ w ∧ w ≤ 2)) then -1000000001 else shareS σ i w
def S_left (t w : Int) (σ : gSt) : Int := if ¬ ((0 ≤ t ∧ t < σ 0 0) ∧ (0 ≤ w ∧ w ≤ 2)) then -1000000001 else leftN σ t w (σ 0 2).toNat
theorem left_s {v L r S : Int} (hv : wrap v = wrap L) (hr : wrap r = S) : wrap (v - r) = wrap (L - S) := by
  unfold wrap at *; omega
theorem wrap_eq {r S : Int} (h : wrap r = S) : wrap r = wrap S := by rw [← h, wwrap]
theorem badC {M : gSt} {k : Int → gSt → Prop} {S : Int} (hK : cK M) (hS : S = -1000000001) (h : ∀ r M', wrap r = wrap S → absC M' = absC M → cK M' → k r M') : w_X8_refuse 1 M (fun r M' => k r M') :=
  sp_refuse (by decide) (by decide) (h _ _ (by rw [hS]; rfl) (ac_eq (fun o ho => wrO' (by unfold scr at ho; omega))) (cK_wr hK (Or.inr (by decide))))
theorem sC_claimIs {i w : Int} {M : gSt} {k : Int → gSt → Prop} (i1 : inI i) (i2 : inI w) (I : iN (absC M)) (C : iC (absC M)) (X : iX (absC M)) (hK : cK M) (h : ∀ r M', wrap r = wrap (S_claimIs i w (absC M)) → absC M' = absC M → cK M' → k r M') : w_X8_claimIs i w M k := by
  have I' := I
  unfold iN at I'
  have n2 := rc02 M
  unfold w_X8_claimIs wB_X8_claimIs_23
  refine sp_has4 pl_6 i1 ⟨by omega, by omega⟩ (fun h1 => z1 ?_) (fun h1 => z0 (badC (S := S_claimIs i w (absC M)) hK (if_pos (by omega)) h))
  refine sp_within i2 (by constructor <;> decide) (by constructor <;> decide) (fun h2 => z1n ?_) (fun h2 => z0n (badC (S := S_claimIs i w (absC M)) hK (if_pos (by omega)) h))
  unfold S_claimIs at h
  rw [if_neg (by omega)] at h
  rw [wI i2]
  refine ⟨fun z => c_at6 rfl hK ⟨by omega, by omega⟩ ⟨by omega, by omega⟩ (by omega) (h _ M (by rw [if_neg z]) rfl hK), fun z => c_counted rfl hK I C X ⟨by omega, by omega⟩ (fun r M' hr o => h r M' (by rw [if_pos z]; exact wrap_eq hr) (onC_abs o) (onC_cK o hK))⟩
theorem sC_share {i w : Int} {M : gSt} {k : Int → gSt → Prop} (i1 : inI i) (i2 : inI w) (I : iN (absC M)) (J : iB (absC M)) (C : iC (absC M)) (X : iX (absC M)) (hK : cK M) (h : ∀ r M', wrap r = wrap (S_share i w (absC M)) → absC M' = absC M → cK M' → k r M') : w_X8_share i w M k := by
  have I' := I
  unfold iN at I'
  have n2 := rc02 M
  unfold w_X8_share wB_X8_share_23
  refine sp_has4 pl_6 i1 ⟨by omega, by omega⟩ (fun h1 => z1 ?_) (fun h1 => z0 (badC (S := S_share i w (absC M)) hK (if_pos (by omega)) h))
  refine sp_within i2 (by constructor <;> decide) (by constructor <;> decide) (fun h2 => z1n ?_) (fun h2 => z0n (badC (S := S_share i w (absC M)) hK (if_pos (by omega)) h))
  unfold S_share at h
  rw [if_neg (by omega)] at h
  exact c_share rfl hK I J C X ⟨by omega, by omega⟩ h2 (fun r M' hr o => h r M' (wrap_eq hr) (onC_abs o) (onC_cK o hK))
theorem sC_left {t w : Int} {M : gSt} {k : Int → gSt → Prop} (i1 : inI t) (i2 : inI w) (I : iN (absC M)) (J : iB (absC M)) (C : iC (absC M)) (X : iX (absC M)) (hK : cK M) (h : ∀ r M', wrap r = wrap (S_left t w (absC M)) → absC M' = absC M → cK M' → k r M') : w_X8_left t w M k := by
  have I' := I
  unfold iN at I'
  have n0 := rc00 M
  unfold w_X8_left wB_X8_left_23
  refine sp_has0 pl_2 i1 ⟨by omega, by omega⟩ (fun h1 => z1 ?_) (fun h1 => z0 (badC (S := S_left t w (absC M)) hK (if_pos (by omega)) h))
  refine sp_within i2 (by constructor <;> decide) (by constructor <;> decide) (fun h2 => z1n ?_) (fun h2 => z0n (badC (S := S_left t w (absC M)) hK (if_pos (by omega)) h))
  unfold S_left at h
  rw [if_neg (by omega)] at h
  generalize hσ : absC M = σ at *
  have lp : ∀ (r j : Nat) (v : Int) (M1 : gSt), j + r = (σ 0 2).toNat → wrap v = wrap (leftN σ t w j) → onC M M1 → wL_X1_leftOf_13 1 t w k (fun u3_13 M13 => k u3_13 M13) (r + 1) v j M1 := by
    intro r
    induction r with
    | zero =>
      intro j v M1 hj hv o1
      have A1 : absC M1 = σ := (onC_abs o1).trans hσ
      have n2 := rc02 M1
      rw [A1] at n2
      unfold wL_X1_leftOf_13 wC_X1_leftOf_13
      refine sp_size4 pl_6 ?_
      rw [show M1 (1 + 5) 3 = σ 0 2 from n2.symm, wI (x := σ 0 2) ⟨by omega, by omega⟩, wI (x := (j : Int)) ⟨by omega, by omega⟩]
      refine ⟨fun _ => h v M1 (by rw [hv, show j = (σ 0 2).toNat from by omega]) A1 (onC_cK o1 hK), fun z => absurd z (by omega)⟩
    | succ r ih =>
      intro j v M1 hj hv o1
      have A1 : absC M1 = σ := (onC_abs o1).trans hσ
      have K1 := onC_cK o1 hK
      have n2 := rc02 M1
      rw [A1] at n2
      unfold wL_X1_leftOf_13 wC_X1_leftOf_13 wB_X1_leftOf_49
      refine sp_size4 pl_6 ?_
      rw [show M1 (1 + 5) 3 = σ 0 2 from n2.symm, wI (x := σ 0 2) ⟨by omega, by omega⟩, wI (x := (j : Int)) ⟨by omega, by omega⟩]
      refine ⟨fun z => absurd z (by omega), fun _ => c_at6 A1 K1 ⟨by omega, by omega⟩ ⟨by omega, by omega⟩ (Or.inl rfl) ?_⟩
      have cj := (C (j : Int) (by omega) (by omega)).1
      rw [show 2 * (j : Int) + 0 = 2 * (j : Int) from by omega, wI (x := σ 2 (2 * (j : Int))) ⟨by omega, by omega⟩, wI i1]
      have e1 : ((j + 1 : Nat) : Int) = (j : Int) + 1 := by omega
      refine ⟨fun z => ?_, fun z => c_share A1 K1 I J C X ⟨by omega, by omega⟩ h2 (fun r2 M2 hr o2 x ex => ?_)⟩
      · have := ih (j + 1) v M1 (by omega) (by unfold leftN; rw [if_neg z, Int.sub_zero]; exact hv) o1
        rw [e1] at this
        exact this
      · have := ih (j + 1) x M2 (by omega) (by unfold leftN; rw [if_pos z, ex]; exact left_s hv hr) (fun p a b => (o2 p a b).trans (o1 p a b))
        rw [e1] at this
        exact this
  unfold w_X1_leftOf
  refine ⟨pl_1, sp_number pl_2 rfl ⟨by omega, by omega⟩ (by decide) ⟨_, lp (σ 0 2).toNat 0 _ M (by omega) ?_ (fun _ _ _ => rfl)⟩⟩
  show wrap (M 3 (10 * t + 2)) = wrap (σ 1 (10 * t + 2))
  rw [← hσ, rc1 M (by omega) (by omega)]
-- the reference
theorem on67_tr {M M' M'' : gSt} (h : on67 M M') (h2 : on67 M' M'') : on67 M M'' := fun p a b => (h2 p a b).trans (h p a b)
theorem rdC2 (M : gSt) {i : Int} (h0 : 0 ≤ i) (h1 : i < 20) : M 1 (140 + i) = absR M 2 i := by simp [absR, absS, msk, h0, h1]
theorem r_of {σ M : gSt} {i j : Int} {k : Int → gSt → Prop} (hA : absR M = σ) (hn : 0 ≤ σ 0 2 ∧ σ 0 2 ≤ 10) (hi : 0 ≤ i ∧ i < σ 0 2) (hj : j = 0 ∨ j = 1) (h : k (σ 2 (2 * i + j)) M) : w_Rof i j M k := by
  unfold w_Rof
  refine ⟨⟨by omega, by omega⟩, ?_⟩
  rw [show 140 + 2 * i + j = 140 + (2 * i + j) from by omega, rdC2 M (by omega) (by omega), hA]
  exact h
theorem r_many {σ M : gSt} {t : Int} {k : Int → gSt → Prop} (hA : absR M = σ) (hn : 0 ≤ σ 0 2 ∧ σ 0 2 ≤ 10) (C : iC σ) (ht : inI t) (h : k (manyN (σ 2) t (σ 0 2).toNat) M) : w_RmanyOn t M k := by
  have n2 : M 1 2 = σ 0 2 := by rw [rdS M 2 (by decide) (by decide), hA]
  have lp : ∀ r j : Nat, j + r = (σ 0 2).toNat → wL_RmanyOn_4 t k (fun u2_4 M4 => k u2_4 M4) (r + 1) (manyN (σ 2) t j) j M := by
    intro r
    induction r with
    | zero =>
      intro j hj
      unfold wL_RmanyOn_4 wC_RmanyOn_4
      rw [n2, wI (x := σ 0 2) ⟨by omega, by omega⟩, wI (x := (j : Int)) ⟨by omega, by omega⟩]
      refine ⟨fun _ => ?_, fun z => absurd z (by omega)⟩
      rw [show j = (σ 0 2).toNat from by omega]
      exact h
    | succ r ih =>
      intro j hj
      unfold wL_RmanyOn_4 wC_RmanyOn_4 wB_RmanyOn_30
      rw [n2, wI (x := σ 0 2) ⟨by omega, by omega⟩, wI (x := (j : Int)) ⟨by omega, by omega⟩]
      refine ⟨fun z => absurd z (by omega), fun _ => r_of hA hn ⟨by omega, by omega⟩ (Or.inl rfl) ?_⟩
      have cj := (C (j : Int) (by omega) (by omega)).1
      rw [show 2 * (j : Int) + 0 = 2 * (j : Int) from by omega, wI (x := σ 2 (2 * (j : Int))) ⟨by omega, by omega⟩, wI ht]
      have := ih (j + 1) (by omega)
      unfold manyN at this
      rw [show ((j + 1 : Nat) : Int) = (j : Int) + 1 from by omega] at this
      refine ⟨fun z x ex => ?_, fun z x ex => ?_⟩
      · rw [if_neg z] at this; rw [ex]; exact this
      · rw [if_pos z] at this; rw [ex]; exact this
  unfold w_RmanyOn
  exact ⟨_, lp (σ 0 2).toNat 0 (by omega)⟩
theorem r_heldG {r hi : Int} {M : gSt} {k : Int → gSt → Prop} (hh : 0 ≤ wrap hi) (h : ∀ x, wrap x = heldS (wrap r) 0 (wrap hi) → k x M) : w_Rheld r 0 hi M k := by
  unfold w_Rheld
  have w0 : wrap 0 = 0 := rfl
  unfold heldS at h
  rw [w0]
  refine ⟨fun a => ⟨fun b => h r (by rw [if_neg (by omega), if_neg (by omega)]), fun b => h hi (by rw [if_neg (by omega), if_pos b])⟩, fun a => h 0 (by rw [if_pos a, w0])⟩
theorem r_counts {σ M : gSt} {i : Int} {k : Int → gSt → Prop} (hA : absR M = σ) (raw : rawT 1 (M 1)) (I : iN σ) (C : iC σ) (X : iX σ) (hi : 0 ≤ i ∧ i < σ 0 2) (h : ∀ r M', wrap r = countS σ i → on67 M M' → k r M') : w_Rcounts i M k := by
  unfold iN at I
  have l : M 1 327 = σ 0 10 := by rw [← hA]; exact rdL (u := 1) (Or.inr rfl)
  obtain ⟨c0, c1⟩ := C i hi.1 hi.2
  unfold w_Rcounts w_RhasText
  unfold countS at h
  refine r_of hA ⟨by omega, by omega⟩ hi (Or.inr rfl) ⟨by decide, ?_⟩
  show (wrap (M 1 327) ≤ 0 → _) ∧ (0 < wrap (M 1 327) → _)
  rw [l, wI (x := σ 0 10) ⟨by omega, by omega⟩]
  refine ⟨fun z => z0n ?_, fun z => z1n (fun M1 e1 => ?_)⟩
  · rw [if_neg (by omega)] at h
    exact h _ M (wI ⟨by omega, by omega⟩) (fun _ _ _ => rfl)
  · rw [if_pos z] at h
    have o1 : on67 M M1 := fun p a b => by rw [e1, wrO' a]
    have A1 : absR M1 = σ := (on67_abs o1).1.trans hA
    refine r_of A1 ⟨by omega, by omega⟩ hi (Or.inl rfl) ?_
    rw [show 2 * i + 0 = 2 * i from by omega]
    refine sp_Rits c0 (by decide) (fun M2 e2 => ?_)
    rw [A1] at e2
    have o2 : on67 M M2 := fun p a b => by rw [e2, wrO' a]; exact o1 p a b
    have A2 : absR M2 = σ := (on67_abs o2).1.trans hA
    refine r_of A2 ⟨by omega, by omega⟩ hi (Or.inl rfl) ?_
    rw [show 2 * i + 0 = 2 * i from by omega]
    refine r_many A2 ⟨by omega, by omega⟩ C ⟨by omega, by omega⟩ (fun M3 e3 => ?_)
    have o3 : on67 M M3 := fun p a b => by rw [e3, wrO' a]; exact o2 p a b
    have e31 : M3 1 = M 1 := o3 1 (by decide) (by decide)
    have m99 : M3 6 99 = σ 2 (2 * i + 1) := by rw [e3, wrN (by decide), e2, wrN (by decide), e1, wrI]
    have m103 : M3 6 103 = σ 1 (10 * σ 2 (2 * i) + 2) := by rw [e3, wrN (by decide), e2, wrI]
    have m110 : M3 6 110 = manyN (σ 2) (σ 2 (2 * i)) (σ 0 2).toNat := by rw [e3, wrI]
    refine sp_Rworked (u := 1) (g := σ 2 (2 * i + 1)) (s := σ 1 (10 * σ 2 (2 * i) + 2)) (m := manyN (σ 2) (σ 2 (2 * i)) (σ 0 2).toNat) (L := σ 0 10) (f := σ 8) (Or.inr rfl) (by rw [e31]; exact l) ⟨by omega, by omega⟩ (by rw [e31]; exact raw) (fun j a b => ?_) (fun b hb => ?_) (X.2 z) (fun r M' hr e' => r_heldG (by rw [wI ⟨by omega, by omega⟩]; exact c1.1) (fun x hx => h x M' ?_ (fun p a b => (e' p b).trans (o3 p a b))))
    · rw [e31, ← hA]
      have : absR M 8 j = msk (M 1 327) (fun i => encT 1 (M 1 (328 + 2 * i)) (M 1 (329 + 2 * i))) j := rfl
      rw [this]
      unfold msk
      rw [l, if_pos ⟨a, b⟩]
      rfl
    · rcases hb with rfl | ⟨z, -⟩ | ⟨-, rfl | rfl⟩
      · rw [m103]; rfl
      · exact absurd z (by decide)
      · rw [m99]; rfl
      · rw [m110]; rfl
    · rw [hx, hr, wI (x := σ 2 (2 * i + 1)) ⟨by omega, by omega⟩]
theorem r_below {σ M : gSt} {t m : Int} {k : Int → gSt → Prop} (hA : absR M = σ) (raw : rawT 1 (M 1)) (I : iN σ) (C : iC σ) (X : iX σ) (ht : inI t) (hm : 0 ≤ m ∧ m ≤ σ 0 2) (h : ∀ r M', wrap r = belowN σ t m.toNat → on67 M M' → k r M') : w_RcountsBelow t m M k := by
  have I' := I
  unfold iN at I'
  have lp : ∀ (r j : Nat) (v : Int) (M1 : gSt), j + r = m.toNat → wrap v = belowN σ t j → on67 M M1 → wL_RcountsBelow_5 t m k (fun u3_5 M5 => k u3_5 M5) (r + 1) v j M1 := by
    intro r
    induction r with
    | zero =>
      intro j v M1 hj hv o1
      unfold wL_RcountsBelow_5 wC_RcountsBelow_5
      rw [wI (x := m) ⟨by omega, by omega⟩, wI (x := (j : Int)) ⟨by omega, by omega⟩]
      refine ⟨fun _ => h v M1 ?_ o1, fun z => absurd z (by omega)⟩
      rw [hv, show j = m.toNat from by omega]
    | succ r ih =>
      intro j v M1 hj hv o1
      have A1 : absR M1 = σ := (on67_abs o1).1.trans hA
      have raw1 : rawT 1 (M1 1) := by rw [o1 1 (by decide) (by decide)]; exact raw
      unfold wL_RcountsBelow_5 wC_RcountsBelow_5 wB_RcountsBelow_33
      rw [wI (x := m) ⟨by omega, by omega⟩, wI (x := (j : Int)) ⟨by omega, by omega⟩]
      refine ⟨fun z => absurd z (by omega), fun _ => r_of A1 ⟨by omega, by omega⟩ ⟨by omega, by omega⟩ (Or.inl rfl) ?_⟩
      have cj := (C (j : Int) (by omega) (by omega)).1
      have cj1 := (C (j : Int) (by omega) (by omega)).2
      rw [show 2 * (j : Int) + 0 = 2 * (j : Int) from by omega, wI (x := σ 2 (2 * (j : Int))) ⟨by omega, by omega⟩, wI ht]
      have br := below_rng (t := t) C j (by omega)
      have cr := count_rng (σ := σ) (i := (j : Int)) cj1.1
      have e1 : ((j + 1 : Nat) : Int) = (j : Int) + 1 := by omega
      refine ⟨fun z x ex => ?_, fun z => r_counts A1 raw1 I C X ⟨by omega, by omega⟩ (fun r2 M2 hr o2 x ex => ?_)⟩
      · have := ih (j + 1) x M1 (by omega) (by unfold belowN; rw [if_neg z, Int.add_zero, ex, Int.add_zero]; exact hv) o1
        rw [e1] at this
        exact this
      · have := ih (j + 1) x M2 (by omega) (by
          unfold belowN
          rw [if_pos z, ex, ← hv, ← hr]
          have e : wrap (v + r2) = wrap (wrap v + wrap r2) := by unfold wrap; omega
          rw [e, hv, hr]
          exact wI ⟨by omega, by omega⟩) (on67_tr o1 o2)
        rw [e1] at this
        exact this
  unfold w_RcountsBelow
  exact ⟨_, lp m.toNat 0 0 M (by omega) rfl (fun _ _ _ => rfl)⟩
theorem r_share {σ M : gSt} {i w : Int} {k : Int → gSt → Prop} (hA : absR M = σ) (raw : rawT 1 (M 1)) (I : iN σ) (J : iB σ) (C : iC σ) (X : iX σ) (hi : 0 ≤ i ∧ i < σ 0 2) (hw : 0 ≤ w ∧ w ≤ 2) (h : ∀ r M', wrap r = shareS σ i w → on67 M M' → k r M') : w_RshareOf i w M k := by
  have I' := I
  unfold iN at I'
  obtain ⟨c0, c1⟩ := C i hi.1 hi.2
  have cr := count_rng (σ := σ) (i := i) c1.1
  have gr := (J (σ 2 (2 * i)) c0.1 c0.2).2.2.1
  unfold w_RshareOf
  unfold shareS at h
  refine r_of hA ⟨by omega, by omega⟩ hi (Or.inl rfl) ?_
  rw [show 2 * i + 0 = 2 * i from by omega]
  refine sp_Rits c0 (by decide) ?_
  rw [hA]
  generalize hT : σ 2 (2 * i) = t at *
  generalize hG : σ 1 (10 * t + 2) = g at *
  refine r_counts hA raw I C X hi (fun r M1 hr o1 => ?_)
  have A1 : absR M1 = σ := (on67_abs o1).1.trans hA
  have raw1 : rawT 1 (M1 1) := by rw [o1 1 (by decide) (by decide)]; exact raw
  have n2 : M1 1 2 = σ 0 2 := by rw [rdS M1 2 (by decide) (by decide), A1]
  rw [wI (x := w) ⟨by omega, by omega⟩, wI (x := g) ⟨by omega, by omega⟩]
  refine ⟨fun n0 => ⟨fun n1 => ?_, fun e1 => ?_⟩, fun e0 => ?_⟩
  · rw [if_neg n0, if_neg n1] at h
    have br := below_rng (t := t) C i.toNat (by omega)
    refine r_below A1 raw1 I C X ⟨by omega, by omega⟩ ⟨by omega, by omega⟩ (fun r2 M2 hr2 o2 => r_heldG (by decide) (fun x hx => r_heldG (by rw [hx]; exact (held_rng2 (by decide)).1) (fun y hy => h y M2 ?_ (on67_tr o1 o2))))
    have e : wrap (g - r2) = wrap (g - wrap r2) := by unfold wrap; omega
    rw [hy, hx, hr, e, hr2, wI (x := g - belowN σ t i.toNat) ⟨by omega, by omega⟩, show wrap 9999999 = 9999999 from by decide]
    unfold heldS
    generalize countS σ i = c at cr ⊢
    generalize g - belowN σ t i.toNat = x
    by_cases a : x < 0
    · rw [if_pos a, if_pos a]; split <;> (try split) <;> omega
    · rw [if_neg a, if_neg a]
      by_cases b : 9999999 < x
      · rw [if_pos b]; split <;> (try split) <;> (try split) <;> omega
      · rw [if_neg b]; split <;> (try split) <;> (try split) <;> omega
  · rw [if_neg n0, if_pos e1] at h
    have br := below_rng (t := t) C (σ 0 2).toNat (by omega)
    rw [n2]
    refine r_below A1 raw1 I C X ⟨by omega, by omega⟩ ⟨by omega, by omega⟩ (fun r2 M2 hr2 o2 => ?_)
    rw [hr2]
    refine ⟨fun z => ?_, fun z => h r M2 ?_ (on67_tr o1 o2)⟩
    · have pr : 0 ≤ countS σ i * g ∧ countS σ i * g ≤ 9999999 * 9999999 := ⟨Int.mul_nonneg cr.1 (by omega), Int.mul_le_mul (by omega) (by omega) (by omega) (by omega)⟩
      unfold w_RpartOf
      rw [hr, hr2, wI (x := g) ⟨by omega, by omega⟩, wrapL_in (x := belowN σ t (σ 0 2).toNat) (by omega) (by omega), wrapL_in (x := countS σ i * g) (by omega) (by omega), tdiv_pos pr.1]
      refine ⟨by omega, h _ M2 ?_ (on67_tr o1 o2)⟩
      rw [if_pos z]
      refine wI ⟨?_, ?_⟩
      · have := Int.ediv_nonneg (a := countS σ i * g) (b := belowN σ t (σ 0 2).toNat) pr.1 br.1
        omega
      · have : countS σ i * g / belowN σ t (σ 0 2).toNat ≤ countS σ i := Int.ediv_le_of_le_mul (by omega) (Int.mul_le_mul_of_nonneg_left (by omega) cr.1)
        omega
    · rw [if_neg (by omega)]; exact hr
  · rw [if_pos e0] at h
    have mr := many_rng (c := σ 2) (t := t) (σ 0 2).toNat
    have mp := many_pos (c := σ 2) (t := t) (i := i.toNat) (by rw [show ((i.toNat : Nat) : Int) = i from by omega]; exact hT) (σ 0 2).toNat (by omega)
    refine r_many A1 ⟨by omega, by omega⟩ C ⟨by omega, by omega⟩ ?_
    rw [wI (x := manyN (σ 2) t (σ 0 2).toNat) ⟨by omega, by omega⟩, tdiv_pos (by omega : 0 ≤ g)]
    have q0 : 0 ≤ g / manyN (σ 2) t (σ 0 2).toNat := Int.ediv_nonneg (by omega) (by omega)
    have q1 : g / manyN (σ 2) t (σ 0 2).toNat ≤ g := Int.ediv_le_self _ (by omega)
    generalize g / manyN (σ 2) t (σ 0 2).toNat = Q at q0 q1 h ⊢
    refine ⟨by omega, r_heldG (by rw [wI ⟨by omega, by omega⟩]; exact q0) (fun x hx => h x M1 ?_ o1)⟩
    rw [hx, hr, wI (x := Q) ⟨by omega, by omega⟩]
    unfold heldS
    rw [if_neg (by omega)]
theorem badR {M : gSt} {k : Int → gSt → Prop} {S : Int} (hS : S = -1000000001) (h : ∀ r M', wrap r = wrap S → absR M' = absR M → fr M M' → k r M') : w_Rerror 1 M (fun r M' => k r M') :=
  sp_Rerror (by decide) (by decide) (fun M' e f => h _ M' (by rw [hS]; rfl) e f)
theorem sR_claimIs {i w : Int} {M : gSt} {k : Int → gSt → Prop} (i1 : inI i) (i2 : inI w) (I : iN (absR M)) (C : iC (absR M)) (X : iX (absR M)) (raw : rawT 1 (M 1)) (h : ∀ r M', wrap r = wrap (S_claimIs i w (absR M)) → absR M' = absR M → fr M M' → k r M') : w_RclaimIs i w M k := by
  have I' := I
  unfold iN at I'
  unfold w_RclaimIs wB_RclaimIs_17 w_RisClaim
  rw [rdS M 2 (by decide) (by decide)]
  refine sp_Rin i1 (by constructor <;> decide) ⟨by omega, by omega⟩ (fun h1 => ⟨Or.inr rfl, z1 ?_⟩) (fun h1 => ⟨Or.inl rfl, z0 (badR (S := S_claimIs i w (absR M)) (if_pos (by omega)) h)⟩)
  refine sp_Rin i2 (by constructor <;> decide) (by constructor <;> decide) (fun h2 => z1n ?_) (fun h2 => z0n (badR (S := S_claimIs i w (absR M)) (if_pos (by omega)) h))
  unfold S_claimIs at h
  rw [if_neg (by omega)] at h
  rw [wI i2]
  refine ⟨fun z => r_of rfl ⟨by omega, by omega⟩ ⟨by omega, by omega⟩ (by omega) (h _ M (by rw [if_neg z]) rfl fr_rf), fun z => r_counts rfl raw I C X ⟨by omega, by omega⟩ (fun r M' hr o => h r M' (by rw [if_pos z]; exact wrap_eq hr) (on67_abs o).1 (on67_abs o).2)⟩
theorem sR_share {i w : Int} {M : gSt} {k : Int → gSt → Prop} (i1 : inI i) (i2 : inI w) (I : iN (absR M)) (J : iB (absR M)) (C : iC (absR M)) (X : iX (absR M)) (raw : rawT 1 (M 1)) (h : ∀ r M', wrap r = wrap (S_share i w (absR M)) → absR M' = absR M → fr M M' → k r M') : w_Rshare i w M k := by
  have I' := I
  unfold iN at I'
  unfold w_Rshare wB_Rshare_24 w_RisClaim w_RisLaw
  rw [rdS M 2 (by decide) (by decide)]
  refine sp_Rin i1 (by constructor <;> decide) ⟨by omega, by omega⟩ (fun h1 => ⟨Or.inr rfl, z1 ?_⟩) (fun h1 => ⟨Or.inl rfl, z0 (badR (S := S_share i w (absR M)) (if_pos (by omega)) h)⟩)
  refine sp_Rin i2 (by constructor <;> decide) (by constructor <;> decide) (fun h2 => ⟨Or.inr rfl, z1 ?_⟩) (fun h2 => ⟨Or.inl rfl, z0 (badR (S := S_share i w (absR M)) (if_pos (by omega)) h)⟩)
  unfold S_share at h
  rw [if_neg (by omega)] at h
  exact r_share rfl raw I J C X ⟨by omega, by omega⟩ h2 (fun r M' hr o => h r M' (wrap_eq hr) (on67_abs o).1 (on67_abs o).2)
theorem sR_left {t w : Int} {M : gSt} {k : Int → gSt → Prop} (i1 : inI t) (i2 : inI w) (I : iN (absR M)) (J : iB (absR M)) (C : iC (absR M)) (X : iX (absR M)) (raw : rawT 1 (M 1)) (h : ∀ r M', wrap r = wrap (S_left t w (absR M)) → absR M' = absR M → fr M M' → k r M') : w_Rleft t w M k := by
  have I' := I
  unfold iN at I'
  unfold w_Rleft wB_Rleft_15 w_RisLaw
  refine sp_RisThing i1 ⟨by omega, by omega⟩ (fun h1 => z1 ?_) (fun h1 => z0 (badR (S := S_left t w (absR M)) (if_pos (by omega)) h))
  refine sp_Rin i2 (by constructor <;> decide) (by constructor <;> decide) (fun h2 => ⟨Or.inr rfl, z1n ?_⟩) (fun h2 => ⟨Or.inl rfl, z0n (badR (S := S_left t w (absR M)) (if_pos (by omega)) h)⟩)
  unfold S_left at h
  rw [if_neg (by omega)] at h
  refine sp_Rits ⟨by omega, by omega⟩ (by decide) ?_
  generalize hσ : absR M = σ at *
  have lp : ∀ (r j : Nat) (v : Int) (M1 : gSt), j + r = (σ 0 2).toNat → wrap v = wrap (leftN σ t w j) → on67 M M1 → wL_Rleft_31 t w k (fun u3_31 M31 => k u3_31 M31) (r + 1) v j M1 := by
    intro r
    induction r with
    | zero =>
      intro j v M1 hj hv o1
      have A1 : absR M1 = σ := (on67_abs o1).1.trans hσ
      unfold wL_Rleft_31 wC_Rleft_31
      rw [rdS M1 2 (by decide) (by decide), A1, wI (x := σ 0 2) ⟨by omega, by omega⟩, wI (x := (j : Int)) ⟨by omega, by omega⟩]
      refine ⟨fun _ => h v M1 (by rw [hv, show j = (σ 0 2).toNat from by omega]) A1 (on67_abs o1).2, fun z => absurd z (by omega)⟩
    | succ r ih =>
      intro j v M1 hj hv o1
      have A1 : absR M1 = σ := (on67_abs o1).1.trans hσ
      have raw1 : rawT 1 (M1 1) := by rw [o1 1 (by decide) (by decide)]; exact raw
      unfold wL_Rleft_31 wC_Rleft_31 wB_Rleft_65
      rw [rdS M1 2 (by decide) (by decide), A1, wI (x := σ 0 2) ⟨by omega, by omega⟩, wI (x := (j : Int)) ⟨by omega, by omega⟩]
      refine ⟨fun z => absurd z (by omega), fun _ => r_of A1 ⟨by omega, by omega⟩ ⟨by omega, by omega⟩ (Or.inl rfl) ?_⟩
      have cj := (C (j : Int) (by omega) (by omega)).1
      rw [show 2 * (j : Int) + 0 = 2 * (j : Int) from by omega, wI (x := σ 2 (2 * (j : Int))) ⟨by omega, by omega⟩, wI i1]
      have e1 : ((j + 1 : Nat) : Int) = (j : Int) + 1 := by omega
      refine ⟨fun z x ex => ?_, fun z => r_share A1 raw1 I J C X ⟨by omega, by omega⟩ h2 (fun r2 M2 hr o2 x ex => ?_)⟩
      · have := ih (j + 1) x M1 (by omega) (by unfold leftN; rw [if_neg z, Int.sub_zero, ex, Int.sub_zero]; exact hv) o1
        rw [e1] at this
        exact this
      · have := ih (j + 1) x M2 (by omega) (by unfold leftN; rw [if_pos z, ex]; exact left_s hv hr) (on67_tr o1 o2)
        rw [e1] at this
        exact this
  exact ⟨_, lp (σ 0 2).toNat 0 _ M (by omega) rfl (fun _ _ _ => rfl)⟩
