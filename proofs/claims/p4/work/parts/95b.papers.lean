-- move of the reference; papers of a sheet and untell of both sides
theorem lpR1 {q i q2 j n : Int} {kk : Int → gSt → Prop} {k : gSt → Prop} (hq : 0 ≤ q ∧ q < 4) (hi : 0 ≤ i ∧ 0 ≤ n ∧ i ≤ 24 - n) : ∀ (r : Nat) (v : Int) (M : gSt), 0 ≤ v → v + (r : Int) = n → k (fun o p => if o = 14 ∧ v ≤ p ∧ p < n then M 13 (24 * q + i + p) else M o p) → wL_Rmove_115 q i q2 j n kk k (r + 1) v M := by
  intro r
  induction r with
  | zero =>
    intro v M hv hr h
    unfold wL_Rmove_115 wC_Rmove_115
    rw [wI (x := n) ⟨by omega, by omega⟩, wI (x := v) ⟨by omega, by omega⟩]
    refine ⟨fun _ => ?_, fun z => absurd z (by omega)⟩
    rw [show (fun (o : Nat) (p : Int) => if o = 14 ∧ v ≤ p ∧ p < n then M 13 (24 * q + i + p) else M o p) = M from by funext o p; rw [if_neg (by omega)]] at h
    exact h
  | succ r ih =>
    intro v M hv hr h
    unfold wL_Rmove_115 wC_Rmove_115
    rw [wI (x := n) ⟨by omega, by omega⟩, wI (x := v) ⟨by omega, by omega⟩]
    refine ⟨fun z => absurd z (by omega), fun _ => ⟨⟨by omega, by omega⟩, ⟨by omega, by omega⟩, fun M1 e1 => ih (v + 1) M1 (by omega) (by omega) ?_⟩⟩
    rw [show (fun (o : Nat) (p : Int) => if o = 14 ∧ v + 1 ≤ p ∧ p < n then M1 13 (24 * q + i + p) else M1 o p) = (fun o p => if o = 14 ∧ v ≤ p ∧ p < n then M 13 (24 * q + i + p) else M o p) from by
      funext o p
      rw [e1]
      unfold wr
      by_cases w : o = 14 ∧ v + 1 ≤ p ∧ p < n
      · rw [if_pos w, if_neg (by omega), if_pos (by omega)]
      · rw [if_neg w]
        by_cases w2 : o = 14 ∧ p = v
        · rw [if_pos w2, if_pos (by omega), w2.2]
        · rw [if_neg w2, if_neg (by omega)]]
    exact h
theorem lpR2 {q i q2 j n : Int} {kk : Int → gSt → Prop} {k : gSt → Prop} (hq : 0 ≤ q2 ∧ q2 < 4) (hi : 0 ≤ j ∧ 0 ≤ n ∧ j ≤ 24 - n) : ∀ (r : Nat) (v : Int) (M : gSt), 0 ≤ v → v + (r : Int) = n → k (fun o p => if o = 13 ∧ 24 * q2 + j + v ≤ p ∧ p < 24 * q2 + j + n then M 14 (p - (24 * q2 + j)) else M o p) → wL_Rmove_152 q i q2 j n kk k (r + 1) v M := by
  intro r
  induction r with
  | zero =>
    intro v M hv hr h
    unfold wL_Rmove_152 wC_Rmove_152
    rw [wI (x := n) ⟨by omega, by omega⟩, wI (x := v) ⟨by omega, by omega⟩]
    refine ⟨fun _ => ?_, fun z => absurd z (by omega)⟩
    rw [show (fun (o : Nat) (p : Int) => if o = 13 ∧ 24 * q2 + j + v ≤ p ∧ p < 24 * q2 + j + n then M 14 (p - (24 * q2 + j)) else M o p) = M from by funext o p; rw [if_neg (by omega)]] at h
    exact h
  | succ r ih =>
    intro v M hv hr h
    unfold wL_Rmove_152 wC_Rmove_152
    rw [wI (x := n) ⟨by omega, by omega⟩, wI (x := v) ⟨by omega, by omega⟩]
    refine ⟨fun z => absurd z (by omega), fun _ => ⟨⟨by omega, by omega⟩, ⟨by omega, by omega⟩, fun M1 e1 => ih (v + 1) M1 (by omega) (by omega) ?_⟩⟩
    rw [show (fun (o : Nat) (p : Int) => if o = 13 ∧ 24 * q2 + j + (v + 1) ≤ p ∧ p < 24 * q2 + j + n then M1 14 (p - (24 * q2 + j)) else M1 o p) = (fun o p => if o = 13 ∧ 24 * q2 + j + v ≤ p ∧ p < 24 * q2 + j + n then M 14 (p - (24 * q2 + j)) else M o p) from by
      funext o p
      rw [e1]
      unfold wr
      by_cases w : o = 13 ∧ 24 * q2 + j + (v + 1) ≤ p ∧ p < 24 * q2 + j + n
      · rw [if_pos w, if_neg (by omega), if_pos (by omega)]
      · rw [if_neg w]
        by_cases w2 : o = 13 ∧ p = 24 * q2 + j + v
        · rw [if_pos w2, if_pos (by omega), w2.2, show 24 * q2 + j + v - (24 * q2 + j) = v from by omega]
        · rw [if_neg w2, if_neg (by omega)]]
    exact h
theorem sR_move {q i q2 j n : Int} {M : gSt} {k : Int → gSt → Prop} (i1 : inI q) (i2 : inI i) (i3 : inI q2) (i4 : inI j) (i5 : inI n) (I : iSh (absR M)) (h : ∀ M', absR M' = (S_move q i q2 j n (absR M)).2 → fr M M' → k (S_move q i q2 j n (absR M)).1 M') : w_Rmove q i q2 j n M k := by
  unfold w_Rmove wB_Rmove_14 wB_Rmove_38 wB_Rmove_106
  refine sp_RisSheet i1 (fun hq => z1 ?_) (fun hq => z0 (errL (by decide) (by decide) (if_pos (fun z => hq z.1)) h))
  refine sp_RisSheet i3 (fun hq2 => z1n ?_) (fun hq2 => z0n (errL (by decide) (by decide) (if_pos (fun z => hq2 z.2)) h))
  have hc := fun z : ¬ ((0 ≤ q ∧ q < 4) ∧ (0 ≤ q2 ∧ q2 < 4)) => z ⟨hq, hq2⟩
  obtain ⟨b1, b2, -⟩ := I q hq.1 hq.2
  obtain ⟨d1, d2, -⟩ := I q2 hq2.1 hq2.2
  refine ⟨hq, ?_⟩
  rw [rdBits M q hq.1 hq.2, rdBits M q2 hq2.1 hq2.2, rdSize M q hq.1 hq.2, rdSize M q2 hq2.1 hq2.2, wI (x := absR M 23 q) ⟨by omega, by omega⟩, wI (x := absR M 23 q2) ⟨by omega, by omega⟩]
  refine ⟨fun z => errL (by decide) (by decide) ((if_neg hc).trans (if_pos (Or.inl z))) h, fun nz => ⟨hq2, fun nz2 => ⟨hq, hq2, ?_⟩, fun z => errL (by decide) (by decide) ((if_neg hc).trans (if_pos (Or.inr z))) h⟩⟩
  have hm : ¬ (absR M 23 q = 0 ∨ absR M 23 q2 = 0) := by omega
  refine ⟨fun eq => ?_, fun ne => errL (by decide) (by decide) ((if_neg hc).trans ((if_neg hm).trans (if_pos ne))) h⟩
  have hl : ¬ ¬ absR M 23 q = absR M 23 q2 := fun z => z eq
  have bad : n < 0 ∨ i < 0 ∨ j < 0 ∨ absR M 24 q - n < i ∨ absR M 24 q2 - n < j → w_Rerror 1 M (fun r108c M108 => k r108c M108) := fun b => errL (by decide) (by decide) ((if_neg hc).trans ((if_neg hm).trans ((if_neg hl).trans (if_pos b)))) h
  rw [wI i5, wI i2, wI i4]
  refine ⟨fun z => bad (by omega), fun g1 => ⟨fun z => bad (by omega), fun g2 => ⟨fun z => bad (by omega), fun g3 => ⟨hq, ?_⟩⟩⟩⟩
  have i5' : -2147483648 ≤ n ∧ n < 2147483648 := i5
  rw [wI (x := absR M 24 q - n) ⟨by omega, by omega⟩, wI (x := absR M 24 q2 - n) ⟨by omega, by omega⟩]
  refine ⟨fun z => bad (by omega), fun g4 => ⟨hq2, fun g5 => ?_, fun z => bad (by omega)⟩⟩
  have hS : S_move q i q2 j n (absR M) = _ := (if_neg hc).trans ((if_neg hm).trans ((if_neg hl).trans (if_neg (by omega))))
  rw [hS] at h
  refine ⟨n.toNat + 1, lpR1 hq ⟨by omega, by omega, by omega⟩ n.toNat 0 M (by omega) (by omega) ⟨n.toNat + 1, lpR2 hq2 ⟨by omega, by omega, by omega⟩ n.toNat 0 _ (by omega) (by omega) (h _ ?_ ?_)⟩⟩
  · funext c p
    unfold mvS absR
    dsimp only
    simp only [show ¬ ((1 : Nat) = 14) from by decide, show ¬ ((2 : Nat) = 14) from by decide, show ¬ ((0 : Nat) = 14) from by decide, show ¬ ((11 : Nat) = 14) from by decide, show ¬ ((12 : Nat) = 14) from by decide, show ¬ ((13 : Nat) = 14) from by decide, show ¬ ((1 : Nat) = 13) from by decide, show ¬ ((2 : Nat) = 13) from by decide, show ¬ ((0 : Nat) = 13) from by decide, show ¬ ((11 : Nat) = 13) from by decide, show ¬ ((12 : Nat) = 13) from by decide, false_and, if_false, true_and]
    by_cases w : c = 25 ∧ 24 * q2 + j ≤ p ∧ p < 24 * q2 + j + n
    · rw [if_pos w]
      obtain ⟨w1, w2, w3⟩ := w
      subst w1
      simp only [show ¬ ((25 : Nat) < 10) from by decide, show ¬ ((25 : Nat) < 20) from by decide, show ¬ ((25 : Nat) = 21) from by decide, show ¬ ((25 : Nat) = 23) from by decide, show ¬ ((25 : Nat) = 24) from by decide, if_false, if_true]
      unfold msk
      rw [if_pos (by omega), if_pos (by omega)]
      dsimp only
      rw [if_pos (by omega), if_pos (by omega)]
    · rw [if_neg w]
      by_cases c25 : c = 25
      · subst c25
        simp only [show ¬ ((25 : Nat) < 10) from by decide, show ¬ ((25 : Nat) < 20) from by decide, show ¬ ((25 : Nat) = 21) from by decide, show ¬ ((25 : Nat) = 23) from by decide, show ¬ ((25 : Nat) = 24) from by decide, if_false, if_true]
        unfold msk
        by_cases v : 0 ≤ p ∧ p < 96
        · rw [if_pos v, if_pos v]
          dsimp only
          rw [if_neg (by omega)]
        · rw [if_neg v, if_neg v]
      · simp only [c25, if_false]
  · refine ⟨fun t _ _ => ?_, ?_, ?_⟩
    · simp
    · funext t; simp
    · simp
-- papers of a sheet
abbrev papG (σ : gSt) (q m : Int) : Prop := 3 * m + 2 < σ 24 q ∧ σ 0 3 < 6 ∧ ((0 ≤ σ 25 (24 * q + 3 * m) ∧ σ 25 (24 * q + 3 * m) < σ 0 0) ∧ (0 ≤ σ 25 (24 * q + 3 * m + 1) ∧ σ 25 (24 * q + 3 * m + 1) < σ 0 0) ∧ ¬ σ 25 (24 * q + 3 * m) = σ 25 (24 * q + 3 * m + 1) ∧ (1 ≤ σ 25 (24 * q + 3 * m + 2) ∧ σ 25 (24 * q + 3 * m + 2) ≤ 8))
def papA (σ : gSt) (q m : Int) : gSt := add3 σ 3 3 (σ 25 (24 * q + 3 * m)) (σ 25 (24 * q + 3 * m + 1)) (σ 25 (24 * q + 3 * m + 2))
def papL (q : Int) : Nat → Int → gSt → Int × gSt
  | 0, m, σ => (m, σ)
  | n + 1, m, σ => if papG σ q m then papL q n (m + 1) (papA σ q m) else (m, σ)
def S_papers (q : Int) (σ : gSt) : Int × gSt := if ¬ (0 ≤ q ∧ q < 4) then S_err σ 1 else if σ 23 q = 0 then S_err σ 2 else papL q 8 0 σ
theorem papA_k {σ : gSt} {q m : Int} : (∀ c, c ≠ 3 → ∀ i, ¬ (c = 0 ∧ i = 3) → papA σ q m c i = σ c i) ∧ papA σ q m 0 3 = σ 0 3 + 1 := by
  refine ⟨fun c hc i hi => ?_, by unfold papA add3; exact up1_i⟩
  unfold papA add3
  have e : ∀ τ : gSt, ∀ x, up1 τ 0 3 x c i = τ c i := fun τ x => by
    unfold up1 wr; rw [if_neg hi]
  rw [e, up1_o hc, up1_o hc, up1_o hc]
theorem papA_N {σ : gSt} {q m : Int} (I : iN σ) (h : σ 0 3 < 6) : iN (papA σ q m) := by
  obtain ⟨k, k3⟩ := @papA_k σ q m
  unfold iN at I ⊢
  rw [k 0 (by decide) 0 (by omega), k 0 (by decide) 1 (by omega), k 0 (by decide) 2 (by omega), k3, k 0 (by decide) 4 (by omega), k 0 (by decide) 5 (by omega), k 0 (by decide) 6 (by omega), k 0 (by decide) 7 (by omega), k 0 (by decide) 9 (by omega), k 0 (by decide) 10 (by omega)]
  omega
theorem papA_Sh {σ : gSt} {q m : Int} (J : iSh σ) : iSh (papA σ q m) := by
  obtain ⟨k, -⟩ := @papA_k σ q m
  intro t a b
  rw [k 23 (by decide) t (by omega), k 24 (by decide) t (by omega)]
  refine ⟨(J t a b).1, (J t a b).2.1, fun i c d => ?_⟩
  rw [k 25 (by decide) _ (by omega)]
  exact (J t a b).2.2 i c d
theorem lpP {q : Int} {kk : Int → gSt → Prop} {k : Int → gSt → Prop} (hq : 0 ≤ q ∧ q < 4) : ∀ (n : Nat) (m : Int) (M : gSt), 0 ≤ m → m + (n : Int) = 8 → iN (absR M) → iSh (absR M) → (∀ M', absR M' = (papL q n m (absR M)).2 → fr M M' → k (papL q n m (absR M)).1 M') → wL_Rpapers_24 q kk k (n + 1) m (24 * q) M := by
  intro n
  induction n with
  | zero =>
    intro m M hm hn I J h
    obtain ⟨-, d2, -⟩ := J q hq.1 hq.2
    unfold wL_Rpapers_24 wC_Rpapers_24
    refine ⟨hq, ?_⟩
    rw [rdSize M q hq.1 hq.2, wI (x := absR M 24 q) ⟨by omega, by omega⟩, wI (x := 3 * m + 2) ⟨by omega, by omega⟩]
    exact ⟨fun _ => h M rfl fr_rf, fun z => absurd z (by omega)⟩
  | succ n ih =>
    intro m M hm hn I J h
    obtain ⟨-, d2, d3⟩ := J q hq.1 hq.2
    unfold papL at h
    unfold wL_Rpapers_24 wC_Rpapers_24
    refine ⟨hq, ?_⟩
    rw [rdSize M q hq.1 hq.2, wI (x := absR M 24 q) ⟨by omega, by omega⟩, wI (x := 3 * m + 2) ⟨by omega, by omega⟩]
    have stop : ¬ papG (absR M) q m → k m M := fun z => by
      rw [if_neg z] at h
      exact h M rfl fr_rf
    have I' := I
    unfold iN at I'
    refine ⟨fun z => stop (fun g => by have := g.1; omega), fun g1 => ?_⟩
    rw [rdS M 3 (by omega) (by omega), wI (x := absR M 0 3) ⟨by omega, by omega⟩]
    refine ⟨fun z => stop (fun g => by have := g.2.1; omega), fun g2 => ⟨⟨by omega, by omega⟩, ⟨by omega, by omega⟩, ⟨by omega, by omega⟩, ?_⟩⟩
    rw [rdNum M (24 * q + 3 * m) (by omega) (by omega), rdNum M (24 * q + 3 * m + 1) (by omega) (by omega), rdNum M (24 * q + 3 * m + 2) (by omega) (by omega)]
    have j0 := d3 (3 * m) (by omega) (by omega)
    have j1 := d3 (3 * m + 1) (by omega) (by omega)
    have j2 := d3 (3 * m + 2) (by omega) (by omega)
    rw [show 24 * q + (3 * m + 1) = 24 * q + 3 * m + 1 from by omega] at j1
    rw [show 24 * q + (3 * m + 2) = 24 * q + 3 * m + 2 from by omega] at j2
    refine sp_RisPaper j0 j1 j2 ⟨by omega, by omega⟩ (fun g3 => z1 ?_) (fun g3 => z0 (stop (fun g => g3 g.2.2)))
    have g : papG (absR M) q m := ⟨g1, g2, g3⟩
    rw [if_pos g] at h
    refine ⟨⟨by omega, by omega⟩, ⟨by omega, by omega⟩, ⟨by omega, by omega⟩, ?_⟩
    rw [rdNum M (24 * q + 3 * m) (by omega) (by omega), rdNum M (24 * q + 3 * m + 1) (by omega) (by omega), rdNum M (24 * q + 3 * m + 2) (by omega) (by omega)]
    refine sp_RaddPaper (iN_t I) ⟨by omega, by omega⟩ (fun M1 e1 f1 _ => ?_)
    change absR M1 = papA (absR M) q m at e1
    refine ih (m + 1) M1 (by omega) (by omega) (by rw [e1]; exact papA_N I g2) (by rw [e1]; exact papA_Sh J) (fun M2 e2 f2 => ?_)
    rw [e1] at e2 ⊢
    exact h M2 e2 (fr_trans f1 f2)
theorem sR_papers {q : Int} {M : gSt} {k : Int → gSt → Prop} (i1 : inI q) (I : iN (absR M)) (J : iSh (absR M)) (h : ∀ M', absR M' = (S_papers q (absR M)).2 → fr M M' → k (S_papers q (absR M)).1 M') : w_Rpapers q M k := by
  unfold w_Rpapers w_Rlacks
  refine sp_RisSheet i1 (fun hq => z1n ?_) (fun hq => z0n ?_)
  · obtain ⟨b1, -, -⟩ := J q hq.1 hq.2
    refine ⟨hq, ?_⟩
    rw [rdBits M q hq.1 hq.2, wI (x := absR M 23 q) ⟨by omega, by omega⟩]
    refine ⟨fun nz => ⟨fun _ => ?_, fun z => absurd z (by decide)⟩, fun z => ⟨fun z2 => absurd z2 (by decide), fun _ => errL (by decide) (by decide) ((if_neg (fun w => w hq)).trans (if_pos z)) h⟩⟩
    intro x ex
    subst ex
    have hS : S_papers q (absR M) = _ := (if_neg (fun w => w hq)).trans (if_neg nz)
    rw [hS] at h
    exact ⟨8 + 1, lpP hq 8 0 M (by omega) (by omega) I J h⟩
  · exact ⟨fun z => absurd z (by decide), fun _ => errL (by decide) (by decide) (if_pos hq) h⟩
theorem lpPC {q : Int} {o : Nat} {kk : Int → gSt → Prop} {k : Int → gSt → Prop} (hq : 0 ≤ q ∧ q < 4) (ho : (o : Int) = 56 + 2 * q) : ∀ (n : Nat) (m : Int) (M : gSt), 0 ≤ m → m + (n : Int) = 8 → iN (absC M) → iSh (absC M) → cK M → (∀ M', absC M' = (papL q n m (absC M)).2 → cK M' → k (papL q n m (absC M)).1 M') → wL_X8_papers_34 q kk k k (n + 1) o m (3 * m) M := by
  obtain ⟨p1, p2, p3⟩ := pl_sh (o := o) (by omega)
  intro n
  induction n with
  | zero =>
    intro m M hm hn I J hK h
    obtain ⟨-, d2, -⟩ := J q hq.1 hq.2
    have es := rS M hq ho
    unfold wL_X8_papers_34 wC_X8_papers_34 w_X5_size
    refine ⟨p1, ?_⟩
    dsimp only
    rw [wI (x := M o 2) ⟨by omega, by omega⟩, wI (x := 3 * m + 2) ⟨by omega, by omega⟩]
    exact ⟨fun _ => h M rfl hK, fun z => absurd z (by omega)⟩
  | succ n ih =>
    intro m M hm hn I J hK h
    obtain ⟨-, d2, d3⟩ := J q hq.1 hq.2
    have es := rS M hq ho
    unfold papL at h
    unfold wL_X8_papers_34 wC_X8_papers_34 w_X5_size
    refine ⟨p1, ?_⟩
    dsimp only
    rw [wI (x := M o 2) ⟨by omega, by omega⟩, wI (x := 3 * m + 2) ⟨by omega, by omega⟩]
    have stop : ¬ papG (absC M) q m → k m M := fun z => by
      rw [if_neg z] at h
      exact h M rfl hK
    have I' := I
    unfold iN at I'
    have n0 := rc00 M
    have n3 := rc03 M
    obtain ⟨w0, w2⟩ := cK_8 hK
    refine ⟨fun z => stop (fun g => by have := g.1; omega), fun g1 => ?_⟩
    refine sp_at5 p1 p3 ⟨by omega, by omega⟩ (by omega) ?_
    refine sp_at5 p1 p3 ⟨by omega, by omega⟩ (by omega) ?_
    refine sp_at5 p1 p3 ⟨by omega, by omega⟩ (by omega) ?_
    rw [← rN M hq ho (j := 3 * m) (by omega) (by omega), ← rN M hq ho (j := 3 * m + 1) (by omega) (by omega), ← rN M hq ho (j := 3 * m + 2) (by omega) (by omega)]
    have j0 := d3 (3 * m) (by omega) (by omega)
    have j1 := d3 (3 * m + 1) (by omega) (by omega)
    have j2 := d3 (3 * m + 2) (by omega) (by omega)
    have a1 : 24 * q + (3 * m + 1) = 24 * q + 3 * m + 1 := by omega
    have a2 : 24 * q + (3 * m + 2) = 24 * q + 3 * m + 2 := by omega
    rw [a1] at j1 ⊢
    rw [a2] at j2 ⊢
    refine sp_isPaper j0 j1 j2 ⟨by omega, by omega⟩ (fun g3 => z1 ?_) (fun g3 => z0 (stop (fun g => g3 (by rw [← n0]; exact g.2.2))))
    refine sp_room4 pl_8 ?_
    rw [w2, wI (x := 6 - M 8 3) ⟨by omega, by omega⟩]
    refine ⟨fun g4 => ?_, fun g4 => stop (fun g => by have := g.2.1; omega)⟩
    have g : papG (absC M) q m := ⟨by omega, by omega, by rw [n0]; exact g3⟩
    rw [if_pos g] at h
    refine sp_at5 p1 p3 ⟨by omega, by omega⟩ (by omega) ?_
    refine sp_at5 p1 p3 ⟨by omega, by omega⟩ (by omega) ?_
    refine sp_at5 p1 p3 ⟨by omega, by omega⟩ (by omega) ?_
    rw [← rN M hq ho (j := 3 * m) (by omega) (by omega), ← rN M hq ho (j := 3 * m + 1) (by omega) (by omega), ← rN M hq ho (j := 3 * m + 2) (by omega) (by omega), a1, a2]
    refine sp_app3 (L := 6) pl_8 w0 w2 ⟨by omega, by omega⟩ (by decide) rfl ?_
    generalize hM1 : wr (wr (wr (wr M (8 + 1) (3 * M 8 3) (absC M 25 (24 * q + 3 * m))) (8 + 1) (3 * M 8 3 + 1) (absC M 25 (24 * q + 3 * m + 1))) (8 + 1) (3 * M 8 3 + 2) (absC M 25 (24 * q + 3 * m + 2))) 8 3 (M 8 3 + 1) = M1
    have K1 : cK M1 := by
      rw [← hM1]
      exact cK_wr (cK_wr (cK_wr (cK_wr hK (Or.inr (by decide))) (Or.inr (by decide))) (Or.inr (by decide))) (Or.inl (by decide))
    have e1 : absC M1 = papA (absC M) q m := by
      rw [← hM1, ac_8_3, ac_9 (by omega) (by omega), ac_9 (by omega) (by omega), ac_9 (by omega) (by omega)]
      unfold papA add3
      rw [n3]
    rw [show 3 * m + 3 = 3 * (m + 1) from by omega]
    refine ih (m + 1) M1 (by omega) (by omega) (by rw [e1]; exact papA_N I (by omega)) (by rw [e1]; exact papA_Sh J) K1 (fun M2 e2 f2 => ?_)
    rw [e1] at e2 ⊢
    exact h M2 e2 f2
theorem sC_papers {q : Int} {M : gSt} {k : Int → gSt → Prop} (i1 : inI q) (I : iN (absC M)) (J : iSh (absC M)) (hK : cK M) (h : ∀ M', absC M' = (S_papers q (absC M)).2 → cK M' → k (S_papers q (absC M)).1 M') : w_X8_papers q M k := by
  unfold w_X8_papers
  refine shC i1 (fun o ho hq => ⟨fun z => absurd z (by simp), fun o2 e2 => ?_⟩) (fun hq => ⟨fun _ => errC (by decide) (by decide) hK (if_pos hq) h, fun o2 e2 => by cases e2⟩)
  cases e2
  obtain ⟨p1, p2, p3⟩ := pl_sh (o := o) (by omega)
  obtain ⟨b1, b2, -⟩ := J q hq.1 hq.2
  have eb := rB M hq ho
  refine sp_missing p1 ⟨by omega, by omega⟩ (fun z => z1 (errC (by decide) (by decide) hK ((if_neg (fun w => w hq)).trans (if_pos (by omega))) h)) (fun nz => z0 ?_)
  have hS : S_papers q (absC M) = _ := (if_neg (fun w => w hq)).trans (if_neg (by omega))
  rw [hS] at h
  exact ⟨8 + 1, lpPC hq ho 8 0 M (by omega) (by omega) I J hK h⟩
