-- then: both sides
def vw (σ τ : gSt) : Prop := σ 0 0 = τ 0 0 ∧ σ 0 5 = τ 0 5 ∧ σ 0 8 = τ 0 8 ∧ ∀ j, 0 ≤ j → j < 130 → σ 1 j = τ 1 j
theorem vw_8 {σ τ : gSt} {x : Int} (h : vw σ τ) : vw (up1 σ 0 8 x) (up1 τ 0 8 x) := by
  obtain ⟨a, b, c, d⟩ := h
  exact ⟨by rw [up1_n (by decide), up1_n (by decide)]; exact a, by rw [up1_n (by decide), up1_n (by decide)]; exact b, by rw [up1_i, up1_i], fun j x y => by rw [up1_o (by decide), up1_o (by decide)]; exact d j x y⟩
theorem vw_5 {σ τ : gSt} {x : Int} (h : vw σ τ) : vw (up1 σ 0 5 x) (up1 τ 0 5 x) := by
  obtain ⟨a, b, c, d⟩ := h
  exact ⟨by rw [up1_n (by decide), up1_n (by decide)]; exact a, by rw [up1_i, up1_i], by rw [up1_n (by decide), up1_n (by decide)]; exact c, fun j x y => by rw [up1_o (by decide), up1_o (by decide)]; exact d j x y⟩
theorem vw_lose {σ τ : gSt} {t : Int} (h : vw σ τ) : vw (loseT σ t) (loseT τ t) := by
  obtain ⟨a, b, c, d⟩ := h
  unfold loseT
  refine ⟨by simp only [show ¬ ((0 : Nat) = 1) from by decide, false_and, if_false]; exact a, by simp only [show ¬ ((0 : Nat) = 1) from by decide, false_and, if_false]; exact b, by simp only [show ¬ ((0 : Nat) = 1) from by decide, false_and, if_false]; exact c, fun j x y => ?_⟩
  dsimp only
  rw [d j x y]
theorem vw_T {σ τ : gSt} (h : vw σ τ) : ∀ n : Nat, n ≤ 12 → vw (yearT σ n) (yearT τ n)
  | 0, _ => h
  | n + 1, hn => by
    have ih := vw_T h n (by omega)
    have ih' := ih
    obtain ⟨a, b, c, d⟩ := ih'
    show vw (if xushr (nextZ (yearT σ n 0 8)) 8 % 100 < yearT σ n 1 (10 * (n : Int) + 1) then loseT (up1 (yearT σ n) 0 8 (nextZ (yearT σ n 0 8))) n else up1 (yearT σ n) 0 8 (nextZ (yearT σ n 0 8))) (if xushr (nextZ (yearT τ n 0 8)) 8 % 100 < yearT τ n 1 (10 * (n : Int) + 1) then loseT (up1 (yearT τ n) 0 8 (nextZ (yearT τ n 0 8))) n else up1 (yearT τ n) 0 8 (nextZ (yearT τ n 0 8)))
    rw [c, d (10 * (n : Int) + 1) (by omega) (by omega)]
    by_cases w : xushr (nextZ (yearT τ n 0 8)) 8 % 100 < yearT τ n 1 (10 * (n : Int) + 1)
    · rw [if_pos w, if_pos w]; exact vw_lose (vw_8 ih)
    · rw [if_neg w, if_neg w]; exact vw_8 ih
theorem vw_go {σ τ : gSt} (h : vw σ τ) (J : iB σ) (h0 : 0 ≤ σ 0 0 ∧ σ 0 0 ≤ 12) : ∀ n : Nat, vw (goσ σ n) (goσ τ n)
  | 0 => h
  | n + 1 => by
    have ih := vw_go h J h0 n
    have e := (goσ_keep J n).2
    show vw (up1 (yearT (goσ σ n) (goσ σ n 0 0).toNat) 0 5 (goσ σ n 0 5 + 1)) (up1 (yearT (goσ τ n) (goσ τ n 0 0).toNat) 0 5 (goσ τ n 0 5 + 1))
    rw [← ih.1, ← ih.2.1]
    exact vw_5 (vw_T ih _ (by rw [e]; omega))
theorem goσ_o {σ : gSt} (J : iB σ) : ∀ n : Nat, ∀ c i, (c ≠ 1 ∧ ¬ (c = 0 ∧ (i = 8 ∨ i = 5))) → goσ σ n c i = σ c i
  | 0 => fun _ _ _ => rfl
  | n + 1 => fun c i h => by
    have a := (goσ_keep J n).1
    show up1 (yearT (goσ σ n) (goσ σ n 0 0).toNat) 0 5 (goσ σ n 0 5 + 1) c i = _
    have e : up1 (yearT (goσ σ n) (goσ σ n 0 0).toNat) 0 5 (goσ σ n 0 5 + 1) c i = yearT (goσ σ n) (goσ σ n 0 0).toNat c i := by
      unfold up1 wr
      rw [if_neg (by omega)]
    rw [e, (yearT_keep a (goσ σ n 0 0).toNat).2 c i (by omega)]
    exact goσ_o J n c i h
def S_then (n t w : Int) (σ : gSt) : Int := if ¬ ((0 ≤ n ∧ n ≤ 60) ∧ (0 ≤ t ∧ t < σ 0 0) ∧ (0 ≤ w ∧ w ≤ 10)) then -1000000001 else if w = 10 then toneS (goσ σ n.toNat 1) (σ 7) (σ 0 9) t else goσ σ n.toNat 1 (10 * t + w)
theorem rawT_fr {u : Int} {M M' : gSt} (hu : u = 0 ∨ u = 1) (hl : M 1 (202 + 125 * u) ≤ 60) (f : ∀ j, 202 ≤ j → j < 452 → M' 1 j = M 1 j) (h : rawT u (M 1)) : rawT u (M' 1) := by
  intro i a b
  rw [f _ (by omega) (by omega)] at b
  rw [f _ (by omega) (by omega), f _ (by omega) (by omega)]
  exact h i a b
theorem absR_s1 {M M' : gSt} (e1 : absS (M' 1) = absS (M 1)) (e2 : M' 2 = M 2) (e3 : M' 0 3 = M 0 3) (e11 : M' 11 = M 11) (e12 : M' 12 = M 12) (e13 : M' 13 = M 13) : absR M' = absR M := by
  unfold absR
  rw [e1, e2, e3, e11, e12, e13]
theorem sR_then {n t w : Int} {M : gSt} {k : Int → gSt → Prop} (i0 : inI n) (i1 : inI t) (i2 : inI w) (I : iN (absR M)) (J : iB (absR M)) (X : iX (absR M)) (raw : rawT 0 (M 1)) (h : ∀ r M', wrap r = wrap (S_then n t w (absR M)) → absR M' = absR M → fr M M' → k r M') : w_Rthen n t w M k := by
  have I' := I
  unfold iN at I'
  unfold w_Rthen wB_Rthen_28
  have bad : ¬ ((0 ≤ n ∧ n ≤ 60) ∧ (0 ≤ t ∧ t < absR M 0 0) ∧ (0 ≤ w ∧ w ≤ 10)) → w_Rerror 1 M (fun r29c M29 => k r29c M29) := fun z =>
    sp_Rerror (by decide) (by decide) (fun M' e f => h _ M' (by unfold S_then; rw [if_pos z]; rfl) e f)
  refine sp_Rin i0 (by constructor <;> decide) (by constructor <;> decide) (fun h0 => z1 ?_) (fun h0 => z0 (bad (by omega)))
  refine sp_RisThing i1 ⟨by omega, by omega⟩ (fun h1 => z1 ?_) (fun h1 => z0 (bad (by omega)))
  refine sp_Rin i2 (by constructor <;> decide) (by constructor <;> decide) (fun h2 => z1n ?_) (fun h2 => z0n (bad (by omega)))
  have hS : S_then n t w (absR M) = if w = 10 then toneS (goσ (absR M) n.toNat 1) (absR M 7) (absR M 0 9) t else goσ (absR M) n.toNat 1 (10 * t + w) := by
    unfold S_then; rw [if_neg (by omega)]
  rw [hS] at h
  have l := rdL (M := M) (u := 0) (Or.inl rfl)
  change M 1 202 = absR M 0 9 at l
  refine sp_Rcarry (Or.inl rfl) (Or.inr (Or.inr rfl)) (by decide) ?_
  have c1 : ∀ p, p ≠ 3 → cpyA M 1 3 p = M p := fun p hp => by
    funext j; unfold cpyA; rw [if_neg (fun z => hp z.1)]
  have c3 : ∀ j, 0 ≤ j → j < 536 → cpyA M 1 3 3 j = M 1 j := fun j a b => by unfold cpyA; rw [if_pos ⟨rfl, a, b⟩]
  generalize cpyA M 1 3 = M1 at c1 c3 ⊢
  have a1 : absR M1 = absR M := absR_eq (c1 1 (by decide)) (c1 2 (by decide)) (by rw [c1 0 (by decide)]) (c1 11 (by decide)) (c1 12 (by decide)) (c1 13 (by decide))
  refine sp_Rgo h0 (by rw [a1]; exact iN_w I) (by rw [a1]; exact J) (fun M2 A F O => ?_)
  rw [a1] at A
  obtain ⟨gk, -⟩ := goσ_keep J n.toNat
  have g7 : goσ (absR M) n.toNat 7 = absR M 7 := funext fun i => goσ_o J n.toNat 7 i ⟨by decide, by omega⟩
  have g9 : goσ (absR M) n.toNat 0 9 = absR M 0 9 := goσ_o J n.toNat 0 9 ⟨by decide, by omega⟩
  have back : ∀ r M3, wrap r = wrap (if w = 10 then toneS (goσ (absR M) n.toNat 1) (absR M 7) (absR M 0 9) t else goσ (absR M) n.toNat 1 (10 * t + w)) → on67 M2 M3 → w_Rcarry 3 1 M3 (fun M66 => k r M66) := fun r M3 hr o3 => by
    refine sp_Rcarry (Or.inr (Or.inr rfl)) (Or.inl rfl) (by decide) ?_
    have d1 : ∀ p, p ≠ 1 → cpyA M3 3 1 p = M3 p := fun p hp => by
      funext j; unfold cpyA; rw [if_neg (fun z => hp z.1)]
    have d3 : ∀ j, 0 ≤ j → j < 536 → cpyA M3 3 1 1 j = M 1 j := fun j a b => by
      unfold cpyA
      rw [if_pos ⟨rfl, a, b⟩, o3 3 (by decide) (by decide), O 3 (by decide)]
      exact c3 j a b
    generalize cpyA M3 3 1 = M4 at d1 d3 ⊢
    have e : ∀ p, p ≠ 1 → p ≠ 3 → p ≠ 6 → p ≠ 7 → M4 p = M p := fun p x1 x3 x6 x7 => by
      rw [d1 p x1, o3 p x6 x7, O p x1, c1 p x3]
    refine h r M4 hr ?_ ⟨fun j x y => d3 j (by omega) (by omega), e 2 (by decide) (by decide) (by decide) (by decide), by rw [e 0 (by decide) (by decide) (by decide) (by decide)]⟩
    exact absR_s1 (absS_536 (txtOk_abs (iN_t I)) d3) (e 2 (by decide) (by decide) (by decide) (by decide)) (by rw [e 0 (by decide) (by decide) (by decide) (by decide)]) (e 11 (by decide) (by decide) (by decide) (by decide)) (e 12 (by decide) (by decide) (by decide) (by decide)) (e 13 (by decide) (by decide) (by decide) (by decide))
  unfold w_Rtold1
  rw [wI i2]
  refine ⟨fun z => sp_Rits ⟨by omega, by omega⟩ ⟨by omega, by omega⟩ ?_, fun z => ?_⟩
  · rw [A]
    exact back _ M2 (by rw [if_neg z]) (fun _ _ _ => rfl)
  · refine r_tone ⟨by omega, by omega⟩ (by rw [A]; exact gk t (by omega) (by omega)) (by rw [A, g9]; exact ⟨by omega, by omega⟩) ?_ (by rw [A, g9, g7]; exact X.1) (fun r M3 hr o3 => back r M3 ?_ o3)
    · refine rawT_fr (M := M) (Or.inl rfl) (by show M 1 202 ≤ 60; omega) (fun j x y => ?_) raw
      rw [F.1 j x y, c1 1 (by decide)]
    · rw [A, g7, g9] at hr
      rw [if_pos z, ← hr, wwrap]
theorem sC_then {n t w : Int} {M : gSt} {k : Int → gSt → Prop} (i0 : inI n) (i1 : inI t) (i2 : inI w) (I : iN (absC M)) (J : iB (absC M)) (X : iX (absC M)) (hK : cK M) (h : ∀ r M', wrap r = wrap (S_then n t w (absC M)) → absC M' = absC M → cK M' → k r M') : w_X8_then n t w M k := by
  have I' := I
  unfold iN at I'
  have n0 := rc00 M
  have n9 := rc09 M
  unfold w_X8_then wB_X8_then_34
  have bad : ¬ ((0 ≤ n ∧ n ≤ 60) ∧ (0 ≤ t ∧ t < absC M 0 0) ∧ (0 ≤ w ∧ w ≤ 10)) → w_X8_refuse 1 M (fun r26c M26 => k r26c M26) := fun z =>
    sp_refuse (by decide) (by decide) (h _ _ (by unfold S_then; rw [if_pos z]; rfl) (ac_eq (fun o ho => wrO' (by unfold scr at ho; omega))) (cK_wr hK (Or.inr (by decide))))
  refine sp_within i0 (by constructor <;> decide) (by constructor <;> decide) (fun h0 => z1 ?_) (fun h0 => z0 (bad (by omega)))
  refine sp_has0 pl_2 i1 ⟨by omega, by omega⟩ (fun h1 => z1 ?_) (fun h1 => z0 (bad (by omega)))
  refine sp_within i2 (by constructor <;> decide) (by constructor <;> decide) (fun h2 => z1n ?_) (fun h2 => z0n (bad (by omega)))
  have hS : S_then n t w (absC M) = if w = 10 then toneS (goσ (absC M) n.toNat 1) (absC M 7) (absC M 0 9) t else goσ (absC M) n.toNat 1 (10 * t + w) := by
    unfold S_then; rw [if_neg (by omega)]
  rw [hS] at h
  refine sp_copy0F pl_39 pl_2 rfl (by decide) (fun M1 f b1 b2 b3 b4 c => ?_)
  have bj : ∀ j, 0 ≤ j → j < 130 → bzV 39 M1 1 j = absC M 1 j := fun j x y => by
    rw [rc1 M x y]
    show (if 0 ≤ j ∧ j < 130 then M1 40 j else 0) = M 3 j
    rw [if_pos ⟨x, y⟩]
    exact c j x y
  have v : vw (bzV 39 M1) (absC M) := ⟨by rw [n0]; exact b1, by rw [rc05 M]; exact b3, by rw [rc08 M]; exact b4, bj⟩
  have J1 : iB (bzV 39 M1) := fun q x y => thOk_cg ⟨x, y⟩ bj (J q x y)
  have v0 : bzV 39 M1 0 0 = absC M 0 0 := v.1
  refine sp_passYears pl_39 rfl (isV_b 39) h0 (by rw [v0]; exact ⟨by omega, by omega⟩) J1 (fun M2 A F => ?_)
  have vg := vw_go v J1 (by rw [v0]; exact ⟨by omega, by omega⟩) n.toNat
  rw [← A] at vg
  have e : ∀ p, p ≠ 39 → p ≠ 40 → M2 p = M p := fun p x y => by
    rw [← f p x y]
    funext i
    exact F p i y (fun z => x z.1)
  have cell : ∀ j, 0 ≤ j → j < 130 → M2 40 j = goσ (absC M) n.toNat 1 j := fun j x y => by
    rw [← vg.2.2.2 j x y]
    show M2 40 j = if 0 ≤ j ∧ j < 130 then M2 40 j else 0
    rw [if_pos ⟨x, y⟩]
  have a2 : absC M2 = absC M := ac_eq (fun o ho => e o (by unfold scr at ho; omega) (by unfold scr at ho; omega))
  have K2 : cK M2 := cK_eq hK (fun o x y z u i hi => by rw [e o (by omega) (by omega)])
  have m14 : M2 14 3 = M 14 3 := by rw [e 14 (by decide) (by decide)]
  obtain ⟨gk, -⟩ := goσ_keep J n.toNat
  unfold w_X1_numberOf
  rw [wI i2]
  refine ⟨pl_1, pl_39, fun z => sp_number pl_39 rfl ⟨by omega, by omega⟩ ⟨by omega, by omega⟩ (h _ M2 ?_ a2 K2), fun z => ?_⟩
  · rw [if_neg z]
    show wrap (M2 40 (10 * t + w)) = _
    rw [cell _ (by omega) (by omega)]
  · refine c_tone (a := 39) pl_39 rfl ⟨by omega, by omega⟩ K2 (thOk_cg ⟨by omega, by omega⟩ cell (gk t (by omega) (by omega))) (by rw [m14]; exact ⟨by omega, by omega⟩) (fun q => by rw [m14] at q ⊢; rw [a2, ← n9]; rw [← n9] at q; exact X.1 q) (fun r M' hr e' => h r M' ?_ ?_ ?_)
    · change wrap r = toneS (M2 40) (absC M2 7) (M2 14 3) t at hr
      rw [a2, m14, ← n9, toneS_congr ⟨by omega, by omega⟩ cell] at hr
      rw [if_pos z, ← hr, wwrap]
    · rw [← a2]
      exact ac_eq (fun o ho => e' o (by unfold scr at ho; omega) (by unfold scr at ho; omega))
    · exact cK_eq K2 (fun o a b c d i hi => by rw [e' o (by omega) (by omega)])
