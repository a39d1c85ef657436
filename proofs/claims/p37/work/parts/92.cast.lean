section
-- a cast
def tinG (tin : Int) (σ : gSt) : Int := cap (σ 1 (10 * 12 + 2) + tin) 9999999
def tin0 (tin : Int) (σ : gSt) : gSt := up1 (up1 σ 1 (10 * 12 + 2) (tinG tin σ)) 1 (10 * 12 + 3) (cap (σ 1 (10 * 12 + 3) + tin) (tinG tin σ))
def tinH (tin : Int) (σ : gSt) (w : Int) : Int := qz (σ 1 (10 * 12 + w) * σ 1 (10 * 12 + 2)) (tinG tin σ)
def tinσ (tin : Int) (σ : gSt) : gSt := setW (tin0 tin σ) 1 12 6 10 (tinH tin σ)
def crL (burn : Int) (σ : gSt) (w : Int) : Int := if w < 6 then σ 1 (10 * 12 + w) - σ 1 (10 * 12 + w) * burn / 100 else σ 1 (10 * 12 + w)
def crS (burn keep : Int) (σ : gSt) (w : Int) : Int := if w < 6 then crL burn σ w * keep / 10 else crL burn σ w
def crT (burn keep : Int) (σ : gSt) (w : Int) : Int := if w < 6 then crL burn σ w - crL burn σ w * keep / 10 else crL burn σ w
def crN (km keep : Int) (σ : gSt) : gSt := if 0 < keep then addT (addT σ km) 600 else addT σ km
def castσ (km tin burn keep : Int) (σ : gSt) : gSt := fun p i =>
  if p = 1 ∧ 10 * 12 + 2 ≤ i ∧ i < 10 * 12 + 10 then 0
  else if p = 1 ∧ 10 * σ 0 0 + 2 ≤ i ∧ i < 10 * σ 0 0 + 10 then crT burn keep (tinσ tin σ) (i - 10 * σ 0 0)
  else if p = 1 ∧ 0 < keep ∧ 10 * (σ 0 0 + 1) + 2 ≤ i ∧ i < 10 * (σ 0 0 + 1) + 10 then crS burn keep (tinσ tin σ) (i - 10 * (σ 0 0 + 1))
  else crN km keep (tinσ tin σ) p i
def vCast (a b c : Int) : Prop := (0 ≤ a ∧ a ≤ 699) ∧ (0 ≤ b ∧ b ≤ 9999) ∧ (0 ≤ c ∧ c ≤ 990) ∧ c % 10 = 0
def S_cast (km tin law : Int) (σ : gSt) : Int × gSt :=
  if ¬ ((0 ≤ km ∧ km ≤ 699) ∧ (0 ≤ tin ∧ tin ≤ 9999) ∧ (0 ≤ law ∧ law ≤ 990) ∧ law % 10 = 0) then S_err σ 1
  else if σ 1 (10 * 12 + 2) = 0 then S_err σ 3
  else if 12 < σ 0 0 + (if 0 < law / 10 % 10 then 2 else 1) then S_err σ 4
  else (σ 0 0, castσ km tin (law / 100) (law / 10 % 10) σ)
/-- the crucible has neither KIND nor m -/
def iCr (σ : gSt) : Prop := σ 1 (10 * 12 + 0) = 0 ∧ σ 1 (10 * 12 + 1) = 0
theorem tinσ_0 {tin : Int} {σ : gSt} {c : Nat} (hc : c ≠ 1) : tinσ tin σ c = σ c := by
  unfold tinσ tin0
  rw [setW_c hc]
  funext i
  rw [up1_o hc, up1_o hc]
/-- the crucible's cells behind the tin -/
theorem tinσ_v {tin : Int} {σ : gSt} (T : thOk (σ 1) (10 * 12)) (ht : 0 ≤ tin ∧ tin ≤ 9999) (hg : 0 < σ 1 (10 * 12 + 2)) : (∀ w, 2 ≤ w → w ≤ 5 → 0 ≤ tinσ tin σ 1 (10 * 12 + w) ∧ tinσ tin σ 1 (10 * 12 + w) ≤ tinG tin σ) ∧ (∀ w, 6 ≤ w → w ≤ 9 → 0 ≤ tinσ tin σ 1 (10 * 12 + w) ∧ tinσ tin σ 1 (10 * 12 + w) ≤ 1000000) ∧ 0 < tinG tin σ ∧ tinG tin σ ≤ 9999999 ∧ tinσ tin σ 1 (10 * 12 + 2) = tinG tin σ ∧ ∀ w, w < 2 → tinσ tin σ 1 (10 * 12 + w) = σ 1 (10 * 12 + w) := by
  unfold thOk at T
  have gG : 0 < tinG tin σ ∧ tinG tin σ ≤ 9999999 ∧ σ 1 (10 * 12 + 2) ≤ tinG tin σ := by
    unfold tinG cap
    split <;> omega
  have v2 : tinσ tin σ 1 (10 * 12 + 2) = tinG tin σ := by
    unfold tinσ tin0
    rw [setW_n (by decide), up1_n (by decide), up1_i]
  have v3 : tinσ tin σ 1 (10 * 12 + 3) = cap (σ 1 (10 * 12 + 3) + tin) (tinG tin σ) := by
    unfold tinσ tin0
    rw [setW_n (by decide), up1_i]
  have vn : ∀ w, w < 2 ∨ w = 4 ∨ w = 5 → tinσ tin σ 1 (10 * 12 + w) = σ 1 (10 * 12 + w) := fun w h => by
    unfold tinσ tin0
    rw [setW_n (by omega), up1_n (by omega), up1_n (by omega)]
  refine ⟨fun w h1 h2 => ?_, fun w h1 h2 => ?_, gG.1, gG.2.1, v2, fun w h => vn w (Or.inl h)⟩
  · rcases (show w = 2 ∨ w = 3 ∨ w = 4 ∨ w = 5 by omega) with rfl | rfl | rfl | rfl
    · rw [v2]; omega
    · rw [v3]; unfold cap; split <;> omega
    · rw [vn 4 (by decide)]; omega
    · rw [vn 5 (by decide)]; omega
  · have e : tinσ tin σ 1 (10 * 12 + w) = tinH tin σ w := by
      unfold tinσ setW
      rw [if_pos ⟨rfl, by omega, by omega⟩, show 10 * 12 + w - 10 * 12 = w from by omega]
    have hw : 0 ≤ σ 1 (10 * 12 + w) ∧ σ 1 (10 * 12 + w) ≤ 1000000 := by
      rcases (show w = 6 ∨ w = 7 ∨ w = 8 ∨ w = 9 by omega) with rfl | rfl | rfl | rfl <;> omega
    rw [e]
    unfold tinH qz
    rw [if_neg (by omega)]
    have p := prod_rng hw (y := σ 1 (10 * 12 + 2)) (n := tinG tin σ) ⟨by omega, gG.2.2⟩
    exact ⟨Int.ediv_nonneg p.1 (by omega), Int.ediv_le_of_le_mul gG.1 p.2⟩
theorem ac_lose {M : gSt} {t p q : Int} (ht : 0 ≤ t ∧ t ≤ 12) : absC (setW M (2 + 1) t 2 6 (fL t p q (M (2 + 1)))) = setW (absC M) 1 t 2 6 (fL t p q (absC M 1)) := by
  have rd : ∀ w, 0 ≤ w → w ≤ 9 → fL t p q (M (2 + 1)) w = fL t p q (absC M 1) w := fun w a b => by
    unfold fL
    rw [rc1 M (by omega) (by omega)]
  rw [setW4, setW4, ac_3 (by omega) (by omega), ac_3 (by omega) (by omega), ac_3 (by omega) (by omega), ac_3 (by omega) (by omega), rd 2 (by decide) (by decide), rd 3 (by decide) (by decide), rd 4 (by decide) (by decide), rd 5 (by decide) (by decide)]
  rfl
theorem sp_addTin {tin : Int} {M : gSt} {k : gSt → Prop} (hK : cK M) (T : thOk (absC M 1) (10 * 12)) (ht : 0 ≤ tin ∧ tin ≤ 9999) (h : ∀ M', absC M' = tinσ tin (absC M) → cK M' → k M') : w_X0_addTin 2 tin M k := by
  have T0 := T
  unfold thOk at T
  have rd : ∀ w, 0 ≤ w → w ≤ 9 → M (2 + 1) (10 * 12 + w) = absC M 1 (10 * 12 + w) := fun w a b => (rc1 M (by omega) (by omega)).symm
  unfold w_X0_addTin
  refine ⟨pl_2, sp_number pl_2 rfl (by decide) (by decide) (fun x ex => ?_)⟩
  rw [rd 2 (by decide) (by decide)] at ex ⊢
  rw [xmin_in (by constructor <;> decide) ⟨by omega, by omega⟩] at ex
  have eG : x = tinG tin (absC M) := by
    rw [ex]
    unfold tinG cap
    split <;> split <;> omega
  have xr : 0 ≤ x ∧ x ≤ 9999999 := by rw [ex]; split <;> omega
  refine sp_become pl_2 rfl (by decide) (by decide) (sp_number pl_2 rfl (by decide) (by decide) ?_)
  rw [wrN (by decide), rd 3 (by decide) (by decide)]
  refine sp_become pl_2 rfl (by decide) (by decide) ⟨5, ?_⟩
  have e3 : xmin x (absC M 1 (10 * 12 + 3) + tin) = cap (absC M 1 (10 * 12 + 3) + tin) x := by
    rw [xmin_in ⟨by omega, by omega⟩ ⟨by omega, by omega⟩]
    unfold cap
    split <;> split <;> omega
  rw [e3]
  have A0 : absC (wr (wr M (2 + 1) (10 * 12 + 2) x) (2 + 1) (10 * 12 + 3) (cap (absC M 1 (10 * 12 + 3) + tin) x)) = tin0 tin (absC M) := by
    rw [ac_3 (by decide) (by decide), ac_3 (by decide) (by decide), eG]
    rfl
  have loop : ∀ (d : Nat) (j : Int) (M1 : gSt), (d : Int) = 10 - j → 6 ≤ j → absC M1 = setW (tin0 tin (absC M)) 1 12 6 j (tinH tin (absC M)) → cK M1 → ∀ f : Nat, d < f → wL_X0_addTin_49 2 tin k (fun M49 => k M49) f (absC M 1 (10 * 12 + 2)) x j M1 := by
    intro d
    induction d with
    | zero =>
      intro j M1 hd hj A K f hf
      obtain ⟨f, rfl⟩ : ∃ g, f = g + 1 := ⟨f - 1, by omega⟩
      have ej : j = 10 := by omega
      subst ej
      simp only [wL_X0_addTin_49, wC_X0_addTin_49]
      exact ⟨fun _ => h M1 A K, fun z => absurd z (by decide)⟩
    | succ d ih =>
      intro j M1 hd hj A K f hf
      obtain ⟨f, rfl⟩ : ∃ g, f = g + 1 := ⟨f - 1, by omega⟩
      simp only [wL_X0_addTin_49, wC_X0_addTin_49]
      rw [wI (x := j) ⟨by omega, by omega⟩, wI (x := absC M 1 (10 * 12 + 2)) ⟨by omega, by omega⟩, wI (x := x) ⟨by omega, by omega⟩]
      refine ⟨fun z => absurd z (by omega), fun _ => sp_number pl_2 rfl (by decide) ⟨by omega, by omega⟩ (fun y ey => ?_)⟩
      have r : M1 (2 + 1) (10 * 12 + j) = absC M 1 (10 * 12 + j) := by
        rw [← rc1 M1 (by omega) (by omega), A, setW_n (by omega)]
        unfold tin0
        rw [up1_n (by omega), up1_n (by omega)]
      have hw : 0 ≤ absC M 1 (10 * 12 + j) ∧ absC M 1 (10 * 12 + j) ≤ 1000000 := by
        rcases (show j = 6 ∨ j = 7 ∨ j = 8 ∨ j = 9 by omega) with rfl | rfl | rfl | rfl <;> omega
      rw [r, wI (x := absC M 1 (10 * 12 + j)) ⟨by omega, by omega⟩] at ey
      have p := prod_rng hw (y := absC M 1 (10 * 12 + 2)) (n := 9999999) ⟨by omega, by omega⟩
      refine sp_quot ⟨by omega, by omega⟩ ⟨by omega, by omega⟩ (sp_become pl_2 rfl (by decide) ⟨by omega, by omega⟩ ?_)
      refine ih (j + 1) _ (by omega) (by omega) ?_ (cK_wr K (Or.inr (by decide))) f (by omega)
      have eH : qz y x = tinH tin (absC M) j := by rw [ey, eG]; rfl
      rw [ac_3 (by omega) (by omega), A, eH]
      exact setW_s (by omega)
  exact loop 4 6 _ (by omega) (by omega) (by rw [setW_0]; exact A0) (cK_wr (cK_wr hK (Or.inr (by decide))) (Or.inr (by decide))) 5 (by omega)
theorem sC_cast {a1 a2 a3 : Int} {M : gSt} {k : Int → gSt → Prop} (i1 : inI a1) (i2 : inI a2) (i3 : inI a3) (I : iN (absC M)) (J : iB (absC M)) (CR : iCr (absC M)) (hK : cK M) (h : ∀ M', absC M' = (S_cast a1 a2 a3 (absC M)).2 → cK M' → k (S_cast a1 a2 a3 (absC M)).1 M') : w_X8_cast a1 a2 a3 M k := by
  unfold iN at I
  have n0 := rc00 M
  have T := J 12 (by decide) (by decide)
  have T0 := T
  unfold thOk at T0
  unfold w_X8_cast wB_X8_cast_36
  refine isKM i1 (fun q1 => z1 ?_) (fun q => z0 (errC (by decide) (by decide) hK (if_pos (fun z => q z.1)) h))
  refine sp_within i2 (by constructor <;> decide) (by constructor <;> decide) (fun q2 => z1 ?_) (fun q => z0 (errC (by decide) (by decide) hK (if_pos (fun z => q z.2.1)) h))
  refine sp_within i3 (by constructor <;> decide) (by constructor <;> decide) (fun q3 => z1 ?_) (fun q => z0 (errC (by decide) (by decide) hK (if_pos (fun z => q z.2.2.1)) h))
  rw [wI i3, tmod_pos q3.1, wI (x := a3 % 10) ⟨by omega, by omega⟩, tdiv_pos q3.1, tdiv_pos q3.1, wI (x := a3 / 10) ⟨by omega, by omega⟩, tmod_pos (by omega : 0 ≤ a3 / 10)]
  refine ⟨fun e10 => ?_, fun e => errC (by decide) (by decide) hK (if_pos (fun z => e z.2.2.2)) h⟩
  have hc : ¬ ¬ ((0 ≤ a1 ∧ a1 ≤ 699) ∧ (0 ≤ a2 ∧ a2 ≤ 9999) ∧ (0 ≤ a3 ∧ a3 ≤ 990) ∧ a3 % 10 = 0) := fun z => z ⟨q1, q2, q3, e10⟩
  refine sp_number pl_2 rfl (by decide) (by decide) ?_
  rw [← rc1 M (i := 10 * 12 + 2) (by decide) (by decide), wI (x := absC M 1 (10 * 12 + 2)) ⟨by omega, by omega⟩]
  refine ⟨fun nz => ?_, fun z => errC (by decide) (by decide) hK ((if_neg hc).trans (if_pos z)) h⟩
  intro burn hbu keep hke
  have rb : 0 ≤ burn ∧ burn ≤ 9 := by omega
  have rk : 0 ≤ keep ∧ keep ≤ 9 := by omega
  have go : ∀ s0 : Int, s0 = (if 0 < a3 / 10 % 10 then 2 else 1) → wB_X8_cast_99 a1 a2 a3 k burn keep s0 (12 - M 2 1) M := by
    intro s0 hs0
    have s0r : 1 ≤ s0 ∧ s0 ≤ 2 := by rw [hs0]; split <;> omega
    unfold wB_X8_cast_99
    rw [wI (x := s0) ⟨by omega, by omega⟩, wI (x := 12 - M 2 1) ⟨by omega, by omega⟩]
    refine ⟨fun hr => ?_, fun hr => errC (by decide) (by decide) hK ((if_neg hc).trans ((if_neg nz).trans (if_pos (by rw [← hs0]; omega)))) h⟩
    have hS : S_cast a1 a2 a3 (absC M) = (absC M 0 0, castσ a1 a2 burn keep (absC M)) := by
      rw [hbu, hke]
      exact (if_neg hc).trans ((if_neg nz).trans (if_neg (by rw [← hs0]; omega)))
    rw [hS] at h
    refine sp_addTin hK T q2 (fun M1 A1 K1 => ?_)
    generalize hσ : absC M = σ at *
    obtain ⟨t25, t69, tg, tg2, t2, tn⟩ := tinσ_v T q2 (by omega)
    have rd1 : ∀ w, 0 ≤ w → w ≤ 9 → M1 (2 + 1) (10 * 12 + w) = tinσ a2 σ 1 (10 * 12 + w) := fun w a b => by rw [← A1, rc1 M1 (by omega) (by omega)]
    refine sp_lose pl_2 rfl (by decide) ⟨by omega, by omega⟩ (by decide) (fun w a b => ?_) ?_
    · rw [rd1 w (by omega) (by omega)]
      have := t25 w a b
      omega
    have A2 : absC (setW M1 (2 + 1) 12 2 6 (fL 12 burn 100 (M1 (2 + 1)))) = setW (tinσ a2 σ) 1 12 2 6 (fL 12 burn 100 (tinσ a2 σ 1)) := by
      rw [ac_lose (by decide), A1]
    have K2 : cK (setW M1 (2 + 1) 12 2 6 (fL 12 burn 100 (M1 (2 + 1)))) := cK_o K1 (b := 2 + 1) (by decide) (by decide) (fun o ho i => by rw [setW_c ho])
    generalize setW M1 (2 + 1) 12 2 6 (fL 12 burn 100 (M1 (2 + 1))) = M2 at A2 K2 ⊢
    have m21 : M2 2 1 = σ 0 0 := by
      rw [← rc00 M2, A2, setW_c (by decide), tinσ_0 (by decide)]
    have c2 : ∀ w, 0 ≤ w → w ≤ 9 → absC M2 1 (10 * 12 + w) = if 2 ≤ w ∧ w < 6 then tinσ a2 σ 1 (10 * 12 + w) - tinσ a2 σ 1 (10 * 12 + w) * burn / 100 else tinσ a2 σ 1 (10 * 12 + w) := fun w a b => by
      rw [A2]
      by_cases q : 2 ≤ w ∧ w < 6
      · rw [if_pos q]
        unfold setW fL
        rw [if_pos ⟨rfl, by omega, by omega⟩, show 10 * 12 + w - 10 * 12 = w from by omega]
      · rw [if_neg q, setW_n (by omega)]
    unfold w_X0_addCast
    refine ⟨pl_2, sp_add q1 (by rw [m21]; omega) K2 (fun M3 A3 K3 => ?_)⟩
    rw [m21]
    -- the loop and the end, from the new things
    have fin : ∀ (M4 : gSt) (sc : Int), absC M4 = crN a1 keep (absC M2) → cK M4 → sc = (if 0 < keep then σ 0 0 + 1 else -1) → wB_X0_addCast_21 2 a1 keep k (σ 0 0) sc M4 := by
      intro M4 sc A4 K4 hsc
      unfold wB_X0_addCast_21
      refine ⟨9, ?_⟩
      have n9 : 0 ≤ σ 0 0 ∧ σ 0 0 ≤ 11 := by omega
      have n9s : 0 < keep → σ 0 0 ≤ 10 := fun q => by
        rw [hke] at q
        rw [if_pos q] at hs0
        omega
      have e00 : absC M2 0 0 = σ 0 0 := by rw [rc00, m21]
      have c4 : ∀ w, 0 ≤ w → w ≤ 9 → absC M4 1 (10 * 12 + w) = absC M2 1 (10 * 12 + w) := fun w a b => by
        rw [A4]
        unfold crN
        split
        · rename_i q
          have := n9s q
          simp only [addT, e00]
          rw [if_neg (by omega), if_neg (by simp; omega), if_neg (by omega), if_neg (by simp; omega)]
        · simp only [addT, e00]
          rw [if_neg (by omega), if_neg (by simp; omega)]
      have loop : ∀ (d : Nat) (j : Int) (M5 : gSt), (d : Int) = 10 - j → 2 ≤ j → absC M5 = (if 0 < keep then setW (setW (absC M4) 1 (σ 0 0) 2 j (crT burn keep (tinσ a2 σ))) 1 (σ 0 0 + 1) 2 j (crS burn keep (tinσ a2 σ)) else setW (absC M4) 1 (σ 0 0) 2 j (crT burn keep (tinσ a2 σ))) → cK M5 → ∀ f : Nat, d < f → wL_X0_addCast_26 2 a1 keep k (fun u3_26 M26 => w_X0_fill 2 12 0 M26 (fun M122 => k u3_26 M122)) f (σ 0 0) sc j M5 := by
        intro d
        induction d with
        | zero =>
          intro j M5 hd hj A5 K5 f hf
          obtain ⟨f, rfl⟩ : ∃ g, f = g + 1 := ⟨f - 1, by omega⟩
          have ej : j = 10 := by omega
          subst ej
          simp only [wL_X0_addCast_26, wC_X0_addCast_26]
          refine ⟨fun _ => sp_fill (by decide) K5 (fun M6 A6 K6 => h M6 ?_ K6), fun z => absurd z (by decide)⟩
          rw [A6, A5, A4]
          have tn0 := tn 0 (by decide)
          have tn1 := tn 1 (by decide)
          unfold iCr at CR
          have e0 : tinσ a2 σ 0 0 = σ 0 0 := by rw [tinσ_0 (by decide)]
          have ag : ∀ p i, ¬ (p = 1 ∧ 10 * 12 ≤ i ∧ i < 10 * 12 + 10) → absC M2 p i = tinσ a2 σ p i := fun p i hi => by
            rw [A2]
            unfold setW
            rw [if_neg (fun z => hi ⟨z.1, by omega, by omega⟩)]
          have agN : ∀ p i, ¬ (p = 1 ∧ 10 * 12 ≤ i ∧ i < 10 * 12 + 10) → crN a1 keep (absC M2) p i = crN a1 keep (tinσ a2 σ) p i := fun p i hi => by
            have := ag p i hi
            unfold crN
            split <;> simp only [addT, e00, e0, this]
          have crK : ∀ i, 10 * 12 ≤ i → i < 10 * 12 + 2 → crN a1 keep (tinσ a2 σ) 1 i = 0 := fun i h1 h2 => by
            have e : crN a1 keep (tinσ a2 σ) 1 i = tinσ a2 σ 1 i := by
              unfold crN
              split
              · rename_i q
                have := n9s q
                simp only [addT, e0]
                rw [if_neg (by omega), if_neg (by simp; omega), if_neg (by omega), if_neg (by simp; omega)]
              · simp only [addT, e0]
                rw [if_neg (by omega), if_neg (by simp; omega)]
            rw [e]
            rcases (show i = 10 * 12 + 0 ∨ i = 10 * 12 + 1 by omega) with q | q
            · rw [q, tn0, CR.1]
            · rw [q, tn1, CR.2]
          funext p i
          show _ = castσ a1 a2 burn keep σ p i
          unfold castσ zerT
          have ct' : 10 * 12 ≤ i → ¬ (p = 1 ∧ 10 * σ 0 0 + 2 ≤ i ∧ i < 10 * σ 0 0 + 10) := fun z => by omega
          have cs' : 10 * 12 ≤ i → ¬ (p = 1 ∧ 0 < keep ∧ 10 * (σ 0 0 + 1) + 2 ≤ i ∧ i < 10 * (σ 0 0 + 1) + 10) := fun z y => by
            have := n9s y.2.1
            omega
          by_cases cz : p = 1 ∧ 10 * 12 ≤ i ∧ i < 10 * 12 + 10
          · rw [if_pos cz]
            by_cases cz2 : p = 1 ∧ 10 * 12 + 2 ≤ i ∧ i < 10 * 12 + 10
            · rw [if_pos cz2]
            · rw [if_neg cz2, if_neg (ct' cz.2.1), if_neg (cs' cz.2.1), cz.1]
              exact (crK i cz.2.1 (by omega)).symm
          · have cz2 : ¬ (p = 1 ∧ 10 * 12 + 2 ≤ i ∧ i < 10 * 12 + 10) := by omega
            rw [if_neg cz, if_neg cz2]
            by_cases ct : p = 1 ∧ 10 * σ 0 0 + 2 ≤ i ∧ i < 10 * σ 0 0 + 10
            · rw [if_pos ct]
              have cs : ¬ (p = 1 ∧ 10 * (σ 0 0 + 1) + 2 ≤ i ∧ i < 10 * (σ 0 0 + 1) + 10) := by omega
              by_cases q : 0 < keep
              · rw [if_pos q]
                unfold setW
                rw [if_neg cs, if_pos ct]
              · rw [if_neg q]
                unfold setW
                rw [if_pos ct]
            · rw [if_neg ct]
              by_cases q : 0 < keep
              · rw [if_pos q]
                unfold setW
                by_cases cs : p = 1 ∧ 10 * (σ 0 0 + 1) + 2 ≤ i ∧ i < 10 * (σ 0 0 + 1) + 10
                · rw [if_pos cs, if_pos (show p = 1 ∧ 0 < keep ∧ 10 * (σ 0 0 + 1) + 2 ≤ i ∧ i < 10 * (σ 0 0 + 1) + 10 from ⟨cs.1, q, cs.2⟩)]
                · rw [if_neg cs, if_neg ct, if_neg (show ¬ (p = 1 ∧ 0 < keep ∧ 10 * (σ 0 0 + 1) + 2 ≤ i ∧ i < 10 * (σ 0 0 + 1) + 10) from fun z => cs ⟨z.1, z.2.2⟩)]
                  exact agN p i cz
              · rw [if_neg q]
                unfold setW
                rw [if_neg ct, if_neg (show ¬ (p = 1 ∧ 0 < keep ∧ 10 * (σ 0 0 + 1) + 2 ≤ i ∧ i < 10 * (σ 0 0 + 1) + 10) from fun z => q z.2.1)]
                exact agN p i cz
        | succ d ih =>
          intro j M5 hd hj A5 K5 f hf
          obtain ⟨f, rfl⟩ : ∃ g, f = g + 1 := ⟨f - 1, by omega⟩
          simp only [wL_X0_addCast_26, wC_X0_addCast_26]
          rw [wI (x := j) ⟨by omega, by omega⟩]
          refine ⟨fun z => absurd z (by omega), fun _ => ?_⟩
          have r5 : M5 (2 + 1) (10 * 12 + j) = crL burn (tinσ a2 σ) j := by
            rw [← rc1 M5 (by omega) (by omega), A5]
            have e : absC M4 1 (10 * 12 + j) = crL burn (tinσ a2 σ) j := by
              rw [c4 j (by omega) (by omega), c2 j (by omega) (by omega)]
              unfold crL
              by_cases q : j < 6
              · rw [if_pos ⟨by omega, q⟩, if_pos q]
              · rw [if_neg (fun z => q z.2), if_neg q]
            split
            · rename_i q
              have := n9s q
              rw [setW_o (by omega) ⟨by omega, by omega⟩ ⟨by omega, by omega⟩, setW_o (by omega) ⟨by omega, by omega⟩ ⟨by omega, by omega⟩]
              exact e
            · rw [setW_o (by omega) ⟨by omega, by omega⟩ ⟨by omega, by omega⟩]
              exact e
          have crr : 0 ≤ crL burn (tinσ a2 σ) j ∧ crL burn (tinσ a2 σ) j ≤ 9999999 := by
            unfold crL
            by_cases q : j < 6
            · rw [if_pos q]
              have v := t25 j hj (by omega)
              have p := prod_rng (x := tinσ a2 σ 1 (10 * 12 + j)) (y := burn) (m := 9999999) (n := 9) ⟨by omega, by omega⟩ rb
              have p2 : tinσ a2 σ 1 (10 * 12 + j) * burn ≤ tinσ a2 σ 1 (10 * 12 + j) * 9 := Int.mul_le_mul_of_nonneg_left rb.2 v.1
              omega
            · rw [if_neg q]
              have v := t69 j (by omega) (by omega)
              omega
          -- the writes
          have wrt : ∀ (all back : Int) (M6 : gSt), M6 = M5 → back = crS burn keep (tinσ a2 σ) j → all = crT burn keep (tinσ a2 σ) j → wB_X0_addCast_99 2 a1 keep k (wL_X0_addCast_26 2 a1 keep k (fun u3_26 M26 => w_X0_fill 2 12 0 M26 (fun M122 => k u3_26 M122)) f) (fun u3_26 M26 => w_X0_fill 2 12 0 M26 (fun M122 => k u3_26 M122)) (σ 0 0) sc j back all j (σ 0 0) M6 := by
            intro all back M6 e6 hb ha
            subst e6
            unfold wB_X0_addCast_99
            refine sp_become pl_2 rfl ⟨by omega, by omega⟩ ⟨by omega, by omega⟩ ?_
            by_cases q : 0 < keep
            · have := n9s q
              rw [if_pos q] at hsc A5
              rw [hsc]
              refine sp_become pl_2 rfl ⟨by omega, by omega⟩ ⟨by omega, by omega⟩ ?_
              rw [← hsc]
              refine ih (j + 1) _ (by omega) (by omega) ?_ (cK_wr (cK_wr K5 (Or.inr (by decide))) (Or.inr (by decide))) f (by omega)
              rw [if_pos q, ac_3 (by omega) (by omega), ac_3 (by omega) (by omega), A5, hb, ha]
              have s1 := @setW_s (absC M4) 1 (σ 0 0) 2 j (crT burn keep (tinσ a2 σ)) hj
              rw [← s1]
              have s2 := @setW_s (wr (setW (absC M4) 1 (σ 0 0) 2 j (crT burn keep (tinσ a2 σ))) 1 (10 * σ 0 0 + j) (crT burn keep (tinσ a2 σ) j)) 1 (σ 0 0 + 1) 2 j (crS burn keep (tinσ a2 σ)) hj
              rw [← s2, hsc]
              unfold up1
              congr 1
              funext p i
              simp only [wr, setW]
              repeat' split
              all_goals first | rfl | omega
            · rw [if_neg q] at hsc A5
              rw [hsc]
              refine sp_becomeN pl_2 (by constructor <;> decide) ⟨by omega, by omega⟩ (Or.inl (by decide)) ?_
              rw [← hsc]
              refine ih (j + 1) _ (by omega) (by omega) ?_ (cK_wr K5 (Or.inr (by decide))) f (by omega)
              rw [if_neg q, ac_3 (by omega) (by omega), A5, ha]
              exact setW_s hj
          unfold wB_X0_addCast_45 wB_X0_addCast_78
          refine ⟨fun q => ?_, fun q => ?_⟩
          · refine sp_number pl_2 rfl (by decide) ⟨by omega, by omega⟩ (z0 (sp_partOf pl_2 rfl (by decide) ⟨by omega, by omega⟩ ⟨by omega, by omega⟩ (by decide) (by rw [r5]; exact crr) (z0 ?_)))
            rw [r5]
            refine wrt _ _ M5 rfl ?_ ?_
            · unfold crS; rw [if_pos q]
            · unfold crT; rw [if_pos q]
          · refine sp_number pl_2 rfl (by decide) ⟨by omega, by omega⟩ (z1 (z1 ?_))
            rw [r5]
            refine wrt _ _ M5 rfl ?_ ?_
            · unfold crS; rw [if_neg (by omega)]
            · unfold crT; rw [if_neg (by omega)]
      exact loop 8 2 M4 (by omega) (by omega) (by rw [setW_0, setW_0, ite_self]) K4 9 (by omega)
    rw [wI (x := keep) ⟨by omega, by omega⟩]
    refine ⟨fun q => fin M3 (-1) ?_ K3 (by rw [if_neg (by omega)]), fun q => ?_⟩
    · rw [A3]
      unfold crN
      rw [if_neg (by omega)]
    · have m31 : M3 2 1 = σ 0 0 + 1 := by
        rw [← rc00 M3, A3]
        simp only [addT, and_self, if_true]
        rw [rc00, m21]
      have := hs0
      rw [← hke, if_pos q] at this
      refine sp_add (by decide) (by rw [m31]; omega) K3 (fun M4 A4 K4 => ?_)
      rw [m31]
      refine fin M4 _ ?_ K4 (by rw [if_pos q])
      rw [A4, A3]
      unfold crN
      rw [if_pos q]
  unfold w_X0_room
  refine ⟨pl_2, ?_⟩
  dsimp only
  rw [wI (x := keep) ⟨by omega, by omega⟩]
  exact ⟨fun q => go 1 (by rw [if_neg (by omega)]), fun q => go 2 (by rw [if_pos (by omega)])⟩
end
section
-- the reference's cast
theorem sp_RpartOf {v p q : Int} {M : gSt} {k : Int → gSt → Prop} (hv : 0 ≤ v ∧ v ≤ 9999999) (hp : 0 ≤ p ∧ p ≤ 9999999) (hq : 1 ≤ q ∧ q ≤ 9999999) (h : k (v * p / q) M) : w_RpartOf v p q M k := by
  have pr := prod_rng hv hp
  unfold w_RpartOf
  rw [wI (x := v) ⟨by omega, by omega⟩, wI (x := p) ⟨by omega, by omega⟩, wI (x := q) ⟨by omega, by omega⟩, wrapL_in (x := q) (by omega) (by omega), wrapL_in (x := v * p) (by omega) (by omega), tdiv_pos pr.1]
  exact ⟨by omega, h⟩
theorem tO_set {τ : gSt} {c : Nat} {b lo hi : Int} {f : Int → Int} (h : tOk τ) (hc : c ≠ 0) : tOk (setW τ c b lo hi f) := by
  unfold tOk at h ⊢
  rw [setW_c (Ne.symm hc)]
  exact h
theorem tO_addT {τ : gSt} {km : Int} (h : tOk τ) : tOk (addT τ km) := by
  unfold tOk addT at *
  simpa using h
theorem sR_cast {a1 a2 a3 : Int} {M : gSt} {k : Int → gSt → Prop} (i1 : inI a1) (i2 : inI a2) (i3 : inI a3) (I : iN (absR M)) (J : iB (absR M)) (h : ∀ M', absR M' = (S_cast a1 a2 a3 (absR M)).2 → fr M M' → k (S_cast a1 a2 a3 (absR M)).1 M') : w_Rcast a1 a2 a3 M k := by
  have hx := iN_t I
  unfold iN at I
  have T := J 12 (by decide) (by decide)
  have T0 := T
  unfold thOk at T0
  unfold w_Rcast wB_Rcast_44 wB_Rcast_45
  refine sp_Rin i1 (by constructor <;> decide) (by constructor <;> decide) (fun q1 => z1 ?_) (fun q => z0 (z0n (errL (by decide) (by decide) (if_pos (fun z => q z.1)) h)))
  refine sp_Rin i2 (by constructor <;> decide) (by constructor <;> decide) (fun q2 => z1 ?_) (fun q => z0 (z0n (errL (by decide) (by decide) (if_pos (fun z => q z.2.1)) h)))
  refine sp_Rin i3 (by constructor <;> decide) (by constructor <;> decide) (fun q3 => z1 ?_) (fun q => z0 (z0n (errL (by decide) (by decide) (if_pos (fun z => q z.2.2.1)) h)))
  rw [wI i3, tmod_pos q3.1, wI (x := a3 % 10) ⟨by omega, by omega⟩, tdiv_pos q3.1, tdiv_pos q3.1, wI (x := a3 / 10) ⟨by omega, by omega⟩, tmod_pos (by omega : 0 ≤ a3 / 10)]
  refine ⟨fun e => z0n (errL (by decide) (by decide) (if_pos (fun z => e z.2.2.2)) h), fun e10 => z1n (fun burn hbu keep hke => ?_)⟩
  have hc : ¬ ¬ ((0 ≤ a1 ∧ a1 ≤ 699) ∧ (0 ≤ a2 ∧ a2 ≤ 9999) ∧ (0 ≤ a3 ∧ a3 ≤ 990) ∧ a3 % 10 = 0) := fun z => z ⟨q1, q2, q3, e10⟩
  refine sp_Rits (by decide) (by decide) ?_
  rw [wI (x := absR M 1 (10 * 12 + 2)) ⟨by omega, by omega⟩, wI (x := keep) ⟨by omega, by omega⟩, rdS M 0 (by decide) (by decide)]
  refine ⟨fun nz => ?_, fun z => errL (by decide) (by decide) ((if_neg hc).trans (if_pos z)) h⟩
  have rb : 0 ≤ burn ∧ burn ≤ 9 := by omega
  have rk : 0 ≤ keep ∧ keep ≤ 9 := by omega
  have go : ∀ s0 : Int, s0 = (if 0 < a3 / 10 % 10 then 2 else 1) → wB_Rcast_109 a1 a2 a3 k burn keep (absR M 1 (10 * 12 + 2)) s0 (absR M 0 0) M := by
    intro s0 hs0
    have s0r : 1 ≤ s0 ∧ s0 ≤ 2 := by rw [hs0]; split <;> omega
    unfold wB_Rcast_109
    rw [wI (x := absR M 0 0 + s0) ⟨by omega, by omega⟩]
    refine ⟨fun hr => ?_, fun hr => errL (by decide) (by decide) ((if_neg hc).trans ((if_neg nz).trans (if_pos (by rw [← hs0]; omega)))) h⟩
    have hS : S_cast a1 a2 a3 (absR M) = (absR M 0 0, castσ a1 a2 burn keep (absR M)) := by
      rw [hbu, hke]
      exact (if_neg hc).trans ((if_neg nz).trans (if_neg (by rw [← hs0]; omega)))
    rw [hS] at h
    have hn9 : 0 < keep → absR M 0 0 ≤ 10 := fun q => by
      rw [hke] at q
      rw [if_pos q] at hs0
      omega
    refine sp_Rheld ⟨by omega, by omega⟩ (by constructor <;> decide) (by constructor <;> decide) ?_
    obtain ⟨t25, t69, tg, tg2, t2, tn⟩ := tinσ_v T q2 (by omega)
    have eG : (if absR M 1 (10 * 12 + 2) + a2 < 0 then 0 else if 9999999 < absR M 1 (10 * 12 + 2) + a2 then 9999999 else absR M 1 (10 * 12 + 2) + a2) = tinG a2 (absR M) := by
      rw [if_neg (by omega)]
      rfl
    rw [eG]
    refine sp_Rlays1 (by decide) (by decide) hx (fun M1 A1 O1 F1 => ?_)
    refine sp_Rits (by decide) (by decide) ?_
    have r3 : absR M1 1 (10 * 12 + 3) = absR M 1 (10 * 12 + 3) := by rw [A1, up1_n (by decide)]
    rw [r3]
    refine sp_Rheld ⟨by omega, by omega⟩ (by constructor <;> decide) ⟨by omega, by omega⟩ ?_
    have e3 : (if absR M 1 (10 * 12 + 3) + a2 < 0 then 0 else if tinG a2 (absR M) < absR M 1 (10 * 12 + 3) + a2 then tinG a2 (absR M) else absR M 1 (10 * 12 + 3) + a2) = cap (absR M 1 (10 * 12 + 3) + a2) (tinG a2 (absR M)) := by
      rw [if_neg (by omega)]
      rfl
    rw [e3]
    have x1 : tOk (absR M1) := by rw [A1]; exact tOk_B hx (Or.inl (by decide))
    refine sp_Rlays1 (by decide) (by decide) x1 (fun M2 A2 O2 F2 => ⟨5, ?_⟩)
    have A20 : absR M2 = tin0 a2 (absR M) := by rw [A2, A1]; rfl
    have F20 := fr_trans F1 F2
    have x20 : tOk (tin0 a2 (absR M)) := by rw [← A20, A2]; exact tOk_B x1 (Or.inl (by decide))
    -- the last loop
    have fin : ∀ (M4 : gSt) (sc : Int), absR M4 = crN a1 keep (tinσ a2 (absR M)) → fr M M4 → sc = (if 0 < keep then absR M 0 0 + 1 else -1) → wB_Rcast_227 a1 a2 a3 k burn keep (absR M 0 0) sc M4 := by
      intro M4 sc A4 F4 hsc
      unfold wB_Rcast_227
      refine ⟨9, ?_⟩
      generalize hσ : absR M = σ at *
      have e0 : tinσ a2 σ 0 0 = σ 0 0 := by rw [tinσ_0 (by decide)]
      have n9 : 0 ≤ σ 0 0 ∧ σ 0 0 ≤ 11 := by omega
      have c4 : ∀ w, 0 ≤ w → w ≤ 9 → crN a1 keep (tinσ a2 σ) 1 (10 * 12 + w) = tinσ a2 σ 1 (10 * 12 + w) := fun w a b => by
        unfold crN
        split
        · rename_i q
          have := hn9 q
          simp only [addT, e0]
          rw [if_neg (by omega), if_neg (by simp; omega), if_neg (by omega), if_neg (by simp; omega)]
        · simp only [addT, e0]
          rw [if_neg (by omega), if_neg (by simp; omega)]
      have x4 : tOk (crN a1 keep (tinσ a2 σ)) := by
        have : tOk (tinσ a2 σ) := tO_set x20 (by decide)
        unfold crN
        split
        · exact tO_addT (tO_addT this)
        · exact tO_addT this
      have xE : ∀ j, tOk (setW (if 0 < keep then setW (setW (crN a1 keep (tinσ a2 σ)) 1 (σ 0 0) 2 j (crT burn keep (tinσ a2 σ))) 1 (σ 0 0 + 1) 2 j (crS burn keep (tinσ a2 σ)) else setW (crN a1 keep (tinσ a2 σ)) 1 (σ 0 0) 2 j (crT burn keep (tinσ a2 σ))) 1 12 2 j (fun _ => 0)) := fun j => by
        refine tO_set ?_ (by decide)
        split
        · exact tO_set (tO_set x4 (by decide)) (by decide)
        · exact tO_set x4 (by decide)
      have loop : ∀ (d : Nat) (j : Int) (M5 : gSt), (d : Int) = 10 - j → 2 ≤ j → absR M5 = setW (if 0 < keep then setW (setW (crN a1 keep (tinσ a2 σ)) 1 (σ 0 0) 2 j (crT burn keep (tinσ a2 σ))) 1 (σ 0 0 + 1) 2 j (crS burn keep (tinσ a2 σ)) else setW (crN a1 keep (tinσ a2 σ)) 1 (σ 0 0) 2 j (crT burn keep (tinσ a2 σ))) 1 12 2 j (fun _ => 0) → fr M M5 → ∀ f : Nat, d < f → wL_Rcast_232 a1 a2 a3 k (fun u9_232 M232 => k u9_232 M232) f burn keep (σ 0 0) sc j M5 := by
        intro d
        induction d with
        | zero =>
          intro j M5 hd hj A5 F5 f hf
          obtain ⟨f, rfl⟩ : ∃ g, f = g + 1 := ⟨f - 1, by omega⟩
          have ej : j = 10 := by omega
          subst ej
          simp only [wL_Rcast_232, wC_Rcast_232]
          refine ⟨fun _ => h M5 ?_ F5, fun z => absurd z (by decide)⟩
          rw [A5]
          funext p i
          show _ = castσ a1 a2 burn keep σ p i
          unfold castσ
          by_cases cz : p = 1 ∧ 10 * 12 + 2 ≤ i ∧ i < 10 * 12 + 10
          · rw [if_pos cz]
            unfold setW
            rw [if_pos cz]
          · have e : ∀ τ : gSt, setW τ 1 12 2 10 (fun _ => 0) p i = τ p i := fun τ => by
              unfold setW
              rw [if_neg cz]
            rw [if_neg cz, e]
            by_cases ct : p = 1 ∧ 10 * σ 0 0 + 2 ≤ i ∧ i < 10 * σ 0 0 + 10
            · rw [if_pos ct]
              have cs : ¬ (p = 1 ∧ 10 * (σ 0 0 + 1) + 2 ≤ i ∧ i < 10 * (σ 0 0 + 1) + 10) := by omega
              by_cases q : 0 < keep
              · rw [if_pos q]
                unfold setW
                rw [if_neg cs, if_pos ct]
              · rw [if_neg q]
                unfold setW
                rw [if_pos ct]
            · rw [if_neg ct]
              by_cases q : 0 < keep
              · rw [if_pos q]
                unfold setW
                by_cases cs : p = 1 ∧ 10 * (σ 0 0 + 1) + 2 ≤ i ∧ i < 10 * (σ 0 0 + 1) + 10
                · rw [if_pos cs, if_pos (show p = 1 ∧ 0 < keep ∧ 10 * (σ 0 0 + 1) + 2 ≤ i ∧ i < 10 * (σ 0 0 + 1) + 10 from ⟨cs.1, q, cs.2⟩)]
                · rw [if_neg cs, if_neg ct, if_neg (show ¬ (p = 1 ∧ 0 < keep ∧ 10 * (σ 0 0 + 1) + 2 ≤ i ∧ i < 10 * (σ 0 0 + 1) + 10) from fun z => cs ⟨z.1, z.2.2⟩)]
              · rw [if_neg q]
                unfold setW
                rw [if_neg ct, if_neg (show ¬ (p = 1 ∧ 0 < keep ∧ 10 * (σ 0 0 + 1) + 2 ≤ i ∧ i < 10 * (σ 0 0 + 1) + 10) from fun z => q z.2.1)]
        | succ d ih =>
          intro j M5 hd hj A5 F5 f hf
          obtain ⟨f, rfl⟩ : ∃ g, f = g + 1 := ⟨f - 1, by omega⟩
          simp only [wL_Rcast_232, wC_Rcast_232]
          rw [wI (x := j) ⟨by omega, by omega⟩]
          refine ⟨fun z => absurd z (by omega), fun _ => ?_⟩
          have r5 : absR M5 1 (10 * 12 + j) = tinσ a2 σ 1 (10 * 12 + j) := by
            rw [A5, setW_n (by omega), ← c4 j (by omega) (by omega)]
            split
            · rename_i q
              have := hn9 q
              rw [setW_o (by omega) ⟨by omega, by omega⟩ ⟨by omega, by omega⟩, setW_o (by omega) ⟨by omega, by omega⟩ ⟨by omega, by omega⟩]
            · rw [setW_o (by omega) ⟨by omega, by omega⟩ ⟨by omega, by omega⟩]
          have x5 : tOk (absR M5) := by rw [A5]; exact xE j
          refine sp_Rits (by decide) ⟨by omega, by omega⟩ ?_
          rw [r5]
          have wrt : ∀ (val goes : Int), val = crT burn keep (tinσ a2 σ) j → goes = crS burn keep (tinσ a2 σ) j → wB_Rcast_328 a1 a2 a3 k (wL_Rcast_232 a1 a2 a3 k (fun u9_232 M232 => k u9_232 M232) f) (fun u9_232 M232 => k u9_232 M232) burn keep (σ 0 0) sc j goes val j (σ 0 0) M5 := by
            intro val goes hv hg
            unfold wB_Rcast_328 wB_Rcast_347
            refine sp_Rlays1 ⟨by omega, by omega⟩ ⟨by omega, by omega⟩ x5 (fun M6 A6 O6 F6 => ?_)
            have x6 : tOk (absR M6) := by rw [A6]; exact tOk_B x5 (Or.inl (by decide))
            by_cases q : 0 < keep
            · have := hn9 q
              rw [if_pos q] at hsc
              rw [hsc, wI (x := σ 0 0 + 1) ⟨by omega, by omega⟩]
              refine ⟨fun z => absurd z (by omega), fun _ => ?_⟩
              refine sp_Rlays1 ⟨by omega, by omega⟩ ⟨by omega, by omega⟩ x6 (fun M7 A7 O7 F7 => ?_)
              have x7 : tOk (absR M7) := by rw [A7]; exact tOk_B x6 (Or.inl (by decide))
              refine sp_Rlays1 (by decide) ⟨by omega, by omega⟩ x7 (fun M8 A8 O8 F8 => ?_)
              rw [← hsc]
              refine ih (j + 1) M8 (by omega) (by omega) ?_ (fr_trans F5 (fr_trans F6 (fr_trans F7 F8))) f (by omega)
              rw [A8, A7, A6, A5, hv, hg, if_pos q, if_pos q]
              funext p i
              simp only [up1, wr, setW]
              repeat' split
              all_goals first | rfl | omega | (congr 1 <;> omega)
            · rw [if_neg q] at hsc
              rw [hsc, show wrap (-1) = -1 from by decide]
              refine ⟨fun _ => ?_, fun z => absurd rfl z⟩
              refine sp_Rlays1 (by decide) ⟨by omega, by omega⟩ x6 (fun M8 A8 O8 F8 => ?_)
              rw [← hsc]
              refine ih (j + 1) M8 (by omega) (by omega) ?_ (fr_trans F5 (fr_trans F6 F8)) f (by omega)
              rw [A8, A6, A5, hv, if_neg q, if_neg q]
              funext p i
              simp only [up1, wr, setW]
              repeat' split
              all_goals first | rfl | omega | (congr 1 <;> omega)
          refine ⟨fun q => ?_, fun q => ?_⟩
          · have v := t25 j hj (by omega)
            have p2 : tinσ a2 σ 1 (10 * 12 + j) * burn ≤ tinσ a2 σ 1 (10 * 12 + j) * 9 := Int.mul_le_mul_of_nonneg_left rb.2 v.1
            have p3 : 0 ≤ tinσ a2 σ 1 (10 * 12 + j) * burn := Int.mul_nonneg v.1 rb.1
            unfold wB_Rcast_261
            refine z0 (sp_RpartOf ⟨by omega, by omega⟩ ⟨by omega, by omega⟩ (by decide) ?_)
            unfold wB_Rcast_285
            refine z0 (sp_RpartOf ⟨by omega, by omega⟩ ⟨by omega, by omega⟩ (by decide) ?_)
            unfold wB_Rcast_306
            refine z0 (wrt _ _ ?_ ?_)
            · unfold crT crL; rw [if_pos q, if_pos q]
            · unfold crS crL; rw [if_pos q, if_pos q]
          · unfold wB_Rcast_261
            refine z1 ?_
            unfold wB_Rcast_285
            refine z1 ?_
            unfold wB_Rcast_306
            refine z1 (wrt _ _ ?_ ?_)
            · unfold crT crL; rw [if_neg (by omega), if_neg (by omega)]
            · unfold crS crL; rw [if_neg (by omega), if_neg (by omega)]
      exact loop 8 2 M4 (by omega) (by omega) (by rw [setW_0, setW_0, setW_0, ite_self]; exact A4) F4 9 (by omega)
    -- holds of the crucible
    have loop : ∀ (d : Nat) (j : Int) (M3 : gSt), (d : Int) = 10 - j → 6 ≤ j → absR M3 = setW (tin0 a2 (absR M)) 1 12 6 j (tinH a2 (absR M)) → fr M M3 → ∀ f : Nat, d < f → wL_Rcast_168 a1 a2 a3 k (fun u5_168 u6_168 M168 => w_RaddThing a1 M168 (fun r206c M206 => (wrap u6_168 ≤ 0 → wB_Rcast_227 a1 a2 a3 k u5_168 u6_168 r206c (-1) M206) ∧ (0 < wrap u6_168 → w_RaddThing 600 M206 (fun r220c M220 => wB_Rcast_227 a1 a2 a3 k u5_168 u6_168 r206c r220c M220)))) f burn keep (absR M 1 (10 * 12 + 2)) (tinG a2 (absR M)) j M3 := by
      intro d
      induction d with
      | zero =>
        intro j M3 hd hj A3 F3 f hf
        obtain ⟨f, rfl⟩ : ∃ g, f = g + 1 := ⟨f - 1, by omega⟩
        have ej : j = 10 := by omega
        subst ej
        simp only [wL_Rcast_168, wC_Rcast_168]
        refine ⟨fun _ => ?_, fun z => absurd z (by decide)⟩
        have x3 : tOk (absR M3) := by rw [A3]; exact tO_set x20 (by decide)
        have n3 : absR M3 0 0 = absR M 0 0 := by rw [A3, setW_c (by decide)]; unfold tin0; rw [up1_o (by decide), up1_o (by decide)]
        refine sp_RaddThing q1 (by rw [n3]; omega) x3 (fun M4 A4 F4 O4 => ?_)
        rw [n3, wI (x := keep) ⟨by omega, by omega⟩]
        refine ⟨fun q => fin M4 (-1) ?_ (fr_trans F3 F4) (by rw [if_neg (by omega)]), fun q => ?_⟩
        · rw [A4, A3]
          unfold crN tinσ
          rw [if_neg (by omega)]
        · have n4 : absR M4 0 0 = absR M 0 0 + 1 := by
            rw [A4]
            simp only [addT, and_self, if_true]
            rw [n3]
          have := hn9 q
          refine sp_RaddThing (by decide) (by rw [n4]; omega) (by rw [A4]; exact tO_addT x3) (fun M5 A5 F5 O5 => ?_)
          rw [n4]
          refine fin M5 _ ?_ (fr_trans F3 (fr_trans F4 F5)) (by rw [if_pos q])
          rw [A5, A4, A3]
          unfold crN tinσ
          rw [if_pos q]
      | succ d ih =>
        intro j M3 hd hj A3 F3 f hf
        obtain ⟨f, rfl⟩ : ∃ g, f = g + 1 := ⟨f - 1, by omega⟩
        simp only [wL_Rcast_168, wC_Rcast_168]
        rw [wI (x := j) ⟨by omega, by omega⟩]
        refine ⟨fun z => absurd z (by omega), fun _ => ?_⟩
        have r3 : absR M3 1 (10 * 12 + j) = absR M 1 (10 * 12 + j) := by
          rw [A3, setW_n (by omega)]
          unfold tin0
          rw [up1_n (by omega), up1_n (by omega)]
        have hw : 0 ≤ absR M 1 (10 * 12 + j) ∧ absR M 1 (10 * 12 + j) ≤ 1000000 := by
          rcases (show j = 6 ∨ j = 7 ∨ j = 8 ∨ j = 9 by omega) with rfl | rfl | rfl | rfl <;> omega
        have x3 : tOk (absR M3) := by rw [A3]; exact tO_set x20 (by decide)
        refine sp_Rits (by decide) ⟨by omega, by omega⟩ ?_
        rw [r3]
        refine sp_RpartOf ⟨by omega, by omega⟩ ⟨by omega, by omega⟩ ⟨by omega, by omega⟩ (sp_Rlays1 (by decide) ⟨by omega, by omega⟩ x3 (fun M4 A4 O4 F4 => ?_))
        refine ih (j + 1) M4 (by omega) (by omega) ?_ (fr_trans F3 F4) f (by omega)
        have eH : absR M 1 (10 * 12 + j) * absR M 1 (10 * 12 + 2) / tinG a2 (absR M) = tinH a2 (absR M) j := by
          unfold tinH qz
          rw [if_neg (by omega)]
        rw [A4, A3, eH]
        exact setW_s (by omega)
    exact loop 4 6 M2 (by omega) (by omega) (by rw [setW_0]; exact A20) F20 5 (by omega)
  exact ⟨fun q => go 1 (by rw [if_neg (by omega)]), fun q => go 2 (by rw [if_pos (by omega)])⟩
end
section
-- bytes, untell, sheets, images: both sides
theorem and_lt {n : Nat} (y : BitVec n) (m : BitVec n) (h : m.toNat = 255) : (y &&& m).toNat = y.toNat % 256 := by
  rw [BitVec.toNat_and, h]
  exact Nat.and_two_pow_sub_one_eq_mod y.toNat 8
theorem xand255 (x : Int) : xand x 255 = x % 256 := by
  have e : xand x 255 = (BitVec.ofInt 32 x &&& BitVec.ofInt 32 255).toInt := rfl
  have h := and_lt (BitVec.ofInt 32 x) (BitVec.ofInt 32 255) (by decide)
  rw [e, BitVec.toInt_eq_toNat_of_lt (by rw [h]; omega), h, BitVec.toNat_ofInt]
  omega
theorem yand255 (x : Int) : yand x 255 = x % 256 := by
  have e : yand x 255 = (BitVec.ofInt 64 x &&& BitVec.ofInt 64 255).toInt := rfl
  have h := and_lt (BitVec.ofInt 64 x) (BitVec.ofInt 64 255) (by decide)
  rw [e, BitVec.toInt_eq_toNat_of_lt (by rw [h]; omega), h, BitVec.toNat_ofInt]
  omega
def feedσ (w : Int) (σ : gSt) : Nat → gSt
  | 0 => σ
  | j + 1 => up1 (up1 (feedσ w σ j) 5 (σ 0 6 + (j : Int)) (yshr w (8 * (j : Int)) % 256)) 0 6 (σ 0 6 + (j : Int) + 1)
def S_feed (w n : Int) (σ : gSt) : Int × gSt :=
  if ¬ (1 ≤ n ∧ n ≤ 8) then S_err σ 1 else if 60 < σ 0 6 + n then S_err σ 4 else (σ 0 6 + n, feedσ w σ n.toNat)
theorem feedσ_6 {w : Int} {σ : gSt} : ∀ j : Nat, feedσ w σ j 0 6 = σ 0 6 + (j : Int)
  | 0 => by simp [feedσ]
  | j + 1 => by
    show up1 _ 0 6 _ 0 6 = _
    rw [up1_i]
    omega
theorem feedσ_o {w : Int} {σ : gSt} : ∀ (j : Nat) (c : Nat) (i : Int), c ≠ 5 → ¬ (c = 0 ∧ i = 6) → feedσ w σ j c i = σ c i
  | 0, _, _, _, _ => rfl
  | j + 1, c, i, h1, h2 => by
    show up1 _ 0 6 _ c i = _
    have e : up1 (up1 (feedσ w σ j) 5 (σ 0 6 + (j : Int)) (yshr w (8 * (j : Int)) % 256)) 0 6 (σ 0 6 + (j : Int) + 1) c i = feedσ w σ j c i := by
      simp only [up1, wr]
      rw [if_neg h2, if_neg (fun z => h1 z.1)]
    rw [e]
    exact feedσ_o j c i h1 h2
theorem sC_feed {a1 a2 : Int} {M : gSt} {k : Int → gSt → Prop} (i2 : inI a2) (I : iN (absC M)) (hK : cK M) (h : ∀ M', absC M' = (S_feed a1 a2 (absC M)).2 → cK M' → k (S_feed a1 a2 (absC M)).1 M') : w_X8_feed a1 a2 M k := by
  unfold iN at I
  have n6 := rc06 M
  obtain ⟨w0, w2⟩ := cK_4 hK
  unfold w_X8_feed
  refine sp_within i2 (by constructor <;> decide) (by constructor <;> decide) (fun q => z1n ?_) (fun q => z0n (errC (by decide) (by decide) hK (if_pos q) h))
  have hc := fun z : ¬ (1 ≤ a2 ∧ a2 ≤ 8) => z q
  refine sp_room4 pl_4 ?_
  rw [w2, wI i2, wI (x := 60 - M 4 3) ⟨by omega, by omega⟩]
  refine ⟨fun h2 => ⟨10, ?_⟩, fun h2 => errC (by decide) (by decide) hK ((if_neg hc).trans (if_pos (by omega))) h⟩
  have hS : S_feed a1 a2 (absC M) = _ := (if_neg hc).trans (if_neg (by omega))
  rw [hS] at h
  have loop : ∀ (d : Nat) (j : Int) (M1 : gSt), (d : Int) = a2 - j → 0 ≤ j → absC M1 = feedσ a1 (absC M) j.toNat → cK M1 → ∀ f : Nat, d < f → wL_X8_feed_39 a1 a2 k (fun M39 => w_X4_size 4 M39 (fun r83c M83 => k r83c M83)) f j M1 := by
    intro d
    induction d with
    | zero =>
      intro j M1 hd hj A K f hf
      obtain ⟨f, rfl⟩ : ∃ g, f = g + 1 := ⟨f - 1, by omega⟩
      simp only [wL_X8_feed_39, wC_X8_feed_39]
      rw [wI (x := j) ⟨by omega, by omega⟩, wI (x := a2) ⟨by omega, by omega⟩]
      refine ⟨fun _ => sp_size4 pl_4 ?_, fun z => absurd z (by omega)⟩
      have ej : j = a2 := by omega
      rw [ej] at A
      rw [← rc06 M1, A, feedσ_6, show ((a2.toNat : Nat) : Int) = a2 from by omega]
      exact h M1 A K
    | succ d ih =>
      intro j M1 hd hj A K f hf
      obtain ⟨f, rfl⟩ : ∃ g, f = g + 1 := ⟨f - 1, by omega⟩
      simp only [wL_X8_feed_39, wC_X8_feed_39]
      rw [wI (x := j) ⟨by omega, by omega⟩, wI (x := a2) ⟨by omega, by omega⟩]
      obtain ⟨v0, v2⟩ := cK_4 K
      have s : M1 4 3 = M 4 3 + j := by rw [← rc06 M1, A, feedσ_6, n6]; omega
      refine ⟨fun z => absurd z (by omega), fun _ => sp_app1 (L := 60) pl_4 v0 v2 ⟨by omega, by omega⟩ (by decide) rfl ?_⟩
      refine ih (j + 1) _ (by omega) (by omega) ?_ (cK_wr (cK_wr K (Or.inr (by decide))) (Or.inl (by decide))) f (by omega)
      rw [ac_4_3, ac_5 (by omega) (by omega), A, s, xand255, show (j + 1).toNat = j.toNat + 1 from by omega]
      simp only [feedσ]
      rw [show ((j.toNat : Nat) : Int) = j from by omega, n6]
  exact loop a2.toNat 0 M (by omega) (by omega) rfl hK 10 (by omega)
theorem sR_feed {a1 a2 : Int} {M : gSt} {k : Int → gSt → Prop} (i2 : inI a2) (I : iN (absR M)) (h : ∀ M', absR M' = (S_feed a1 a2 (absR M)).2 → fr M M' → k (S_feed a1 a2 (absR M)).1 M') : w_Rfeed a1 a2 M k := by
  have hx := iN_t I
  unfold iN at I
  unfold w_Rfeed
  refine sp_Rin i2 (by constructor <;> decide) (by constructor <;> decide) (fun q => z1n ?_) (fun q => z0n (errL (by decide) (by decide) (if_pos q) h))
  have hc := fun z : ¬ (1 ≤ a2 ∧ a2 ≤ 8) => z q
  rw [rdS M 6 (by decide) (by decide), wI (x := absR M 0 6 + a2) ⟨by omega, by omega⟩]
  refine ⟨fun h2 => ⟨10, ?_⟩, fun h2 => errL (by decide) (by decide) ((if_neg hc).trans (if_pos (by omega))) h⟩
  have hS : S_feed a1 a2 (absR M) = _ := (if_neg hc).trans (if_neg (by omega))
  rw [hS] at h
  have loop : ∀ (d : Nat) (j : Int) (M1 : gSt), (d : Int) = a2 - j → 0 ≤ j → absR M1 = feedσ a1 (absR M) j.toNat → fr M M1 → ∀ f : Nat, d < f → wL_Rfeed_39 a1 a2 k (fun M39 => k (M39 1 6) M39) f j M1 := by
    intro d
    induction d with
    | zero =>
      intro j M1 hd hj A F f hf
      obtain ⟨f, rfl⟩ : ∃ g, f = g + 1 := ⟨f - 1, by omega⟩
      simp only [wL_Rfeed_39, wC_Rfeed_39]
      rw [wI (x := j) ⟨by omega, by omega⟩, wI (x := a2) ⟨by omega, by omega⟩]
      refine ⟨fun _ => ?_, fun z => absurd z (by omega)⟩
      have ej : j = a2 := by omega
      rw [ej] at A
      rw [rdS M1 6 (by decide) (by decide), A, feedσ_6, show ((a2.toNat : Nat) : Int) = a2 from by omega]
      exact h M1 A F
    | succ d ih =>
      intro j M1 hd hj A F f hf
      obtain ⟨f, rfl⟩ : ∃ g, f = g + 1 := ⟨f - 1, by omega⟩
      simp only [wL_Rfeed_39, wC_Rfeed_39]
      rw [wI (x := j) ⟨by omega, by omega⟩, wI (x := a2) ⟨by omega, by omega⟩]
      have s : M1 1 6 = absR M 0 6 + j := by rw [rdS M1 6 (by decide) (by decide), A, feedσ_6]; omega
      have x1 : tOk (absR M1) := by
        unfold tOk
        rw [A, feedσ_o _ _ _ (by decide) (by decide), feedσ_o _ _ _ (by decide) (by decide)]
        exact hx
      rw [s]
      refine ⟨fun z => absurd z (by omega), fun _ => ⟨⟨by omega, by omega⟩, fun M2 e2 M3 e3 => ?_⟩⟩
      have A2 : absR M2 = up1 (absR M1) 5 (absR M 0 6 + j) (yshr a1 (8 * j) % 256) := by
        rw [e2, yand255]
        exact absR_put x1 (Or.inr (Or.inr (Or.inr (Or.inr (Or.inl ⟨rfl, rfl, rfl⟩))))) (by omega) (by omega) rfl
      have x2 : tOk (absR M2) := by rw [A2]; exact tOk_B x1 (Or.inl (by decide))
      have s2 : M2 1 6 = absR M 0 6 + j := by rw [e2, wrN (by omega)]; exact s
      rw [s2] at e3
      have F2 : fr M1 M2 := by rw [e2]; exact fr_wr (by decide) (fun _ => by omega)
      have F3 : fr M2 M3 := by rw [e3]; exact fr_wr (by decide) (fun _ => by omega)
      refine ih (j + 1) M3 (by omega) (by omega) ?_ (fr_trans F (fr_trans F2 F3)) f (by omega)
      rw [e3, sp_Rsc (by decide) (by decide) x2, A2, A, show (j + 1).toNat = j.toNat + 1 from by omega]
      simp only [feedσ]
      rw [show ((j.toNat : Nat) : Int) = j from by omega]
  exact loop a2.toNat 0 M (by omega) (by omega) rfl fr_rf 10 (by omega)
-- sheets of the class
theorem acB {q x : Int} {o : Nat} {M : gSt} (hq : 0 ≤ q ∧ q < 4) (ho : (o : Int) = 56 + 2 * q) : absC (wr M o 1 x) = up1 (absC M) 23 q x := by
  rcases (show q = 0 ∨ q = 1 ∨ q = 2 ∨ q = 3 by omega) with rfl | rfl | rfl | rfl
  · rw [show o = 56 from by omega]; exact ac_56_1
  · rw [show o = 58 from by omega]; exact ac_58_1
  · rw [show o = 60 from by omega]; exact ac_60_1
  · rw [show o = 62 from by omega]; exact ac_62_1
theorem acS {q x : Int} {o : Nat} {M : gSt} (hq : 0 ≤ q ∧ q < 4) (ho : (o : Int) = 56 + 2 * q) : absC (wr M o 2 x) = up1 (absC M) 24 q x := by
  rcases (show q = 0 ∨ q = 1 ∨ q = 2 ∨ q = 3 by omega) with rfl | rfl | rfl | rfl
  · rw [show o = 56 from by omega]; exact ac_56_2
  · rw [show o = 58 from by omega]; exact ac_58_2
  · rw [show o = 60 from by omega]; exact ac_60_2
  · rw [show o = 62 from by omega]; exact ac_62_2
theorem acN {q j x : Int} {o : Nat} {M : gSt} (hq : 0 ≤ q ∧ q < 4) (ho : (o : Int) = 56 + 2 * q) (h0 : 0 ≤ j) (h1 : j < 24) : absC (wr M (o + 1) j x) = up1 (absC M) 25 (24 * q + j) x := by
  rcases (show q = 0 ∨ q = 1 ∨ q = 2 ∨ q = 3 by omega) with rfl | rfl | rfl | rfl
  · rw [show o = 56 from by omega]; exact ac_57 h0 h1
  · rw [show o = 58 from by omega]; exact ac_59 h0 h1
  · rw [show o = 60 from by omega]; exact ac_61 h0 h1
  · rw [show o = 62 from by omega]; exact ac_63 h0 h1
theorem rB {q : Int} {o : Nat} (M : gSt) (hq : 0 ≤ q ∧ q < 4) (ho : (o : Int) = 56 + 2 * q) : absC M 23 q = M o 1 := by
  rcases (show q = 0 ∨ q = 1 ∨ q = 2 ∨ q = 3 by omega) with rfl | rfl | rfl | rfl
  · rw [show o = 56 from by omega]; rfl
  · rw [show o = 58 from by omega]; rfl
  · rw [show o = 60 from by omega]; rfl
  · rw [show o = 62 from by omega]; rfl
theorem rS {q : Int} {o : Nat} (M : gSt) (hq : 0 ≤ q ∧ q < 4) (ho : (o : Int) = 56 + 2 * q) : absC M 24 q = M o 2 := by
  rcases (show q = 0 ∨ q = 1 ∨ q = 2 ∨ q = 3 by omega) with rfl | rfl | rfl | rfl
  · rw [show o = 56 from by omega]; rfl
  · rw [show o = 58 from by omega]; rfl
  · rw [show o = 60 from by omega]; rfl
  · rw [show o = 62 from by omega]; rfl
theorem rN {q j : Int} {o : Nat} (M : gSt) (hq : 0 ≤ q ∧ q < 4) (ho : (o : Int) = 56 + 2 * q) (h0 : 0 ≤ j) (h1 : j < 24) : absC M 25 (24 * q + j) = M (o + 1) j := by
  rcases (show q = 0 ∨ q = 1 ∨ q = 2 ∨ q = 3 by omega) with rfl | rfl | rfl | rfl
  · rw [show o = 56 from by omega, r25_0 M (by omega), show 24 * 0 + j = j from by omega]
  · rw [show o = 58 from by omega, r25_1 M (by omega), show 24 * 1 + j - 24 = j from by omega]
  · rw [show o = 60 from by omega, r25_2 M (by omega), show 24 * 2 + j - 48 = j from by omega]
  · rw [show o = 62 from by omega, r25_3 M (by omega), show 24 * 3 + j - 72 = j from by omega]
theorem cK_sh {q : Int} {o : Nat} {M : gSt} {i x : Int} (hK : cK M) (hq : 0 ≤ q ∧ q < 4) (ho : (o : Int) = 56 + 2 * q) : cK (wr M o i x) ∧ cK (wr M (o + 1) i x) := by
  rcases (show o = 56 ∨ o = 58 ∨ o = 60 ∨ o = 62 by omega) with rfl | rfl | rfl | rfl <;> exact ⟨cK_wr hK (Or.inr (by decide)), cK_wr hK (Or.inr (by decide))⟩
/-- the numbers of a sheet are filled with 0 -/
theorem sp_Jfill2 {q : Int} {o : Nat} {M : gSt} {k : gSt → Prop} (hq : 0 ≤ q ∧ q < 4) (ho : (o : Int) = 56 + 2 * q) (hK : cK M) (h : ∀ M', absC M' = (fun c i => if c = 25 ∧ 24 * q ≤ i ∧ i < 24 * q + 24 then 0 else absC M c i) → cK M' → k M') : w_J7_fill_53178 (o + 1) 0 M k := by
  obtain ⟨p1, ha, hl⟩ := pl_sh (o := o) (by omega)
  unfold w_J7_fill_53178
  refine ⟨ha, fun x ex => ⟨25, ?_⟩⟩
  rw [hl] at ex
  subst ex
  have loop : ∀ (d : Nat) (t : Int) (M1 : gSt), (d : Int) = 24 - t → 0 ≤ t → absC M1 = (fun c i => if c = 25 ∧ 24 * q ≤ i ∧ i < 24 * q + t then 0 else absC M c i) → cK M1 → ∀ g : Nat, d < g → wL_J7_fill_53178_5 (o + 1) 0 k (fun M5 => k M5) g t ((24 : Nat) : Int) M1 := by
    intro d
    induction d with
    | zero =>
      intro t M1 hd ht A K g hg
      obtain ⟨g, rfl⟩ : ∃ q, g = q + 1 := ⟨g - 1, by omega⟩
      have e : t = 24 := by omega
      subst e
      simp only [wL_J7_fill_53178_5, wC_J7_fill_53178_5]
      exact ⟨fun _ => h M1 A K, fun z => absurd z (by decide)⟩
    | succ d ih =>
      intro t M1 hd ht A K g hg
      obtain ⟨g, rfl⟩ : ∃ q, g = q + 1 := ⟨g - 1, by omega⟩
      simp only [wL_J7_fill_53178_5, wC_J7_fill_53178_5]
      rw [wI (x := t) ⟨by omega, by omega⟩, show wrap ((24 : Nat) : Int) = 24 from by decide, hl]
      refine ⟨fun z => absurd z (by omega), fun _ => ⟨⟨by omega, by omega⟩, fun M2 e2 => ?_⟩⟩
      subst e2
      refine ih (t + 1) _ (by omega) (by omega) ?_ (cK_sh K hq ho).2 g (by omega)
      rw [acN hq ho ht (by omega), A]
      funext c i
      simp only [up1, wr]
      repeat' split
      all_goals first | rfl | omega
  exact loop 24 0 M (by omega) (by omega) (by funext c i; rw [if_neg (by omega)]) hK 25 (by omega)
theorem sC_sheet {q b n : Int} {M : gSt} {k : Int → gSt → Prop} (i1 : inI q) (i2 : inI b) (i3 : inI n) (hK : cK M) (h : ∀ M', absC M' = (S_sheet q b n (absC M)).2 → cK M' → k (S_sheet q b n (absC M)).1 M') : w_X8_sheet q b n M k := by
  unfold w_X8_sheet wB_X8_sheet_34
  refine shC i1 (fun o ho hq => ⟨fun z => absurd z (by simp), fun o2 e2 => ?_⟩) (fun hq => ⟨fun _ => errC (by decide) (by decide) hK (if_pos (fun z => hq z.1)) h, fun o2 e2 => by cases e2⟩)
  cases e2
  obtain ⟨p1, p2, p3⟩ := pl_sh (o := o) (by omega)
  have go : (b = 0 ∨ b = 8 ∨ b = 16 ∨ b = 32) → wB_X8_sheet_40 q b n k o M := by
    intro hb
    have hc : ¬ ¬ ((0 ≤ q ∧ q < 4) ∧ (b = 0 ∨ b = 8 ∨ b = 16 ∨ b = 32)) := fun z => z ⟨hq, hb⟩
    unfold wB_X8_sheet_40 wB_X8_sheet_54 wB_X8_sheet_70 wB_X8_sheet_82
    rw [wI i2, wI i3]
    have fin : ∀ m : Int, 0 ≤ m ∧ m ≤ 24 → S_sheet q b n (absC M) = (1, shB (absC M) q b m) → w_X5_begin o b m M (fun M82 => k 1 M82) := by
      intro m hm e1
      rw [e1] at h
      unfold w_X5_begin
      refine ⟨p1, fun M1 e1 M2 e2 => ?_⟩
      have A1 : absC M1 = up1 (absC M) 23 q b := by rw [e1]; exact acB hq ho
      have K1 : cK M1 := by rw [e1]; exact (cK_sh hK hq ho).1
      have em : xmax 0 (xmin 24 m) = m := by
        rw [xmin_in (by constructor <;> decide) ⟨by omega, by omega⟩, xmax_in (by constructor <;> decide) (by constructor <;> (split <;> omega))]
        split <;> split <;> omega
      rw [em] at e2
      have A2 : absC M2 = up1 (absC M1) 24 q m := by rw [e2]; exact acS hq ho
      have K2 : cK M2 := by rw [e2]; exact (cK_sh K1 hq ho).1
      refine sp_Jfill2 hq ho K2 (fun M3 A3 K3 => h M3 ?_ K3)
      rw [A3, A2, A1]
      funext c i
      simp only [shB, up1, wr]
      repeat' split
      all_goals first | rfl | omega
    refine ⟨fun e => ⟨fun _ => ⟨fun z => absurd e z, fun _ => fin 0 (by decide) ?_⟩, fun z => absurd e z⟩, fun ne => ⟨fun hn => ⟨fun z => absurd z ne, fun _ => ⟨fun hm => ⟨fun _ => fin n ⟨hn, hm⟩ ?_, fun z => absurd z ne⟩, fun hm => errC (by decide) (by decide) hK ?_ h⟩⟩, fun hn => errC (by decide) (by decide) hK ((if_neg hc).trans (if_pos ⟨ne, hn⟩)) h⟩⟩
    · unfold S_sheet
      rw [if_neg hc, if_neg (fun z => z.1 e), if_neg (fun z => z.1 e), if_pos e]
    · unfold S_sheet
      rw [if_neg hc, if_neg (fun z => by omega), if_neg (fun z => by omega), if_neg ne]
    · exact (if_neg hc).trans ((if_neg (fun z => by omega)).trans (if_pos ⟨ne, hm⟩))
  rw [wI i2]
  refine ⟨fun e => go (Or.inl e), fun n0 => ⟨fun e => go (by omega), fun n8 => ⟨fun e => go (by omega), fun n16 => ⟨fun e => go (by omega), fun n32 => errC (by decide) (by decide) hK (if_pos (fun z => by omega)) h⟩⟩⟩⟩
-- images of the class
theorem sp_copy4F {o a : Nat} {M : gSt} {k : gSt → Prop} (ho : isRows o) (ha : isRows a) (hl : lenC (a + 1) = lenC (o + 1)) (hn : a ≠ o + 1) (h : ∀ M', (∀ p, p ≠ o → p ≠ o + 1 → M' p = M p) → M' o 3 = M a 3 → (∀ i, i ≠ 3 → M' o i = M o i) → (∀ j : Int, 0 ≤ j → j < (lenC (o + 1) : Int) → M' (o + 1) j = M (a + 1) j) → k M') : w_X4_copyFrom o a M k := by
  refine sp_copy4 ho ha hl hn (h _ (fun p h1 h2 => by rw [wrO' h1, cpyO h2]) wrI (fun i hi => by rw [wrN hi, cpyO (by omega)]) (fun j h0 h1 => ?_))
  rw [wrO (by omega)]
  unfold cpy
  rw [if_pos ⟨rfl, h0, by omega⟩, show 0 + (j - 0) = j from by omega]
theorem sp_copy0F {o a : Nat} {M : gSt} {k : gSt → Prop} (ho : isBronze o) (ha : isBronze a) (hl : lenC (a + 1) = lenC (o + 1)) (hn : a ≠ o + 1 ∧ a ≠ o) (h : ∀ M', (∀ p, p ≠ o → p ≠ o + 1 → M' p = M p) → M' o 1 = M a 1 → M' o 2 = M a 2 → M' o 3 = M a 3 → M' o 4 = M a 4 → (∀ j : Int, 0 ≤ j → j < (lenC (o + 1) : Int) → M' (o + 1) j = M (a + 1) j) → k M') : w_X0_copyFrom o a M k := by
  refine sp_copy0 ho ha hl hn (h _ (fun p h1 h2 => by rw [wrO' h1, wrO' h1, wrO' h1, wrO' h1, cpyO h2]) ?_ ?_ ?_ ?_ (fun j h0 h1 => ?_))
  · rw [wrN (by decide), wrN (by decide), wrN (by decide), wrI]
  · rw [wrN (by decide), wrN (by decide), wrI]
  · rw [wrN (by decide), wrI]
  · rw [wrI]
  · rw [wrO (by omega), wrO (by omega), wrO (by omega), wrO (by omega)]
    unfold cpy
    rw [if_pos ⟨rfl, h0, by omega⟩, show 0 + (j - 0) = j from by omega]
theorem sp_img20 {M : gSt} {k : gSt → Prop} (h : ∀ M', (∀ p, p < 20 ∨ 36 < p → M' p = M p) → M' 21 1 = M 2 1 → M' 21 2 = M 2 2 → M' 21 3 = M 2 3 → M' 21 4 = M 2 4 → M' 23 3 = M 4 3 → M' 25 3 = M 6 3 → M' 27 3 = M 8 3 → M' 29 3 = M 10 3 → M' 31 3 = M 12 3 → M' 33 3 = M 14 3 → M' 35 3 = M 16 3 → (∀ j, 0 ≤ j → j < 130 → M' 22 j = M 3 j) → (∀ j, 0 ≤ j → j < 60 → M' 24 j = M 5 j) → (∀ j, 0 ≤ j → j < 20 → M' 26 j = M 7 j) → (∀ j, 0 ≤ j → j < 18 → M' 28 j = M 9 j) → (∀ j, 0 ≤ j → j < 24 → M' 30 j = M 11 j) → (∀ j, 0 ≤ j → j < 24 → M' 32 j = M 13 j) → (∀ j, 0 ≤ j → j < 60 → M' 34 j = M 15 j) → (∀ j, 0 ≤ j → j < 60 → M' 36 j = M 17 j) → (∀ i, i ≠ 3 → M' 23 i = M 23 i ∧ M' 25 i = M 25 i ∧ M' 27 i = M 27 i ∧ M' 29 i = M 29 i ∧ M' 31 i = M 31 i ∧ M' 33 i = M 33 i ∧ M' 35 i = M 35 i) → k M') : w_X1_copyFrom 20 1 M k := by
  unfold w_X1_copyFrom
  refine ⟨pl_20, pl_1, sp_copy0F pl_21 pl_2 rfl (by decide) (fun M1 f1 b1 b2 b3 b4 c1 => sp_copy4F pl_23 pl_4 rfl (by decide) (fun M2 f2 s2 n2 c2 => sp_copy4F pl_25 pl_6 rfl (by decide) (fun M3 f3 s3 n3 c3 => sp_copy4F pl_27 pl_8 rfl (by decide) (fun M4 f4 s4 n4 c4 => sp_copy4F pl_29 pl_10 rfl (by decide) (fun M5 f5 s5 n5 c5 => sp_copy4F pl_31 pl_12 rfl (by decide) (fun M6 f6 s6 n6 c6 => sp_copy4F pl_33 pl_14 rfl (by decide) (fun M7 f7 s7 n7 c7 => sp_copy4F pl_35 pl_16 rfl (by decide) (fun M8 f8 s8 n8 c8 => ?_))))))))⟩
  exact h M8 (fun p hp => by rw [f8 p (by omega) (by omega), f7 p (by omega) (by omega), f6 p (by omega) (by omega), f5 p (by omega) (by omega), f4 p (by omega) (by omega), f3 p (by omega) (by omega), f2 p (by omega) (by omega), f1 p (by omega) (by omega)]) (by rw [f8 21 (by decide) (by decide), f7 21 (by decide) (by decide), f6 21 (by decide) (by decide), f5 21 (by decide) (by decide), f4 21 (by decide) (by decide), f3 21 (by decide) (by decide), f2 21 (by decide) (by decide)]; exact b1) (by rw [f8 21 (by decide) (by decide), f7 21 (by decide) (by decide), f6 21 (by decide) (by decide), f5 21 (by decide) (by decide), f4 21 (by decide) (by decide), f3 21 (by decide) (by decide), f2 21 (by decide) (by decide)]; exact b2) (by rw [f8 21 (by decide) (by decide), f7 21 (by decide) (by decide), f6 21 (by decide) (by decide), f5 21 (by decide) (by decide), f4 21 (by decide) (by decide), f3 21 (by decide) (by decide), f2 21 (by decide) (by decide)]; exact b3) (by rw [f8 21 (by decide) (by decide), f7 21 (by decide) (by decide), f6 21 (by decide) (by decide), f5 21 (by decide) (by decide), f4 21 (by decide) (by decide), f3 21 (by decide) (by decide), f2 21 (by decide) (by decide)]; exact b4) (by rw [f8 23 (by decide) (by decide), f7 23 (by decide) (by decide), f6 23 (by decide) (by decide), f5 23 (by decide) (by decide), f4 23 (by decide) (by decide), f3 23 (by decide) (by decide), s2, f1 4 (by decide) (by decide)]) (by rw [f8 25 (by decide) (by decide), f7 25 (by decide) (by decide), f6 25 (by decide) (by decide), f5 25 (by decide) (by decide), f4 25 (by decide) (by decide), s3, f2 6 (by decide) (by decide), f1 6 (by decide) (by decide)]) (by rw [f8 27 (by decide) (by decide), f7 27 (by decide) (by decide), f6 27 (by decide) (by decide), f5 27 (by decide) (by decide), s4, f3 8 (by decide) (by decide), f2 8 (by decide) (by decide), f1 8 (by decide) (by decide)]) (by rw [f8 29 (by decide) (by decide), f7 29 (by decide) (by decide), f6 29 (by decide) (by decide), s5, f4 10 (by decide) (by decide), f3 10 (by decide) (by decide), f2 10 (by decide) (by decide), f1 10 (by decide) (by decide)]) (by rw [f8 31 (by decide) (by decide), f7 31 (by decide) (by decide), s6, f5 12 (by decide) (by decide), f4 12 (by decide) (by decide), f3 12 (by decide) (by decide), f2 12 (by decide) (by decide), f1 12 (by decide) (by decide)]) (by rw [f8 33 (by decide) (by decide), s7, f6 14 (by decide) (by decide), f5 14 (by decide) (by decide), f4 14 (by decide) (by decide), f3 14 (by decide) (by decide), f2 14 (by decide) (by decide), f1 14 (by decide) (by decide)]) (by rw [s8, f7 16 (by decide) (by decide), f6 16 (by decide) (by decide), f5 16 (by decide) (by decide), f4 16 (by decide) (by decide), f3 16 (by decide) (by decide), f2 16 (by decide) (by decide), f1 16 (by decide) (by decide)]) (fun j h0 h1 => by rw [f8 22 (by decide) (by decide), f7 22 (by decide) (by decide), f6 22 (by decide) (by decide), f5 22 (by decide) (by decide), f4 22 (by decide) (by decide), f3 22 (by decide) (by decide), f2 22 (by decide) (by decide), c1 j h0 h1]) (fun j h0 h1 => by rw [f8 24 (by decide) (by decide), f7 24 (by decide) (by decide), f6 24 (by decide) (by decide), f5 24 (by decide) (by decide), f4 24 (by decide) (by decide), f3 24 (by decide) (by decide), c2 j h0 h1, f1 5 (by decide) (by decide)]) (fun j h0 h1 => by rw [f8 26 (by decide) (by decide), f7 26 (by decide) (by decide), f6 26 (by decide) (by decide), f5 26 (by decide) (by decide), f4 26 (by decide) (by decide), c3 j h0 h1, f2 7 (by decide) (by decide), f1 7 (by decide) (by decide)]) (fun j h0 h1 => by rw [f8 28 (by decide) (by decide), f7 28 (by decide) (by decide), f6 28 (by decide) (by decide), f5 28 (by decide) (by decide), c4 j h0 h1, f3 9 (by decide) (by decide), f2 9 (by decide) (by decide), f1 9 (by decide) (by decide)]) (fun j h0 h1 => by rw [f8 30 (by decide) (by decide), f7 30 (by decide) (by decide), f6 30 (by decide) (by decide), c5 j h0 h1, f4 11 (by decide) (by decide), f3 11 (by decide) (by decide), f2 11 (by decide) (by decide), f1 11 (by decide) (by decide)]) (fun j h0 h1 => by rw [f8 32 (by decide) (by decide), f7 32 (by decide) (by decide), c6 j h0 h1, f5 13 (by decide) (by decide), f4 13 (by decide) (by decide), f3 13 (by decide) (by decide), f2 13 (by decide) (by decide), f1 13 (by decide) (by decide)]) (fun j h0 h1 => by rw [f8 34 (by decide) (by decide), c7 j h0 h1, f6 15 (by decide) (by decide), f5 15 (by decide) (by decide), f4 15 (by decide) (by decide), f3 15 (by decide) (by decide), f2 15 (by decide) (by decide), f1 15 (by decide) (by decide)]) (fun j h0 h1 => by rw [c8 j h0 h1, f7 17 (by decide) (by decide), f6 17 (by decide) (by decide), f5 17 (by decide) (by decide), f4 17 (by decide) (by decide), f3 17 (by decide) (by decide), f2 17 (by decide) (by decide), f1 17 (by decide) (by decide)]) (fun i hi => ⟨by rw [f8 23 (by decide) (by decide), f7 23 (by decide) (by decide), f6 23 (by decide) (by decide), f5 23 (by decide) (by decide), f4 23 (by decide) (by decide), f3 23 (by decide) (by decide), n2 i hi, f1 23 (by decide) (by decide)], by rw [f8 25 (by decide) (by decide), f7 25 (by decide) (by decide), f6 25 (by decide) (by decide), f5 25 (by decide) (by decide), f4 25 (by decide) (by decide), n3 i hi, f2 25 (by decide) (by decide), f1 25 (by decide) (by decide)], by rw [f8 27 (by decide) (by decide), f7 27 (by decide) (by decide), f6 27 (by decide) (by decide), f5 27 (by decide) (by decide), n4 i hi, f3 27 (by decide) (by decide), f2 27 (by decide) (by decide), f1 27 (by decide) (by decide)], by rw [f8 29 (by decide) (by decide), f7 29 (by decide) (by decide), f6 29 (by decide) (by decide), n5 i hi, f4 29 (by decide) (by decide), f3 29 (by decide) (by decide), f2 29 (by decide) (by decide), f1 29 (by decide) (by decide)], by rw [f8 31 (by decide) (by decide), f7 31 (by decide) (by decide), n6 i hi, f5 31 (by decide) (by decide), f4 31 (by decide) (by decide), f3 31 (by decide) (by decide), f2 31 (by decide) (by decide), f1 31 (by decide) (by decide)], by rw [f8 33 (by decide) (by decide), n7 i hi, f6 33 (by decide) (by decide), f5 33 (by decide) (by decide), f4 33 (by decide) (by decide), f3 33 (by decide) (by decide), f2 33 (by decide) (by decide), f1 33 (by decide) (by decide)], by rw [n8 i hi, f7 35 (by decide) (by decide), f6 35 (by decide) (by decide), f5 35 (by decide) (by decide), f4 35 (by decide) (by decide), f3 35 (by decide) (by decide), f2 35 (by decide) (by decide), f1 35 (by decide) (by decide)]⟩)
theorem sp_img1 {M : gSt} {k : gSt → Prop} (h : ∀ M', (∀ p, p < 1 ∨ 17 < p → M' p = M p) → M' 2 1 = M 21 1 → M' 2 2 = M 21 2 → M' 2 3 = M 21 3 → M' 2 4 = M 21 4 → M' 4 3 = M 23 3 → M' 6 3 = M 25 3 → M' 8 3 = M 27 3 → M' 10 3 = M 29 3 → M' 12 3 = M 31 3 → M' 14 3 = M 33 3 → M' 16 3 = M 35 3 → (∀ j, 0 ≤ j → j < 130 → M' 3 j = M 22 j) → (∀ j, 0 ≤ j → j < 60 → M' 5 j = M 24 j) → (∀ j, 0 ≤ j → j < 20 → M' 7 j = M 26 j) → (∀ j, 0 ≤ j → j < 18 → M' 9 j = M 28 j) → (∀ j, 0 ≤ j → j < 24 → M' 11 j = M 30 j) → (∀ j, 0 ≤ j → j < 24 → M' 13 j = M 32 j) → (∀ j, 0 ≤ j → j < 60 → M' 15 j = M 34 j) → (∀ j, 0 ≤ j → j < 60 → M' 17 j = M 36 j) → (∀ i, i ≠ 3 → M' 4 i = M 4 i ∧ M' 6 i = M 6 i ∧ M' 8 i = M 8 i ∧ M' 10 i = M 10 i ∧ M' 12 i = M 12 i ∧ M' 14 i = M 14 i ∧ M' 16 i = M 16 i) → k M') : w_X1_copyFrom 1 20 M k := by
  unfold w_X1_copyFrom
  refine ⟨pl_1, pl_20, sp_copy0F pl_2 pl_21 rfl (by decide) (fun M1 f1 b1 b2 b3 b4 c1 => sp_copy4F pl_4 pl_23 rfl (by decide) (fun M2 f2 s2 n2 c2 => sp_copy4F pl_6 pl_25 rfl (by decide) (fun M3 f3 s3 n3 c3 => sp_copy4F pl_8 pl_27 rfl (by decide) (fun M4 f4 s4 n4 c4 => sp_copy4F pl_10 pl_29 rfl (by decide) (fun M5 f5 s5 n5 c5 => sp_copy4F pl_12 pl_31 rfl (by decide) (fun M6 f6 s6 n6 c6 => sp_copy4F pl_14 pl_33 rfl (by decide) (fun M7 f7 s7 n7 c7 => sp_copy4F pl_16 pl_35 rfl (by decide) (fun M8 f8 s8 n8 c8 => ?_))))))))⟩
  exact h M8 (fun p hp => by rw [f8 p (by omega) (by omega), f7 p (by omega) (by omega), f6 p (by omega) (by omega), f5 p (by omega) (by omega), f4 p (by omega) (by omega), f3 p (by omega) (by omega), f2 p (by omega) (by omega), f1 p (by omega) (by omega)]) (by rw [f8 2 (by decide) (by decide), f7 2 (by decide) (by decide), f6 2 (by decide) (by decide), f5 2 (by decide) (by decide), f4 2 (by decide) (by decide), f3 2 (by decide) (by decide), f2 2 (by decide) (by decide)]; exact b1) (by rw [f8 2 (by decide) (by decide), f7 2 (by decide) (by decide), f6 2 (by decide) (by decide), f5 2 (by decide) (by decide), f4 2 (by decide) (by decide), f3 2 (by decide) (by decide), f2 2 (by decide) (by decide)]; exact b2) (by rw [f8 2 (by decide) (by decide), f7 2 (by decide) (by decide), f6 2 (by decide) (by decide), f5 2 (by decide) (by decide), f4 2 (by decide) (by decide), f3 2 (by decide) (by decide), f2 2 (by decide) (by decide)]; exact b3) (by rw [f8 2 (by decide) (by decide), f7 2 (by decide) (by decide), f6 2 (by decide) (by decide), f5 2 (by decide) (by decide), f4 2 (by decide) (by decide), f3 2 (by decide) (by decide), f2 2 (by decide) (by decide)]; exact b4) (by rw [f8 4 (by decide) (by decide), f7 4 (by decide) (by decide), f6 4 (by decide) (by decide), f5 4 (by decide) (by decide), f4 4 (by decide) (by decide), f3 4 (by decide) (by decide), s2, f1 23 (by decide) (by decide)]) (by rw [f8 6 (by decide) (by decide), f7 6 (by decide) (by decide), f6 6 (by decide) (by decide), f5 6 (by decide) (by decide), f4 6 (by decide) (by decide), s3, f2 25 (by decide) (by decide), f1 25 (by decide) (by decide)]) (by rw [f8 8 (by decide) (by decide), f7 8 (by decide) (by decide), f6 8 (by decide) (by decide), f5 8 (by decide) (by decide), s4, f3 27 (by decide) (by decide), f2 27 (by decide) (by decide), f1 27 (by decide) (by decide)]) (by rw [f8 10 (by decide) (by decide), f7 10 (by decide) (by decide), f6 10 (by decide) (by decide), s5, f4 29 (by decide) (by decide), f3 29 (by decide) (by decide), f2 29 (by decide) (by decide), f1 29 (by decide) (by decide)]) (by rw [f8 12 (by decide) (by decide), f7 12 (by decide) (by decide), s6, f5 31 (by decide) (by decide), f4 31 (by decide) (by decide), f3 31 (by decide) (by decide), f2 31 (by decide) (by decide), f1 31 (by decide) (by decide)]) (by rw [f8 14 (by decide) (by decide), s7, f6 33 (by decide) (by decide), f5 33 (by decide) (by decide), f4 33 (by decide) (by decide), f3 33 (by decide) (by decide), f2 33 (by decide) (by decide), f1 33 (by decide) (by decide)]) (by rw [s8, f7 35 (by decide) (by decide), f6 35 (by decide) (by decide), f5 35 (by decide) (by decide), f4 35 (by decide) (by decide), f3 35 (by decide) (by decide), f2 35 (by decide) (by decide), f1 35 (by decide) (by decide)]) (fun j h0 h1 => by rw [f8 3 (by decide) (by decide), f7 3 (by decide) (by decide), f6 3 (by decide) (by decide), f5 3 (by decide) (by decide), f4 3 (by decide) (by decide), f3 3 (by decide) (by decide), f2 3 (by decide) (by decide), c1 j h0 h1]) (fun j h0 h1 => by rw [f8 5 (by decide) (by decide), f7 5 (by decide) (by decide), f6 5 (by decide) (by decide), f5 5 (by decide) (by decide), f4 5 (by decide) (by decide), f3 5 (by decide) (by decide), c2 j h0 h1, f1 24 (by decide) (by decide)]) (fun j h0 h1 => by rw [f8 7 (by decide) (by decide), f7 7 (by decide) (by decide), f6 7 (by decide) (by decide), f5 7 (by decide) (by decide), f4 7 (by decide) (by decide), c3 j h0 h1, f2 26 (by decide) (by decide), f1 26 (by decide) (by decide)]) (fun j h0 h1 => by rw [f8 9 (by decide) (by decide), f7 9 (by decide) (by decide), f6 9 (by decide) (by decide), f5 9 (by decide) (by decide), c4 j h0 h1, f3 28 (by decide) (by decide), f2 28 (by decide) (by decide), f1 28 (by decide) (by decide)]) (fun j h0 h1 => by rw [f8 11 (by decide) (by decide), f7 11 (by decide) (by decide), f6 11 (by decide) (by decide), c5 j h0 h1, f4 30 (by decide) (by decide), f3 30 (by decide) (by decide), f2 30 (by decide) (by decide), f1 30 (by decide) (by decide)]) (fun j h0 h1 => by rw [f8 13 (by decide) (by decide), f7 13 (by decide) (by decide), c6 j h0 h1, f5 32 (by decide) (by decide), f4 32 (by decide) (by decide), f3 32 (by decide) (by decide), f2 32 (by decide) (by decide), f1 32 (by decide) (by decide)]) (fun j h0 h1 => by rw [f8 15 (by decide) (by decide), c7 j h0 h1, f6 34 (by decide) (by decide), f5 34 (by decide) (by decide), f4 34 (by decide) (by decide), f3 34 (by decide) (by decide), f2 34 (by decide) (by decide), f1 34 (by decide) (by decide)]) (fun j h0 h1 => by rw [c8 j h0 h1, f7 36 (by decide) (by decide), f6 36 (by decide) (by decide), f5 36 (by decide) (by decide), f4 36 (by decide) (by decide), f3 36 (by decide) (by decide), f2 36 (by decide) (by decide), f1 36 (by decide) (by decide)]) (fun i hi => ⟨by rw [f8 4 (by decide) (by decide), f7 4 (by decide) (by decide), f6 4 (by decide) (by decide), f5 4 (by decide) (by decide), f4 4 (by decide) (by decide), f3 4 (by decide) (by decide), n2 i hi, f1 4 (by decide) (by decide)], by rw [f8 6 (by decide) (by decide), f7 6 (by decide) (by decide), f6 6 (by decide) (by decide), f5 6 (by decide) (by decide), f4 6 (by decide) (by decide), n3 i hi, f2 6 (by decide) (by decide), f1 6 (by decide) (by decide)], by rw [f8 8 (by decide) (by decide), f7 8 (by decide) (by decide), f6 8 (by decide) (by decide), f5 8 (by decide) (by decide), n4 i hi, f3 8 (by decide) (by decide), f2 8 (by decide) (by decide), f1 8 (by decide) (by decide)], by rw [f8 10 (by decide) (by decide), f7 10 (by decide) (by decide), f6 10 (by decide) (by decide), n5 i hi, f4 10 (by decide) (by decide), f3 10 (by decide) (by decide), f2 10 (by decide) (by decide), f1 10 (by decide) (by decide)], by rw [f8 12 (by decide) (by decide), f7 12 (by decide) (by decide), n6 i hi, f5 12 (by decide) (by decide), f4 12 (by decide) (by decide), f3 12 (by decide) (by decide), f2 12 (by decide) (by decide), f1 12 (by decide) (by decide)], by rw [f8 14 (by decide) (by decide), n7 i hi, f6 14 (by decide) (by decide), f5 14 (by decide) (by decide), f4 14 (by decide) (by decide), f3 14 (by decide) (by decide), f2 14 (by decide) (by decide), f1 14 (by decide) (by decide)], by rw [n8 i hi, f7 16 (by decide) (by decide), f6 16 (by decide) (by decide), f5 16 (by decide) (by decide), f4 16 (by decide) (by decide), f3 16 (by decide) (by decide), f2 16 (by decide) (by decide), f1 16 (by decide) (by decide)]⟩)
theorem cK_img {M M' : gSt} {d : Nat} (hd : d = 20 ∨ d = 1) (hK : cK M) (f : ∀ p, p < d ∨ d + 16 < p → M' p = M p) (nk : ∀ i, i ≠ 3 → ∀ r, (r = 3 ∨ r = 5 ∨ r = 7 ∨ r = 9 ∨ r = 11 ∨ r = 13 ∨ r = 15) → M' (d + r) i = M (d + r) i) : cK M' := by
  refine ⟨fun q hq => ?_, by rw [f 53 (by omega)]; exact hK.2⟩
  have hb : (q.1 < d ∨ d + 16 < q.1) ∨ ∃ r, (r = 3 ∨ r = 5 ∨ r = 7 ∨ r = 9 ∨ r = 11 ∨ r = 13 ∨ r = 15) ∧ q.1 = d + r := by
    simp only [cRows, List.mem_cons, List.not_mem_nil, or_false] at hq
    rcases hd with rfl | rfl
    · rcases hq with rfl | rfl | rfl | rfl | rfl | rfl | rfl | rfl | rfl | rfl | rfl | rfl | rfl | rfl | rfl | rfl | rfl | rfl
      all_goals first | exact Or.inl (by decide) | exact Or.inr ⟨3, by decide, rfl⟩ | exact Or.inr ⟨5, by decide, rfl⟩ | exact Or.inr ⟨7, by decide, rfl⟩ | exact Or.inr ⟨9, by decide, rfl⟩ | exact Or.inr ⟨11, by decide, rfl⟩ | exact Or.inr ⟨13, by decide, rfl⟩ | exact Or.inr ⟨15, by decide, rfl⟩
    · rcases hq with rfl | rfl | rfl | rfl | rfl | rfl | rfl | rfl | rfl | rfl | rfl | rfl | rfl | rfl | rfl | rfl | rfl | rfl
      all_goals first | exact Or.inl (by decide) | exact Or.inr ⟨3, by decide, rfl⟩ | exact Or.inr ⟨5, by decide, rfl⟩ | exact Or.inr ⟨7, by decide, rfl⟩ | exact Or.inr ⟨9, by decide, rfl⟩ | exact Or.inr ⟨11, by decide, rfl⟩ | exact Or.inr ⟨13, by decide, rfl⟩ | exact Or.inr ⟨15, by decide, rfl⟩
  rcases hb with hb | ⟨r, hr, hb⟩
  · rw [f _ hb]; exact hK.1 q hq
  · rw [hb, nk 0 (by decide) r hr, nk 2 (by decide) r hr, ← hb]; exact hK.1 q hq
theorem sC_image {M : gSt} {k : Int → gSt → Prop} (I : iN (absC M)) (hi : 0 ≤ absC M 21 0) (hK : cK M) (h : ∀ M', absC M' = (S_image (absC M)).2 → cK M' → k (S_image (absC M)).1 M') : w_X8_image M k := by
  unfold iN at I
  rw [rc210] at hi
  have n9 := rc09 M
  have n10 := rc010 M
  unfold w_X8_image
  refine sp_img20 (fun M1 fM e1 e2 e3 e4 g3 g5 g7 g9 g11 g13 g15 a2 a4 a6 a8 a10 a12 a14 a16 nk => ?_)
  intro M2 e2'
  have im : M1 0 8 = M 0 8 := by rw [fM 0 (by omega)]
  rw [im] at e2'
  have v : M2 0 8 = M 0 8 + 1 := by rw [e2', wrI]
  have mo : ∀ p, p ≠ 0 → M2 p = M1 p := fun p hp => by rw [e2', wrO' hp]
  have nz : ¬ M2 0 8 = 0 := by omega
  rw [v]
  have K1 : cK M1 := cK_img (d := 20) (Or.inl rfl) hK fM (fun i hi r hr => by rcases hr with rfl | rfl | rfl | rfl | rfl | rfl | rfl <;> first | exact (nk i hi).1 | exact (nk i hi).2.1 | exact (nk i hi).2.2.1 | exact (nk i hi).2.2.2.1 | exact (nk i hi).2.2.2.2.1 | exact (nk i hi).2.2.2.2.2.1 | exact (nk i hi).2.2.2.2.2.2)
  have K2 : cK M2 := by rw [e2']; exact cK_wr K1 (Or.inr (by decide))
  have ans : (S_image (absC M)).1 = M 0 8 + 1 := by show absC M 21 0 + 1 = _; rw [rc210]
  rw [ans] at h
  refine h M2 ?_ K2
  funext c i
  show absC M2 c i = imgσ (absC M) c i
  match c with
  | 0 =>
    rw [show imgσ (absC M) 0 i = absC M 0 i from by simp [imgσ]]
    simp only [absC]
    simp [mo, fM]
  | 1 =>
    rw [show imgσ (absC M) 1 i = absC M 1 i from by simp [imgσ]]
    simp only [absC]
    simp [mo, fM]
  | 2 =>
    rw [show imgσ (absC M) 2 i = absC M 2 i from by simp [imgσ]]
    simp only [absC]
    simp [mo, fM]
  | 3 =>
    rw [show imgσ (absC M) 3 i = absC M 3 i from by simp [imgσ]]
    simp only [absC]
    simp [mo, fM]
  | 4 =>
    rw [show imgσ (absC M) 4 i = absC M 4 i from by simp [imgσ]]
    simp only [absC]
    simp [mo, fM]
  | 5 =>
    rw [show imgσ (absC M) 5 i = absC M 5 i from by simp [imgσ]]
    simp only [absC]
    simp [mo, fM]
  | 6 =>
    rw [show imgσ (absC M) 6 i = absC M 6 i from by simp [imgσ]]
    simp only [absC]
    simp [mo, fM]
  | 7 =>
    rw [show imgσ (absC M) 7 i = absC M 7 i from by simp [imgσ]]
    simp only [absC]
    simp [mo, fM]
  | 8 =>
    rw [show imgσ (absC M) 8 i = absC M 8 i from by simp [imgσ]]
    simp only [absC]
    simp [mo, fM]
  | 9 => simp [imgσ, absC]
  | 10 =>
    rw [show imgσ (absC M) 10 i = absC M 0 i from by simp [imgσ]]
    simp only [absC]
    rw [if_neg nz]
    simp only [mo _ (by decide : (21 : Nat) ≠ 0), mo _ (by decide : (25 : Nat) ≠ 0), mo _ (by decide : (27 : Nat) ≠ 0), mo _ (by decide : (29 : Nat) ≠ 0), mo _ (by decide : (23 : Nat) ≠ 0), mo _ (by decide : (31 : Nat) ≠ 0), mo _ (by decide : (33 : Nat) ≠ 0), mo _ (by decide : (35 : Nat) ≠ 0), e1, e2, e3, e4, g3, g5, g7, g9, g11, g13, g15]
  | 11 =>
    rw [show imgσ (absC M) 11 i = absC M 1 i from by simp [imgσ]]
    simp only [absC]
    rw [if_neg nz, mo _ (by decide : (22 : Nat) ≠ 0)]
    exact congrFun (msk_congr (fun j h0 h1 => a2 j h0 h1)) i
  | 12 =>
    rw [show imgσ (absC M) 12 i = absC M 2 i from by simp [imgσ]]
    simp only [absC]
    rw [if_neg nz, mo _ (by decide : (26 : Nat) ≠ 0)]
    exact congrFun (msk_congr (fun j h0 h1 => a6 j h0 h1)) i
  | 13 =>
    rw [show imgσ (absC M) 13 i = absC M 3 i from by simp [imgσ]]
    simp only [absC]
    rw [if_neg nz, mo _ (by decide : (28 : Nat) ≠ 0)]
    exact congrFun (msk_congr (fun j h0 h1 => a8 j h0 h1)) i
  | 14 =>
    rw [show imgσ (absC M) 14 i = absC M 4 i from by simp [imgσ]]
    simp only [absC]
    rw [if_neg nz, mo _ (by decide : (30 : Nat) ≠ 0)]
    exact congrFun (msk_congr (fun j h0 h1 => a10 j h0 h1)) i
  | 15 =>
    rw [show imgσ (absC M) 15 i = absC M 5 i from by simp [imgσ]]
    simp only [absC]
    rw [if_neg nz, mo _ (by decide : (24 : Nat) ≠ 0)]
    exact congrFun (msk_congr (fun j h0 h1 => a4 j h0 h1)) i
  | 16 =>
    rw [show imgσ (absC M) 16 i = absC M 6 i from by simp [imgσ]]
    simp only [absC]
    rw [if_neg nz, mo _ (by decide : (32 : Nat) ≠ 0)]
    exact congrFun (msk_congr (fun j h0 h1 => a12 j h0 h1)) i
  | 17 =>
    rw [show imgσ (absC M) 17 i = absC M 7 i from by simp [imgσ]]
    simp only [absC]
    rw [if_neg nz, mo _ (by decide : (33 : Nat) ≠ 0), mo _ (by decide : (34 : Nat) ≠ 0), g13]
    exact congrFun (msk_congr (fun j h0 h1 => a14 j h0 (by omega))) i
  | 18 =>
    rw [show imgσ (absC M) 18 i = absC M 8 i from by simp [imgσ]]
    simp only [absC]
    rw [if_neg nz, mo _ (by decide : (35 : Nat) ≠ 0), mo _ (by decide : (36 : Nat) ≠ 0), g15]
    exact congrFun (msk_congr (fun j h0 h1 => a16 j h0 (by omega))) i
  | 19 => simp [imgσ, absC]
  | 20 => simp [imgσ, absC]
  | 21 =>
    by_cases i0 : i = 0
    · subst i0; simp [imgσ, absC, v]
    · simp [imgσ, absC, i0]
  | 22 => simp [imgσ, absC]
  | 23 =>
    rw [show imgσ (absC M) 23 i = absC M 23 i from by simp [imgσ]]
    simp only [absC]
    simp [mo, fM]
  | 24 =>
    rw [show imgσ (absC M) 24 i = absC M 24 i from by simp [imgσ]]
    simp only [absC]
    simp [mo, fM]
  | 25 =>
    rw [show imgσ (absC M) 25 i = absC M 25 i from by simp [imgσ]]
    simp only [absC]
    simp [mo, fM]
  | n + 26 =>
    show (0 : Int) = imgσ (absC M) (n + 26) i
    unfold imgσ
    rw [if_neg (by omega), if_neg (by omega)]
    rfl
theorem sC_restore {M : gSt} {k : Int → gSt → Prop} (hi : 0 ≤ absC M 21 0 ∧ absC M 21 0 < 1000000) (ht : absC M 21 0 ≠ 0 → absC M 10 9 ≤ 60 ∧ absC M 10 10 ≤ 60) (hK : cK M) (h : ∀ M', absC M' = (S_restore (absC M)).2 → cK M' → k (S_restore (absC M)).1 M') : w_X8_restore M k := by
  rw [rc210] at hi ht
  unfold w_X8_restore
  rw [wI (x := M 0 8) ⟨by omega, by omega⟩]
  refine ⟨fun nz => ?_, fun z => errC (S := S_restore (absC M)) (by decide) (by decide) hK (if_pos (by rw [rc210]; exact z)) h⟩
  have hS : S_restore (absC M) = (absC M 10 5, rstσ (absC M)) := if_neg (by rw [rc210]; exact nz)
  rw [hS] at h
  have t := ht nz
  have n9 : absC M 10 9 = M 33 3 := by simp [absC, nz]
  have n10 : absC M 10 10 = M 35 3 := by simp [absC, nz]
  refine sp_img1 (fun M1 fM e1 e2 e3 e4 g3 g5 g7 g9 g11 g13 g15 a2 a4 a6 a8 a10 a12 a14 a16 nk => ?_)
  unfold w_X0_yearsSoFar
  refine ⟨pl_2, ?_⟩
  dsimp only
  have v : M1 2 3 = absC M 10 5 := by rw [e3]; simp [absC, nz]
  rw [v]
  have K1 : cK M1 := cK_img (d := 1) (Or.inr rfl) hK fM (fun i hi r hr => by rcases hr with rfl | rfl | rfl | rfl | rfl | rfl | rfl <;> first | exact (nk i hi).1 | exact (nk i hi).2.1 | exact (nk i hi).2.2.1 | exact (nk i hi).2.2.2.1 | exact (nk i hi).2.2.2.2.1 | exact (nk i hi).2.2.2.2.2.1 | exact (nk i hi).2.2.2.2.2.2)
  have im : M1 0 8 = M 0 8 := by rw [fM 0 (by omega)]
  refine h M1 ?_ K1
  funext c i
  show absC M1 c i = rstσ (absC M) c i
  match c with
  | 0 =>
    rw [show rstσ (absC M) 0 i = absC M 10 i from by simp [rstσ]]
    simp only [absC]
    rw [if_neg nz]
    simp only [e1, e2, e3, e4, g3, g5, g7, g9, g11, g13, g15]
  | 1 =>
    rw [show rstσ (absC M) 1 i = absC M 11 i from by simp [rstσ]]
    simp only [absC]
    rw [if_neg nz]
    exact congrFun (msk_congr (fun j h0 h1 => a2 j h0 h1)) i
  | 2 =>
    rw [show rstσ (absC M) 2 i = absC M 12 i from by simp [rstσ]]
    simp only [absC]
    rw [if_neg nz]
    exact congrFun (msk_congr (fun j h0 h1 => a6 j h0 h1)) i
  | 3 =>
    rw [show rstσ (absC M) 3 i = absC M 13 i from by simp [rstσ]]
    simp only [absC]
    rw [if_neg nz]
    exact congrFun (msk_congr (fun j h0 h1 => a8 j h0 h1)) i
  | 4 =>
    rw [show rstσ (absC M) 4 i = absC M 14 i from by simp [rstσ]]
    simp only [absC]
    rw [if_neg nz]
    exact congrFun (msk_congr (fun j h0 h1 => a10 j h0 h1)) i
  | 5 =>
    rw [show rstσ (absC M) 5 i = absC M 15 i from by simp [rstσ]]
    simp only [absC]
    rw [if_neg nz]
    exact congrFun (msk_congr (fun j h0 h1 => a4 j h0 h1)) i
  | 6 =>
    rw [show rstσ (absC M) 6 i = absC M 16 i from by simp [rstσ]]
    simp only [absC]
    rw [if_neg nz]
    exact congrFun (msk_congr (fun j h0 h1 => a12 j h0 h1)) i
  | 7 =>
    rw [show rstσ (absC M) 7 i = absC M 17 i from by simp [rstσ]]
    simp only [absC]
    rw [if_neg nz, g13]
    exact congrFun (msk_congr (fun j h0 h1 => a14 j h0 (by omega))) i
  | 8 =>
    rw [show rstσ (absC M) 8 i = absC M 18 i from by simp [rstσ]]
    simp only [absC]
    rw [if_neg nz, g15]
    exact congrFun (msk_congr (fun j h0 h1 => a16 j h0 (by omega))) i
  | 9 => simp [rstσ, absC]
  | 10 =>
    rw [show rstσ (absC M) 10 i = absC M 10 i from by simp [rstσ]]
    simp only [absC]
    simp [fM]
  | 11 =>
    rw [show rstσ (absC M) 11 i = absC M 11 i from by simp [rstσ]]
    simp only [absC]
    simp [fM]
  | 12 =>
    rw [show rstσ (absC M) 12 i = absC M 12 i from by simp [rstσ]]
    simp only [absC]
    simp [fM]
  | 13 =>
    rw [show rstσ (absC M) 13 i = absC M 13 i from by simp [rstσ]]
    simp only [absC]
    simp [fM]
  | 14 =>
    rw [show rstσ (absC M) 14 i = absC M 14 i from by simp [rstσ]]
    simp only [absC]
    simp [fM]
  | 15 =>
    rw [show rstσ (absC M) 15 i = absC M 15 i from by simp [rstσ]]
    simp only [absC]
    simp [fM]
  | 16 =>
    rw [show rstσ (absC M) 16 i = absC M 16 i from by simp [rstσ]]
    simp only [absC]
    simp [fM]
  | 17 =>
    rw [show rstσ (absC M) 17 i = absC M 17 i from by simp [rstσ]]
    simp only [absC]
    simp [fM]
  | 18 =>
    rw [show rstσ (absC M) 18 i = absC M 18 i from by simp [rstσ]]
    simp only [absC]
    simp [fM]
  | 19 => simp [rstσ, absC]
  | 20 => simp [rstσ, absC]
  | 21 =>
    rw [show rstσ (absC M) 21 i = absC M 21 i from by simp [rstσ]]
    simp only [absC]
    simp [fM]
  | 22 => simp [rstσ, absC]
  | 23 =>
    rw [show rstσ (absC M) 23 i = absC M 23 i from by simp [rstσ]]
    simp only [absC]
    simp [fM]
  | 24 =>
    rw [show rstσ (absC M) 24 i = absC M 24 i from by simp [rstσ]]
    simp only [absC]
    simp [fM]
  | 25 =>
    rw [show rstσ (absC M) 25 i = absC M 25 i from by simp [rstσ]]
    simp only [absC]
    simp [fM]
  | n + 26 =>
    show (0 : Int) = rstσ (absC M) (n + 26) i
    unfold rstσ
    rw [if_neg (by omega)]
    rfl
end
