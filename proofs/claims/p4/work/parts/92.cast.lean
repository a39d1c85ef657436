-- a cast
def tinG (tin : Int) (σ : gSt) : Int := cap (σ 1 (10 * 12 + 2) + tin) 9999999
def tin0 (tin : Int) (σ : gSt) : gSt := up1 (up1 σ 1 (10 * 12 + 2) (tinG tin σ)) 1 (10 * 12 + 3) (cap (σ 1 (10 * 12 + 3) + tin) (tinG tin σ))
def tinH (tin : Int) (σ : gSt) (w : Int) : Int := qz (σ 1 (10 * 12 + w) * σ 1 (10 * 12 + 2)) (tinG tin σ)
def tinσ (tin : Int) (σ : gSt) : gSt := setW (tin0 tin σ) 1 12 6 10 (tinH tin σ)
def crL (burn : Int) (σ : gSt) (w : Int) : Int := if w < 6 then σ 1 (10 * 12 + w) - σ 1 (10 * 12 + w) * burn / 100 else σ 1 (10 * 12 + w)
def crS (burn keep : Int) (σ : gSt) (w : Int) : Int := if w < 6 then crL burn σ w * keep / 10 else crL burn σ w
def crT (burn keep : Int) (σ : gSt) (w : Int) : Int := if w < 6 then crL burn σ w - crL burn σ w * keep / 10 else crL burn σ w
def crN (km keep : Int) (σ : gSt) : gSt := if 0 < keep then addT (addT σ km) 600 else addT σ km
def castσ (km tin burn keep : Int) (σ : gSt) : gSt := fun p i =>
  if p = 1 ∧ 10 * 12 + 2 ≤ i ∧ i < 10 * 12 + 10 then 0
  else if p = 1 ∧ 10 * σ 0 0 + 2 ≤ i ∧ i < 10 * σ 0 0 + 10 then crT burn keep (tinσ tin σ) (i - 10 * σ 0 0)
  else if p = 1 ∧ 0 < keep ∧ 10 * (σ 0 0 + 1) + 2 ≤ i ∧ i < 10 * (σ 0 0 + 1) + 10 then crS burn keep (tinσ tin σ) (i - 10 * (σ 0 0 + 1))
  else crN km keep (tinσ tin σ) p i
def vCast (a b c : Int) : Prop := (0 ≤ a ∧ a ≤ 699) ∧ (0 ≤ b ∧ b ≤ 9999) ∧ (0 ≤ c ∧ c ≤ 990) ∧ c % 10 = 0
def S_cast (km tin law : Int) (σ : gSt) : Int × gSt :=
  if ¬ ((0 ≤ km ∧ km ≤ 699) ∧ (0 ≤ tin ∧ tin ≤ 9999) ∧ (0 ≤ law ∧ law ≤ 990) ∧ law % 10 = 0) then S_err σ 1
  else if σ 1 (10 * 12 + 2) = 0 then S_err σ 3
  else if 12 < σ 0 0 + (if 0 < law / 10 % 10 then 2 else 1) then S_err σ 4
  else (σ 0 0, castσ km tin (law / 100) (law / 10 % 10) σ)
/-- the crucible has neither KIND nor m -/
def iCr (σ : gSt) : Prop := σ 1 (10 * 12 + 0) = 0 ∧ σ 1 (10 * 12 + 1) = 0
theorem tinσ_0 {tin : Int} {σ : gSt} {c : Nat} (hc : c ≠ 1) : tinσ tin σ c = σ c := by
  unfold tinσ tin0
  rw [setW_c hc]
  funext i
  rw [up1_o hc, up1_o hc]
/-- the crucible's cells behind the tin -/
theorem tinσ_v {tin : Int} {σ : gSt} (T : thOk (σ 1) (10 * 12)) (ht : 0 ≤ tin ∧ tin ≤ 9999) (hg : 0 < σ 1 (10 * 12 + 2)) : (∀ w, 2 ≤ w → w ≤ 5 → 0 ≤ tinσ tin σ 1 (10 * 12 + w) ∧ tinσ tin σ 1 (10 * 12 + w) ≤ tinG tin σ) ∧ (∀ w, 6 ≤ w → w ≤ 9 → 0 ≤ tinσ tin σ 1 (10 * 12 + w) ∧ tinσ tin σ 1 (10 * 12 + w) ≤ 1000000) ∧ 0 < tinG tin σ ∧ tinG tin σ ≤ 9999999 ∧ tinσ tin σ 1 (10 * 12 + 2) = tinG tin σ ∧ ∀ w, w < 2 → tinσ tin σ 1 (10 * 12 + w) = σ 1 (10 * 12 + w) := by
  unfold thOk at T
  have gG : 0 < tinG tin σ ∧ tinG tin σ ≤ 9999999 ∧ σ 1 (10 * 12 + 2) ≤ tinG tin σ := by
    unfold tinG cap
    split <;> omega
  have v2 : tinσ tin σ 1 (10 * 12 + 2) = tinG tin σ := by
    unfold tinσ tin0
    rw [setW_n (by decide), up1_n (by decide), up1_i]
  have v3 : tinσ tin σ 1 (10 * 12 + 3) = cap (σ 1 (10 * 12 + 3) + tin) (tinG tin σ) := by
    unfold tinσ tin0
    rw [setW_n (by decide), up1_i]
  have vn : ∀ w, w < 2 ∨ w = 4 ∨ w = 5 → tinσ tin σ 1 (10 * 12 + w) = σ 1 (10 * 12 + w) := fun w h => by
    unfold tinσ tin0
    rw [setW_n (by omega), up1_n (by omega), up1_n (by omega)]
  refine ⟨fun w h1 h2 => ?_, fun w h1 h2 => ?_, gG.1, gG.2.1, v2, fun w h => vn w (Or.inl h)⟩
  · rcases (show w = 2 ∨ w = 3 ∨ w = 4 ∨ w = 5 by omega) with rfl | rfl | rfl | rfl
    · rw [v2]; omega
    · rw [v3]; unfold cap; split <;> omega
    · rw [vn 4 (by decide)]; omega
    · rw [vn 5 (by decide)]; omega
  · have e : tinσ tin σ 1 (10 * 12 + w) = tinH tin σ w := by
      unfold tinσ setW
      rw [if_pos ⟨rfl, by omega, by omega⟩, show 10 * 12 + w - 10 * 12 = w from by omega]
    have hw : 0 ≤ σ 1 (10 * 12 + w) ∧ σ 1 (10 * 12 + w) ≤ 1000000 := by
      rcases (show w = 6 ∨ w = 7 ∨ w = 8 ∨ w = 9 by omega) with rfl | rfl | rfl | rfl <;> omega
    rw [e]
    unfold tinH qz
    rw [if_neg (by omega)]
    have p := prod_rng hw (y := σ 1 (10 * 12 + 2)) (n := tinG tin σ) ⟨by omega, gG.2.2⟩
    exact ⟨Int.ediv_nonneg p.1 (by omega), Int.ediv_le_of_le_mul gG.1 p.2⟩
theorem ac_lose {M : gSt} {t p q : Int} (ht : 0 ≤ t ∧ t ≤ 12) : absC (setW M (2 + 1) t 2 6 (fL t p q (M (2 + 1)))) = setW (absC M) 1 t 2 6 (fL t p q (absC M 1)) := by
  have rd : ∀ w, 0 ≤ w → w ≤ 9 → fL t p q (M (2 + 1)) w = fL t p q (absC M 1) w := fun w a b => by
    unfold fL
    rw [rc1 M (by omega) (by omega)]
  rw [setW4, setW4, ac_3 (by omega) (by omega), ac_3 (by omega) (by omega), ac_3 (by omega) (by omega), ac_3 (by omega) (by omega), rd 2 (by decide) (by decide), rd 3 (by decide) (by decide), rd 4 (by decide) (by decide), rd 5 (by decide) (by decide)]
  rfl
theorem sp_addTin {tin : Int} {M : gSt} {k : gSt → Prop} (hK : cK M) (T : thOk (absC M 1) (10 * 12)) (ht : 0 ≤ tin ∧ tin ≤ 9999) (h : ∀ M', absC M' = tinσ tin (absC M) → cK M' → k M') : w_X0_addTin 2 tin M k := by
  have T0 := T
  unfold thOk at T
  have rd : ∀ w, 0 ≤ w → w ≤ 9 → M (2 + 1) (10 * 12 + w) = absC M 1 (10 * 12 + w) := fun w a b => (rc1 M (by omega) (by omega)).symm
  unfold w_X0_addTin
  refine ⟨pl_2, sp_number pl_2 rfl (by decide) (by decide) (fun x ex => ?_)⟩
  rw [rd 2 (by decide) (by decide)] at ex ⊢
  rw [xmin_in (by constructor <;> decide) ⟨by omega, by omega⟩] at ex
  have eG : x = tinG tin (absC M) := by
    rw [ex]
    unfold tinG cap
    split <;> split <;> omega
  have xr : 0 ≤ x ∧ x ≤ 9999999 := by rw [ex]; split <;> omega
  refine sp_become pl_2 rfl (by decide) (by decide) (sp_number pl_2 rfl (by decide) (by decide) ?_)
  rw [wrN (by decide), rd 3 (by decide) (by decide)]
  refine sp_become pl_2 rfl (by decide) (by decide) ⟨5, ?_⟩
  have e3 : xmin x (absC M 1 (10 * 12 + 3) + tin) = cap (absC M 1 (10 * 12 + 3) + tin) x := by
    rw [xmin_in ⟨by omega, by omega⟩ ⟨by omega, by omega⟩]
    unfold cap
    split <;> split <;> omega
  rw [e3]
  have A0 : absC (wr (wr M (2 + 1) (10 * 12 + 2) x) (2 + 1) (10 * 12 + 3) (cap (absC M 1 (10 * 12 + 3) + tin) x)) = tin0 tin (absC M) := by
    rw [ac_3 (by decide) (by decide), ac_3 (by decide) (by decide), eG]
    rfl
  have loop : ∀ (d : Nat) (j : Int) (M1 : gSt), (d : Int) = 10 - j → 6 ≤ j → absC M1 = setW (tin0 tin (absC M)) 1 12 6 j (tinH tin (absC M)) → cK M1 → ∀ f : Nat, d < f → wL_X0_addTin_49 2 tin k (fun M49 => k M49) f (absC M 1 (10 * 12 + 2)) x j M1 := by
    intro d
    induction d with
    | zero =>
      intro j M1 hd hj A K f hf
      obtain ⟨f, rfl⟩ : ∃ g, f = g + 1 := ⟨f - 1, by omega⟩
      have ej : j = 10 := by omega
      subst ej
      simp only [wL_X0_addTin_49, wC_X0_addTin_49]
      exact ⟨fun _ => h M1 A K, fun z => absurd z (by decide)⟩
    | succ d ih =>
      intro j M1 hd hj A K f hf
      obtain ⟨f, rfl⟩ : ∃ g, f = g + 1 := ⟨f - 1, by omega⟩
      simp only [wL_X0_addTin_49, wC_X0_addTin_49]
      rw [wI (x := j) ⟨by omega, by omega⟩, wI (x := absC M 1 (10 * 12 + 2)) ⟨by omega, by omega⟩, wI (x := x) ⟨by omega, by omega⟩]
      refine ⟨fun z => absurd z (by omega), fun _ => sp_number pl_2 rfl (by decide) ⟨by omega, by omega⟩ (fun y ey => ?_)⟩
      have r : M1 (2 + 1) (10 * 12 + j) = absC M 1 (10 * 12 + j) := by
        rw [← rc1 M1 (by omega) (by omega), A, setW_n (by omega)]
        unfold tin0
        rw [up1_n (by omega), up1_n (by omega)]
      have hw : 0 ≤ absC M 1 (10 * 12 + j) ∧ absC M 1 (10 * 12 + j) ≤ 1000000 := by
        rcases (show j = 6 ∨ j = 7 ∨ j = 8 ∨ j = 9 by omega) with rfl | rfl | rfl | rfl <;> omega
      rw [r, wI (x := absC M 1 (10 * 12 + j)) ⟨by omega, by omega⟩] at ey
      have p := prod_rng hw (y := absC M 1 (10 * 12 + 2)) (n := 9999999) ⟨by omega, by omega⟩
      refine sp_quot ⟨by omega, by omega⟩ ⟨by omega, by omega⟩ (sp_become pl_2 rfl (by decide) ⟨by omega, by omega⟩ ?_)
      refine ih (j + 1) _ (by omega) (by omega) ?_ (cK_wr K (Or.inr (by decide))) f (by omega)
      have eH : qz y x = tinH tin (absC M) j := by rw [ey, eG]; rfl
      rw [ac_3 (by omega) (by omega), A, eH]
      exact setW_s (by omega)
  exact loop 4 6 _ (by omega) (by omega) (by rw [setW_0]; exact A0) (cK_wr (cK_wr hK (Or.inr (by decide))) (Or.inr (by decide))) 5 (by omega)
theorem sC_cast {a1 a2 a3 : Int} {M : gSt} {k : Int → gSt → Prop} (i1 : inI a1) (i2 : inI a2) (i3 : inI a3) (I : iN (absC M)) (J : iB (absC M)) (CR : iCr (absC M)) (hK : cK M) (h : ∀ M', absC M' = (S_cast a1 a2 a3 (absC M)).2 → cK M' → k (S_cast a1 a2 a3 (absC M)).1 M') : w_X8_cast a1 a2 a3 M k := by
  unfold iN at I
  have n0 := rc00 M
  have T := J 12 (by decide) (by decide)
  have T0 := T
  unfold thOk at T0
  unfold w_X8_cast wB_X8_cast_36
  refine isKM i1 (fun q1 => z1 ?_) (fun q => z0 (errC (by decide) (by decide) hK (if_pos (fun z => q z.1)) h))
  refine sp_within i2 (by constructor <;> decide) (by constructor <;> decide) (fun q2 => z1 ?_) (fun q => z0 (errC (by decide) (by decide) hK (if_pos (fun z => q z.2.1)) h))
  refine sp_within i3 (by constructor <;> decide) (by constructor <;> decide) (fun q3 => z1 ?_) (fun q => z0 (errC (by decide) (by decide) hK (if_pos (fun z => q z.2.2.1)) h))
  rw [wI i3, tmod_pos q3.1, wI (x := a3 % 10) ⟨by omega, by omega⟩, tdiv_pos q3.1, tdiv_pos q3.1, wI (x := a3 / 10) ⟨by omega, by omega⟩, tmod_pos (by omega : 0 ≤ a3 / 10)]
  refine ⟨fun e10 => ?_, fun e => errC (by decide) (by decide) hK (if_pos (fun z => e z.2.2.2)) h⟩
  have hc : ¬ ¬ ((0 ≤ a1 ∧ a1 ≤ 699) ∧ (0 ≤ a2 ∧ a2 ≤ 9999) ∧ (0 ≤ a3 ∧ a3 ≤ 990) ∧ a3 % 10 = 0) := fun z => z ⟨q1, q2, q3, e10⟩
  refine sp_number pl_2 rfl (by decide) (by decide) ?_
  rw [← rc1 M (i := 10 * 12 + 2) (by decide) (by decide), wI (x := absC M 1 (10 * 12 + 2)) ⟨by omega, by omega⟩]
  refine ⟨fun nz => ?_, fun z => errC (by decide) (by decide) hK ((if_neg hc).trans (if_pos z)) h⟩
  intro burn hbu keep hke
  have rb : 0 ≤ burn ∧ burn ≤ 9 := by omega
  have rk : 0 ≤ keep ∧ keep ≤ 9 := by omega
  have go : ∀ s0 : Int, s0 = (if 0 < a3 / 10 % 10 then 2 else 1) → wB_X8_cast_99 a1 a2 a3 k burn keep s0 (12 - M 2 1) M := by
    intro s0 hs0
    have s0r : 1 ≤ s0 ∧ s0 ≤ 2 := by rw [hs0]; split <;> omega
    unfold wB_X8_cast_99
    rw [wI (x := s0) ⟨by omega, by omega⟩, wI (x := 12 - M 2 1) ⟨by omega, by omega⟩]
    refine ⟨fun hr => ?_, fun hr => errC (by decide) (by decide) hK ((if_neg hc).trans ((if_neg nz).trans (if_pos (by rw [← hs0]; omega)))) h⟩
    have hS : S_cast a1 a2 a3 (absC M) = (absC M 0 0, castσ a1 a2 burn keep (absC M)) := by
      rw [hbu, hke]
      exact (if_neg hc).trans ((if_neg nz).trans (if_neg (by rw [← hs0]; omega)))
    rw [hS] at h
    refine sp_addTin hK T q2 (fun M1 A1 K1 => ?_)
    generalize hσ : absC M = σ at *
    obtain ⟨t25, t69, tg, tg2, t2, tn⟩ := tinσ_v T q2 (by omega)
    have rd1 : ∀ w, 0 ≤ w → w ≤ 9 → M1 (2 + 1) (10 * 12 + w) = tinσ a2 σ 1 (10 * 12 + w) := fun w a b => by rw [← A1, rc1 M1 (by omega) (by omega)]
    refine sp_lose pl_2 rfl (by decide) ⟨by omega, by omega⟩ (by decide) (fun w a b => ?_) ?_
    · rw [rd1 w (by omega) (by omega)]
      have := t25 w a b
      omega
    have A2 : absC (setW M1 (2 + 1) 12 2 6 (fL 12 burn 100 (M1 (2 + 1)))) = setW (tinσ a2 σ) 1 12 2 6 (fL 12 burn 100 (tinσ a2 σ 1)) := by
      rw [ac_lose (by decide), A1]
    have K2 : cK (setW M1 (2 + 1) 12 2 6 (fL 12 burn 100 (M1 (2 + 1)))) := cK_o K1 (b := 2 + 1) (by decide) (by decide) (fun o ho i => by rw [setW_c ho])
    generalize setW M1 (2 + 1) 12 2 6 (fL 12 burn 100 (M1 (2 + 1))) = M2 at A2 K2 ⊢
    have m21 : M2 2 1 = σ 0 0 := by
      rw [← rc00 M2, A2, setW_c (by decide), tinσ_0 (by decide)]
    have c2 : ∀ w, 0 ≤ w → w ≤ 9 → absC M2 1 (10 * 12 + w) = if 2 ≤ w ∧ w < 6 then tinσ a2 σ 1 (10 * 12 + w) - tinσ a2 σ 1 (10 * 12 + w) * burn / 100 else tinσ a2 σ 1 (10 * 12 + w) := fun w a b => by
      rw [A2]
      by_cases q : 2 ≤ w ∧ w < 6
      · rw [if_pos q]
        unfold setW fL
        rw [if_pos ⟨rfl, by omega, by omega⟩, show 10 * 12 + w - 10 * 12 = w from by omega]
      · rw [if_neg q, setW_n (by omega)]
    unfold w_X0_addCast
    refine ⟨pl_2, sp_add q1 (by rw [m21]; omega) K2 (fun M3 A3 K3 => ?_)⟩
    rw [m21]
    -- the loop and the end, from the new things
    have fin : ∀ (M4 : gSt) (sc : Int), absC M4 = crN a1 keep (absC M2) → cK M4 → sc = (if 0 < keep then σ 0 0 + 1 else -1) → wB_X0_addCast_21 2 a1 keep k (σ 0 0) sc M4 := by
      intro M4 sc A4 K4 hsc
      unfold wB_X0_addCast_21
      refine ⟨9, ?_⟩
      have n9 : 0 ≤ σ 0 0 ∧ σ 0 0 ≤ 11 := by omega
      have n9s : 0 < keep → σ 0 0 ≤ 10 := fun q => by
        rw [hke] at q
        rw [if_pos q] at hs0
        omega
      have e00 : absC M2 0 0 = σ 0 0 := by rw [rc00, m21]
      have c4 : ∀ w, 0 ≤ w → w ≤ 9 → absC M4 1 (10 * 12 + w) = absC M2 1 (10 * 12 + w) := fun w a b => by
        rw [A4]
        unfold crN
        split
        · rename_i q
          have := n9s q
          simp only [addT, e00]
          rw [if_neg (by omega), if_neg (by simp; omega), if_neg (by omega), if_neg (by simp; omega)]
        · simp only [addT, e00]
          rw [if_neg (by omega), if_neg (by simp; omega)]
      have loop : ∀ (d : Nat) (j : Int) (M5 : gSt), (d : Int) = 10 - j → 2 ≤ j → absC M5 = (if 0 < keep then setW (setW (absC M4) 1 (σ 0 0) 2 j (crT burn keep (tinσ a2 σ))) 1 (σ 0 0 + 1) 2 j (crS burn keep (tinσ a2 σ)) else setW (absC M4) 1 (σ 0 0) 2 j (crT burn keep (tinσ a2 σ))) → cK M5 → ∀ f : Nat, d < f → wL_X0_addCast_26 2 a1 keep k (fun u3_26 M26 => w_X0_fill 2 12 0 M26 (fun M122 => k u3_26 M122)) f (σ 0 0) sc j M5 := by
        intro d
        induction d with
        | zero =>
          intro j M5 hd hj A5 K5 f hf
          obtain ⟨f, rfl⟩ : ∃ g, f = g + 1 := ⟨f - 1, by omega⟩
          have ej : j = 10 := by omega
          subst ej
          simp only [wL_X0_addCast_26, wC_X0_addCast_26]
          refine ⟨fun _ => sp_fill (by decide) K5 (fun M6 A6 K6 => h M6 ?_ K6), fun z => absurd z (by decide)⟩
          rw [A6, A5, A4]
          have tn0 := tn 0 (by decide)
          have tn1 := tn 1 (by decide)
          unfold iCr at CR
          have e0 : tinσ a2 σ 0 0 = σ 0 0 := by rw [tinσ_0 (by decide)]
          have ag : ∀ p i, ¬ (p = 1 ∧ 10 * 12 ≤ i ∧ i < 10 * 12 + 10) → absC M2 p i = tinσ a2 σ p i := fun p i hi => by
            rw [A2]
            unfold setW
            rw [if_neg (fun z => hi ⟨z.1, by omega, by omega⟩)]
          have agN : ∀ p i, ¬ (p = 1 ∧ 10 * 12 ≤ i ∧ i < 10 * 12 + 10) → crN a1 keep (absC M2) p i = crN a1 keep (tinσ a2 σ) p i := fun p i hi => by
            have := ag p i hi
            unfold crN
            split <;> simp only [addT, e00, e0, this]
          have crK : ∀ i, 10 * 12 ≤ i → i < 10 * 12 + 2 → crN a1 keep (tinσ a2 σ) 1 i = 0 := fun i h1 h2 => by
            have e : crN a1 keep (tinσ a2 σ) 1 i = tinσ a2 σ 1 i := by
              unfold crN
              split
              · rename_i q
                have := n9s q
                simp only [addT, e0]
                rw [if_neg (by omega), if_neg (by simp; omega), if_neg (by omega), if_neg (by simp; omega)]
              · simp only [addT, e0]
                rw [if_neg (by omega), if_neg (by simp; omega)]
            rw [e]
            rcases (show i = 10 * 12 + 0 ∨ i = 10 * 12 + 1 by omega) with q | q
            · rw [q, tn0, CR.1]
            · rw [q, tn1, CR.2]
          funext p i
          show _ = castσ a1 a2 burn keep σ p i
          unfold castσ zerT
          have ct' : 10 * 12 ≤ i → ¬ (p = 1 ∧ 10 * σ 0 0 + 2 ≤ i ∧ i < 10 * σ 0 0 + 10) := fun z => by omega
          have cs' : 10 * 12 ≤ i → ¬ (p = 1 ∧ 0 < keep ∧ 10 * (σ 0 0 + 1) + 2 ≤ i ∧ i < 10 * (σ 0 0 + 1) + 10) := fun z y => by
            have := n9s y.2.1
            omega
          by_cases cz : p = 1 ∧ 10 * 12 ≤ i ∧ i < 10 * 12 + 10
          · rw [if_pos cz]
            by_cases cz2 : p = 1 ∧ 10 * 12 + 2 ≤ i ∧ i < 10 * 12 + 10
            · rw [if_pos cz2]
            · rw [if_neg cz2, if_neg (ct' cz.2.1), if_neg (cs' cz.2.1), cz.1]
              exact (crK i cz.2.1 (by omega)).symm
          · have cz2 : ¬ (p = 1 ∧ 10 * 12 + 2 ≤ i ∧ i < 10 * 12 + 10) := by omega
            rw [if_neg cz, if_neg cz2]
            by_cases ct : p = 1 ∧ 10 * σ 0 0 + 2 ≤ i ∧ i < 10 * σ 0 0 + 10
            · rw [if_pos ct]
              have cs : ¬ (p = 1 ∧ 10 * (σ 0 0 + 1) + 2 ≤ i ∧ i < 10 * (σ 0 0 + 1) + 10) := by omega
              by_cases q : 0 < keep
              · rw [if_pos q]
                unfold setW
                rw [if_neg cs, if_pos ct]
              · rw [if_neg q]
                unfold setW
                rw [if_pos ct]
            · rw [if_neg ct]
              by_cases q : 0 < keep
              · rw [if_pos q]
                unfold setW
                by_cases cs : p = 1 ∧ 10 * (σ 0 0 + 1) + 2 ≤ i ∧ i < 10 * (σ 0 0 + 1) + 10
                · rw [if_pos cs, if_pos (show p = 1 ∧ 0 < keep ∧ 10 * (σ 0 0 + 1) + 2 ≤ i ∧ i < 10 * (σ 0 0 + 1) + 10 from ⟨cs.1, q, cs.2⟩)]
                · rw [if_neg cs, if_neg ct, if_neg (show ¬ (p = 1 ∧ 0 < keep ∧ 10 * (σ 0 0 + 1) + 2 ≤ i ∧ i < 10 * (σ 0 0 + 1) + 10) from fun z => cs ⟨z.1, z.2.2⟩)]
                  exact agN p i cz
              · rw [if_neg q]
                unfold setW
                rw [if_neg ct, if_neg (show ¬ (p = 1 ∧ 0 < keep ∧ 10 * (σ 0 0 + 1) + 2 ≤ i ∧ i < 10 * (σ 0 0 + 1) + 10) from fun z => q z.2.1)]
                exact agN p i cz
        | succ d ih =>
          intro j M5 hd hj A5 K5 f hf
          obtain ⟨f, rfl⟩ : ∃ g, f = g + 1 := ⟨f - 1, by omega⟩
          simp only [wL_X0_addCast_26, wC_X0_addCast_26]
          rw [wI (x := j) ⟨by omega, by omega⟩]
          refine ⟨fun z => absurd z (by omega), fun _ => ?_⟩
          have r5 : M5 (2 + 1) (10 * 12 + j) = crL burn (tinσ a2 σ) j := by
            rw [← rc1 M5 (by omega) (by omega), A5]
            have e : absC M4 1 (10 * 12 + j) = crL burn (tinσ a2 σ) j := by
              rw [c4 j (by omega) (by omega), c2 j (by omega) (by omega)]
              unfold crL
              by_cases q : j < 6
              · rw [if_pos ⟨by omega, q⟩, if_pos q]
              · rw [if_neg (fun z => q z.2), if_neg q]
            split
            · rename_i q
              have := n9s q
              rw [setW_o (by omega) ⟨by omega, by omega⟩ ⟨by omega, by omega⟩, setW_o (by omega) ⟨by omega, by omega⟩ ⟨by omega, by omega⟩]
              exact e
            · rw [setW_o (by omega) ⟨by omega, by omega⟩ ⟨by omega, by omega⟩]
              exact e
          have crr : 0 ≤ crL burn (tinσ a2 σ) j ∧ crL burn (tinσ a2 σ) j ≤ 9999999 := by
            unfold crL
            by_cases q : j < 6
            · rw [if_pos q]
              have v := t25 j hj (by omega)
              have p := prod_rng (x := tinσ a2 σ 1 (10 * 12 + j)) (y := burn) (m := 9999999) (n := 9) ⟨by omega, by omega⟩ rb
              have p2 : tinσ a2 σ 1 (10 * 12 + j) * burn ≤ tinσ a2 σ 1 (10 * 12 + j) * 9 := Int.mul_le_mul_of_nonneg_left rb.2 v.1
              omega
            · rw [if_neg q]
              have v := t69 j (by omega) (by omega)
              omega
          -- the writes
          have wrt : ∀ (all back : Int) (M6 : gSt), M6 = M5 → back = crS burn keep (tinσ a2 σ) j → all = crT burn keep (tinσ a2 σ) j → wB_X0_addCast_99 2 a1 keep k (wL_X0_addCast_26 2 a1 keep k (fun u3_26 M26 => w_X0_fill 2 12 0 M26 (fun M122 => k u3_26 M122)) f) (fun u3_26 M26 => w_X0_fill 2 12 0 M26 (fun M122 => k u3_26 M122)) (σ 0 0) sc j back all j (σ 0 0) M6 := by
            intro all back M6 e6 hb ha
            subst e6
            unfold wB_X0_addCast_99
            refine sp_become pl_2 rfl ⟨by omega, by omega⟩ ⟨by omega, by omega⟩ ?_
            by_cases q : 0 < keep
            · have := n9s q
              rw [if_pos q] at hsc A5
              rw [hsc]
              refine sp_become pl_2 rfl ⟨by omega, by omega⟩ ⟨by omega, by omega⟩ ?_
              rw [← hsc]
              refine ih (j + 1) _ (by omega) (by omega) ?_ (cK_wr (cK_wr K5 (Or.inr (by decide))) (Or.inr (by decide))) f (by omega)
              rw [if_pos q, ac_3 (by omega) (by omega), ac_3 (by omega) (by omega), A5, hb, ha]
              have s1 := @setW_s (absC M4) 1 (σ 0 0) 2 j (crT burn keep (tinσ a2 σ)) hj
              rw [← s1]
              have s2 := @setW_s (wr (setW (absC M4) 1 (σ 0 0) 2 j (crT burn keep (tinσ a2 σ))) 1 (10 * σ 0 0 + j) (crT burn keep (tinσ a2 σ) j)) 1 (σ 0 0 + 1) 2 j (crS burn keep (tinσ a2 σ)) hj
              rw [← s2, hsc]
              unfold up1
              congr 1
              funext p i
              simp only [wr, setW]
              repeat' split
              all_goals first | rfl | omega
            · rw [if_neg q] at hsc A5
              rw [hsc]
              refine sp_becomeN pl_2 (by constructor <;> decide) ⟨by omega, by omega⟩ (Or.inl (by decide)) ?_
              rw [← hsc]
              refine ih (j + 1) _ (by omega) (by omega) ?_ (cK_wr K5 (Or.inr (by decide))) f (by omega)
              rw [if_neg q, ac_3 (by omega) (by omega), A5, ha]
              exact setW_s hj
          unfold wB_X0_addCast_45 wB_X0_addCast_78
          refine ⟨fun q => ?_, fun q => ?_⟩
          · refine sp_number pl_2 rfl (by decide) ⟨by omega, by omega⟩ (z0 (sp_partOf pl_2 rfl (by decide) ⟨by omega, by omega⟩ ⟨by omega, by omega⟩ (by decide) (by rw [r5]; exact crr) (z0 ?_)))
            rw [r5]
            refine wrt _ _ M5 rfl ?_ ?_
            · unfold crS; rw [if_pos q]
            · unfold crT; rw [if_pos q]
          · refine sp_number pl_2 rfl (by decide) ⟨by omega, by omega⟩ (z1 (z1 ?_))
            rw [r5]
            refine wrt _ _ M5 rfl ?_ ?_
            · unfold crS; rw [if_neg (by omega)]
            · unfold crT; rw [if_neg (by omega)]
      exact loop 8 2 M4 (by omega) (by omega) (by rw [setW_0, setW_0, ite_self]) K4 9 (by omega)
    rw [wI (x := keep) ⟨by omega, by omega⟩]
    refine ⟨fun q => fin M3 (-1) ?_ K3 (by rw [if_neg (by omega)]), fun q => ?_⟩
    · rw [A3]
      unfold crN
      rw [if_neg (by omega)]
    · have m31 : M3 2 1 = σ 0 0 + 1 := by
        rw [← rc00 M3, A3]
        simp only [addT, and_self, if_true]
        rw [rc00, m21]
      have := hs0
      rw [← hke, if_pos q] at this
      refine sp_add (by decide) (by rw [m31]; omega) K3 (fun M4 A4 K4 => ?_)
      rw [m31]
      refine fin M4 _ ?_ K4 (by rw [if_pos q])
      rw [A4, A3]
      unfold crN
      rw [if_pos q]
  unfold w_X0_room
  refine ⟨pl_2, ?_⟩
  dsimp only
  rw [wI (x := keep) ⟨by omega, by omega⟩]
  exact ⟨fun q => go 1 (by rw [if_neg (by omega)]), fun q => go 2 (by rw [if_pos (by omega)])⟩
