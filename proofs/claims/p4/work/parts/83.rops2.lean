-- the reference: papers, weighings, waiting, told, body, sheets, count
theorem sp_RisPaper {a b c : Int} {M : gSt} {k : Int → gSt → Prop} (ia : inI a) (ib : inI b) (ic : inI c) (hn : 0 ≤ absR M 0 0 ∧ absR M 0 0 ≤ 12) (k1 : (0 ≤ a ∧ a < absR M 0 0) ∧ (0 ≤ b ∧ b < absR M 0 0) ∧ ¬ a = b ∧ (1 ≤ c ∧ c ≤ 8) → k 1 M) (k0 : ¬ ((0 ≤ a ∧ a < absR M 0 0) ∧ (0 ≤ b ∧ b < absR M 0 0) ∧ ¬ a = b ∧ (1 ≤ c ∧ c ≤ 8)) → k 0 M) : w_RisPaper a b c M k := by
  unfold w_RisPaper
  refine sp_RisThing ia hn (fun h1 => z1 ?_) (fun h1 => z0 (k0 (fun q => h1 q.1)))
  refine sp_RisThing ib hn (fun h2 => z1 ?_) (fun h2 => z0 (k0 (fun q => h2 q.2.1)))
  rw [wI ia, wI ib]
  refine ⟨fun h3 => k0 (fun q => q.2.2.1 h3), fun h3 => ?_⟩
  exact sp_Rin ic (by constructor <;> decide) (by constructor <;> decide) (fun h4 => z1 (k1 ⟨h1, h2, h3, h4⟩)) (fun h4 => z0 (k0 (fun q => h4 q.2.2.2)))
/-- three numbers more in the row c (3 papers, 4 weighings), one more counted at j -/
def add3 (σ : gSt) (c : Nat) (j a b d : Int) : gSt := up1 (up1 (up1 (up1 σ c (3 * σ 0 j) a) c (3 * σ 0 j + 1) b) c (3 * σ 0 j + 2) d) 0 j (σ 0 j + 1)
theorem sp_RaddPaper {a b d : Int} {M : gSt} {k : gSt → Prop} (hx : tOk (absR M)) (hn : 0 ≤ absR M 0 3 ∧ absR M 0 3 ≤ 5) (h : ∀ M', absR M' = add3 (absR M) 3 3 a b d → fr M M' → onlyS M M' → k M') : w_RaddPaper a b d M k := by
  unfold w_RaddPaper
  intro x ex
  rw [rdS M 3 (by omega) (by omega)] at ex
  refine ⟨⟨by omega, by omega⟩, fun M1 e1 => ?_⟩
  have A1 : absR M1 = up1 (absR M) 3 (3 * absR M 0 3) a := by
    rw [e1]; exact absR_put hx (Or.inr (Or.inr (Or.inl ⟨rfl, rfl, rfl⟩))) (by omega) (by omega) (by omega)
  have F1 : fr M M1 := by rw [e1]; exact fr_wr (by decide) (fun _ => by omega)
  have x1 : tOk (absR M1) := by rw [A1]; exact tOk_B hx (Or.inl (by decide))
  refine ⟨⟨by omega, by omega⟩, fun M2 e2 => ?_⟩
  have A2 : absR M2 = up1 (absR M1) 3 (3 * absR M 0 3 + 1) b := by
    rw [e2]; exact absR_put x1 (Or.inr (Or.inr (Or.inl ⟨rfl, rfl, rfl⟩))) (by omega) (by omega) (by omega)
  have F2 : fr M1 M2 := by rw [e2]; exact fr_wr (by decide) (fun _ => by omega)
  have x2 : tOk (absR M2) := by rw [A2]; exact tOk_B x1 (Or.inl (by decide))
  refine ⟨⟨by omega, by omega⟩, fun M3 e3 => ?_⟩
  have A3 : absR M3 = up1 (absR M2) 3 (3 * absR M 0 3 + 2) d := by
    rw [e3]; exact absR_put x2 (Or.inr (Or.inr (Or.inl ⟨rfl, rfl, rfl⟩))) (by omega) (by omega) (by omega)
  have F3 : fr M2 M3 := by rw [e3]; exact fr_wr (by decide) (fun _ => by omega)
  have x3 : tOk (absR M3) := by rw [A3]; exact tOk_B x2 (Or.inl (by decide))
  intro M4 e4
  have r3 : M3 1 3 = absR M 0 3 := by rw [rdS M3 3 (by omega) (by omega), A3, up1_o (by decide), A2, up1_o (by decide), A1, up1_o (by decide)]
  rw [r3] at e4
  have A4 : absR M4 = up1 (absR M3) 0 3 (absR M 0 3 + 1) := by rw [e4]; exact sp_Rsc (by omega) (by omega) x3
  have F4 : fr M3 M4 := by rw [e4]; exact fr_wr (by decide) (fun _ => by omega)
  refine h M4 (by rw [A4, A3, A2, A1]; rfl) (fr_trans F1 (fr_trans F2 (fr_trans F3 F4))) ?_
  rw [e4, e3, e2, e1]
  exact onlyS_trans onlyS_wr (onlyS_trans onlyS_wr (onlyS_trans onlyS_wr onlyS_wr))
def S_paper (a b d : Int) (σ : gSt) : Int × gSt :=
  if ¬ ((0 ≤ a ∧ a < σ 0 0) ∧ (0 ≤ b ∧ b < σ 0 0) ∧ ¬ a = b ∧ (1 ≤ d ∧ d ≤ 8)) then S_err σ 1
  else if σ 0 3 = 6 then S_err σ 4 else (σ 0 3, add3 σ 3 3 a b d)
theorem sR_paper {a1 a2 a3 : Int} {M : gSt} {k : Int → gSt → Prop} (i1 : inI a1) (i2 : inI a2) (i3 : inI a3) (I : iN (absR M)) (h : ∀ M', absR M' = (S_paper a1 a2 a3 (absR M)).2 → fr M M' → k (S_paper a1 a2 a3 (absR M)).1 M') : w_Rpaper a1 a2 a3 M k := by
  have hx := iN_t I
  unfold iN at I
  unfold w_Rpaper
  refine sp_RisPaper i1 i2 i3 ⟨by omega, by omega⟩ (fun h1 => z1n ?_) (fun h1 => z0n (errL (by decide) (by decide) (if_pos h1) h))
  have hc := fun q : ¬ _ => q h1
  rw [rdS M 3 (by omega) (by omega), wI (x := absR M 0 3) ⟨by omega, by omega⟩]
  refine ⟨fun h3 => ?_, fun h3 => errL (by decide) (by decide) ((if_neg hc).trans (if_pos h3)) h⟩
  have hS : S_paper a1 a2 a3 (absR M) = _ := (if_neg hc).trans (if_neg h3)
  rw [hS] at h
  refine sp_RaddPaper hx ⟨by omega, by omega⟩ (fun M' e f _ => ?_)
  have r : M' 1 3 - 1 = absR M 0 3 := by rw [rdS M' 3 (by omega) (by omega), e]; simp only [add3]; rw [up1_i]; omega
  rw [r]
  exact h M' e f
def S_weigh (t g s : Int) (σ : gSt) : Int × gSt :=
  if ¬ ((0 ≤ t ∧ t < σ 0 0) ∧ (0 ≤ g ∧ g ≤ 9999999) ∧ (0 ≤ s ∧ s ≤ 99)) then S_err σ 1
  else if σ 0 4 = 8 then S_err σ 4 else (σ 0 4, add3 σ 4 4 t g s)
theorem sR_weigh {a1 a2 a3 : Int} {M : gSt} {k : Int → gSt → Prop} (i1 : inI a1) (i2 : inI a2) (i3 : inI a3) (I : iN (absR M)) (h : ∀ M', absR M' = (S_weigh a1 a2 a3 (absR M)).2 → fr M M' → k (S_weigh a1 a2 a3 (absR M)).1 M') : w_Rweigh a1 a2 a3 M k := by
  have hx := iN_t I
  unfold iN at I
  unfold w_Rweigh wB_Rweigh_28
  refine sp_RisThing i1 ⟨by omega, by omega⟩ (fun h1 => z1 ?_) (fun h1 => z0 (errL (by decide) (by decide) (if_pos (fun q => h1 q.1)) h))
  refine sp_Rin i2 (by constructor <;> decide) (by constructor <;> decide) (fun h2 => z1 ?_) (fun h2 => z0 (errL (by decide) (by decide) (if_pos (fun q => h2 q.2.1)) h))
  refine sp_Rin i3 (by constructor <;> decide) (by constructor <;> decide) (fun h3 => z1n ?_) (fun h3 => z0n (errL (by decide) (by decide) (if_pos (fun q => h3 q.2.2)) h))
  have hc := fun q : ¬ ((0 ≤ a1 ∧ a1 < absR M 0 0) ∧ (0 ≤ a2 ∧ a2 ≤ 9999999) ∧ (0 ≤ a3 ∧ a3 ≤ 99)) => q ⟨h1, h2, h3⟩
  rw [rdS M 4 (by omega) (by omega), wI (x := absR M 0 4) ⟨by omega, by omega⟩]
  refine ⟨fun h4 => ?_, fun h4 => errL (by decide) (by decide) ((if_neg hc).trans (if_pos h4)) h⟩
  have hS : S_weigh a1 a2 a3 (absR M) = _ := (if_neg hc).trans (if_neg h4)
  rw [hS] at h
  intro x ex
  refine ⟨⟨by omega, by omega⟩, fun M1 e1 => ?_⟩
  have A1 : absR M1 = up1 (absR M) 4 (3 * absR M 0 4) a1 := by
    rw [e1]; exact absR_put hx (Or.inr (Or.inr (Or.inr (Or.inl ⟨rfl, rfl, rfl⟩)))) (by omega) (by omega) (by omega)
  have F1 : fr M M1 := by rw [e1]; exact fr_wr (by decide) (fun _ => by omega)
  have x1 : tOk (absR M1) := by rw [A1]; exact tOk_B hx (Or.inl (by decide))
  refine ⟨⟨by omega, by omega⟩, fun M2 e2 => ?_⟩
  have A2 : absR M2 = up1 (absR M1) 4 (3 * absR M 0 4 + 1) a2 := by
    rw [e2]; exact absR_put x1 (Or.inr (Or.inr (Or.inr (Or.inl ⟨rfl, rfl, rfl⟩)))) (by omega) (by omega) (by omega)
  have F2 : fr M1 M2 := by rw [e2]; exact fr_wr (by decide) (fun _ => by omega)
  have x2 : tOk (absR M2) := by rw [A2]; exact tOk_B x1 (Or.inl (by decide))
  refine ⟨⟨by omega, by omega⟩, fun M3 e3 => ?_⟩
  have A3 : absR M3 = up1 (absR M2) 4 (3 * absR M 0 4 + 2) a3 := by
    rw [e3]; exact absR_put x2 (Or.inr (Or.inr (Or.inr (Or.inl ⟨rfl, rfl, rfl⟩)))) (by omega) (by omega) (by omega)
  have F3 : fr M2 M3 := by rw [e3]; exact fr_wr (by decide) (fun _ => by omega)
  have x3 : tOk (absR M3) := by rw [A3]; exact tOk_B x2 (Or.inl (by decide))
  intro M4 e4
  have r3 : M3 1 4 = absR M 0 4 := by rw [rdS M3 4 (by omega) (by omega), A3, up1_o (by decide), A2, up1_o (by decide), A1, up1_o (by decide)]
  rw [r3] at e4
  have A4 : absR M4 = up1 (absR M3) 0 4 (absR M 0 4 + 1) := by rw [e4]; exact sp_Rsc (by omega) (by omega) x3
  have F4 : fr M3 M4 := by rw [e4]; exact fr_wr (by decide) (fun _ => by omega)
  have r : M4 1 4 - 1 = absR M 0 4 := by rw [rdS M4 4 (by omega) (by omega), A4, up1_i]; omega
  rw [r]
  exact h M4 (by rw [A4, A3, A2, A1]; rfl) (fr_trans F1 (fr_trans F2 (fr_trans F3 F4)))
def S_forget (w : Int) (σ : gSt) : Int × gSt := if ¬ (0 ≤ w ∧ w ≤ 1) then S_err σ 1 else (σ 0 (3 + w), up1 σ 0 (3 + w) 0)
theorem sR_forget {a1 : Int} {M : gSt} {k : Int → gSt → Prop} (i1 : inI a1) (I : iN (absR M)) (h : ∀ M', absR M' = (S_forget a1 (absR M)).2 → fr M M' → k (S_forget a1 (absR M)).1 M') : w_Rforget a1 M k := by
  have hx := iN_t I
  unfold w_Rforget
  refine sp_Rin i1 (by constructor <;> decide) (by constructor <;> decide) (fun h1 => z1n ?_) (fun h1 => z0n (errL (by decide) (by decide) (if_pos h1) h))
  have hS : S_forget a1 (absR M) = _ := if_neg (fun q => q h1)
  rw [hS] at h
  refine ⟨⟨by omega, by omega⟩, fun x ex => ⟨⟨by omega, by omega⟩, fun M1 e1 => ?_⟩⟩
  rw [rdS M (3 + a1) (by omega) (by omega)] at ex
  subst ex; subst e1
  exact h _ (sp_Rsc (by omega) (by omega) hx) (fr_wr (by decide) (fun _ => by omega))
def S_tell (v : Int) (σ : gSt) : Int × gSt := if σ 0 7 = 24 then S_err σ 4 else (σ 0 7 + 1, up1 (up1 σ 6 (σ 0 7) v) 0 7 (σ 0 7 + 1))
theorem sR_tell {a1 : Int} {M : gSt} {k : Int → gSt → Prop} (I : iN (absR M)) (h : ∀ M', absR M' = (S_tell a1 (absR M)).2 → fr M M' → k (S_tell a1 (absR M)).1 M') : w_Rtell a1 M k := by
  have hx := iN_t I
  unfold iN at I
  unfold w_Rtell
  rw [rdS M 7 (by omega) (by omega), wI (x := absR M 0 7) ⟨by omega, by omega⟩]
  refine ⟨fun h1 => ?_, fun h1 => errL (by decide) (by decide) (if_pos h1) h⟩
  have hS : S_tell a1 (absR M) = _ := if_neg h1
  rw [hS] at h
  refine ⟨⟨by omega, by omega⟩, fun M1 e1 M2 e2 => ?_⟩
  have A1 : absR M1 = up1 (absR M) 6 (absR M 0 7) a1 := by
    rw [e1]; exact absR_put hx (Or.inr (Or.inr (Or.inr (Or.inr (Or.inr ⟨rfl, rfl, rfl⟩))))) (by omega) (by omega) (by omega)
  have F1 : fr M M1 := by rw [e1]; exact fr_wr (by decide) (fun _ => by omega)
  have x1 : tOk (absR M1) := by rw [A1]; exact tOk_B hx (Or.inl (by decide))
  have r1 : M1 1 7 = absR M 0 7 := by rw [rdS M1 7 (by omega) (by omega), A1, up1_o (by decide)]
  rw [r1] at e2
  have A2 : absR M2 = up1 (absR M1) 0 7 (absR M 0 7 + 1) := by rw [e2]; exact sp_Rsc (by omega) (by omega) x1
  have F2 : fr M1 M2 := by rw [e2]; exact fr_wr (by decide) (fun _ => by omega)
  have r2 : M2 1 7 = absR M 0 7 + 1 := by rw [rdS M2 7 (by omega) (by omega), A2, up1_i]
  rw [r2]
  exact h M2 (by rw [A2, A1]) (fr_trans F1 F2)
/-- told and body only end -/
theorem sR_told {a1 : Int} {M : gSt} {k : Int → gSt → Prop} (i1 : inI a1) (h : ∀ r M', absR M' = absR M → fr M M' → k r M') : w_Rtold a1 M k := by
  unfold w_Rtold
  refine sp_Rin i1 (by constructor <;> decide) (by constructor <;> decide) (fun h1 => z1 ⟨⟨by omega, by omega⟩, h _ M rfl fr_rf⟩) (fun h1 => z0 (sp_Rerror (by decide) (by decide) (fun M' e f => h _ M' e f)))
theorem sR_body {a1 : Int} {M : gSt} {k : Int → gSt → Prop} (i1 : inI a1) (I : 0 ≤ M 0 16 ∧ M 0 16 ≤ 30) (h : ∀ r M', absR M' = absR M → fr M M' → k r M') : w_Rbody a1 M k := by
  unfold w_Rbody
  exact sp_Rin i1 (by constructor <;> decide) ⟨by omega, by omega⟩ (fun h1 => z1 ⟨⟨by omega, by omega⟩, h _ M rfl fr_rf⟩) (fun h1 => z0 (sp_Rerror (by decide) (by decide) (fun M' e f => h _ M' e f)))
-- sheets
def iSh (σ : gSt) : Prop := ∀ q, 0 ≤ q → q < 4 → (σ 23 q = 0 ∨ σ 23 q = 8 ∨ σ 23 q = 16 ∨ σ 23 q = 32) ∧ (0 ≤ σ 24 q ∧ σ 24 q ≤ 24) ∧ ∀ i, 0 ≤ i → i < 24 → inI (σ 25 (24 * q + i))
theorem absR_sh {M : gSt} {o c : Nat} {n q x : Int} (hc : (o = 11 ∧ c = 23 ∧ n = 4) ∨ (o = 12 ∧ c = 24 ∧ n = 4) ∨ (o = 13 ∧ c = 25 ∧ n = 96)) (h0 : 0 ≤ q) (h1 : q < n) : absR (wr M o q x) = up1 (absR M) c q x := by
  have e : ∀ p, p ≠ o → wr M o q x p = M p := fun p hp => wrO' hp
  funext d i
  unfold up1
  by_cases hd : d = c
  · subst hd
    rcases hc with ⟨rfl, rfl, rfl⟩ | ⟨rfl, rfl, rfl⟩ | ⟨rfl, rfl, rfl⟩ <;>
    · by_cases hi : i = q
      · subst hi; simp [absR, msk, wr, h0, h1]
      · simp [absR, msk, wr, hi]
  · rw [wrO hd]
    simp only [absR]
    rw [e 1 (by omega), e 2 (by omega), e 0 (by omega)]
    rcases hc with ⟨rfl, rfl, rfl⟩ | ⟨rfl, rfl, rfl⟩ | ⟨rfl, rfl, rfl⟩
    · rw [e 12 (by omega), e 13 (by omega), if_neg hd, if_neg hd]
    · rw [e 11 (by omega), e 13 (by omega)]
      simp only [hd, if_false]
    · rw [e 11 (by omega), e 12 (by omega)]
      simp only [hd, if_false]
theorem rdBits (M : gSt) (q : Int) (h0 : 0 ≤ q) (h1 : q < 4) : M 11 q = absR M 23 q := by simp [absR, msk, h0, h1]
theorem rdSize (M : gSt) (q : Int) (h0 : 0 ≤ q) (h1 : q < 4) : M 12 q = absR M 24 q := by simp [absR, msk, h0, h1]
theorem rdNum (M : gSt) (q : Int) (h0 : 0 ≤ q) (h1 : q < 96) : M 13 q = absR M 25 q := by simp [absR, msk, h0, h1]
theorem sp_RisSheet {a : Int} {M : gSt} {k : Int → gSt → Prop} (ia : inI a) (k1 : 0 ≤ a ∧ a < 4 → k 1 M) (k0 : ¬ (0 ≤ a ∧ a < 4) → k 0 M) : w_RisSheet a M k := by
  unfold w_RisSheet
  exact sp_Rin ia (by constructor <;> decide) (by constructor <;> decide) (fun h => ⟨Or.inr rfl, k1 ⟨h.1, by omega⟩⟩) (fun h => ⟨Or.inl rfl, k0 (fun q => h ⟨q.1, by omega⟩)⟩)
/-- the lowest bits of v, with a sign -/
def lowB (b v : Int) : Int := xshr (xshl v (32 - b)) (32 - b)
def S_put (q i v : Int) (σ : gSt) : Int × gSt :=
  if ¬ (0 ≤ q ∧ q < 4) then S_err σ 1 else if σ 23 q = 0 then S_err σ 2 else if ¬ (0 ≤ i ∧ i < σ 24 q) then S_err σ 1
  else (1, up1 σ 25 (24 * q + i) (lowB (σ 23 q) v))
theorem sR_put {a1 a2 a3 : Int} {M : gSt} {k : Int → gSt → Prop} (i1 : inI a1) (i2 : inI a2) (I : iSh (absR M)) (h : ∀ M', absR M' = (S_put a1 a2 a3 (absR M)).2 → fr M M' → k (S_put a1 a2 a3 (absR M)).1 M') : w_Rput a1 a2 a3 M k := by
  unfold w_Rput
  refine sp_RisSheet i1 (fun h1 => z1n ?_) (fun h1 => z0n (errL (by decide) (by decide) (if_pos h1) h))
  obtain ⟨hb, hs, hn⟩ := I a1 h1.1 h1.2
  refine ⟨h1, ?_⟩
  rw [rdBits M a1 h1.1 h1.2, wI (x := absR M 23 a1) ⟨by omega, by omega⟩]
  refine ⟨fun h2 => ⟨h1, ?_⟩, fun h2 => errL (by decide) (by decide) ((if_neg (fun q => q h1)).trans (if_pos h2)) h⟩
  rw [rdSize M a1 h1.1 h1.2]
  refine sp_Rin i2 (by constructor <;> decide) ⟨by omega, by omega⟩ (fun h3 => z1n ?_) (fun h3 => z0n (errL (by decide) (by decide) ((if_neg (fun q => q h1)).trans ((if_neg h2).trans (if_pos (fun q => h3 ⟨q.1, by omega⟩)))) h))
  have hS : S_put a1 a2 a3 (absR M) = _ := (if_neg (fun q => q h1)).trans ((if_neg h2).trans (if_neg (fun q => q ⟨h3.1, by omega⟩)))
  rw [hS] at h
  refine ⟨h1, fun x ex => ?_⟩
  rw [rdBits M a1 h1.1 h1.2] at ex
  subst ex
  refine ⟨⟨by omega, by omega⟩, fun M1 e1 => ?_⟩
  subst e1
  exact h _ (absR_sh (Or.inr (Or.inr ⟨rfl, rfl, rfl⟩)) (by omega) (by omega)) (fr_wr (by decide) (fun e => absurd e (by decide)))
/-- a sheet begins: so many bits, n numbers, all 24 places 0 -/
def shB (σ : gSt) (q b n : Int) : gSt := fun c i => if c = 23 ∧ i = q then b else if c = 24 ∧ i = q then n else if c = 25 ∧ 24 * q ≤ i ∧ i < 24 * q + 24 then 0 else σ c i
def S_sheet (q b n : Int) (σ : gSt) : Int × gSt :=
  if ¬ ((0 ≤ q ∧ q < 4) ∧ (b = 0 ∨ b = 8 ∨ b = 16 ∨ b = 32)) then S_err σ 1
  else if ¬ b = 0 ∧ n < 0 then S_err σ 3 else if ¬ b = 0 ∧ 24 < n then S_err σ 1
  else (1, shB σ q b (if b = 0 then 0 else n))
theorem sR_sheet {a1 a2 a3 : Int} {M : gSt} {k : Int → gSt → Prop} (i1 : inI a1) (i2 : inI a2) (i3 : inI a3) (h : ∀ M', absR M' = (S_sheet a1 a2 a3 (absR M)).2 → fr M M' → k (S_sheet a1 a2 a3 (absR M)).1 M') : w_Rsheet a1 a2 a3 M k := by
  have body : (0 ≤ a1 ∧ a1 < 4) → (a2 = 0 ∨ a2 = 8 ∨ a2 = 16 ∨ a2 = 32) → wB_Rsheet_35 a1 a2 a3 k M := by
    intro h1 h2
    have hc := fun q : ¬ ((0 ≤ a1 ∧ a1 < 4) ∧ (a2 = 0 ∨ a2 = 8 ∨ a2 = 16 ∨ a2 = 32)) => q ⟨h1, h2⟩
    have fin : ¬ (¬ a2 = 0 ∧ a3 < 0) → ¬ (¬ a2 = 0 ∧ 24 < a3) → wB_Rsheet_65 a1 a2 a3 k M := by
      intro n1 n2
      have hS : S_sheet a1 a2 a3 (absR M) = _ := (if_neg hc).trans ((if_neg n1).trans (if_neg n2))
      rw [hS] at h
      unfold wB_Rsheet_65
      refine ⟨h1, fun M1 e1 => ?_⟩
      have A1 : absR M1 = up1 (absR M) 23 a1 a2 := by rw [e1]; exact absR_sh (Or.inl ⟨rfl, rfl, rfl⟩) h1.1 h1.2
      have F1 : fr M M1 := by rw [e1]; exact fr_wr (by decide) (fun e => absurd e (by decide))
      have go : ∀ s : Int, s = (if a2 = 0 then 0 else a3) → wB_Rsheet_86 a1 a2 a3 k s a1 M1 := by
        intro s es
        unfold wB_Rsheet_86
        refine ⟨h1, fun M2 e2 => ⟨25, ?_⟩⟩
        have A2 : absR M2 = up1 (absR M1) 24 a1 s := by rw [e2]; exact absR_sh (Or.inr (Or.inl ⟨rfl, rfl, rfl⟩)) h1.1 h1.2
        have F2 : fr M1 M2 := by rw [e2]; exact fr_wr (by decide) (fun e => absurd e (by decide))
        have loop : ∀ (d : Nat) (j : Int) (M3 : gSt), (d : Int) = 24 - j → 0 ≤ j → absR M3 = (fun c i => if c = 25 ∧ 24 * a1 ≤ i ∧ i < 24 * a1 + j then 0 else absR M2 c i) → fr M2 M3 → ∀ f : Nat, d < f → wL_Rsheet_90 a1 a2 a3 k (fun M90 => k 1 M90) f j M3 := by
          intro d
          induction d with
          | zero =>
            intro j M3 hd hj hA hF f hf
            obtain ⟨f, rfl⟩ : ∃ g, f = g + 1 := ⟨f - 1, by omega⟩
            simp only [wL_Rsheet_90, wC_Rsheet_90]
            rw [wI (x := j) ⟨by omega, by omega⟩]
            refine ⟨fun _ => ?_, fun h => absurd h (by omega)⟩
            refine h M3 ?_ (fr_trans F1 (fr_trans F2 hF))
            rw [hA, A2, A1]
            have hj : j = 24 := by omega
            subst hj; subst es
            funext c i
            simp only [up1, wr, shB]
            repeat' split
            all_goals first | rfl | omega
          | succ d ih =>
            intro j M3 hd hj hA hF f hf
            obtain ⟨f, rfl⟩ : ∃ g, f = g + 1 := ⟨f - 1, by omega⟩
            simp only [wL_Rsheet_90, wC_Rsheet_90]
            rw [wI (x := j) ⟨by omega, by omega⟩]
            refine ⟨fun h => absurd h (by omega), fun _ => ⟨⟨by omega, by omega⟩, fun M4 e4 => ?_⟩⟩
            refine ih (j + 1) M4 (by omega) (by omega) ?_ (fr_trans hF (by rw [e4]; exact fr_wr (by decide) (fun e => absurd e (by decide)))) f (by omega)
            rw [e4, absR_sh (Or.inr (Or.inr ⟨rfl, rfl, rfl⟩)) (by omega) (by omega), hA]
            funext c i
            simp only [up1, wr]
            repeat' split
            all_goals first | rfl | omega
        exact loop 24 0 M2 (by omega) (by omega) (by funext c i; exact (if_neg (by omega)).symm) fr_rf 25 (by omega)
      rw [wI i2]
      exact ⟨fun z => go a3 (by rw [if_neg z]), fun z => go 0 (by rw [if_pos z])⟩
    unfold wB_Rsheet_35 wB_Rsheet_49
    rw [wI i2, wI i3]
    refine ⟨fun z => ⟨fun _ => fin (by omega) (by omega), fun y => absurd z y⟩, fun z => ⟨fun y => ⟨fun x => absurd x z, fun _ => ⟨fun x => fin (by omega) (by omega), fun x => errL (by decide) (by decide) ((if_neg hc).trans ((if_neg (by omega)).trans (if_pos ⟨z, x⟩))) h⟩⟩, fun y => errL (by decide) (by decide) ((if_neg hc).trans (if_pos ⟨z, y⟩)) h⟩⟩
  unfold w_Rsheet wB_Rsheet_29
  refine sp_RisSheet i1 (fun h1 => z1 ?_) (fun h1 => z0 (errL (by decide) (by decide) (if_pos (fun q => h1 q.1)) h))
  rw [wI i2]
  exact ⟨fun e => body h1 (by omega), fun n0 => ⟨fun e => body h1 (by omega), fun n8 => ⟨fun e => body h1 (by omega), fun n16 => ⟨fun e => body h1 (by omega), fun n32 => errL (by decide) (by decide) (if_pos (fun q => by omega)) h⟩⟩⟩⟩
