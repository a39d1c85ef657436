-- what the abstract state keeps, and the reference's first public methods on it
def iN (σ : gSt) : Prop := 0 ≤ σ 0 0 ∧ σ 0 0 ≤ 12 ∧ 0 ≤ σ 0 1 ∧ σ 0 1 ≤ 4 ∧ σ 0 1 ≤ σ 0 0 ∧ 0 ≤ σ 0 2 ∧ σ 0 2 ≤ 10 ∧ 0 ≤ σ 0 3 ∧ σ 0 3 ≤ 6 ∧ 0 ≤ σ 0 4 ∧ σ 0 4 ≤ 8 ∧ 0 ≤ σ 0 5 ∧ σ 0 5 ≤ 9999 ∧ 0 ≤ σ 0 6 ∧ σ 0 6 ≤ 60 ∧ 0 ≤ σ 0 7 ∧ σ 0 7 ≤ 24 ∧ 0 ≤ σ 0 9 ∧ σ 0 9 ≤ 60 ∧ 0 ≤ σ 0 10 ∧ σ 0 10 ≤ 60
/-- one thing's numbers (its cells from b on) -/
def thOk (B : Int → Int) (b : Int) : Prop := (0 ≤ B (b + 0) ∧ B (b + 0) ≤ 6) ∧ (0 ≤ B (b + 1) ∧ B (b + 1) ≤ 99) ∧ (0 ≤ B (b + 2) ∧ B (b + 2) ≤ 9999999) ∧ (0 ≤ B (b + 3) ∧ B (b + 3) ≤ B (b + 2)) ∧ (0 ≤ B (b + 4) ∧ B (b + 4) ≤ B (b + 2)) ∧ (0 ≤ B (b + 5) ∧ B (b + 5) ≤ B (b + 2)) ∧ (0 ≤ B (b + 6) ∧ B (b + 6) ≤ 1000000) ∧ (0 ≤ B (b + 7) ∧ B (b + 7) ≤ 1000000) ∧ (0 ≤ B (b + 8) ∧ B (b + 8) ≤ 1000000) ∧ (0 ≤ B (b + 9) ∧ B (b + 9) ≤ 1000000)
def iB (σ : gSt) : Prop := ∀ t, 0 ≤ t → t ≤ 12 → thOk (σ 1) (10 * t)
theorem iN_t {σ : gSt} (h : iN σ) : tOk σ := by unfold iN at h; unfold tOk; omega
theorem errL {M : gSt} {k : Int → gSt → Prop} {j : Int} {S : Int × gSt} (h0 : 0 ≤ j) (h1 : j < 7) (hS : S = S_err (absR M) j) (h : ∀ M', absR M' = S.2 → fr M M' → k S.1 M') : w_Rerror j M k := by
  subst hS
  exact sp_Rerror h0 h1 h
theorem absR_put {M : gSt} {c : Nat} {b n q x p : Int} (hx : tOk (absR M)) (hc : (c = 1 ∧ b = 10 ∧ n = 130) ∨ (c = 2 ∧ b = 140 ∧ n = 20) ∨ (c = 3 ∧ b = 160 ∧ n = 18) ∨ (c = 4 ∧ b = 178 ∧ n = 24) ∨ (c = 5 ∧ b = 452 ∧ n = 60) ∨ (c = 6 ∧ b = 512 ∧ n = 24)) (h0 : 0 ≤ q) (h1 : q < n) (hp : p = b + q) : absR (wr M 1 p x) = up1 (absR M) c q x := by
  subst hp
  refine absR_s (fun o ho => wrO' ho) (by omega) (absS_put (txtOk_abs hx) c b n hc h0 h1 (fun j => ?_))
  by_cases hj : j = b + q
  · rw [if_pos hj, hj, wrI]
  · rw [if_neg hj, wrN hj]
theorem up1_i {σ : gSt} {c : Nat} {i x : Int} : up1 σ c i x c i = x := wrI
theorem up1_o {σ : gSt} {c c' : Nat} {i i' x : Int} (h : c' ≠ c) : up1 σ c i x c' i' = σ c' i' := wrO h
theorem up1_n {σ : gSt} {c : Nat} {i i' x : Int} (h : i' ≠ i) : up1 σ c i x c i' = σ c i' := wrN h
def S_thing (km g : Int) (σ : gSt) : Int × gSt :=
  if ¬ ((0 ≤ km ∧ km ≤ 699) ∧ (0 ≤ g ∧ g ≤ 9999999)) then S_err σ 1
  else if σ 0 0 = 12 then S_err σ 4
  else (σ 0 0, if σ 0 1 < 4 then up1 (up1 (up1 (addT σ km) 1 (10 * σ 0 0 + 2) g) 1 (10 * σ 0 0 + (6 + σ 0 1)) 1000000) 0 1 (σ 0 1 + 1) else up1 (addT σ km) 1 (10 * σ 0 0 + 2) g)
theorem sR_thing {a1 a2 : Int} {M : gSt} {k : Int → gSt → Prop} (i1 : inI a1) (i2 : inI a2) (I : iN (absR M)) (h : ∀ M', absR M' = (S_thing a1 a2 (absR M)).2 → fr M M' → k (S_thing a1 a2 (absR M)).1 M') : w_Rthing a1 a2 M k := by
  have I0 := I
  unfold iN at I
  unfold w_Rthing wB_Rthing_21
  refine sp_Rin i1 (by constructor <;> decide) (by constructor <;> decide) (fun h1 => z1 ?_) (fun h1 => z0 (errL (by decide) (by decide) (if_pos (fun q => h1 q.1)) h))
  refine sp_Rin i2 (by constructor <;> decide) (by constructor <;> decide) (fun h2 => z1n ?_) (fun h2 => z0n (errL (by decide) (by decide) (if_pos (fun q => h2 q.2)) h))
  have hc : ¬ ¬ ((0 ≤ a1 ∧ a1 ≤ 699) ∧ (0 ≤ a2 ∧ a2 ≤ 9999999)) := fun q => q ⟨h1, h2⟩
  rw [rdS M 0 (by omega) (by omega), wI (x := absR M 0 0) ⟨by omega, by omega⟩]
  refine ⟨fun h3 => ?_, fun h3 => errL (by decide) (by decide) ((if_neg hc).trans (if_pos h3)) h⟩
  have hS : S_thing a1 a2 (absR M) = _ := (if_neg hc).trans (if_neg h3)
  rw [hS] at h
  have hx := iN_t I0
  refine sp_RaddThing h1 ⟨by omega, by omega⟩ hx (fun M1 e1 f1 o1 => ?_)
  have hx1 : tOk (absR M1) := by rw [e1]; unfold tOk addT; simp; exact hx
  refine sp_Rlays1 ⟨by omega, by omega⟩ ⟨by omega, by omega⟩ hx1 (fun M2 e2 o2 f2 => ?_)
  have hx2 : tOk (absR M2) := by rw [e2]; exact tOk_B hx1 (Or.inl (by decide))
  have r1 : M2 1 1 = absR M 0 1 := by
    rw [rdS M2 1 (by omega) (by omega), e2, e1]
    simp [up1, wr, addT]
  rw [r1, wI (x := absR M 0 1) ⟨by omega, by omega⟩]
  refine ⟨fun h4 => ?_, fun h4 => ?_⟩
  · rw [if_neg (by omega)] at h
    exact h M2 (by rw [e2, e1]) (fr_trans f1 f2)
  · rw [if_pos h4] at h
    refine sp_Rlays1 ⟨by omega, by omega⟩ ⟨by omega, by omega⟩ hx2 (fun M3 e3 o3 f3 => ?_)
    have hx3 : tOk (absR M3) := by rw [e3]; exact tOk_B hx2 (Or.inl (by decide))
    intro M4 e4
    have r3 : M3 1 1 = absR M 0 1 := by
      rw [rdS M3 1 (by omega) (by omega), e3, e2, e1]
      simp [up1, wr, addT]
    rw [r3] at e4
    subst e4
    exact h _ (by rw [sp_Rsc (by omega) (by omega) hx3, e3, e2, e1]) (fr_trans f1 (fr_trans f2 (fr_trans f3 (fr_wr (by decide) (fun _ => by omega)))))
/-- a KIND is another one, or under it -/
def under (own kind : Int) : Prop := kind = 0 ∨ own = kind ∨ (kind = 1 ∧ own = 4) ∨ (kind = 2 ∧ own = 5) ∨ (kind = 3 ∧ own = 6)
theorem sp_RisUnder {a b : Int} {M : gSt} {k : Int → gSt → Prop} (ha : inI a) (hb : inI b) (k1 : under a b → k 1 M) (k0 : ¬ under a b → k 0 M) : w_RisUnder a b M k := by
  unfold w_RisUnder wB_RisUnder_19 wB_RisUnder_29
  rw [wI ha, wI hb]
  unfold under at k1 k0
  refine ⟨fun h1 => k1 (by omega), fun h1 => ⟨fun h2 => k1 (by omega), fun h2 => ⟨fun h3 => ⟨fun h4 => ⟨fun h5 => k0 (by omega), fun h5 => ⟨fun h6 => k0 (by omega), fun h6 => k1 (by omega)⟩⟩, fun h4 => ⟨fun h5 => k1 (by omega), fun h5 => ⟨fun h6 => k0 (by omega), fun h6 => ⟨fun h7 => k0 (by omega), fun h7 => k1 (by omega)⟩⟩⟩⟩, fun h3 => ⟨fun h4 => k1 (by omega), fun h4 => ⟨fun h5 => ⟨fun h6 => k0 (by omega), fun h6 => ⟨fun h7 => k0 (by omega), fun h7 => k1 (by omega)⟩⟩, fun h5 => ⟨fun h6 => k1 (by omega), fun h6 => ⟨fun h7 => k0 (by omega), fun h7 => ⟨fun h8 => k0 (by omega), fun h8 => k1 (by omega)⟩⟩⟩⟩⟩⟩⟩⟩
def S_as (t kind : Int) (σ : gSt) : Int × gSt :=
  if ¬ ((0 ≤ t ∧ t < σ 0 0) ∧ (0 ≤ kind ∧ kind ≤ 6)) then S_err σ 1
  else if σ 1 (10 * t + 0) = kind ∨ kind = 0 ∨ (kind = 1 ∧ σ 1 (10 * t + 0) = 4) ∨ (kind = 2 ∧ σ 1 (10 * t + 0) = 5) ∨ (kind = 3 ∧ σ 1 (10 * t + 0) = 6) then (σ 1 (10 * t + 2), σ) else S_err σ 5
theorem sR_as {a1 a2 : Int} {M : gSt} {k : Int → gSt → Prop} (i1 : inI a1) (i2 : inI a2) (I : iN (absR M)) (J : iB (absR M)) (h : ∀ M', absR M' = (S_as a1 a2 (absR M)).2 → fr M M' → k (S_as a1 a2 (absR M)).1 M') : w_Ras a1 a2 M k := by
  unfold iN at I
  unfold w_Ras wB_Ras_18
  refine sp_RisThing i1 ⟨by omega, by omega⟩ (fun h1 => z1 ?_) (fun h1 => z0 (errL (by decide) (by decide) (if_pos (fun q => h1 q.1)) h))
  refine sp_Rin i2 (by constructor <;> decide) (by constructor <;> decide) (fun h2 => z1n ?_) (fun h2 => z0n (errL (by decide) (by decide) (if_pos (fun q => h2 q.2)) h))
  have hc : ¬ ¬ ((0 ≤ a1 ∧ a1 < absR M 0 0) ∧ (0 ≤ a2 ∧ a2 ≤ 6)) := fun q => q ⟨h1, h2⟩
  have T := J a1 (by omega) (by omega)
  unfold thOk at T
  refine sp_Rits ⟨by omega, by omega⟩ ⟨by omega, by omega⟩ ?_
  refine sp_RisUnder ⟨by omega, by omega⟩ i2 (fun h3 => z1 ?_) (fun h3 => z0 (errL (by decide) (by decide) ((if_neg hc).trans (if_neg (by unfold under at h3; omega))) h))
  refine sp_Rits ⟨by omega, by omega⟩ ⟨by omega, by omega⟩ ?_
  have hS : S_as a1 a2 (absR M) = _ := (if_neg hc).trans (if_pos (by unfold under at h3; omega))
  rw [hS] at h
  exact h M rfl fr_rf
def S_set (t w v : Int) (σ : gSt) : Int × gSt :=
  if ¬ ((0 ≤ t ∧ t < σ 0 0) ∧ (0 ≤ w ∧ w ≤ 5 ∧ ¬ w = 2) ∧ (0 ≤ v ∧ v ≤ (if w = 0 then 6 else if w = 1 then 99 else σ 1 (10 * t + 2)))) then S_err σ 1
  else (σ 1 (10 * t + w), up1 σ 1 (10 * t + w) v)
theorem sR_set {a1 a2 a3 : Int} {M : gSt} {k : Int → gSt → Prop} (i1 : inI a1) (i2 : inI a2) (i3 : inI a3) (I : iN (absR M)) (J : iB (absR M)) (h : ∀ M', absR M' = (S_set a1 a2 a3 (absR M)).2 → fr M M' → k (S_set a1 a2 a3 (absR M)).1 M') : w_Rset a1 a2 a3 M k := by
  have hx := iN_t I
  unfold iN at I
  unfold w_Rset wB_Rset_22
  refine sp_RisThing i1 ⟨by omega, by omega⟩ (fun h1 => z1 ?_) (fun h1 => z0 (errL (by decide) (by decide) (if_pos (fun q => h1 q.1)) h))
  refine sp_Rin i2 (by constructor <;> decide) (by constructor <;> decide) (fun h2 => z1 ?_) (fun h2 => z0 (errL (by decide) (by decide) (if_pos (fun q => h2 ⟨q.2.1.1, q.2.1.2.1⟩)) h))
  have T := J a1 (by omega) (by omega)
  unfold thOk at T
  rw [wI i2]
  have fin : ∀ s : Int, inI s → ¬ a2 = 2 → s = (if a2 = 0 then 6 else if a2 = 1 then 99 else absR M 1 (10 * a1 + 2)) → wB_Rset_55 a1 a2 a3 k s 0 a3 M := by
    intro s hs n2 es
    unfold wB_Rset_55
    refine sp_Rin i3 (by constructor <;> decide) hs (fun h3 => z1n ?_) (fun h3 => z0n (errL (by decide) (by decide) (if_pos (fun q => h3 ⟨q.2.2.1, by rw [es]; exact q.2.2.2⟩)) h))
    have hS : S_set a1 a2 a3 (absR M) = _ := if_neg (fun q => q ⟨h1, ⟨h2.1, h2.2, n2⟩, ⟨h3.1, by rw [← es]; exact h3.2⟩⟩)
    rw [hS] at h
    refine sp_Rits ⟨by omega, by omega⟩ ⟨by omega, by omega⟩ ?_
    refine sp_Rlays1 ⟨by omega, by omega⟩ ⟨by omega, by omega⟩ hx (fun M2 e2 o2 f2 => ?_)
    exact h M2 e2 f2
  refine ⟨fun n2 => ⟨fun n0 => ⟨fun n1 => ?_, fun e1 => fin 99 (by constructor <;> decide) n2 (by rw [if_neg n0, if_pos e1])⟩, fun e0 => fin 6 (by constructor <;> decide) n2 (by rw [if_pos e0])⟩, fun e2 => errL (by decide) (by decide) (if_pos (fun q => q.2.1.2.2 e2)) h⟩
  refine sp_Rits ⟨by omega, by omega⟩ ⟨by omega, by omega⟩ ?_
  exact fin _ ⟨by omega, by omega⟩ n2 (by rw [if_neg n0, if_neg n1])
def S_crucible (w : Int) (σ : gSt) : Int × gSt := if ¬ (2 ≤ w ∧ w ≤ 9) then S_err σ 1 else (σ 1 (10 * 12 + w), σ)
theorem sR_crucible {a1 : Int} {M : gSt} {k : Int → gSt → Prop} (i1 : inI a1) (h : ∀ M', absR M' = (S_crucible a1 (absR M)).2 → fr M M' → k (S_crucible a1 (absR M)).1 M') : w_Rcrucible a1 M k := by
  unfold w_Rcrucible
  refine sp_Rin i1 (by constructor <;> decide) (by constructor <;> decide) (fun h1 => z1 ?_) (fun h1 => z0 (errL (by decide) (by decide) (if_pos h1) h))
  have hS : S_crucible a1 (absR M) = _ := if_neg (fun q => q h1)
  rw [hS] at h
  exact sp_Rits ⟨by omega, by omega⟩ ⟨by omega, by omega⟩ (h M rfl fr_rf)
def S_seed (v : Int) (σ : gSt) : Int × gSt := (σ 0 8, up1 σ 0 8 v)
theorem sR_seed {a1 : Int} {M : gSt} {k : Int → gSt → Prop} (I : iN (absR M)) (h : ∀ M', absR M' = (S_seed a1 (absR M)).2 → fr M M' → k (S_seed a1 (absR M)).1 M') : w_Rseed a1 M k := by
  unfold w_Rseed
  intro x ex M1 e1
  rw [rdS M 8 (by omega) (by omega)] at ex
  subst ex; subst e1
  exact h _ (sp_Rsc (by omega) (by omega) (iN_t I)) (fr_wr (by decide) (fun _ => by omega))
def S_claim (t g : Int) (σ : gSt) : Int × gSt :=
  if ¬ ((0 ≤ t ∧ t < σ 0 0) ∧ (1 ≤ g ∧ g ≤ 99999)) then S_err σ 1
  else if σ 0 2 = 10 then S_err σ 4
  else (σ 0 2, up1 (up1 (up1 σ 2 (2 * σ 0 2) t) 2 (2 * σ 0 2 + 1) g) 0 2 (σ 0 2 + 1))
theorem sR_claim {a1 a2 : Int} {M : gSt} {k : Int → gSt → Prop} (i1 : inI a1) (i2 : inI a2) (I : iN (absR M)) (h : ∀ M', absR M' = (S_claim a1 a2 (absR M)).2 → fr M M' → k (S_claim a1 a2 (absR M)).1 M') : w_Rclaim a1 a2 M k := by
  have hx := iN_t I
  unfold iN at I
  unfold w_Rclaim wB_Rclaim_18
  refine sp_RisThing i1 ⟨by omega, by omega⟩ (fun h1 => z1 ?_) (fun h1 => z0 (errL (by decide) (by decide) (if_pos (fun q => h1 q.1)) h))
  refine sp_Rin i2 (by constructor <;> decide) (by constructor <;> decide) (fun h2 => z1n ?_) (fun h2 => z0n (errL (by decide) (by decide) (if_pos (fun q => h2 q.2)) h))
  have hc : ¬ ¬ ((0 ≤ a1 ∧ a1 < absR M 0 0) ∧ (1 ≤ a2 ∧ a2 ≤ 99999)) := fun q => q ⟨h1, h2⟩
  rw [rdS M 2 (by omega) (by omega), wI (x := absR M 0 2) ⟨by omega, by omega⟩]
  refine ⟨fun h3 => ?_, fun h3 => errL (by decide) (by decide) ((if_neg hc).trans (if_pos h3)) h⟩
  have hS : S_claim a1 a2 (absR M) = _ := (if_neg hc).trans (if_neg h3)
  rw [hS] at h
  refine ⟨⟨by omega, by omega⟩, fun M1 e1 => ?_⟩
  have A1 : absR M1 = up1 (absR M) 2 (2 * absR M 0 2) a1 := by
    rw [e1]; exact absR_put hx (Or.inr (Or.inl ⟨rfl, rfl, rfl⟩)) (by omega) (by omega) rfl
  have F1 : fr M M1 := by rw [e1]; exact fr_wr (by decide) (fun _ => by omega)
  have r1 : M1 1 2 = absR M 0 2 := by rw [rdS M1 2 (by omega) (by omega), A1, up1_o (by decide)]
  have x1 : tOk (absR M1) := by rw [A1]; exact tOk_B hx (Or.inl (by decide))
  rw [r1]
  refine ⟨⟨by omega, by omega⟩, fun M2 e2 => ?_⟩
  have A2 : absR M2 = up1 (absR M1) 2 (2 * absR M 0 2 + 1) a2 := by
    rw [e2]; exact absR_put x1 (Or.inr (Or.inl ⟨rfl, rfl, rfl⟩)) (by omega) (by omega) (by omega)
  have F2 : fr M1 M2 := by rw [e2]; exact fr_wr (by decide) (fun _ => by omega)
  have r2 : M2 1 2 = absR M 0 2 := by rw [rdS M2 2 (by omega) (by omega), A2, up1_o (by decide), A1, up1_o (by decide)]
  have x2 : tOk (absR M2) := by rw [A2]; exact tOk_B x1 (Or.inl (by decide))
  rw [r2]
  intro M3 e3
  have A3 : absR M3 = up1 (absR M2) 0 2 (absR M 0 2 + 1) := by rw [e3]; exact sp_Rsc (by omega) (by omega) x2
  have F3 : fr M2 M3 := by rw [e3]; exact fr_wr (by decide) (fun _ => by omega)
  have r3 : M3 1 2 - 1 = absR M 0 2 := by rw [rdS M3 2 (by omega) (by omega), A3, up1_i]; omega
  rw [r3]
  exact h M3 (by rw [A3, A2, A1]) (fr_trans F1 (fr_trans F2 F3))
