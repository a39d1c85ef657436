-- the reference's small methods, as they act on the abstract state
def inI (x : Int) : Prop := -2147483648 ≤ x ∧ x < 2147483648
theorem wI {x : Int} (h : inI x) : wrap x = x := wrap_in h.1 h.2
theorem z0 {A B : Prop} (h : A) : (wrap 0 = 0 → A) ∧ (¬ wrap 0 = 0 → B) := ⟨fun _ => h, fun n => absurd wrap_0 n⟩
theorem z1 {A B : Prop} (h : B) : (wrap 1 = 0 → A) ∧ (¬ wrap 1 = 0 → B) := ⟨fun n => absurd n (by decide), fun _ => h⟩
theorem z0n {A B : Prop} (h : B) : (¬ wrap 0 = 0 → A) ∧ (wrap 0 = 0 → B) := ⟨fun n => absurd wrap_0 n, fun _ => h⟩
theorem z1n {A B : Prop} (h : A) : (¬ wrap 1 = 0 → A) ∧ (wrap 1 = 0 → B) := ⟨fun _ => h, fun n => absurd n (by decide)⟩
theorem sp_Rin {v lo hi : Int} {M : gSt} {k : Int → gSt → Prop} (hv : inI v) (hl : inI lo) (hh : inI hi) (k1 : lo ≤ v ∧ v ≤ hi → k 1 M) (k0 : ¬ (lo ≤ v ∧ v ≤ hi) → k 0 M) : w_Rin v lo hi M k := by
  unfold w_Rin
  rw [wI hv, wI hl, wI hh]
  exact ⟨fun h => k0 (by omega), fun h => ⟨fun h2 => k0 (by omega), fun h2 => k1 (by omega)⟩⟩
theorem sp_Rheld {v lo hi : Int} {M : gSt} {k : Int → gSt → Prop} (hv : inI v) (hl : inI lo) (hh : inI hi) (h : k (if v < lo then lo else if hi < v then hi else v) M) : w_Rheld v lo hi M k := by
  unfold w_Rheld
  rw [wI hv, wI hl, wI hh]
  refine ⟨fun h1 => ⟨fun h2 => ?_, fun h2 => ?_⟩, fun h1 => ?_⟩
  · rw [if_neg (by omega), if_neg (by omega)] at h; exact h
  · rw [if_neg (by omega), if_pos (by omega)] at h; exact h
  · rw [if_pos (by omega)] at h; exact h
theorem absR_err {M : gSt} {j x : Int} : absR (wr M 4 j x) = absR M := by
  have e : ∀ o, o ≠ 4 → wr M 4 j x o = M o := fun o ho => wrO' ho
  funext d i
  simp only [absR]
  rw [e 1 (by omega), e 2 (by omega), e 0 (by omega), e 11 (by omega), e 12 (by omega), e 13 (by omega)]
/-- raw texts, image: untouched -/
def fr (M M' : gSt) : Prop := (∀ j, 202 ≤ j → j < 452 → M' 1 j = M 1 j) ∧ M' 2 = M 2 ∧ M' 0 16 = M 0 16
theorem fr_rf {M : gSt} : fr M M := ⟨fun _ _ _ => rfl, rfl, rfl⟩
theorem fr_trans {M M' M'' : gSt} (h : fr M M') (h2 : fr M' M'') : fr M M'' := ⟨fun j a b => (h2.1 j a b).trans (h.1 j a b), h2.2.1.trans h.2.1, h2.2.2.trans h.2.2⟩
theorem fr_wr {M : gSt} {o : Nat} {p x : Int} (ho : o ≠ 2) (hp : o = 1 → p < 202 ∨ 452 ≤ p) (h0 : o = 0 → p ≠ 16 := by intro h; omega) : fr M (wr M o p x) := by
  refine ⟨fun j a b => ?_, wrO' (fun e => ho e.symm), ?_⟩
  · by_cases h : 1 = o
    · subst h; exact wrN (by have := hp rfl; omega)
    · exact wrO h
  · by_cases h : 0 = o
    · subst h; exact wrN (h0 rfl).symm
    · exact wrO h
def S_err (σ : gSt) (j : Int) : Int × gSt := (-1000000000 - j, σ)
theorem sp_Rerror {j : Int} {M : gSt} {k : Int → gSt → Prop} (h0 : 0 ≤ j) (h1 : j < 7) (h : ∀ M', absR M' = (S_err (absR M) j).2 → fr M M' → k (S_err (absR M) j).1 M') : w_Rerror j M k := by
  unfold w_Rerror
  refine ⟨⟨h0, h1⟩, ⟨h0, h1⟩, fun M' e => ?_⟩
  subst e
  exact h _ absR_err (fr_wr (by decide) (fun e => absurd e (by decide)))
theorem rdB (M : gSt) (i : Int) (h0 : 0 ≤ i) (h1 : i < 130) : M 1 (10 + i) = absR M 1 i := by simp [absR, absS, msk, h0, h1]
theorem rdS (M : gSt) (i : Int) (h0 : 0 ≤ i) (h1 : i < 9) : M 1 i = absR M 0 i := by simp [absR, absS, h0, h1]
theorem txtOk_abs {M : gSt} (h : absR M 0 9 ≤ 62 ∧ absR M 0 10 ≤ 62) : txtOk (M 1) := by
  have e1 : absR M 0 9 = M 1 202 := by simp [absR, absS]
  have e2 : absR M 0 10 = M 1 327 := by simp [absR, absS]
  rw [e1, e2] at h
  exact h
/-- lengths of the texts, as every step keeps them -/
def tOk (σ : gSt) : Prop := σ 0 9 ≤ 62 ∧ σ 0 10 ≤ 62
theorem tOk_B {σ : gSt} {c : Nat} {i x : Int} (h : tOk σ) (hc : c ≠ 0 ∨ i < 9) : tOk (up1 σ c i x) := by
  unfold tOk up1
  rcases hc with hc | hc
  · rw [wrO (Ne.symm hc), wrO (Ne.symm hc)]; exact h
  · by_cases h0 : 0 = c
    · subst h0; rw [wrN (by omega), wrN (by omega)]; exact h
    · rw [wrO h0, wrO h0]; exact h
theorem sp_Rits {t w : Int} {M : gSt} {k : Int → gSt → Prop} (ht : 0 ≤ t ∧ t ≤ 12) (hw : 0 ≤ w ∧ w ≤ 9) (h : k (absR M 1 (10 * t + w)) M) : w_Rits t w M k := by
  unfold w_Rits
  refine ⟨⟨by omega, by omega⟩, ?_⟩
  rw [show 10 + 10 * t + w = 10 + (10 * t + w) from by omega, rdB M (10 * t + w) (by omega) (by omega)]
  exact h
theorem sp_Rlays1 {t w v : Int} {M : gSt} {k : gSt → Prop} (ht : 0 ≤ t ∧ t ≤ 12) (hw : 0 ≤ w ∧ w ≤ 9) (hx : tOk (absR M)) (h : ∀ M', absR M' = up1 (absR M) 1 (10 * t + w) v → onlyS M M' → fr M M' → k M') : w_Rlays1 t w v M k := by
  unfold w_Rlays1
  refine ⟨⟨by omega, by omega⟩, fun M' e => ?_⟩
  subst e
  refine h _ ?_ onlyS_wr (fr_wr (by decide) (fun _ => by omega))
  refine absR_s (fun o ho => wrO' ho) (by decide) (absS_put (txtOk_abs hx) 1 10 130 (Or.inl ⟨rfl, rfl, rfl⟩) (by omega) (by omega) (fun j => ?_))
  rw [show 10 + 10 * t + w = 10 + (10 * t + w) from by omega]
  by_cases hj : j = 10 + (10 * t + w)
  · rw [if_pos hj, hj, wrI]
  · rw [if_neg hj, wrN hj]
theorem sp_Rsc {M : gSt} {j x : Int} (h0 : 0 ≤ j) (h1 : j < 9) (hx : tOk (absR M)) : absR (wr M 1 j x) = up1 (absR M) 0 j x := by
  refine absR_s (fun o ho => wrO' ho) (by decide) (absS_sc (txtOk_abs hx) h0 h1 (fun i => ?_))
  by_cases hj : i = j
  · rw [if_pos hj, hj, wrI]
  · rw [if_neg hj, wrN hj]
theorem sp_RisThing {t : Int} {M : gSt} {k : Int → gSt → Prop} (ht : inI t) (hn : 0 ≤ absR M 0 0 ∧ absR M 0 0 ≤ 12) (k1 : 0 ≤ t ∧ t < absR M 0 0 → k 1 M) (k0 : ¬ (0 ≤ t ∧ t < absR M 0 0) → k 0 M) : w_RisThing t M k := by
  unfold w_RisThing
  rw [rdS M 0 (by omega) (by omega)]
  exact sp_Rin ht ⟨by omega, by omega⟩ ⟨by omega, by omega⟩ (fun h => ⟨Or.inr rfl, k1 ⟨h.1, by omega⟩⟩) (fun h => ⟨Or.inl rfl, k0 (fun h2 => h ⟨h2.1, by omega⟩)⟩)
/-- one more thing: kind and m of km, all else 0 -/
def addT (σ : gSt) (km : Int) : gSt := fun c i =>
  if c = 0 ∧ i = 0 then σ 0 0 + 1
  else if c = 1 ∧ 10 * σ 0 0 ≤ i ∧ i < 10 * σ 0 0 + 10 then (if i = 10 * σ 0 0 then km / 100 else if i = 10 * σ 0 0 + 1 then km % 100 else 0)
  else σ c i
def zerT (σ : gSt) (n j : Int) : gSt := fun c i => if c = 1 ∧ 10 * n ≤ i ∧ i < 10 * n + j then 0 else σ c i
theorem tdiv_pos {a b : Int} (h : 0 ≤ a) : a.tdiv b = a / b := Int.tdiv_eq_ediv_of_nonneg h
theorem tmod_pos {a b : Int} (h : 0 ≤ a) : a.tmod b = a % b := Int.tmod_eq_emod_of_nonneg h
theorem sp_RaddThing {km : Int} {M : gSt} {k : Int → gSt → Prop} (hk : 0 ≤ km ∧ km ≤ 699) (hn : 0 ≤ absR M 0 0 ∧ absR M 0 0 ≤ 11) (hx : tOk (absR M)) (h : ∀ M', absR M' = addT (absR M) km → fr M M' → onlyS M M' → k (absR M 0 0) M') : w_RaddThing km M k := by
  unfold w_RaddThing
  intro n hnE
  rw [rdS M 0 (by omega) (by omega)] at hnE
  have hn0 : 0 ≤ n ∧ n ≤ 11 := by omega
  refine ⟨11, ?_⟩
  have loop : ∀ (d : Nat) (j : Int) (M1 : gSt), (d : Int) = 10 - j → 0 ≤ j → absR M1 = zerT (absR M) n j → fr M M1 → onlyS M M1 → ∀ f : Nat, d < f → wL_RaddThing_9 km k (fun u2_9 M9 => w_Rlays1 u2_9 0 (Int.tdiv (wrap km) 100) M9 (fun M35 => w_Rlays1 u2_9 1 (Int.tmod (wrap km) 100) M35 (fun M45 => ∀ M57 : gSt, M57 = wr M45 1 0 ((M45 1 0) + 1) → (k u2_9 M57)))) f n j M1 := by
    intro d
    induction d with
    | zero =>
      intro j M1 hd hj0 hA hF hO f hf
      obtain ⟨f, rfl⟩ : ∃ g, f = g + 1 := ⟨f - 1, by omega⟩
      have hj : j = 10 := by omega
      subst hj
      simp only [wL_RaddThing_9, wC_RaddThing_9]
      refine ⟨fun _ => ?_, fun h => absurd h (by decide)⟩
      have hx1 : tOk (absR M1) := by rw [hA]; unfold tOk zerT; simp; exact hx
      rw [wI ⟨by omega, by omega⟩, tdiv_pos hk.1, tmod_pos hk.1]
      refine sp_Rlays1 ⟨by omega, by omega⟩ ⟨by omega, by omega⟩ hx1 (fun M2 h2 o2 f2 => ?_)
      have hx2 : tOk (absR M2) := by rw [h2]; exact tOk_B hx1 (Or.inl (by decide))
      refine sp_Rlays1 ⟨by omega, by omega⟩ ⟨by omega, by omega⟩ hx2 (fun M3 h3 o3 f3 => ?_)
      have hx3 : tOk (absR M3) := by rw [h3]; exact tOk_B hx2 (Or.inl (by decide))
      intro M4 e4
      subst e4
      have en : absR M 0 0 = n := hnE.symm
      rw [rdS M3 0 (by omega) (by omega)]
      have e0 : absR M3 0 0 = n := by
        rw [h3, h2, hA]
        simp [up1, wr, zerT, en]
      rw [e0]
      rw [hnE]
      refine h _ ?_ (fr_trans hF (fr_trans f2 (fr_trans f3 (fr_wr (by decide) (fun _ => by omega))))) (onlyS_trans hO (onlyS_trans o2 (onlyS_trans o3 onlyS_wr)))
      rw [sp_Rsc (by omega) (by omega) hx3, h3, h2, hA]
      funext c i
      simp only [up1, wr, zerT, addT, en]
      repeat' split
      all_goals first | rfl | omega
    | succ d ih =>
      intro j M1 hd hj0 hA hF hO f hf
      obtain ⟨f, rfl⟩ : ∃ g, f = g + 1 := ⟨f - 1, by omega⟩
      simp only [wL_RaddThing_9, wC_RaddThing_9]
      rw [wI (x := j) ⟨by omega, by omega⟩]
      refine ⟨fun h => absurd h (by omega), fun _ => ?_⟩
      have hx1 : tOk (absR M1) := by rw [hA]; unfold tOk zerT; simp; exact hx
      refine sp_Rlays1 ⟨by omega, by omega⟩ ⟨by omega, by omega⟩ hx1 (fun M2 h2 o2 f2 => ?_)
      refine ih (j + 1) M2 (by omega) (by omega) ?_ (fr_trans hF f2) (onlyS_trans hO o2) f (by omega)
      rw [h2, hA]
      funext c i
      simp only [up1, wr, zerT]
      repeat' split
      all_goals first | rfl | omega
  exact loop 10 0 M (by omega) (by omega) (by funext c i; simp [zerT]; intro _ _ _; omega) fr_rf onlyS_rf 11 (by omega)
