-- the reference: carry, image, restore; sums, draws, years; move, papers of a sheet; count
def cpyA (M : gSt) (a b : Nat) : gSt := fun o i => if o = b ∧ 0 ≤ i ∧ i < 536 then M a i else M o i
theorem sp_Rcarry {a b : Nat} {M : gSt} {k : gSt → Prop} (ha : a = 1 ∨ a = 2 ∨ a = 3) (hb : b = 1 ∨ b = 2 ∨ b = 3) (hab : a ≠ b) (h : k (cpyA M a b)) : w_Rcarry a b M k := by
  unfold w_Rcarry
  refine ⟨537, ?_⟩
  have la : isA a ∧ lenR a = 536 := by rcases ha with rfl | rfl | rfl <;> exact ⟨⟨by decide, by decide⟩, rfl⟩
  have lb : isA b ∧ lenR b = 536 := by rcases hb with rfl | rfl | rfl <;> exact ⟨⟨by decide, by decide⟩, rfl⟩
  have loop : ∀ (d : Nat) (j : Int) (M1 : gSt), (d : Int) = 536 - j → 0 ≤ j → M1 = (fun o i => if o = b ∧ 0 ≤ i ∧ i < j then M a i else M o i) → ∀ f : Nat, d < f → wL_Rcarry_2 a b k (fun M2 => k M2) f j M1 := by
    intro d
    induction d with
    | zero =>
      intro j M1 hd hj hA f hf
      obtain ⟨f, rfl⟩ : ∃ g, f = g + 1 := ⟨f - 1, by omega⟩
      simp only [wL_Rcarry_2, wC_Rcarry_2]
      rw [wI (x := j) ⟨by omega, by omega⟩]
      refine ⟨fun _ => ?_, fun h => absurd h (by omega)⟩
      have e : j = 536 := by omega
      subst e
      rw [hA]
      exact h
    | succ d ih =>
      intro j M1 hd hj hA f hf
      obtain ⟨f, rfl⟩ : ∃ g, f = g + 1 := ⟨f - 1, by omega⟩
      simp only [wL_Rcarry_2, wC_Rcarry_2]
      rw [wI (x := j) ⟨by omega, by omega⟩, la.2, lb.2]
      refine ⟨fun h => absurd h (by omega), fun _ => ⟨⟨la.1, by omega, by omega⟩, ⟨lb.1, by omega, by omega⟩, fun M2 e2 => ?_⟩⟩
      refine ih (j + 1) M2 (by omega) (by omega) ?_ f (by omega)
      rw [e2, hA]
      funext o i
      simp only [wr]
      by_cases ho : o = b
      · subst ho
        by_cases hi : i = j
        · subst hi
          rw [if_pos ⟨rfl, rfl⟩, if_neg (fun q => hab q.1), if_pos ⟨rfl, by omega, by omega⟩]
        · rw [if_neg (fun q => hi q.2)]
          by_cases h2 : 0 ≤ i ∧ i < j
          · rw [if_pos ⟨rfl, h2⟩, if_pos ⟨rfl, by omega⟩]
          · rw [if_neg (fun q => h2 q.2), if_neg (fun q => h2 (by omega))]
      · rw [if_neg (fun q => ho q.1), if_neg (fun q => ho q.1), if_neg (fun q => ho q.1)]
  exact loop 536 0 M (by omega) (by omega) (by funext o i; exact (if_neg (by omega)).symm) 537 (by omega)
theorem regS_in {c : Nat} {j : Int} (h : regS c j) : 0 ≤ j ∧ j < 536 := by
  match c, h with
  | 0, h => simp only [regS] at h; omega
  | 1, h => simp only [regS] at h; omega
  | 2, h => simp only [regS] at h; omega
  | 3, h => simp only [regS] at h; omega
  | 4, h => simp only [regS] at h; omega
  | 5, h => simp only [regS] at h; omega
  | 6, h => simp only [regS] at h; omega
  | 7, h => simp only [regS] at h; omega
  | 8, h => simp only [regS] at h; omega
  | (n + 9), h => exact absurd h (fun q => q)
theorem absS_536 {s s' : Int → Int} (ht : txtOk s) (h : ∀ j, 0 ≤ j → j < 536 → s' j = s j) : absS s' = absS s := by
  funext c
  exact absS_congr c (fun _ => ht.1) (fun _ => ht.2) (fun j hj => h j (regS_in hj).1 (regS_in hj).2)
/-- the image is what is now -/
def imgσ (σ : gSt) : gSt := fun c i => if 10 ≤ c ∧ c < 20 then σ (c - 10) i else if c = 21 ∧ i = 0 then σ 21 0 + 1 else σ c i
/-- what is now is the image -/
def rstσ (σ : gSt) : gSt := fun c i => if c < 10 then σ (c + 10) i else σ c i
def S_image (σ : gSt) : Int × gSt := (σ 21 0 + 1, imgσ σ)
theorem rdImg (M : gSt) : M 0 3 = absR M 21 0 := by simp [absR]
theorem sR_image {M : gSt} {k : Int → gSt → Prop} (I : iN (absR M)) (hi : 0 ≤ absR M 21 0) (h : ∀ M', absR M' = (S_image (absR M)).2 → M' 1 = M 1 → (∀ j, 0 ≤ j → j < 536 → M' 2 j = M 1 j) → M' 0 16 = M 0 16 → k (S_image (absR M)).1 M') : w_Rimage M k := by
  have ht := txtOk_abs (iN_t I)
  unfold w_Rimage
  refine sp_Rcarry (Or.inl rfl) (Or.inr (Or.inl rfl)) (by decide) ?_
  intro M1 e1
  have c0 : cpyA M 1 2 0 3 = absR M 21 0 := by rw [← rdImg]; simp [cpyA]
  rw [c0] at e1
  have v : M1 0 3 = absR M 21 0 + 1 := by rw [e1, wrI]
  rw [v]
  have m1 : M1 1 = M 1 := by rw [e1, wrO' (by decide)]; funext i; simp [cpyA]
  have m2 : ∀ j, 0 ≤ j → j < 536 → M1 2 j = M 1 j := fun j a b => by rw [e1, wrO (by decide)]; simp [cpyA, a, b]
  have t : M1 0 16 = M 0 16 := by rw [e1, wrN (by decide)]; simp [cpyA]
  refine h M1 ?_ m1 m2 t
  have s2 : absS (M1 2) = absS (M 1) := absS_536 ht m2
  have mo : ∀ o, o ≠ 2 → o ≠ 0 → M1 o = M o := fun o a b => by rw [e1, wrO' b]; funext i; simp [cpyA, a]
  have nz : ¬ absR M 21 0 + 1 = 0 := by omega
  funext c i
  simp only [S_image, imgσ, absR]
  by_cases c1 : c < 10
  · rw [if_neg (show ¬ (10 ≤ c ∧ c < 20) by omega), if_neg (show ¬ (c = 21 ∧ i = 0) by omega), if_pos c1, if_pos c1, m1]
  · by_cases c2 : c < 20
    · have a : 10 ≤ c := by omega
      have b : c - 10 < 10 := by omega
      rw [v]
      simp [c1, c2, a, b, s2, nz]
    · have a : ¬ (10 ≤ c ∧ c < 20) := by omega
      rw [mo 11 (by decide) (by decide), mo 12 (by decide) (by decide), mo 13 (by decide) (by decide)]
      simp only [c1, c2, a, if_false]
      by_cases c21 : c = 21
      · subst c21
        by_cases i0 : i = 0
        · subst i0
          simp [v, absR]
        · simp [i0]
      · simp [c21]
def S_restore (σ : gSt) : Int × gSt := if σ 21 0 = 0 then S_err σ 2 else (σ 10 5, rstσ σ)
theorem sR_restore {M : gSt} {k : Int → gSt → Prop} (hi : 0 ≤ absR M 21 0 ∧ absR M 21 0 < 1000000) (ht : absR M 21 0 ≠ 0 → txtOk (M 2)) (h : ∀ M', absR M' = (S_restore (absR M)).2 → (absR M 21 0 = 0 → fr M M') → (absR M 21 0 ≠ 0 → M' 2 = M 2 ∧ M' 0 16 = M 0 16 ∧ ∀ j, 0 ≤ j → j < 536 → M' 1 j = M 2 j) → k (S_restore (absR M)).1 M') : w_Rrestore M k := by
  unfold w_Rrestore
  rw [rdImg M, wI (x := absR M 21 0) ⟨by omega, by omega⟩]
  refine ⟨fun h1 => ?_, fun h1 => errL (S := S_restore (absR M)) (by decide) (by decide) (if_pos h1) (fun M' e f => h M' e (fun _ => f) (fun q => absurd h1 q))⟩
  have hS : S_restore (absR M) = _ := if_neg h1
  rw [hS] at h
  refine sp_Rcarry (Or.inr (Or.inl rfl)) (Or.inl rfl) (by decide) ?_
  have m1 : ∀ j, 0 ≤ j → j < 536 → cpyA M 2 1 1 j = M 2 j := fun j a b => by simp [cpyA, a, b]
  have mo : ∀ o, o ≠ 1 → cpyA M 2 1 o = M o := fun o a => by funext i; simp [cpyA, a]
  have s1 : absS (cpyA M 2 1 1) = absS (M 2) := absS_536 (ht h1) m1
  have z : ¬ M 0 3 = 0 := by rw [rdImg M]; exact h1
  have v : cpyA M 2 1 1 5 = absR M 10 5 := by rw [m1 5 (by omega) (by omega)]; simp [absR, absS, z]
  rw [v]
  refine h _ ?_ (fun q => absurd q h1) (fun _ => ⟨mo 2 (by decide), by rw [mo 0 (by decide)], m1⟩)
  funext c i
  simp only [rstσ, absR]
  by_cases c1 : c < 10
  · have a : ¬ c + 10 < 10 := by omega
    have b : c + 10 < 20 := by omega
    simp [c1, a, b, s1, z]
  · rw [mo 2 (by decide), mo 0 (by decide), mo 11 (by decide), mo 12 (by decide), mo 13 (by decide)]
    simp [c1]
-- sums
def sumT (f : Int → Int) : Nat → Int
  | 0 => 0
  | n + 1 => sumT f n + f (n : Int)
theorem sp_RallGrams {M : gSt} {k : Int → gSt → Prop} (hn : 0 ≤ absR M 0 0 ∧ absR M 0 0 ≤ 12) (h : k (sumT (fun t => absR M 1 (10 * t + 2)) (absR M 0 0).toNat) M) : w_RallGrams M k := by
  unfold w_RallGrams
  refine ⟨14, ?_⟩
  have loop : ∀ (d : Nat) (j : Int), (d : Int) = absR M 0 0 - j → 0 ≤ j → ∀ f : Nat, d < f → wL_RallGrams_4 k (fun u1_4 M4 => k u1_4 M4) f (sumT (fun t => absR M 1 (10 * t + 2)) j.toNat) j M := by
    intro d
    induction d with
    | zero =>
      intro j hd hj f hf
      obtain ⟨f, rfl⟩ : ∃ g, f = g + 1 := ⟨f - 1, by omega⟩
      simp only [wL_RallGrams_4, wC_RallGrams_4]
      rw [rdS M 0 (by omega) (by omega), wI (x := j) ⟨by omega, by omega⟩, wI (x := absR M 0 0) ⟨by omega, by omega⟩]
      refine ⟨fun _ => ?_, fun h => absurd h (by omega)⟩
      have e : j = absR M 0 0 := by omega
      rw [e]; exact h
    | succ d ih =>
      intro j hd hj f hf
      obtain ⟨f, rfl⟩ : ∃ g, f = g + 1 := ⟨f - 1, by omega⟩
      simp only [wL_RallGrams_4, wC_RallGrams_4]
      rw [rdS M 0 (by omega) (by omega), wI (x := j) ⟨by omega, by omega⟩, wI (x := absR M 0 0) ⟨by omega, by omega⟩]
      refine ⟨fun h => absurd h (by omega), fun _ => ?_⟩
      refine sp_Rits ⟨by omega, by omega⟩ ⟨by omega, by omega⟩ ?_
      intro x ex
      have e2 : x = sumT (fun t => absR M 1 (10 * t + 2)) (j + 1).toNat := by
        rw [ex, show (j + 1).toNat = j.toNat + 1 from by omega]
        simp only [sumT]
        rw [Int.toNat_of_nonneg hj]
      rw [e2]
      exact ih (j + 1) (by omega) (by omega) f (by omega)
  exact loop (absR M 0 0).toNat 0 (by omega) (by omega) 14 (by omega)
def S_count (w : Int) (σ : gSt) : Int × gSt :=
  if w = 0 then (σ 0 0, σ) else if w = 1 then (σ 0 1, σ) else if w = 2 then (σ 0 2, σ) else if w = 3 then (σ 0 3, σ) else if w = 4 then (σ 0 4, σ)
  else if w = 5 then (sumT (fun t => σ 1 (10 * t + 2)) (σ 0 0).toNat, σ) else if w = 6 then (σ 0 5, σ) else if w = 7 then (σ 0 6, σ) else if w = 8 then (σ 0 7, σ) else if w = 9 then (0, σ) else if w = 10 then (σ 0 8, σ) else S_err σ 1
theorem sR_count {a1 : Int} {M : gSt} {k : Int → gSt → Prop} (i1 : inI a1) (I : iN (absR M)) (h : ∀ r M', (a1 = 9 ∨ r = (S_count a1 (absR M)).1) → absR M' = (S_count a1 (absR M)).2 → fr M M' → k r M') : w_Rcount a1 M k := by
  unfold iN at I
  unfold w_Rcount
  rw [wI i1, rdS M 0 (by omega) (by omega), rdS M 1 (by omega) (by omega), rdS M 2 (by omega) (by omega), rdS M 3 (by omega) (by omega), rdS M 4 (by omega) (by omega), rdS M 5 (by omega) (by omega), rdS M 6 (by omega) (by omega), rdS M 7 (by omega) (by omega), rdS M 8 (by omega) (by omega)]
  refine ⟨fun e => ?_, fun e => ?_, fun e => ?_, fun e => ?_, fun e => ?_, fun e => ?_, fun e => ?_, fun e => ?_, fun e => ?_, fun e => ?_, fun e => ?_, fun e => ?_⟩
  all_goals try (subst e; exact h _ M (Or.inr rfl) rfl fr_rf)
  · subst e
    exact sp_RallGrams ⟨by omega, by omega⟩ (h _ M (Or.inr rfl) rfl fr_rf)
  · subst e
    exact h _ M (Or.inl rfl) rfl fr_rf
  · obtain ⟨n0, n1, n2, n3, n4, n5, n6, n7, n8, n9, n10⟩ := e
    have e : S_count a1 (absR M) = S_err (absR M) 1 := by
      unfold S_count
      rw [if_neg n0, if_neg n1, if_neg n2, if_neg n3, if_neg n4, if_neg n5, if_neg n6, if_neg n7, if_neg n8, if_neg n9, if_neg n10]
    exact sp_Rerror (by decide) (by decide) (fun M' a f => h _ M' (Or.inr (by rw [e])) (by rw [e]; exact a) f)
-- draws, years
theorem xushr8 (x : Int) : 0 ≤ xushr x 8 ∧ xushr x 8 < 16777216 := by
  have h := pk_ushr (Int32.ofInt x) (Int32.ofInt 8) 8 (by decide)
  unfold xushr
  generalize ((Int32.ofInt x).toUInt32 >>> ((Int32.ofInt 8).toUInt32 &&& Int32.toUInt32 31)).toInt32 = v at h ⊢
  have hx := (Int32.ofInt x).toBitVec.isLt
  have h2 : v.toBitVec.toNat < 16777216 := by rw [h]; omega
  have h3 : v.toInt = (v.toBitVec.toNat : Int) := by
    show v.toBitVec.toInt = _
    rw [BitVec.toInt_eq_toNat_of_lt (by omega)]
  omega
def nextZ (z : Int) : Int := z * 1103515245 + 12345
def loseT (τ : gSt) (t : Int) : gSt := fun c i => if c = 1 ∧ 10 * t + 2 ≤ i ∧ i < 10 * t + 6 then τ 1 i - τ 1 i / 100 else τ c i
/-- the first so many things of a year -/
def yearT (σ : gSt) : Nat → gSt
  | 0 => σ
  | t + 1 => let τ := up1 (yearT σ t) 0 8 (nextZ (yearT σ t 0 8))
    if xushr (nextZ (yearT σ t 0 8)) 8 % 100 < yearT σ t 1 (10 * (t : Int) + 1) then loseT τ t else τ
def yearσ (σ : gSt) : gSt := up1 (yearT σ (σ 0 0).toNat) 0 5 (σ 0 5 + 1)
def goσ (σ : gSt) : Nat → gSt
  | 0 => σ
  | n + 1 => yearσ (goσ σ n)
theorem iN_up {σ : gSt} {c : Nat} {i x : Int} (h : iN σ) (hc : c ≠ 0 ∨ i = 8) : iN (up1 σ c i x) := by
  have e : ∀ j, j ≠ 8 → up1 σ c i x 0 j = σ 0 j := fun j hj => by
    rcases hc with hc | hc
    · exact up1_o (Ne.symm hc)
    · subst hc
      by_cases h0 : 0 = c
      · subst h0; exact up1_n hj
      · exact up1_o h0
  unfold iN
  rw [e 0 (by decide), e 1 (by decide), e 2 (by decide), e 3 (by decide), e 4 (by decide), e 5 (by decide), e 6 (by decide), e 7 (by decide), e 9 (by decide), e 10 (by decide)]
  exact h
theorem thOk_lose {σ : gSt} {t u : Int} (h : thOk (σ 1) (10 * u)) : thOk (loseT σ t 1) (10 * u) := by
  have key : ∀ w, 0 ≤ w → w ≤ 9 → loseT σ t 1 (10 * u + w) = if t = u ∧ 2 ≤ w ∧ w ≤ 5 then σ 1 (10 * u + w) - σ 1 (10 * u + w) / 100 else σ 1 (10 * u + w) := by
    intro w h0 h1
    unfold loseT
    by_cases q : t = u ∧ 2 ≤ w ∧ w ≤ 5
    · rw [if_pos q, if_pos ⟨rfl, by omega, by omega⟩]
    · rw [if_neg q, if_neg (fun z => q (by omega))]
  unfold thOk at h ⊢
  rw [key 0 (by decide) (by decide), key 1 (by decide) (by decide), key 2 (by decide) (by decide), key 3 (by decide) (by decide), key 4 (by decide) (by decide), key 5 (by decide) (by decide), key 6 (by decide) (by decide), key 7 (by decide) (by decide), key 8 (by decide) (by decide), key 9 (by decide) (by decide)]
  simp only [Int.add_zero] at h ⊢
  by_cases e : t = u
  · simp [e]
    omega
  · simp [e]
    omega
/-- what a year asks -/
def iW (σ : gSt) : Prop := 0 ≤ σ 0 0 ∧ σ 0 0 ≤ 12 ∧ tOk σ
theorem iN_w {σ : gSt} (h : iN σ) : iW σ := ⟨h.1, h.2.1, iN_t h⟩
theorem yearT_keep {σ : gSt} (hB : iB σ) : ∀ n : Nat, iB (yearT σ n) ∧ ∀ c i, (c ≠ 1 ∧ ¬ (c = 0 ∧ i = 8)) → yearT σ n c i = σ c i := by
  intro n
  induction n with
  | zero => exact ⟨hB, fun _ _ _ => rfl⟩
  | succ n ih =>
    obtain ⟨b, e⟩ := ih
    have b2 : iB (up1 (yearT σ n) 0 8 (nextZ (yearT σ n 0 8))) := fun t h0 h1 => by
      have := b t h0 h1
      unfold thOk at this ⊢
      simp only [up1, wr] at this ⊢
      simpa using this
    have e2 : ∀ c i, (c ≠ 1 ∧ ¬ (c = 0 ∧ i = 8)) → up1 (yearT σ n) 0 8 (nextZ (yearT σ n 0 8)) c i = σ c i := fun c i h => by
      simp only [up1, wr]
      rw [if_neg h.2]
      exact e c i h
    simp only [yearT]
    split
    · refine ⟨fun t h0 h1 => thOk_lose (b2 t h0 h1), fun c i h => ?_⟩
      simp only [loseT]
      rw [if_neg (fun q => h.1 q.1)]
      exact e2 c i h
    · exact ⟨b2, e2⟩
theorem sp_Ryear {M : gSt} {k : gSt → Prop} (I : iW (absR M)) (J : iB (absR M)) (h : ∀ M', absR M' = yearσ (absR M) → fr M M' → onlyS M M' → k M') : w_Ryear M k := by
  have I0 := I
  unfold iW at I
  unfold w_Ryear
  refine ⟨14, ?_⟩
  have loop : ∀ (d : Nat) (j : Int) (M1 : gSt), (d : Int) = absR M 0 0 - j → 0 ≤ j → absR M1 = yearT (absR M) j.toNat → fr M M1 → onlyS M M1 → ∀ f : Nat, d < f → wL_Ryear_2 k (fun M2 => ∀ M78 : gSt, M78 = wr M2 1 5 ((M2 1 5) + 1) → (k M78)) f j M1 := by
    intro d
    induction d with
    | zero =>
      intro j M1 hd hj hA hF hO f hf
      obtain ⟨f, rfl⟩ : ∃ g, f = g + 1 := ⟨f - 1, by omega⟩
      obtain ⟨b, e⟩ := yearT_keep J j.toNat
      have e00 : absR M1 0 0 = absR M 0 0 := by rw [hA]; exact e 0 0 ⟨by decide, by decide⟩
      have e05 : absR M1 0 5 = absR M 0 5 := by rw [hA]; exact e 0 5 ⟨by decide, by decide⟩
      have ht : tOk (absR M1) := by
        unfold tOk
        rw [hA, e 0 9 ⟨by decide, by decide⟩, e 0 10 ⟨by decide, by decide⟩]
        exact I0.2.2
      simp only [wL_Ryear_2, wC_Ryear_2]
      rw [rdS M1 0 (by omega) (by omega), e00, wI (x := j) ⟨by omega, by omega⟩, wI (x := absR M 0 0) ⟨by omega, by omega⟩]
      refine ⟨fun _ => fun M2 e2 => ?_, fun h => absurd h (by omega)⟩
      rw [rdS M1 5 (by omega) (by omega), e05] at e2
      refine h M2 ?_ (fr_trans hF (by rw [e2]; exact fr_wr (by decide) (fun _ => by omega))) (onlyS_trans hO (by rw [e2]; exact onlyS_wr))
      rw [e2, sp_Rsc (by omega) (by omega) ht, hA]
      unfold yearσ
      rw [show (absR M 0 0).toNat = j.toNat from by omega]
    | succ d ih =>
      intro j M1 hd hj hA hF hO f hf
      obtain ⟨f, rfl⟩ : ∃ g, f = g + 1 := ⟨f - 1, by omega⟩
      obtain ⟨b, e⟩ := yearT_keep J j.toNat
      have e00 : absR M1 0 0 = absR M 0 0 := by rw [hA]; exact e 0 0 ⟨by decide, by decide⟩
      have ht : tOk (absR M1) := by
        unfold tOk
        rw [hA, e 0 9 ⟨by decide, by decide⟩, e 0 10 ⟨by decide, by decide⟩]
        exact I0.2.2
      simp only [wL_Ryear_2, wC_Ryear_2]
      rw [rdS M1 0 (by omega) (by omega), e00, wI (x := j) ⟨by omega, by omega⟩, wI (x := absR M 0 0) ⟨by omega, by omega⟩]
      refine ⟨fun h => absurd h (by omega), fun _ => ?_⟩
      unfold w_Rdraw
      intro M2 e2
      have A2 : absR M2 = up1 (absR M1) 0 8 (nextZ (absR M1 0 8)) := by
        rw [rdS M1 8 (by omega) (by omega)] at e2
        rw [e2]; exact sp_Rsc (by omega) (by omega) ht
      have z2 : M2 1 8 = nextZ (absR M1 0 8) := by rw [rdS M2 8 (by omega) (by omega), A2, up1_i]
      rw [z2]
      have F2 : fr M1 M2 := by rw [e2]; exact fr_wr (by decide) (fun _ => by omega)
      have O2 : onlyS M1 M2 := by rw [e2]; exact onlyS_wr
      have ht2 : tOk (absR M2) := by rw [A2]; exact tOk_B ht (Or.inr (by decide))
      have T := b j hj (by omega)
      unfold thOk at T
      rw [← hA] at T
      have hr := xushr8 (nextZ (absR M1 0 8))
      have eB : ∀ i, absR M2 1 i = absR M1 1 i := fun i => by rw [A2]; exact up1_o (by decide)
      refine sp_Rits ⟨by omega, by omega⟩ ⟨by omega, by omega⟩ ?_
      rw [eB, wI (x := absR M1 1 (10 * j + 1)) ⟨by omega, by omega⟩, wI (x := xushr (nextZ (absR M1 0 8)) 8) ⟨by omega, by omega⟩, tmod_pos hr.1, wI (x := xushr (nextZ (absR M1 0 8)) 8 % 100) ⟨by omega, by omega⟩]
      have ej : (j + 1).toNat = j.toNat + 1 := by omega
      have ejj : ((j.toNat : Nat) : Int) = j := Int.toNat_of_nonneg hj
      refine ⟨fun hc => ?_, fun hc => ⟨5, ?_⟩⟩
      · unfold wB_Ryear_63
        refine ih (j + 1) M2 (by omega) (by omega) ?_ (fr_trans hF F2) (onlyS_trans hO O2) f (by omega)
        rw [ej]
        simp only [yearT]
        rw [ejj, ← hA, if_neg (by omega), A2]
      · have inner : ∀ (d2 : Nat) (w : Int) (M3 : gSt), (d2 : Int) = 6 - w → 2 ≤ w → absR M3 = (fun c i => if c = 1 ∧ 10 * j + 2 ≤ i ∧ i < 10 * j + w then absR M2 1 i - absR M2 1 i / 100 else absR M2 c i) → fr M2 M3 → onlyS M2 M3 → ∀ f2 : Nat, d2 < f2 → wL_Ryear_30 k (wL_Ryear_2 k (fun M2 => ∀ M78 : gSt, M78 = wr M2 1 5 ((M2 1 5) + 1) → (k M78)) f) (fun M2 => ∀ M78 : gSt, M78 = wr M2 1 5 ((M2 1 5) + 1) → (k M78)) (fun u1_30 M30 => wB_Ryear_63 k (wL_Ryear_2 k (fun M2 => ∀ M78 : gSt, M78 = wr M2 1 5 ((M2 1 5) + 1) → (k M78)) f) (fun M2 => ∀ M78 : gSt, M78 = wr M2 1 5 ((M2 1 5) + 1) → (k M78)) u1_30 M30) f2 j w M3 := by
          intro d2
          induction d2 with
          | zero =>
            intro w M3 hd2 hw hA3 hF3 hO3 f2 hf2
            obtain ⟨f2, rfl⟩ : ∃ g, f2 = g + 1 := ⟨f2 - 1, by omega⟩
            simp only [wL_Ryear_30, wC_Ryear_30, wB_Ryear_63]
            rw [wI (x := w) ⟨by omega, by omega⟩]
            refine ⟨fun _ => ?_, fun h => absurd h (by omega)⟩
            refine ih (j + 1) M3 (by omega) (by omega) ?_ (fr_trans hF (fr_trans F2 hF3)) (onlyS_trans hO (onlyS_trans O2 hO3)) f (by omega)
            have ew : w = 6 := by omega
            subst ew
            rw [ej]
            simp only [yearT]
            rw [ejj, ← hA, if_pos (by omega), hA3, A2]
            funext c i
            simp only [loseT]
          | succ d2 ih2 =>
            intro w M3 hd2 hw hA3 hF3 hO3 f2 hf2
            obtain ⟨f2, rfl⟩ : ∃ g, f2 = g + 1 := ⟨f2 - 1, by omega⟩
            have ht3 : tOk (absR M3) := by
              unfold tOk
              rw [hA3]
              simp only [show ¬ ((0 : Nat) = 1) by decide, false_and, if_false]
              exact ht2
            have eW : absR M3 1 (10 * j + w) = absR M2 1 (10 * j + w) := by rw [hA3]; exact if_neg (by omega)
            have bnd : 0 ≤ absR M2 1 (10 * j + w) ∧ absR M2 1 (10 * j + w) ≤ 9999999 := by
              rw [eB]
              rcases (show w = 2 ∨ w = 3 ∨ w = 4 ∨ w = 5 by omega) with rfl | rfl | rfl | rfl <;> omega
            simp only [wL_Ryear_30, wC_Ryear_30]
            rw [wI (x := w) ⟨by omega, by omega⟩]
            refine ⟨fun h => absurd h (by omega), fun _ => ?_⟩
            refine sp_Rits ⟨by omega, by omega⟩ ⟨by omega, by omega⟩ ?_
            refine sp_Rits ⟨by omega, by omega⟩ ⟨by omega, by omega⟩ ?_
            rw [eW, wI (x := absR M2 1 (10 * j + w)) ⟨by omega, by omega⟩, tdiv_pos bnd.1]
            refine sp_Rlays1 ⟨by omega, by omega⟩ ⟨by omega, by omega⟩ ht3 (fun M4 h4 o4 f4 => ?_)
            refine ih2 (w + 1) M4 (by omega) (by omega) ?_ (fr_trans hF3 f4) (onlyS_trans hO3 o4) f2 (by omega)
            rw [h4, hA3]
            funext c i
            simp only [up1, wr]
            by_cases hi : c = 1 ∧ i = 10 * j + w
            · rw [if_pos hi, if_pos (by omega), hi.2]
            · rw [if_neg hi]
              by_cases h5 : c = 1 ∧ 10 * j + 2 ≤ i ∧ i < 10 * j + w
              · rw [if_pos h5, if_pos (by omega)]
              · rw [if_neg h5, if_neg (by omega)]
        exact inner 4 2 M2 (by omega) (by omega) (by funext c i; exact (if_neg (by omega)).symm) fr_rf onlyS_rf 5 (by omega)
  exact loop (absR M 0 0).toNat 0 M (by omega) (by omega) rfl fr_rf onlyS_rf 14 (by omega)
