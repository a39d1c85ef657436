-- the reader of laws, without a memory: τ 0 0 place, τ 0 1 tokens, τ 1 and τ 2 the tokens (kind, value)
def pk (T : Int → Int) (L : Int) (τ : gSt) : Int := if τ 0 0 < L then T (τ 0 0) else -1
def adv (τ : gSt) : gSt := up1 τ 0 0 (τ 0 0 + 1)
def emt (a b : Int) (τ : gSt) : gSt := up1 (up1 (up1 τ 1 (τ 0 1) a) 2 (τ 0 1) b) 0 1 (τ 0 1 + 1)
def lvl (c : Int) : Int := if c = 124 then 0 else if c = 38 then 1 else if c = 60 ∨ c = 61 ∨ c = 62 then 2 else if c = 43 ∨ c = 45 then 3 else if c = 42 ∨ c = 47 ∨ c = 37 then 4 else -1
abbrev isNm (u c : Int) : Prop := c = 103 ∨ (u = 0 ∧ (c = 115 ∨ c = 109)) ∨ (¬ u = 0 ∧ (c = 99 ∨ c = 110))
def pNum (T : Int → Int) (L : Int) : Nat → Int → gSt → gSt
  | 0, x, τ => emt 0 x τ
  | n + 1, x, τ => if 48 ≤ pk T L τ ∧ pk T L τ ≤ 57 then pNum T L n (10 * x + pk T L τ - 48) (adv τ) else emt 0 x τ
def pLoop (T : Int → Int) (L : Int) (sub : gSt → Int × gSt) (lev : Int) : Nat → gSt → Int × gSt
  | 0, τ => (1, τ)
  | n + 1, τ => if lvl (pk T L τ) = lev then (if (sub (adv τ)).1 = 0 then (0, (sub (adv τ)).2) else pLoop T L sub lev n (emt 3 (pk T L τ) (sub (adv τ)).2)) else (1, τ)
def pLev (T : Int → Int) (L : Int) (W : gSt → Int × gSt) : Nat → gSt → Int × gSt
  | 0, τ => W τ
  | n + 1, τ => if (pLev T L W n τ).1 = 0 then (0, (pLev T L W n τ).2) else pLoop T L (pLev T L W n) (4 - (n : Int)) (if n = 2 then 1 else 60) (pLev T L W n τ).2
def pVal (T : Int → Int) (L u : Int) : Nat → gSt → Int × gSt
  | 0, τ => if isNm u (pk T L τ) then (1, emt 1 (pk T L τ) (adv τ)) else if 48 ≤ pk T L τ ∧ pk T L τ ≤ 57 then (1, pNum T L 4 0 τ) else (0, τ)
  | o + 1, τ => if isNm u (pk T L τ) then (1, emt 1 (pk T L τ) (adv τ)) else if 48 ≤ pk T L τ ∧ pk T L τ ≤ 57 then (1, pNum T L 4 0 τ)
    else if pk T L τ = 33 then (if (pVal T L u o (adv τ)).1 = 0 then (0, (pVal T L u o (adv τ)).2) else (1, emt 2 0 (pVal T L u o (adv τ)).2))
    else if pk T L τ = 40 then (if (pLev T L (pVal T L u o) 5 (adv τ)).1 = 0 then (0, (pLev T L (pVal T L u o) 5 (adv τ)).2) else if pk T L (pLev T L (pVal T L u o) 5 (adv τ)).2 = 41 then (1, adv (pLev T L (pVal T L u o) 5 (adv τ)).2) else (0, (pLev T L (pVal T L u o) 5 (adv τ)).2))
    else (0, τ)
/-- place and tokens as they can be -/
def pOK (L : Int) (τ : gSt) : Prop := 0 ≤ τ 0 1 ∧ τ 0 1 ≤ τ 0 0 ∧ τ 0 0 ≤ L
/-- a token as a text holds it -/
def tokOk (u a b : Int) : Prop := (a = 0 ∧ 0 ≤ b ∧ b ≤ 9999) ∨ (a = 1 ∧ isNm u b) ∨ (a = 2 ∧ b = 0) ∨ (a = 3 ∧ 0 ≤ lvl b)
/-- how high the tokens 0..n-1 pile up -/
def hgt (w : Int → Int) : Nat → Int
  | 0 => 0
  | n + 1 => hgt w n + (if w n = 2 then 0 else if w n = 3 then -1 else 1)
/-- from τ the tokens grew to τ', of which the new ones need h on the pile at least -/
def grew (u : Int) (τ τ' : gSt) (up : Int) : Prop := τ 0 1 ≤ τ' 0 1 ∧ (∀ j, j < τ 0 1 → τ' 1 j = τ 1 j ∧ τ' 2 j = τ 2 j) ∧ (∀ j, τ 0 1 ≤ j → j < τ' 0 1 → tokOk u (τ' 1 j) (τ' 2 j) ∧ (τ' 1 j = 2 → hgt (τ' 1) (τ 0 1).toNat + 1 ≤ hgt (τ' 1) j.toNat) ∧ (τ' 1 j = 3 → hgt (τ' 1) (τ 0 1).toNat + 2 ≤ hgt (τ' 1) j.toNat) ∧ hgt (τ' 1) (τ 0 1).toNat ≤ hgt (τ' 1) j.toNat) ∧ hgt (τ' 1) (τ' 0 1).toNat = hgt (τ' 1) (τ 0 1).toNat + up
theorem hgt_s {w : Int → Int} {n : Nat} : hgt w (n + 1) = hgt w n + (if w n = 2 then 0 else if w n = 3 then -1 else 1) := rfl
theorem hgt_congr {w w' : Int → Int} : ∀ n : Nat, (∀ j, 0 ≤ j → j < (n : Int) → w' j = w j) → hgt w' n = hgt w n
  | 0, _ => rfl
  | n + 1, h => by
    unfold hgt
    rw [h n (by omega) (by omega), hgt_congr n (fun j a b => h j a (by omega))]
theorem pkL {T : Int → Int} {L : Int} {τ : gSt} (h : 0 ≤ pk T L τ) : τ 0 0 < L := by
  unfold pk at h
  by_cases w : τ 0 0 < L
  · exact w
  · rw [if_neg w] at h; omega
theorem adv_i {τ : gSt} : adv τ 0 0 = τ 0 0 + 1 := up1_i
theorem adv_c {τ : gSt} : adv τ 0 1 = τ 0 1 := up1_n (by decide)
theorem adv_o {τ : gSt} {c : Nat} (h : c ≠ 0) : adv τ c = τ c := by funext j; exact up1_o h
theorem emt_i {a b : Int} {τ : gSt} : emt a b τ 0 0 = τ 0 0 := by unfold emt; rw [up1_n (by decide), up1_o (by decide), up1_o (by decide)]
theorem emt_c {a b : Int} {τ : gSt} : emt a b τ 0 1 = τ 0 1 + 1 := up1_i
theorem emt_1 {a b : Int} {τ : gSt} {j : Int} : emt a b τ 1 j = if j = τ 0 1 then a else τ 1 j := by
  unfold emt
  rw [up1_o (by decide), up1_o (by decide)]
  by_cases h : j = τ 0 1
  · rw [if_pos h, h]; exact up1_i
  · rw [if_neg h]; exact up1_n h
theorem emt_2 {a b : Int} {τ : gSt} {j : Int} : emt a b τ 2 j = if j = τ 0 1 then b else τ 2 j := by
  unfold emt
  rw [up1_o (by decide)]
  by_cases h : j = τ 0 1
  · rw [if_pos h, h]; exact up1_i
  · rw [if_neg h, up1_n h]; exact up1_o (by decide)
/-- what a reader of a piece promises -/
def good (L u : Int) (sub : gSt → Int × gSt) : Prop := ∀ τ, pOK L τ → pOK L (sub τ).2 ∧ (τ 0 0 ≤ (sub τ).2 0 0 ∧ τ 0 0 - τ 0 1 ≤ (sub τ).2 0 0 - (sub τ).2 0 1) ∧ ((sub τ).1 = 0 ∨ ((sub τ).1 = 1 ∧ grew u τ (sub τ).2 1))
theorem grew_rf {u : Int} {τ : gSt} : grew u τ τ 0 := ⟨by omega, fun _ _ => ⟨rfl, rfl⟩, fun _ a b => absurd a (by omega), by omega⟩
theorem grew_adv {u x : Int} {τ τ' : gSt} (h : grew u (adv τ) τ' x) : grew u τ τ' x := by
  unfold grew at h ⊢
  rw [adv_c, adv_o (by decide), adv_o (by decide)] at h
  exact h
theorem grew_adv2 {u x : Int} {τ τ' : gSt} (h : grew u τ τ' x) : grew u τ (adv τ') x := by
  unfold grew at h ⊢
  rw [adv_c, adv_o (by decide), adv_o (by decide)]
  exact h
/-- one token more -/
theorem grew_emt {u a b x : Int} {τ τ' : gSt} (h0 : 0 ≤ τ 0 1) (h : grew u τ τ' x) (ht : tokOk u a b) (h2 : a = 2 → 1 ≤ x) (h3 : a = 3 → 2 ≤ x) (hx : 0 ≤ x) : grew u τ (emt a b τ') (x + (if a = 2 then 0 else if a = 3 then -1 else 1)) := by
  obtain ⟨g1, g2, g3, g4⟩ := h
  have hc : ∀ n : Nat, (n : Int) ≤ τ' 0 1 → hgt (emt a b τ' 1) n = hgt (τ' 1) n := fun n hn => hgt_congr n (fun j _ hj => by rw [emt_1, if_neg (by omega)])
  unfold grew
  rw [emt_c]
  rw [hc (τ 0 1).toNat (by omega)]
  refine ⟨by omega, fun j hj => ?_, fun j a1 a2 => ?_, ?_⟩
  · rw [emt_1, emt_2, if_neg (by omega), if_neg (by omega)]; exact g2 j hj
  · rw [hc j.toNat (by omega), emt_1, emt_2]
    by_cases hj : j = τ' 0 1
    · rw [if_pos hj, if_pos hj, hj, g4]
      exact ⟨ht, fun z => by have := h2 z; omega, fun z => by have := h3 z; omega, by omega⟩
    · rw [if_neg hj, if_neg hj]
      exact g3 j a1 (by omega)
  · rw [show (τ' 0 1 + 1).toNat = (τ' 0 1).toNat + 1 from by omega]
    have j0 : ((τ' 0 1).toNat : Int) = τ' 0 1 := by omega
    rw [hgt_s, hc (τ' 0 1).toNat (by omega), g4, j0, emt_1, if_pos rfl]
    omega
theorem grew_tr {u x y : Int} {τ τ' τ'' : gSt} (h0 : 0 ≤ τ 0 1) (hx : 0 ≤ x) (h : grew u τ τ' x) (h' : grew u τ' τ'' y) : grew u τ τ'' (x + y) := by
  obtain ⟨g1, g2, g3, g4⟩ := h
  obtain ⟨k1, k2, k3, k4⟩ := h'
  have hc : ∀ n : Nat, (n : Int) ≤ τ' 0 1 → hgt (τ'' 1) n = hgt (τ' 1) n := fun n hn => hgt_congr n (fun j _ hj => (k2 j (by omega)).1)
  have c0 := hc (τ 0 1).toNat (by omega)
  have c1 := hc (τ' 0 1).toNat (by omega)
  refine ⟨by omega, fun j hj => ?_, fun j a1 a2 => ?_, by omega⟩
  · rw [(k2 j (by omega)).1, (k2 j (by omega)).2]; exact g2 j hj
  · by_cases hj : j < τ' 0 1
    · rw [(k2 j hj).1, (k2 j hj).2, c0, hc j.toNat (by omega)]
      exact g3 j a1 hj
    · obtain ⟨m1, m2, m3, m4⟩ := k3 j (by omega) a2
      exact ⟨m1, fun z => by have := m2 z; omega, fun z => by have := m3 z; omega, by omega⟩
theorem good_num {T : Int → Int} {L u : Int} : ∀ (n : Nat) (x : Int) (τ : gSt), pOK L τ → 0 ≤ x → (τ 0 1 < τ 0 0 ∨ (0 < n ∧ 48 ≤ pk T L τ ∧ pk T L τ ≤ 57)) → x * 10 ^ n + 10 ^ n ≤ 10000 → pOK L (pNum T L n x τ) ∧ (τ 0 0 ≤ (pNum T L n x τ) 0 0 ∧ τ 0 0 - τ 0 1 - 1 ≤ (pNum T L n x τ) 0 0 - (pNum T L n x τ) 0 1 ∧ (0 < n ∧ 48 ≤ pk T L τ ∧ pk T L τ ≤ 57 → τ 0 0 - τ 0 1 ≤ (pNum T L n x τ) 0 0 - (pNum T L n x τ) 0 1)) ∧ grew u τ (pNum T L n x τ) 1 := by
  intro n
  induction n with
  | zero =>
    intro x τ h hx hd hb
    obtain ⟨h1, h2, h3⟩ := h
    have w : τ 0 1 < τ 0 0 := by omega
    unfold pNum
    refine ⟨?_, ⟨by rw [emt_i]; omega, by rw [emt_i, emt_c]; omega, fun z => absurd z.1 (by omega)⟩, ?_⟩
    · unfold pOK; rw [emt_i, emt_c]; omega
    · exact grew_emt (x := 0) h1 grew_rf (Or.inl ⟨rfl, hx, by omega⟩) (by decide) (by decide) (by decide)
  | succ n ih =>
    intro x τ h hx hd hb
    obtain ⟨h1, h2, h3⟩ := h
    unfold pNum
    have p10 : (10 : Int) ^ (n + 1) = 10 * 10 ^ n := by rw [Int.pow_succ, Int.mul_comm]
    have p0 : (0 : Int) < 10 ^ n := Int.pow_pos (by decide)
    rw [p10, show x * (10 * 10 ^ n) = (10 * x) * 10 ^ n from by rw [← Int.mul_assoc, Int.mul_comm x 10]] at hb
    by_cases w : 48 ≤ pk T L τ ∧ pk T L τ ≤ 57
    · rw [if_pos w]
      have l := pkL (T := T) (L := L) (τ := τ) (by omega)
      have b2 : (10 * x + pk T L τ - 48) * 10 ^ n + 10 ^ n ≤ 10000 := by
        have e : (10 * x + pk T L τ - 48) * 10 ^ n = (10 * x) * 10 ^ n + (pk T L τ - 48) * 10 ^ n := by rw [← Int.add_mul]; congr 1; omega
        have m : (pk T L τ - 48) * 10 ^ n ≤ 9 * 10 ^ n := Int.mul_le_mul_of_nonneg_right (by omega) (by omega)
        omega
      obtain ⟨r1, r2, r3⟩ := ih (10 * x + pk T L τ - 48) (adv τ) ⟨by rw [adv_c]; omega, by rw [adv_c, adv_i]; omega, by rw [adv_i]; omega⟩ (by omega) (Or.inl (by rw [adv_c, adv_i]; omega)) b2
      rw [adv_i, adv_c] at r2
      exact ⟨r1, ⟨by omega, by omega, fun _ => by omega⟩, grew_adv r3⟩
    · rw [if_neg w]
      have w2 : τ 0 1 < τ 0 0 := by omega
      refine ⟨?_, ⟨by rw [emt_i]; omega, by rw [emt_i, emt_c]; omega, fun z => absurd z.2 w⟩, ?_⟩
      · unfold pOK; rw [emt_i, emt_c]; omega
      · refine grew_emt (x := 0) h1 grew_rf (Or.inl ⟨rfl, hx, ?_⟩) (by decide) (by decide) (by decide)
        have : (10 * x) * 1 ≤ (10 * x) * 10 ^ n := Int.mul_le_mul_of_nonneg_left (by omega) (by omega)
        omega
theorem good_loop {T : Int → Int} {L u lev : Int} {sub : gSt → Int × gSt} (hl : 0 ≤ lev) (hg : good L u sub) : ∀ (n : Nat) (τ : gSt), pOK L τ → pOK L (pLoop T L sub lev n τ).2 ∧ (τ 0 0 ≤ (pLoop T L sub lev n τ).2 0 0 ∧ τ 0 0 - τ 0 1 ≤ (pLoop T L sub lev n τ).2 0 0 - (pLoop T L sub lev n τ).2 0 1) ∧ ((pLoop T L sub lev n τ).1 = 0 ∨ ((pLoop T L sub lev n τ).1 = 1 ∧ ∀ τ0, 0 ≤ τ0 0 1 → grew u τ0 τ 1 → grew u τ0 (pLoop T L sub lev n τ).2 1)) := by
  intro n
  induction n with
  | zero => intro τ h; exact ⟨h, ⟨Int.le_refl _, Int.le_refl _⟩, Or.inr ⟨rfl, fun τ0 _ g => g⟩⟩
  | succ n ih =>
    intro τ h
    unfold pLoop
    by_cases w : lvl (pk T L τ) = lev
    · rw [if_pos w]
      obtain ⟨h1, h2, h3⟩ := h
      have l : τ 0 0 < L := by
        refine pkL (T := T) ?_
        unfold lvl at w
        omega
      obtain ⟨g1, g2, g3⟩ := hg (adv τ) ⟨by rw [adv_c]; omega, by rw [adv_c, adv_i]; omega, by rw [adv_i]; omega⟩
      rw [adv_i, adv_c] at g2
      by_cases z : (sub (adv τ)).1 = 0
      · rw [if_pos z]
        exact ⟨g1, ⟨by show τ 0 0 ≤ (sub (adv τ)).2 0 0; omega, by show τ 0 0 - τ 0 1 ≤ (sub (adv τ)).2 0 0 - (sub (adv τ)).2 0 1; omega⟩, Or.inl rfl⟩
      · rw [if_neg z]
        rcases g3 with g3 | ⟨-, g3⟩
        · exact absurd g3 z
        obtain ⟨q1, q2, q3⟩ := g1
        obtain ⟨r1, r2, r3⟩ := ih (emt 3 (pk T L τ) (sub (adv τ)).2) ⟨by rw [emt_c]; omega, by rw [emt_c, emt_i]; omega, by rw [emt_i]; omega⟩
        rw [emt_i, emt_c] at r2
        refine ⟨r1, ⟨by omega, by omega⟩, ?_⟩
        rcases r3 with r3 | ⟨r3, r4⟩
        · exact Or.inl r3
        · refine Or.inr ⟨r3, fun τ0 p g => r4 τ0 p ?_⟩
          have tr := grew_tr p (by decide) g (grew_adv g3)
          exact grew_emt p tr (Or.inr (Or.inr (Or.inr ⟨rfl, by omega⟩))) (by decide) (by decide) (by decide)
    · rw [if_neg w]
      exact ⟨h, ⟨Int.le_refl _, Int.le_refl _⟩, Or.inr ⟨rfl, fun τ0 _ g => g⟩⟩
theorem good_lev {T : Int → Int} {L u : Int} {W : gSt → Int × gSt} (hg : good L u W) : ∀ n : Nat, n ≤ 5 → good L u (pLev T L W n)
  | 0, _ => hg
  | n + 1, hn => by
    have ih := good_lev (T := T) hg n (by omega)
    intro τ h
    obtain ⟨g1, g2, g3⟩ := ih τ h
    unfold pLev
    by_cases z : (pLev T L W n τ).1 = 0
    · rw [if_pos z]; exact ⟨g1, g2, Or.inl rfl⟩
    · rw [if_neg z]
      rcases g3 with g3 | ⟨-, g3⟩
      · exact absurd g3 z
      obtain ⟨r1, r2, r3⟩ := good_loop (T := T) (lev := 4 - (n : Int)) (by omega) ih (if n = 2 then 1 else 60) (pLev T L W n τ).2 g1
      refine ⟨r1, ⟨by omega, by omega⟩, ?_⟩
      rcases r3 with r3 | ⟨r3, r4⟩
      · exact Or.inl r3
      · exact Or.inr ⟨r3, r4 τ h.1 g3⟩
theorem good_nm {T : Int → Int} {L u : Int} {τ : gSt} (h : pOK L τ) (w : isNm u (pk T L τ)) : pOK L (emt 1 (pk T L τ) (adv τ)) ∧ (τ 0 0 ≤ (emt 1 (pk T L τ) (adv τ)) 0 0 ∧ τ 0 0 - τ 0 1 ≤ (emt 1 (pk T L τ) (adv τ)) 0 0 - (emt 1 (pk T L τ) (adv τ)) 0 1) ∧ grew u τ (emt 1 (pk T L τ) (adv τ)) 1 := by
  obtain ⟨h1, h2, h3⟩ := h
  have l : τ 0 0 < L := pkL (T := T) (by omega)
  refine ⟨?_, ⟨by rw [emt_i, adv_i]; omega, by rw [emt_i, emt_c, adv_i, adv_c]; omega⟩, ?_⟩
  · unfold pOK; rw [emt_i, emt_c, adv_i, adv_c]; omega
  · exact grew_emt (x := 0) h1 (grew_adv2 grew_rf) (Or.inr (Or.inl ⟨rfl, w⟩)) (by decide) (by decide) (by decide)
theorem good_dg {T : Int → Int} {L u : Int} {τ : gSt} (h : pOK L τ) (w : 48 ≤ pk T L τ ∧ pk T L τ ≤ 57) : pOK L (pNum T L 4 0 τ) ∧ (τ 0 0 ≤ (pNum T L 4 0 τ) 0 0 ∧ τ 0 0 - τ 0 1 ≤ (pNum T L 4 0 τ) 0 0 - (pNum T L 4 0 τ) 0 1) ∧ grew u τ (pNum T L 4 0 τ) 1 := by
  obtain ⟨r1, r2, r3⟩ := good_num (T := T) (u := u) 4 0 τ h (by decide) (Or.inr ⟨by decide, w⟩) (by decide)
  exact ⟨r1, ⟨r2.1, r2.2.2 ⟨by decide, w⟩⟩, r3⟩
theorem good_val {T : Int → Int} {L u : Int} : ∀ o : Nat, good L u (pVal T L u o) := by
  intro o
  induction o with
  | zero =>
    intro τ h
    unfold pVal
    by_cases w : isNm u (pk T L τ)
    · rw [if_pos w]; obtain ⟨a, b, c⟩ := good_nm h w; exact ⟨a, b, Or.inr ⟨rfl, c⟩⟩
    · rw [if_neg w]
      by_cases w2 : 48 ≤ pk T L τ ∧ pk T L τ ≤ 57
      · rw [if_pos w2]; obtain ⟨a, b, c⟩ := good_dg (u := u) h w2; exact ⟨a, b, Or.inr ⟨rfl, c⟩⟩
      · rw [if_neg w2]; exact ⟨h, ⟨Int.le_refl _, Int.le_refl _⟩, Or.inl rfl⟩
  | succ o ih =>
    intro τ h
    unfold pVal
    by_cases w : isNm u (pk T L τ)
    · rw [if_pos w]; obtain ⟨a, b, c⟩ := good_nm h w; exact ⟨a, b, Or.inr ⟨rfl, c⟩⟩
    · rw [if_neg w]
      by_cases w2 : 48 ≤ pk T L τ ∧ pk T L τ ≤ 57
      · rw [if_pos w2]; obtain ⟨a, b, c⟩ := good_dg (u := u) h w2; exact ⟨a, b, Or.inr ⟨rfl, c⟩⟩
      · rw [if_neg w2]
        have ha : τ 0 0 < L → pOK L (adv τ) := fun l => by
          obtain ⟨h1, h2, h3⟩ := h
          exact ⟨by rw [adv_c]; omega, by rw [adv_c, adv_i]; omega, by rw [adv_i]; omega⟩
        by_cases w3 : pk T L τ = 33
        · rw [if_pos w3]
          obtain ⟨g1, g2, g3⟩ := ih (adv τ) (ha (pkL (T := T) (by omega)))
          rw [adv_i, adv_c] at g2
          by_cases z : (pVal T L u o (adv τ)).1 = 0
          · rw [if_pos z]
            exact ⟨g1, ⟨by show τ 0 0 ≤ (pVal T L u o (adv τ)).2 0 0; omega, by show τ 0 0 - τ 0 1 ≤ (pVal T L u o (adv τ)).2 0 0 - (pVal T L u o (adv τ)).2 0 1; omega⟩, Or.inl rfl⟩
          · rw [if_neg z]
            rcases g3 with g3 | ⟨-, g3⟩
            · exact absurd g3 z
            obtain ⟨h1, h2, h3⟩ := h
            obtain ⟨q1, q2, q3⟩ := g1
            refine ⟨(show pOK L (emt 2 0 (pVal T L u o (adv τ)).2) from ⟨by rw [emt_c]; omega, by rw [emt_c, emt_i]; omega, by rw [emt_i]; omega⟩), ⟨by show τ 0 0 ≤ (emt 2 0 (pVal T L u o (adv τ)).2) 0 0; rw [emt_i]; omega, by show τ 0 0 - τ 0 1 ≤ (emt 2 0 (pVal T L u o (adv τ)).2) 0 0 - (emt 2 0 (pVal T L u o (adv τ)).2) 0 1; rw [emt_i, emt_c]; omega⟩, Or.inr ⟨rfl, ?_⟩⟩
            exact grew_emt h1 (grew_adv g3) (Or.inr (Or.inr (Or.inl ⟨rfl, rfl⟩))) (by decide) (by decide) (by decide)
        · rw [if_neg w3]
          by_cases w4 : pk T L τ = 40
          · rw [if_pos w4]
            obtain ⟨g1, g2, g3⟩ := good_lev (T := T) ih 5 (by decide) (adv τ) (ha (pkL (T := T) (by omega)))
            rw [adv_i, adv_c] at g2
            generalize (pLev T L (pVal T L u o) 5 (adv τ)) = R at g1 g2 g3 ⊢
            by_cases z : R.1 = 0
            · rw [if_pos z]
              exact ⟨g1, ⟨by show τ 0 0 ≤ R.2 0 0; omega, by show τ 0 0 - τ 0 1 ≤ R.2 0 0 - R.2 0 1; omega⟩, Or.inl rfl⟩
            · rw [if_neg z]
              rcases g3 with g3 | ⟨-, g3⟩
              · exact absurd g3 z
              by_cases w5 : pk T L R.2 = 41
              · rw [if_pos w5]
                have l := pkL (T := T) (L := L) (τ := R.2) (by omega)
                obtain ⟨q1, q2, q3⟩ := g1
                refine ⟨(show pOK L (adv R.2) from ⟨by rw [adv_c]; omega, by rw [adv_c, adv_i]; omega, by rw [adv_i]; omega⟩), ⟨by show τ 0 0 ≤ (adv R.2) 0 0; rw [adv_i]; omega, by show τ 0 0 - τ 0 1 ≤ (adv R.2) 0 0 - (adv R.2) 0 1; rw [adv_i, adv_c]; omega⟩, Or.inr ⟨rfl, grew_adv2 (grew_adv g3)⟩⟩
              · rw [if_neg w5]
                exact ⟨g1, ⟨by show τ 0 0 ≤ R.2 0 0; omega, by show τ 0 0 - τ 0 1 ≤ R.2 0 0 - R.2 0 1; omega⟩, Or.inl rfl⟩
          · rw [if_neg w4]; exact ⟨h, ⟨Int.le_refl _, Int.le_refl _⟩, Or.inl rfl⟩
