-- a law worked out: both sides
theorem wwrap {x : Int} : wrap (wrap x) = wrap x := by unfold wrap; omega
theorem wrapK (x : Int) : ∃ t, wrap x = x + 4294967296 * t := ⟨-((x + 2147483648) / 4294967296), by unfold wrap; omega⟩
theorem wrap_mul (x y : Int) : wrap (wrap x * wrap y) = wrap (x * y) := by
  obtain ⟨a, ha⟩ := wrapK x
  obtain ⟨b, hb⟩ := wrapK y
  have e : wrap x * wrap y = x * y + 4294967296 * (x * b + a * y + 4294967296 * (a * b)) := by
    rw [ha, hb, Int.add_mul, Int.mul_add, Int.mul_add, Int.mul_add, Int.mul_add]
    have e1 : x * (4294967296 * b) = 4294967296 * (x * b) := Int.mul_left_comm _ _ _
    have e2 : 4294967296 * a * y = 4294967296 * (a * y) := Int.mul_assoc _ _ _
    have e3 : 4294967296 * a * (4294967296 * b) = 4294967296 * (4294967296 * (a * b)) := by rw [Int.mul_assoc, Int.mul_left_comm a]
    rw [e1, e2, e3]
    omega
  rw [e]
  generalize x * b + a * y + 4294967296 * (a * b) = t
  unfold wrap
  omega
def joinS (op a b : Int) : Int := wrap (if op = 37 then (if b = 0 then 0 else Int.tmod a b) else if op = 38 then (if a = 0 ∨ b = 0 then 0 else 1) else if op = 42 then a * b else if op = 43 then a + b else if op = 45 then a - b else if op = 47 then (if b = 0 then 0 else Int.tdiv a b) else if op = 60 then (if a < b then 1 else 0) else if op = 61 then (if a = b then 1 else 0) else if op = 62 then (if b < a then 1 else 0) else (if a = 0 ∧ b = 0 then 0 else 1))
theorem c_join {op x y : Int} {M : gSt} {k : Int → gSt → Prop} (ho : 0 ≤ lvl op) (h : ∀ r, wrap r = joinS op (wrap x) (wrap y) → k r M) : w_X7_joined op x y M k := by
  have hop : op = 37 ∨ op = 38 ∨ op = 42 ∨ op = 43 ∨ op = 45 ∨ op = 47 ∨ op = 60 ∨ op = 61 ∨ op = 62 ∨ op = 124 := by unfold lvl at ho; omega
  unfold w_X7_joined
  rw [wI (x := op) ⟨by omega, by omega⟩]
  unfold joinS at h
  have k0 : wrap 0 = 0 := rfl
  refine ⟨fun e => ?_, fun e => ?_, fun e => ?_, fun e => ?_, fun e => ?_, fun e => ?_, fun e => ?_, fun e => ?_, fun e => ?_, fun e => ?_⟩
  · subst e
    simp only [show ¬ ((38 : Int) = 37) from by decide, if_false, if_true] at h
    refine ⟨fun a => h 0 (by rw [if_pos (Or.inl a)]), fun a => ⟨fun b => h 0 (by rw [if_pos (Or.inr b)]), fun b => h 1 (by rw [if_neg (by omega)])⟩⟩
  · subst e
    simp only [show ¬ ((42 : Int) = 37) from by decide, show ¬ ((42 : Int) = 38) from by decide, if_false, if_true] at h
    exact h _ (wrap_mul x y).symm
  · subst e
    simp only [show ¬ ((43 : Int) = 37) from by decide, show ¬ ((43 : Int) = 38) from by decide, show ¬ ((43 : Int) = 42) from by decide, if_false, if_true] at h
    exact h _ (by unfold wrap; omega)
  · subst e
    simp only [show ¬ ((45 : Int) = 37) from by decide, show ¬ ((45 : Int) = 38) from by decide, show ¬ ((45 : Int) = 42) from by decide, show ¬ ((45 : Int) = 43) from by decide, if_false, if_true] at h
    exact h _ (by unfold wrap; omega)
  · subst e
    simp only [show ¬ ((47 : Int) = 37) from by decide, show ¬ ((47 : Int) = 38) from by decide, show ¬ ((47 : Int) = 42) from by decide, show ¬ ((47 : Int) = 43) from by decide, show ¬ ((47 : Int) = 45) from by decide, if_false, if_true] at h
    exact ⟨fun b => ⟨b, h _ (by rw [if_neg b])⟩, fun b => h 0 (by rw [if_pos b])⟩
  · subst e
    simp only [show ¬ ((60 : Int) = 37) from by decide, show ¬ ((60 : Int) = 38) from by decide, show ¬ ((60 : Int) = 42) from by decide, show ¬ ((60 : Int) = 43) from by decide, show ¬ ((60 : Int) = 45) from by decide, show ¬ ((60 : Int) = 47) from by decide, if_false, if_true] at h
    exact ⟨fun b => h 0 (by rw [if_neg (by omega)]), fun b => h 1 (by rw [if_pos b])⟩
  · subst e
    simp only [show ¬ ((61 : Int) = 37) from by decide, show ¬ ((61 : Int) = 38) from by decide, show ¬ ((61 : Int) = 42) from by decide, show ¬ ((61 : Int) = 43) from by decide, show ¬ ((61 : Int) = 45) from by decide, show ¬ ((61 : Int) = 47) from by decide, show ¬ ((61 : Int) = 60) from by decide, if_false, if_true] at h
    exact ⟨fun b => h 0 (by rw [if_neg b]), fun b => h 1 (by rw [if_pos b])⟩
  · subst e
    simp only [show ¬ ((62 : Int) = 37) from by decide, show ¬ ((62 : Int) = 38) from by decide, show ¬ ((62 : Int) = 42) from by decide, show ¬ ((62 : Int) = 43) from by decide, show ¬ ((62 : Int) = 45) from by decide, show ¬ ((62 : Int) = 47) from by decide, show ¬ ((62 : Int) = 60) from by decide, show ¬ ((62 : Int) = 61) from by decide, if_false, if_true] at h
    exact ⟨fun b => h 0 (by rw [if_neg (by omega)]), fun b => h 1 (by rw [if_pos b])⟩
  · subst e
    simp only [show ¬ ((124 : Int) = 37) from by decide, show ¬ ((124 : Int) = 38) from by decide, show ¬ ((124 : Int) = 42) from by decide, show ¬ ((124 : Int) = 43) from by decide, show ¬ ((124 : Int) = 45) from by decide, show ¬ ((124 : Int) = 47) from by decide, show ¬ ((124 : Int) = 60) from by decide, show ¬ ((124 : Int) = 61) from by decide, show ¬ ((124 : Int) = 62) from by decide, if_false] at h
    exact ⟨fun a => h 1 (by rw [if_neg (by omega)]), fun a => ⟨fun b => h 0 (by rw [if_pos ⟨a, b⟩]), fun b => h 1 (by rw [if_neg (by omega)])⟩⟩
  · have e37 : op = 37 := by omega
    subst e37
    simp only [if_true] at h
    exact ⟨fun b => ⟨b, h _ (by rw [if_neg b])⟩, fun b => h 0 (by rw [if_pos b])⟩
theorem r_join {op x y : Int} {M : gSt} {k : Int → gSt → Prop} (ho : 0 ≤ lvl op) (h : ∀ r, wrap r = joinS op (wrap x) (wrap y) → k r M) : w_Rjoined op x y M k := by
  have hop : op = 37 ∨ op = 38 ∨ op = 42 ∨ op = 43 ∨ op = 45 ∨ op = 47 ∨ op = 60 ∨ op = 61 ∨ op = 62 ∨ op = 124 := by unfold lvl at ho; omega
  unfold w_Rjoined
  rw [wI (x := op) ⟨by omega, by omega⟩]
  unfold joinS at h
  have k0 : wrap 0 = 0 := rfl
  refine ⟨fun e => ?_, fun e => ?_, fun e => ?_, fun e => ?_, fun e => ?_, fun e => ?_, fun e => ?_, fun e => ?_, fun e => ?_, fun e => ?_⟩
  · subst e
    simp only [if_true] at h
    exact ⟨fun b => h 0 (by rw [if_pos b]), fun b => ⟨fun _ => ⟨b, h _ (by rw [if_neg b])⟩, fun b1 => h 0 (by rw [if_neg b, b1, Int.tmod_neg, Int.tmod_one])⟩⟩
  · subst e
    simp only [show ¬ ((38 : Int) = 37) from by decide, if_false, if_true] at h
    refine ⟨fun a => h 0 (by rw [if_pos (Or.inl a)]), fun a => ⟨fun b => h 0 (by rw [if_pos (Or.inr b)]), fun b => h 1 (by rw [if_neg (by omega)])⟩⟩
  · subst e
    simp only [show ¬ ((42 : Int) = 37) from by decide, show ¬ ((42 : Int) = 38) from by decide, if_false, if_true] at h
    exact h _ (wrap_mul x y).symm
  · subst e
    simp only [show ¬ ((43 : Int) = 37) from by decide, show ¬ ((43 : Int) = 38) from by decide, show ¬ ((43 : Int) = 42) from by decide, if_false, if_true] at h
    exact h _ (by unfold wrap; omega)
  · subst e
    simp only [show ¬ ((45 : Int) = 37) from by decide, show ¬ ((45 : Int) = 38) from by decide, show ¬ ((45 : Int) = 42) from by decide, show ¬ ((45 : Int) = 43) from by decide, if_false, if_true] at h
    exact h _ (by unfold wrap; omega)
  · subst e
    simp only [show ¬ ((47 : Int) = 37) from by decide, show ¬ ((47 : Int) = 38) from by decide, show ¬ ((47 : Int) = 42) from by decide, show ¬ ((47 : Int) = 43) from by decide, show ¬ ((47 : Int) = 45) from by decide, if_false, if_true] at h
    refine ⟨fun b => ⟨fun _ => ⟨b, h _ (by rw [if_neg b])⟩, fun b1 => h _ ?_⟩, fun b => h 0 (by rw [if_pos b])⟩
    rw [if_neg b, b1, Int.tdiv_neg, Int.tdiv_one]
    unfold wrap
    omega
  · subst e
    simp only [show ¬ ((60 : Int) = 37) from by decide, show ¬ ((60 : Int) = 38) from by decide, show ¬ ((60 : Int) = 42) from by decide, show ¬ ((60 : Int) = 43) from by decide, show ¬ ((60 : Int) = 45) from by decide, show ¬ ((60 : Int) = 47) from by decide, if_false, if_true] at h
    exact ⟨fun b => h 0 (by rw [if_neg (by omega)]), fun b => h 1 (by rw [if_pos b])⟩
  · subst e
    simp only [show ¬ ((61 : Int) = 37) from by decide, show ¬ ((61 : Int) = 38) from by decide, show ¬ ((61 : Int) = 42) from by decide, show ¬ ((61 : Int) = 43) from by decide, show ¬ ((61 : Int) = 45) from by decide, show ¬ ((61 : Int) = 47) from by decide, show ¬ ((61 : Int) = 60) from by decide, if_false, if_true] at h
    exact ⟨fun b => h 0 (by rw [if_neg b]), fun b => h 1 (by rw [if_pos b])⟩
  · subst e
    simp only [show ¬ ((62 : Int) = 37) from by decide, show ¬ ((62 : Int) = 38) from by decide, show ¬ ((62 : Int) = 42) from by decide, show ¬ ((62 : Int) = 43) from by decide, show ¬ ((62 : Int) = 45) from by decide, show ¬ ((62 : Int) = 47) from by decide, show ¬ ((62 : Int) = 60) from by decide, show ¬ ((62 : Int) = 61) from by decide, if_false, if_true] at h
    exact ⟨fun b => h 0 (by rw [if_neg (by omega)]), fun b => h 1 (by rw [if_pos b])⟩
  · have e124 : op = 124 := by omega
    subst e124
    simp only [show ¬ ((124 : Int) = 37) from by decide, show ¬ ((124 : Int) = 38) from by decide, show ¬ ((124 : Int) = 42) from by decide, show ¬ ((124 : Int) = 43) from by decide, show ¬ ((124 : Int) = 45) from by decide, show ¬ ((124 : Int) = 47) from by decide, show ¬ ((124 : Int) = 60) from by decide, show ¬ ((124 : Int) = 61) from by decide, show ¬ ((124 : Int) = 62) from by decide, if_false] at h
    exact ⟨fun a => h 1 (by rw [if_neg (by omega)]), fun a => ⟨fun b => h 0 (by rw [if_pos ⟨a, b⟩]), fun b => h 1 (by rw [if_neg (by omega)])⟩⟩
/-- the pile's height before token n -/
def hX (f : Int → Int) : Nat → Int
  | 0 => 0
  | n + 1 => hX f n + (if f n = -33 then 0 else if f n < -3 then -1 else 1)
def tokV (g s m e : Int) : Int := wrap (if 0 ≤ e then e else if e = -1 then g else if e = -2 then s else m)
/-- the pile before token n -/
def stk (f : Int → Int) (g s m : Int) : Nat → Int → Int
  | 0 => fun _ => 0
  | n + 1 => fun j => if f n = -33 then (if j = hX f n - 1 then (if stk f g s m n j = 0 then 1 else 0) else stk f g s m n j) else if f n < -3 then (if j = hX f n - 2 then joinS (-(f n)) (stk f g s m n (hX f n - 2)) (stk f g s m n (hX f n - 1)) else stk f g s m n j) else (if j = hX f n then tokV g s m (f n) else stk f g s m n j)
def tkX (e : Int) : Prop := (0 ≤ e ∧ e ≤ 9999) ∨ (-3 ≤ e ∧ e ≤ -1) ∨ e = -33 ∨ (0 ≤ lvl (-e) ∧ e < -3)
def wfX (f : Int → Int) (n : Nat) : Prop := (∀ j : Nat, j < n → tkX (f j) ∧ (f j = -33 → 1 ≤ hX f j) ∧ (f j < -3 → ¬ f j = -33 → 2 ≤ hX f j) ∧ 0 ≤ hX f j) ∧ hX f n = 1
theorem hX_le {f : Int → Int} : ∀ n : Nat, hX f n ≤ n
  | 0 => Int.le_refl _
  | n + 1 => by
    have := hX_le (f := f) n
    unfold hX
    split
    · omega
    · split <;> omega
theorem hX_s {f : Int → Int} {n : Nat} : hX f (n + 1) = hX f n + (if f n = -33 then 0 else if f n < -3 then -1 else 1) := rfl
theorem stk_s {f : Int → Int} {g s m : Int} {n : Nat} {j : Int} : stk f g s m (n + 1) j = if f n = -33 then (if j = hX f n - 1 then (if stk f g s m n j = 0 then 1 else 0) else stk f g s m n j) else if f n < -3 then (if j = hX f n - 2 then joinS (-(f n)) (stk f g s m n (hX f n - 2)) (stk f g s m n (hX f n - 1)) else stk f g s m n j) else (if j = hX f n then tokV g s m (f n) else stk f g s m n j) := rfl
/-- the class's pile -/
def pileC (f : Int → Int) (g s m : Int) (n : Nat) (M0 M : gSt) : Prop := (∀ p, p ≠ 18 → p ≠ 19 → M p = M0 p) ∧ M 18 1 = hX f n ∧ ∀ j, 0 ≤ j → j < hX f n → wrap (M 19 j) = stk f g s m n j
theorem c_push {x : Int} {M : gSt} {k : gSt → Prop} (h0 : 0 ≤ M 18 1 ∧ M 18 1 < 60) (h : k (wr (wr M 19 (M 18 1) x) 18 1 (M 18 1 + 1))) : w_X7_push 18 x M k := by
  unfold w_X7_push
  rw [wI (x := M 18 1) ⟨by omega, by omega⟩]
  refine ⟨pl_18, fun z => absurd z (by omega), fun _ => ⟨fun z => absurd z (by show ¬ wrap (60 : Int) ≤ M 18 1; rw [show wrap 60 = 60 from by decide]; omega), fun _ => ⟨⟨h0.1, by show M 18 1 < 60; exact h0.2⟩, fun M1 e1 M2 e2 => ?_⟩⟩⟩
  subst e1; subst e2
  rw [wrO (by decide)]
  exact h
theorem c_pop {M : gSt} {k : Int → gSt → Prop} (h0 : 1 ≤ M 18 1 ∧ M 18 1 ≤ 60) (h : k (M 19 (M 18 1 - 1)) (wr M 18 1 (M 18 1 - 1))) : w_X7_pop 18 M k := by
  unfold w_X7_pop
  rw [wI (x := M 18 1) ⟨by omega, by omega⟩]
  refine ⟨pl_18, fun z => absurd z (by omega), fun _ => ⟨fun _ M1 e1 => ?_, fun z => absurd z (by show ¬ wrap (60 : Int) < M 18 1; rw [show wrap 60 = 60 from by decide]; omega)⟩⟩
  subst e1
  refine ⟨⟨by rw [wrI]; omega, by rw [wrI]; show M 18 1 - 1 < 60; omega⟩, ?_⟩
  rw [wrI, wrO (by decide)]
  exact h
theorem c_worked {o : Nat} {g s m L : Int} {M0 : gSt} {kk : Int → gSt → Prop} {X : gSt → Prop} {f : Int → Int} (ho : isRows o) (hl : lenC (o + 1) = 60) (o18 : o ≠ 18 ∧ o ≠ 19 ∧ o + 1 ≠ 18 ∧ o + 1 ≠ 19) (hW : M0 o 0 = 1) (hL : M0 o 3 = L) (bL : 0 ≤ L ∧ L ≤ 60) (hf : ∀ j, 0 ≤ j → j < L → M0 (o + 1) j = f j) (wf : wfX f L.toNat) (h : ∀ M, pileC f g s m L.toNat M0 M → X M) : ∀ (r n : Nat) (M : gSt), n + r = L.toNat → pileC f g s m n M0 M → wL_X7_value_8 18 o g s m kk X (r + 1) n M := by
  intro r
  induction r with
  | zero =>
    intro n M hn hp
    obtain ⟨p1, p2, p3⟩ := hp
    have eo := p1 o o18.1 o18.2.1
    unfold wL_X7_value_8 wC_X7_value_8
    refine sp_size4 ho ?_
    rw [eo, hL, wI (x := L) ⟨by omega, by omega⟩, wI (x := (n : Int)) ⟨by omega, by omega⟩]
    refine ⟨fun _ => h M ?_, fun z => absurd z (by omega)⟩
    rw [show L.toNat = n from by omega]
    exact ⟨p1, p2, p3⟩
  | succ r ih =>
    intro n M hn hp
    have hp' := hp
    obtain ⟨p1, p2, p3⟩ := hp'
    have eo := p1 o o18.1 o18.2.1
    have eo1 := p1 (o + 1) o18.2.2.1 o18.2.2.2
    obtain ⟨t1, t2, t3, t4⟩ := wf.1 n (by omega)
    have hle := hX_le (f := f) n
    have et := hf (n : Int) (by omega) (by omega)
    have rng : -124 ≤ f n ∧ f n ≤ 9999 := by unfold tkX lvl at t1; omega
    unfold wL_X7_value_8 wC_X7_value_8
    refine sp_size4 ho ?_
    rw [eo, hL, wI (x := L) ⟨by omega, by omega⟩, wI (x := (n : Int)) ⟨by omega, by omega⟩]
    refine ⟨fun z => absurd z (by omega), fun _ => ?_⟩
    refine sp_at (W := 1) ho (by rw [eo]; exact hW) (by rw [eo, hL]; exact ⟨by omega, by omega⟩) (by decide) ⟨by rw [eo, hL]; omega, by decide⟩ (by rw [hl]; show (n : Int) * 1 + 0 < 60; omega) (by rw [hl]; decide) ?_
    rw [show (n : Int) * 1 + 0 = n from by omega, eo1, et, wI (x := f n) ⟨by omega, by omega⟩]
    unfold wB_X7_value_97 wB_X7_value_71 wB_X7_value_129
    have next : ∀ M', pileC f g s m (n + 1) M0 M' → wL_X7_value_8 18 o g s m kk X (r + 1) ((n : Int) + 1) M' := fun M' q => by
      have := ih (n + 1) M' (by omega) q
      rw [show ((n + 1 : Nat) : Int) = (n : Int) + 1 from by omega] at this
      exact this
    have push : ∀ x, ¬ f n = -33 → ¬ f n < -3 → wrap x = tokV g s m (f n) → w_X7_push 18 x M (fun M' => wL_X7_value_8 18 o g s m kk X (r + 1) ((n : Int) + 1) M') := fun x z1 z2 hx => by
      refine c_push ⟨by omega, by omega⟩ (next _ ⟨fun p a b => by rw [wrO' a, wrO' b]; exact p1 p a b, ?_, fun j a b => ?_⟩)
      · rw [wrI, hX_s, if_neg z1, if_neg z2, p2]
      · rw [hX_s, if_neg z1, if_neg z2] at b
        rw [wrO (by decide), stk_s, if_neg z1, if_neg z2, p2]
        by_cases hj : j = hX f n
        · rw [if_pos hj, hj, wrI]; exact hx
        · rw [if_neg hj, wrN hj]; exact p3 j a (by omega)
    refine ⟨fun neg => ⟨fun low => ⟨fun n33 => ?_, fun e33 => ?_⟩, fun hi => ⟨fun n1 => ⟨fun n2 => ?_, fun e2 => ?_⟩, fun e1 => ?_⟩⟩, fun pos => push _ (by omega) (by omega) (by unfold tokV; rw [if_pos pos])⟩
    · have l0 : 0 ≤ lvl (-(f n)) := by unfold tkX at t1; omega
      have h2 := t3 low n33
      refine c_pop ⟨by omega, by omega⟩ ?_
      refine c_pop ⟨by rw [wrI]; omega, by rw [wrI]; omega⟩ ?_
      rw [wrI, wrO (by decide)]
      refine c_join l0 (fun x hx => ?_)
      refine c_push ⟨by rw [wrI]; omega, by rw [wrI]; omega⟩ (next _ ⟨fun p a b => by rw [wrO' a, wrO' b, wrO' a, wrO' a]; exact p1 p a b, ?_, fun j a b => ?_⟩)
      · rw [wrI, wrI, hX_s, if_neg n33, if_pos low, p2]; omega
      · rw [hX_s, if_neg n33, if_pos low] at b
        rw [wrO (by decide), stk_s, if_neg n33, if_pos low, wrI, p2]
        rw [p2, show hX f n - 1 - 1 = hX f n - 2 from by omega, p3 _ (by omega) (by omega), p3 _ (by omega) (by omega)] at hx
        by_cases hj : j = hX f n - 2
        · rw [if_pos hj, hj, show hX f n - 1 - 1 = hX f n - 2 from by omega, wrI]; exact hx
        · rw [if_neg hj, wrN (by omega), wrO (by decide), wrO (by decide)]; exact p3 j a (by omega)
    · have h1 := t2 e33
      have fin : ∀ v, v = (if stk f g s m n (hX f n - 1) = 0 then 1 else 0) → w_X7_push 18 v (wr M 18 1 (M 18 1 - 1)) (fun M' => wL_X7_value_8 18 o g s m kk X (r + 1) ((n : Int) + 1) M') := fun v hv => by
        refine c_push ⟨by rw [wrI]; omega, by rw [wrI]; omega⟩ (next _ ⟨fun p a b => by rw [wrO' a, wrO' b, wrO' a]; exact p1 p a b, ?_, fun j a b => ?_⟩)
        · rw [wrI, wrI, hX_s, if_pos e33, p2]; omega
        · rw [hX_s, if_pos e33] at b
          rw [wrO (by decide), stk_s, if_pos e33, wrI, p2]
          by_cases hj : j = hX f n - 1
          · rw [if_pos hj, hj, wrI, hv]
            by_cases w : stk f g s m n (hX f n - 1) = 0
            · rw [if_pos w]; decide
            · rw [if_neg w]; decide
          · rw [if_neg hj, wrN hj, wrO (by decide)]; exact p3 j a (by omega)
      refine c_pop ⟨by omega, by omega⟩ ?_
      rw [p2, p3 _ (by omega) (by omega)]
      rw [p2] at fin
      exact ⟨fun z => fin 0 (by rw [if_neg z]), fun z => fin 1 (by rw [if_pos z])⟩
    · exact push _ (by omega) (by omega) (by unfold tokV; rw [if_neg (by omega), if_neg n1, if_neg n2])
    · exact push _ (by omega) (by omega) (by unfold tokV; rw [if_neg (by omega), if_neg n1, if_pos e2])
    · exact push _ (by omega) (by omega) (by unfold tokV; rw [if_neg (by omega), if_pos e1])
theorem sp_value {u g s m : Int} {o : Nat} {M : gSt} {k : Int → gSt → Prop} (hu : u = 0 ∨ u = 1) (ho : (o : Int) = 14 + 2 * u) (hK : cK M) (bL : 0 ≤ M o 3 ∧ M o 3 ≤ 60) (wf : wfX (absC M (7 + u.toNat)) (M o 3).toNat) (h : ∀ r M', wrap r = stk (absC M (7 + u.toNat)) g s m (M o 3).toNat 0 → (∀ p, p ≠ 18 → p ≠ 19 → M' p = M p) → k r M') : w_X7_value 18 o g s m M k := by
  obtain ⟨p1, p2⟩ := pl_tx hu ho
  have oo : o = 14 ∨ o = 16 := by omega
  have w0 : M o 0 = 1 := by
    rcases oo with rfl | rfl
    · exact (cK_14 hK).1
    · exact (cK_16 hK).1
  have hf : ∀ j, 0 ≤ j → j < M o 3 → M (o + 1) j = absC M (7 + u.toNat) j := by
    intro j a b
    rcases hu with rfl | rfl
    · have : o = 14 := by omega
      subst this
      show M 15 j = msk (M 14 3) (M 15) j
      unfold msk; rw [if_pos ⟨a, b⟩]
    · have : o = 16 := by omega
      subst this
      show M 17 j = msk (M 16 3) (M 17) j
      unfold msk; rw [if_pos ⟨a, b⟩]
  unfold w_X7_value
  refine ⟨pl_18, p1, fun M1 e1 => ⟨(M o 3).toNat + 1, ?_⟩⟩
  have a1 : ∀ p, p ≠ 18 → M1 p = M p := fun p hp => by rw [e1]; exact wrO' hp
  refine c_worked (M0 := M1) (L := M o 3) (f := absC M (7 + u.toNat)) p1 p2 ⟨by omega, by omega, by omega, by omega⟩ (by rw [a1 o (by omega)]; exact w0) (by rw [a1 o (by omega)]) bL (fun j a b => by rw [a1 (o + 1) (by omega)]; exact hf j a b) wf (fun M2 q => ?_) (M o 3).toNat 0 M1 (by omega) ⟨fun _ _ _ => rfl, by rw [e1, wrI]; rfl, fun j a b => absurd b (by show ¬ j < 0; omega)⟩
  obtain ⟨q1, q2, q3⟩ := q
  have h1 := wf.2
  rw [h1] at q2 q3
  refine c_pop ⟨by omega, by omega⟩ ?_
  rw [q2]
  exact h _ _ (q3 0 (by decide) (by decide)) (fun p a b => by rw [wrO' a, q1 p a b]; exact a1 p a)
