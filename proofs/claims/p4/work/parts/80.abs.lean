-- THE PURE PART. What the memories say: one abstract state σ for both sides.
-- σ 0: 0 things, 1 first things, 2 claims, 3 papers, 4 weighings, 5 years, 6 bytes of the tape, 7 waiting, 8 z, 9/10 lengths of the texts
-- σ 1 cells of things (10 a thing; the crucible is thing 12), 2 claims, 3 papers, 4 weighings, 5 tape, 6 waiting, 7/8 texts; 10..18 the image, where there is one (else 0); 21: 0 images; 23, 24, 25 sheets: bits, sizes, numbers
def msk (n : Int) (f : Int → Int) : Int → Int := fun i => if 0 ≤ i ∧ i < n then f i else 0
def encT (u what v : Int) : Int := if what = 0 then v else if what = 1 then (if u = 0 then (if v = 103 then -1 else if v = 115 then -2 else -3) else (if v = 99 then -1 else if v = 103 then -2 else -3)) else if what = 2 then -33 else -v
def absS (s : Int → Int) : gSt := fun c =>
  match c with
  | 0 => fun j => if 0 ≤ j ∧ j < 9 then s j else if j = 9 then s 202 else if j = 10 then s 327 else 0
  | 1 => msk 130 (fun i => s (10 + i))
  | 2 => msk 20 (fun i => s (140 + i))
  | 3 => msk 18 (fun i => s (160 + i))
  | 4 => msk 24 (fun i => s (178 + i))
  | 5 => msk 60 (fun i => s (452 + i))
  | 6 => msk 24 (fun i => s (512 + i))
  | 7 => msk (s 202) (fun i => encT 0 (s (203 + 2 * i)) (s (204 + 2 * i)))
  | 8 => msk (s 327) (fun i => encT 1 (s (328 + 2 * i)) (s (329 + 2 * i)))
  | _ => fun _ => 0
def absR (M : gSt) : gSt := fun c =>
  if c < 10 then absS (M 1) c else if c < 20 then (if M 0 3 = 0 then fun _ => 0 else absS (M 2) (c - 10))
  else if c = 21 then (fun j => if j = 0 then M 0 3 else 0)
  else if c = 23 then msk 4 (M 11) else if c = 24 then msk 4 (M 12) else if c = 25 then msk 96 (M 13) else fun _ => 0
/-- one value of σ changed -/
def up1 (σ : gSt) (c : Nat) (i x : Int) : gSt := wr σ c i x
theorem wrI {M : gSt} {o : Nat} {i x : Int} : wr M o i x o i = x := by simp [wr]
theorem wrO {M : gSt} {o o' : Nat} {i i' x : Int} (h : o' ≠ o) : wr M o i x o' i' = M o' i' := by simp [wr, h]
theorem wrO' {M : gSt} {o o' : Nat} {i x : Int} (h : o' ≠ o) : wr M o i x o' = M o' := by funext i'; simp [wr, h]
theorem wrN {M : gSt} {o : Nat} {i i' x : Int} (h : i' ≠ i) : wr M o i x o i' = M o i' := by simp [wr, h]
/-- where in s the component c stands -/
def regS (c : Nat) (j : Int) : Prop :=
  match c with
  | 0 => (0 ≤ j ∧ j < 9) ∨ j = 202 ∨ j = 327
  | 1 => 10 ≤ j ∧ j < 140
  | 2 => 140 ≤ j ∧ j < 160
  | 3 => 160 ≤ j ∧ j < 178
  | 4 => 178 ≤ j ∧ j < 202
  | 5 => 452 ≤ j ∧ j < 512
  | 6 => 512 ≤ j ∧ j < 536
  | 7 => 202 ≤ j ∧ j < 327
  | 8 => 327 ≤ j ∧ j < 452
  | _ => False
theorem msk_congr {n : Int} {f g : Int → Int} (h : ∀ i, 0 ≤ i → i < n → f i = g i) : msk n f = msk n g := by
  funext i
  unfold msk
  by_cases hi : 0 ≤ i ∧ i < n
  · rw [if_pos hi, if_pos hi]; exact h i hi.1 hi.2
  · rw [if_neg hi, if_neg hi]
theorem absS_congr {s s' : Int → Int} (c : Nat) (hs : c = 7 → s 202 ≤ 62) (hs2 : c = 8 → s 327 ≤ 62) (h : ∀ j, regS c j → s' j = s j) : absS s' c = absS s c := by
  match c with
  | 0 =>
    funext j
    simp only [absS]
    by_cases h1 : 0 ≤ j ∧ j < 9
    · rw [if_pos h1, if_pos h1]; exact h j (Or.inl h1)
    · rw [if_neg h1, if_neg h1, h 202 (Or.inr (Or.inl rfl)), h 327 (Or.inr (Or.inr rfl))]
  | 1 => exact msk_congr (fun i h0 h1 => h _ ⟨by omega, by omega⟩)
  | 2 => exact msk_congr (fun i h0 h1 => h _ ⟨by omega, by omega⟩)
  | 3 => exact msk_congr (fun i h0 h1 => h _ ⟨by omega, by omega⟩)
  | 4 => exact msk_congr (fun i h0 h1 => h _ ⟨by omega, by omega⟩)
  | 5 => exact msk_congr (fun i h0 h1 => h _ ⟨by omega, by omega⟩)
  | 6 => exact msk_congr (fun i h0 h1 => h _ ⟨by omega, by omega⟩)
  | 7 =>
    have := hs rfl
    simp only [absS]
    rw [h 202 ⟨by omega, by omega⟩]
    exact msk_congr (fun i h0 h1 => by rw [h (203 + 2 * i) ⟨by omega, by omega⟩, h (204 + 2 * i) ⟨by omega, by omega⟩])
  | 8 =>
    have := hs2 rfl
    simp only [absS]
    rw [h 327 ⟨by omega, by omega⟩]
    exact msk_congr (fun i h0 h1 => by rw [h (328 + 2 * i) ⟨by omega, by omega⟩, h (329 + 2 * i) ⟨by omega, by omega⟩])
  | (n + 9) => rfl
/-- the texts of the reference are no longer than their rows -/
def txtOk (s : Int → Int) : Prop := s 202 ≤ 62 ∧ s 327 ≤ 62
/-- a write in the reference's row s, by its region: things' cells 1, claims 2, papers 3, weighings 4, tape 5, waiting 6 -/
theorem absS_put {s : Int → Int} (ht : txtOk s) (c : Nat) (b n : Int) (hc : (c = 1 ∧ b = 10 ∧ n = 130) ∨ (c = 2 ∧ b = 140 ∧ n = 20) ∨ (c = 3 ∧ b = 160 ∧ n = 18) ∨ (c = 4 ∧ b = 178 ∧ n = 24) ∨ (c = 5 ∧ b = 452 ∧ n = 60) ∨ (c = 6 ∧ b = 512 ∧ n = 24)) {q x : Int} (h0 : 0 ≤ q) (h1 : q < n) {s' : Int → Int} (hs : ∀ j, s' j = if j = b + q then x else s j) : absS s' = up1 (absS s) c q x := by
  funext d i
  unfold up1 wr
  by_cases hd : d = c
  · subst hd
    by_cases hi : i = q
    · rw [if_pos ⟨rfl, hi⟩]
      subst hi
      rcases hc with ⟨rfl, rfl, rfl⟩ | ⟨rfl, rfl, rfl⟩ | ⟨rfl, rfl, rfl⟩ | ⟨rfl, rfl, rfl⟩ | ⟨rfl, rfl, rfl⟩ | ⟨rfl, rfl, rfl⟩ <;> (simp only [absS, msk]; rw [if_pos ⟨h0, h1⟩, hs, if_pos rfl])
    · rw [if_neg (fun h => hi h.2)]
      rcases hc with ⟨rfl, rfl, rfl⟩ | ⟨rfl, rfl, rfl⟩ | ⟨rfl, rfl, rfl⟩ | ⟨rfl, rfl, rfl⟩ | ⟨rfl, rfl, rfl⟩ | ⟨rfl, rfl, rfl⟩ <;> (simp only [absS, msk]; split <;> first | rfl | (rw [hs, if_neg (by omega)]))
  · rw [if_neg (fun h => hd h.1)]
    refine congrFun (absS_congr d (fun _ => ht.1) (fun _ => ht.2) (fun j hj => ?_)) i
    rw [hs, if_neg]
    intro e
    subst e
    match d, hj with
    | 0, hj => rcases hc with ⟨rfl, rfl, rfl⟩ | ⟨rfl, rfl, rfl⟩ | ⟨rfl, rfl, rfl⟩ | ⟨rfl, rfl, rfl⟩ | ⟨rfl, rfl, rfl⟩ | ⟨rfl, rfl, rfl⟩ <;> (simp only [regS] at hj; omega)
    | 1, hj => rcases hc with ⟨rfl, rfl, rfl⟩ | ⟨rfl, rfl, rfl⟩ | ⟨rfl, rfl, rfl⟩ | ⟨rfl, rfl, rfl⟩ | ⟨rfl, rfl, rfl⟩ | ⟨rfl, rfl, rfl⟩ <;> (simp only [regS] at hj; omega)
    | 2, hj => rcases hc with ⟨rfl, rfl, rfl⟩ | ⟨rfl, rfl, rfl⟩ | ⟨rfl, rfl, rfl⟩ | ⟨rfl, rfl, rfl⟩ | ⟨rfl, rfl, rfl⟩ | ⟨rfl, rfl, rfl⟩ <;> (simp only [regS] at hj; omega)
    | 3, hj => rcases hc with ⟨rfl, rfl, rfl⟩ | ⟨rfl, rfl, rfl⟩ | ⟨rfl, rfl, rfl⟩ | ⟨rfl, rfl, rfl⟩ | ⟨rfl, rfl, rfl⟩ | ⟨rfl, rfl, rfl⟩ <;> (simp only [regS] at hj; omega)
    | 4, hj => rcases hc with ⟨rfl, rfl, rfl⟩ | ⟨rfl, rfl, rfl⟩ | ⟨rfl, rfl, rfl⟩ | ⟨rfl, rfl, rfl⟩ | ⟨rfl, rfl, rfl⟩ | ⟨rfl, rfl, rfl⟩ <;> (simp only [regS] at hj; omega)
    | 5, hj => rcases hc with ⟨rfl, rfl, rfl⟩ | ⟨rfl, rfl, rfl⟩ | ⟨rfl, rfl, rfl⟩ | ⟨rfl, rfl, rfl⟩ | ⟨rfl, rfl, rfl⟩ | ⟨rfl, rfl, rfl⟩ <;> (simp only [regS] at hj; omega)
    | 6, hj => rcases hc with ⟨rfl, rfl, rfl⟩ | ⟨rfl, rfl, rfl⟩ | ⟨rfl, rfl, rfl⟩ | ⟨rfl, rfl, rfl⟩ | ⟨rfl, rfl, rfl⟩ | ⟨rfl, rfl, rfl⟩ <;> (simp only [regS] at hj; omega)
    | 7, hj => rcases hc with ⟨rfl, rfl, rfl⟩ | ⟨rfl, rfl, rfl⟩ | ⟨rfl, rfl, rfl⟩ | ⟨rfl, rfl, rfl⟩ | ⟨rfl, rfl, rfl⟩ | ⟨rfl, rfl, rfl⟩ <;> (simp only [regS] at hj; omega)
    | 8, hj => rcases hc with ⟨rfl, rfl, rfl⟩ | ⟨rfl, rfl, rfl⟩ | ⟨rfl, rfl, rfl⟩ | ⟨rfl, rfl, rfl⟩ | ⟨rfl, rfl, rfl⟩ | ⟨rfl, rfl, rfl⟩ <;> (simp only [regS] at hj; omega)
    | (n + 9), hj => exact hj
/-- a number among the first nine of s -/
theorem absS_sc {s : Int → Int} (ht : txtOk s) {q x : Int} (h0 : 0 ≤ q) (h1 : q < 9) {s' : Int → Int} (hs : ∀ j, s' j = if j = q then x else s j) : absS s' = up1 (absS s) 0 q x := by
  funext d i
  unfold up1 wr
  by_cases hd : d = 0
  · subst hd
    have a1 : ¬ (202 : Int) = q := by omega
    have a2 : ¬ (327 : Int) = q := by omega
    by_cases hi : i = q
    · subst hi
      simp [absS, hs, h0, h1]
    · simp [absS, hs, hi, a1, a2]
  · rw [if_neg (fun h => hd h.1)]
    refine congrFun (absS_congr d (fun _ => ht.1) (fun _ => ht.2) (fun j hj => ?_)) i
    rw [hs, if_neg]
    intro e
    subst e
    match d, hd, hj with
    | 1, _, hj => simp only [regS] at hj; omega
    | 2, _, hj => simp only [regS] at hj; omega
    | 3, _, hj => simp only [regS] at hj; omega
    | 4, _, hj => simp only [regS] at hj; omega
    | 5, _, hj => simp only [regS] at hj; omega
    | 6, _, hj => simp only [regS] at hj; omega
    | 7, _, hj => simp only [regS] at hj; omega
    | 8, _, hj => simp only [regS] at hj; omega
    | (n + 9), _, hj => exact hj
/-- the whole abstract state, when only s changes, in one component below 10 -/
theorem absR_s {M M' : gSt} (h : ∀ o, o ≠ 1 → M' o = M o) {c : Nat} {q x : Int} (hc : c < 10) (hs : absS (M' 1) = up1 (absS (M 1)) c q x) : absR M' = up1 (absR M) c q x := by
  funext d i
  have e : ∀ o, o ≠ 1 → M' o = M o := h
  unfold up1 wr
  by_cases hd : d < 10
  · simp only [absR, hd, if_true]
    rw [hs]
    rfl
  · have hne : ¬ (d = c ∧ i = q) := by omega
    rw [if_neg hne]
    simp only [absR, hd, if_false]
    rw [e 2 (by omega), e 0 (by omega), e 11 (by omega), e 12 (by omega), e 13 (by omega)]
/-- scratch of the reference that a change of s leaves -/
def onlyS (M M' : gSt) : Prop := ∀ o, o ≠ 1 → M' o = M o
theorem onlyS_wr {M : gSt} {p x : Int} : onlyS M (wr M 1 p x) := fun o h => wrO' h
theorem onlyS_trans {M M' M'' : gSt} (h : onlyS M M') (h2 : onlyS M' M'') : onlyS M M'' := fun o ho => (h2 o ho).trans (h o ho)
theorem onlyS_rf {M : gSt} : onlyS M M := fun _ _ => rfl
theorem txtOk_wr {M : gSt} {p x : Int} (h : txtOk (M 1)) (hp : p ≠ 202 ∧ p ≠ 327) : txtOk (wr M 1 p x 1) := by
  unfold txtOk
  rw [wrN (by omega), wrN (by omega)]
  exact h
