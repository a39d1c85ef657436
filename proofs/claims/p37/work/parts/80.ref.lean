section
-- THE PURE PART. What the memories say: one abstract state σ for both sides.
-- σ 0: 0 things, 1 first things, 2 claims, 3 papers, 4 weighings, 5 years, 6 bytes of the tape, 7 waiting, 8 z, 9/10 lengths of the texts
-- σ 1 cells of things (10 a thing; the crucible is thing 12), 2 claims, 3 papers, 4 weighings, 5 tape, 6 waiting, 7/8 texts; 10..18 the image, where there is one (else 0); 21: 0 images; 23, 24, 25 sheets: bits, sizes, numbers
def msk (n : Int) (f : Int → Int) : Int → Int := fun i => if 0 ≤ i ∧ i < n then f i else 0
def encT (u what v : Int) : Int := if what = 0 then v else if what = 1 then (if u = 0 then (if v = 103 then -1 else if v = 115 then -2 else -3) else (if v = 99 then -1 else if v = 103 then -2 else -3)) else if what = 2 then -33 else -v
def absS (s : Int → Int) : gSt := fun c =>
  match c with
  | 0 => fun j => if 0 ≤ j ∧ j < 9 then s j else if j = 9 then s 202 else if j = 10 then s 327 else 0
  | 1 => msk 130 (fun i => s (10 + i))
  | 2 => msk 20 (fun i => s (140 + i))
  | 3 => msk 18 (fun i => s (160 + i))
  | 4 => msk 24 (fun i => s (178 + i))
  | 5 => msk 60 (fun i => s (452 + i))
  | 6 => msk 24 (fun i => s (512 + i))
  | 7 => msk (s 202) (fun i => encT 0 (s (203 + 2 * i)) (s (204 + 2 * i)))
  | 8 => msk (s 327) (fun i => encT 1 (s (328 + 2 * i)) (s (329 + 2 * i)))
  | _ => fun _ => 0
def absR (M : gSt) : gSt := fun c =>
  if c < 10 then absS (M 1) c else if c < 20 then (if M 0 3 = 0 then fun _ => 0 else absS (M 2) (c - 10))
  else if c = 21 then (fun j => if j = 0 then M 0 3 else 0)
  else if c = 23 then msk 4 (M 11) else if c = 24 then msk 4 (M 12) else if c = 25 then msk 96 (M 13) else fun _ => 0
/-- one value of σ changed -/
def up1 (σ : gSt) (c : Nat) (i x : Int) : gSt := wr σ c i x
theorem wrI {M : gSt} {o : Nat} {i x : Int} : wr M o i x o i = x := by simp [wr]
theorem wrO {M : gSt} {o o' : Nat} {i i' x : Int} (h : o' ≠ o) : wr M o i x o' i' = M o' i' := by simp [wr, h]
theorem wrO' {M : gSt} {o o' : Nat} {i x : Int} (h : o' ≠ o) : wr M o i x o' = M o' := by funext i'; simp [wr, h]
theorem wrN {M : gSt} {o : Nat} {i i' x : Int} (h : i' ≠ i) : wr M o i x o i' = M o i' := by simp [wr, h]
/-- where in s the component c stands -/
def regS (c : Nat) (j : Int) : Prop :=
  match c with
  | 0 => (0 ≤ j ∧ j < 9) ∨ j = 202 ∨ j = 327
  | 1 => 10 ≤ j ∧ j < 140
  | 2 => 140 ≤ j ∧ j < 160
  | 3 => 160 ≤ j ∧ j < 178
  | 4 => 178 ≤ j ∧ j < 202
  | 5 => 452 ≤ j ∧ j < 512
  | 6 => 512 ≤ j ∧ j < 536
  | 7 => 202 ≤ j ∧ j < 327
  | 8 => 327 ≤ j ∧ j < 452
  | _ => False
theorem msk_congr {n : Int} {f g : Int → Int} (h : ∀ i, 0 ≤ i → i < n → f i = g i) : msk n f = msk n g := by
  funext i
  unfold msk
  by_cases hi : 0 ≤ i ∧ i < n
  · rw [if_pos hi, if_pos hi]; exact h i hi.1 hi.2
  · rw [if_neg hi, if_neg hi]
theorem absS_congr {s s' : Int → Int} (c : Nat) (hs : c = 7 → s 202 ≤ 62) (hs2 : c = 8 → s 327 ≤ 62) (h : ∀ j, regS c j → s' j = s j) : absS s' c = absS s c := by
  match c with
  | 0 =>
    funext j
    simp only [absS]
    by_cases h1 : 0 ≤ j ∧ j < 9
    · rw [if_pos h1, if_pos h1]; exact h j (Or.inl h1)
    · rw [if_neg h1, if_neg h1, h 202 (Or.inr (Or.inl rfl)), h 327 (Or.inr (Or.inr rfl))]
  | 1 => exact msk_congr (fun i h0 h1 => h _ ⟨by omega, by omega⟩)
  | 2 => exact msk_congr (fun i h0 h1 => h _ ⟨by omega, by omega⟩)
  | 3 => exact msk_congr (fun i h0 h1 => h _ ⟨by omega, by omega⟩)
  | 4 => exact msk_congr (fun i h0 h1 => h _ ⟨by omega, by omega⟩)
  | 5 => exact msk_congr (fun i h0 h1 => h _ ⟨by omega, by omega⟩)
  | 6 => exact msk_congr (fun i h0 h1 => h _ ⟨by omega, by omega⟩)
  | 7 =>
    have := hs rfl
    simp only [absS]
    rw [h 202 ⟨by omega, by omega⟩]
    exact msk_congr (fun i h0 h1 => by rw [h (203 + 2 * i) ⟨by omega, by omega⟩, h (204 + 2 * i) ⟨by omega, by omega⟩])
  | 8 =>
    have := hs2 rfl
    simp only [absS]
    rw [h 327 ⟨by omega, by omega⟩]
    exact msk_congr (fun i h0 h1 => by rw [h (328 + 2 * i) ⟨by omega, by omega⟩, h (329 + 2 * i) ⟨by omega, by omega⟩])
  | (n + 9) => rfl
/-- the texts of the reference are no longer than their rows -/
def txtOk (s : Int → Int) : Prop := s 202 ≤ 62 ∧ s 327 ≤ 62
/-- a write in the reference's row s, by its region: things' cells 1, claims 2, papers 3, weighings 4, tape 5, waiting 6 -/
theorem absS_put {s : Int → Int} (ht : txtOk s) (c : Nat) (b n : Int) (hc : (c = 1 ∧ b = 10 ∧ n = 130) ∨ (c = 2 ∧ b = 140 ∧ n = 20) ∨ (c = 3 ∧ b = 160 ∧ n = 18) ∨ (c = 4 ∧ b = 178 ∧ n = 24) ∨ (c = 5 ∧ b = 452 ∧ n = 60) ∨ (c = 6 ∧ b = 512 ∧ n = 24)) {q x : Int} (h0 : 0 ≤ q) (h1 : q < n) {s' : Int → Int} (hs : ∀ j, s' j = if j = b + q then x else s j) : absS s' = up1 (absS s) c q x := by
  funext d i
  unfold up1 wr
  by_cases hd : d = c
  · subst hd
    by_cases hi : i = q
    · rw [if_pos ⟨rfl, hi⟩]
      subst hi
      rcases hc with ⟨rfl, rfl, rfl⟩ | ⟨rfl, rfl, rfl⟩ | ⟨rfl, rfl, rfl⟩ | ⟨rfl, rfl, rfl⟩ | ⟨rfl, rfl, rfl⟩ | ⟨rfl, rfl, rfl⟩ <;> (simp only [absS, msk]; rw [if_pos ⟨h0, h1⟩, hs, if_pos rfl])
    · rw [if_neg (fun h => hi h.2)]
      rcases hc with ⟨rfl, rfl, rfl⟩ | ⟨rfl, rfl, rfl⟩ | ⟨rfl, rfl, rfl⟩ | ⟨rfl, rfl, rfl⟩ | ⟨rfl, rfl, rfl⟩ | ⟨rfl, rfl, rfl⟩ <;> (simp only [absS, msk]; split <;> first | rfl | (rw [hs, if_neg (by omega)]))
  · rw [if_neg (fun h => hd h.1)]
    refine congrFun (absS_congr d (fun _ => ht.1) (fun _ => ht.2) (fun j hj => ?_)) i
    rw [hs, if_neg]
    intro e
    subst e
    match d, hj with
    | 0, hj => rcases hc with ⟨rfl, rfl, rfl⟩ | ⟨rfl, rfl, rfl⟩ | ⟨rfl, rfl, rfl⟩ | ⟨rfl, rfl, rfl⟩ | ⟨rfl, rfl, rfl⟩ | ⟨rfl, rfl, rfl⟩ <;> (simp only [regS] at hj; omega)
    | 1, hj => rcases hc with ⟨rfl, rfl, rfl⟩ | ⟨rfl, rfl, rfl⟩ | ⟨rfl, rfl, rfl⟩ | ⟨rfl, rfl, rfl⟩ | ⟨rfl, rfl, rfl⟩ | ⟨rfl, rfl, rfl⟩ <;> (simp only [regS] at hj; omega)
    | 2, hj => rcases hc with ⟨rfl, rfl, rfl⟩ | ⟨rfl, rfl, rfl⟩ | ⟨rfl, rfl, rfl⟩ | ⟨rfl, rfl, rfl⟩ | ⟨rfl, rfl, rfl⟩ | ⟨rfl, rfl, rfl⟩ <;> (simp only [regS] at hj; omega)
    | 3, hj => rcases hc with ⟨rfl, rfl, rfl⟩ | ⟨rfl, rfl, rfl⟩ | ⟨rfl, rfl, rfl⟩ | ⟨rfl, rfl, rfl⟩ | ⟨rfl, rfl, rfl⟩ | ⟨rfl, rfl, rfl⟩ <;> (simp only [regS] at hj; omega)
    | 4, hj => rcases hc with ⟨rfl, rfl, rfl⟩ | ⟨rfl, rfl, rfl⟩ | ⟨rfl, rfl, rfl⟩ | ⟨rfl, rfl, rfl⟩ | ⟨rfl, rfl, rfl⟩ | ⟨rfl, rfl, rfl⟩ <;> (simp only [regS] at hj; omega)
    | 5, hj => rcases hc with ⟨rfl, rfl, rfl⟩ | ⟨rfl, rfl, rfl⟩ | ⟨rfl, rfl, rfl⟩ | ⟨rfl, rfl, rfl⟩ | ⟨rfl, rfl, rfl⟩ | ⟨rfl, rfl, rfl⟩ <;> (simp only [regS] at hj; omega)
    | 6, hj => rcases hc with ⟨rfl, rfl, rfl⟩ | ⟨rfl, rfl, rfl⟩ | ⟨rfl, rfl, rfl⟩ | ⟨rfl, rfl, rfl⟩ | ⟨rfl, rfl, rfl⟩ | ⟨rfl, rfl, rfl⟩ <;> (simp only [regS] at hj; omega)
    | 7, hj => rcases hc with ⟨rfl, rfl, rfl⟩ | ⟨rfl, rfl, rfl⟩ | ⟨rfl, rfl, rfl⟩ | ⟨rfl, rfl, rfl⟩ | ⟨rfl, rfl, rfl⟩ | ⟨rfl, rfl, rfl⟩ <;> (simp only [regS] at hj; omega)
    | 8, hj => rcases hc with ⟨rfl, rfl, rfl⟩ | ⟨rfl, rfl, rfl⟩ | ⟨rfl, rfl, rfl⟩ | ⟨rfl, rfl, rfl⟩ | ⟨rfl, rfl, rfl⟩ | ⟨rfl, rfl, rfl⟩ <;> (simp only [regS] at hj; omega)
    | (n + 9), hj => exact hj
/-- a number among the first nine of s -/
theorem absS_sc {s : Int → Int} (ht : txtOk s) {q x : Int} (h0 : 0 ≤ q) (h1 : q < 9) {s' : Int → Int} (hs : ∀ j, s' j = if j = q then x else s j) : absS s' = up1 (absS s) 0 q x := by
  funext d i
  unfold up1 wr
  by_cases hd : d = 0
  · subst hd
    have a1 : ¬ (202 : Int) = q := by omega
    have a2 : ¬ (327 : Int) = q := by omega
    by_cases hi : i = q
    · subst hi
      simp [absS, hs, h0, h1]
    · simp [absS, hs, hi, a1, a2]
  · rw [if_neg (fun h => hd h.1)]
    refine congrFun (absS_congr d (fun _ => ht.1) (fun _ => ht.2) (fun j hj => ?_)) i
    rw [hs, if_neg]
    intro e
    subst e
    match d, hd, hj with
    | 1, _, hj => simp only [regS] at hj; omega
    | 2, _, hj => simp only [regS] at hj; omega
    | 3, _, hj => simp only [regS] at hj; omega
    | 4, _, hj => simp only [regS] at hj; omega
    | 5, _, hj => simp only [regS] at hj; omega
    | 6, _, hj => simp only [regS] at hj; omega
    | 7, _, hj => simp only [regS] at hj; omega
    | 8, _, hj => simp only [regS] at hj; omega
    | (n + 9), _, hj => exact hj
/-- the whole abstract state, when only s changes, in one component below 10 -/
theorem absR_s {M M' : gSt} (h : ∀ o, o ≠ 1 → M' o = M o) {c : Nat} {q x : Int} (hc : c < 10) (hs : absS (M' 1) = up1 (absS (M 1)) c q x) : absR M' = up1 (absR M) c q x := by
  funext d i
  have e : ∀ o, o ≠ 1 → M' o = M o := h
  unfold up1 wr
  by_cases hd : d < 10
  · simp only [absR, hd, if_true]
    rw [hs]
    rfl
  · have hne : ¬ (d = c ∧ i = q) := by omega
    rw [if_neg hne]
    simp only [absR, hd, if_false]
    rw [e 2 (by omega), e 0 (by omega), e 11 (by omega), e 12 (by omega), e 13 (by omega)]
/-- scratch of the reference that a change of s leaves -/
def onlyS (M M' : gSt) : Prop := ∀ o, o ≠ 1 → M' o = M o
theorem onlyS_wr {M : gSt} {p x : Int} : onlyS M (wr M 1 p x) := fun o h => wrO' h
theorem onlyS_trans {M M' M'' : gSt} (h : onlyS M M') (h2 : onlyS M' M'') : onlyS M M'' := fun o ho => (h2 o ho).trans (h o ho)
theorem onlyS_rf {M : gSt} : onlyS M M := fun _ _ => rfl
theorem txtOk_wr {M : gSt} {p x : Int} (h : txtOk (M 1)) (hp : p ≠ 202 ∧ p ≠ 327) : txtOk (wr M 1 p x 1) := by
  unfold txtOk
  rw [wrN (by omega), wrN (by omega)]
  exact h
end
section
-- the reference's small methods, as they act on the abstract state
def inI (x : Int) : Prop := -2147483648 ≤ x ∧ x < 2147483648
theorem wI {x : Int} (h : inI x) : wrap x = x := wrap_in h.1 h.2
theorem z0 {A B : Prop} (h : A) : (wrap 0 = 0 → A) ∧ (¬ wrap 0 = 0 → B) := ⟨fun _ => h, fun n => absurd wrap_0 n⟩
theorem z1 {A B : Prop} (h : B) : (wrap 1 = 0 → A) ∧ (¬ wrap 1 = 0 → B) := ⟨fun n => absurd n (by decide), fun _ => h⟩
theorem z0n {A B : Prop} (h : B) : (¬ wrap 0 = 0 → A) ∧ (wrap 0 = 0 → B) := ⟨fun n => absurd wrap_0 n, fun _ => h⟩
theorem z1n {A B : Prop} (h : A) : (¬ wrap 1 = 0 → A) ∧ (wrap 1 = 0 → B) := ⟨fun _ => h, fun n => absurd n (by decide)⟩
theorem sp_Rin {v lo hi : Int} {M : gSt} {k : Int → gSt → Prop} (hv : inI v) (hl : inI lo) (hh : inI hi) (k1 : lo ≤ v ∧ v ≤ hi → k 1 M) (k0 : ¬ (lo ≤ v ∧ v ≤ hi) → k 0 M) : w_Rin v lo hi M k := by
  unfold w_Rin
  rw [wI hv, wI hl, wI hh]
  exact ⟨fun h => k0 (by omega), fun h => ⟨fun h2 => k0 (by omega), fun h2 => k1 (by omega)⟩⟩
theorem sp_Rheld {v lo hi : Int} {M : gSt} {k : Int → gSt → Prop} (hv : inI v) (hl : inI lo) (hh : inI hi) (h : k (if v < lo then lo else if hi < v then hi else v) M) : w_Rheld v lo hi M k := by
  unfold w_Rheld
  rw [wI hv, wI hl, wI hh]
  refine ⟨fun h1 => ⟨fun h2 => ?_, fun h2 => ?_⟩, fun h1 => ?_⟩
  · rw [if_neg (by omega), if_neg (by omega)] at h; exact h
  · rw [if_neg (by omega), if_pos (by omega)] at h; exact h
  · rw [if_pos (by omega)] at h; exact h
theorem absR_err {M : gSt} {j x : Int} : absR (wr M 4 j x) = absR M := by
  have e : ∀ o, o ≠ 4 → wr M 4 j x o = M o := fun o ho => wrO' ho
  funext d i
  simp only [absR]
  rw [e 1 (by omega), e 2 (by omega), e 0 (by omega), e 11 (by omega), e 12 (by omega), e 13 (by omega)]
/-- raw texts, image: untouched -/
def fr (M M' : gSt) : Prop := (∀ j, 202 ≤ j → j < 452 → M' 1 j = M 1 j) ∧ M' 2 = M 2 ∧ M' 0 16 = M 0 16
theorem fr_rf {M : gSt} : fr M M := ⟨fun _ _ _ => rfl, rfl, rfl⟩
theorem fr_trans {M M' M'' : gSt} (h : fr M M') (h2 : fr M' M'') : fr M M'' := ⟨fun j a b => (h2.1 j a b).trans (h.1 j a b), h2.2.1.trans h.2.1, h2.2.2.trans h.2.2⟩
theorem fr_wr {M : gSt} {o : Nat} {p x : Int} (ho : o ≠ 2) (hp : o = 1 → p < 202 ∨ 452 ≤ p) (h0 : o = 0 → p ≠ 16 := by intro h; omega) : fr M (wr M o p x) := by
  refine ⟨fun j a b => ?_, wrO' (fun e => ho e.symm), ?_⟩
  · by_cases h : 1 = o
    · subst h; exact wrN (by have := hp rfl; omega)
    · exact wrO h
  · by_cases h : 0 = o
    · subst h; exact wrN (h0 rfl).symm
    · exact wrO h
def S_err (σ : gSt) (j : Int) : Int × gSt := (-1000000000 - j, σ)
theorem sp_Rerror {j : Int} {M : gSt} {k : Int → gSt → Prop} (h0 : 0 ≤ j) (h1 : j < 7) (h : ∀ M', absR M' = (S_err (absR M) j).2 → fr M M' → k (S_err (absR M) j).1 M') : w_Rerror j M k := by
  unfold w_Rerror
  refine ⟨⟨h0, h1⟩, ⟨h0, h1⟩, fun M' e => ?_⟩
  subst e
  exact h _ absR_err (fr_wr (by decide) (fun e => absurd e (by decide)))
theorem rdB (M : gSt) (i : Int) (h0 : 0 ≤ i) (h1 : i < 130) : M 1 (10 + i) = absR M 1 i := by simp [absR, absS, msk, h0, h1]
theorem rdS (M : gSt) (i : Int) (h0 : 0 ≤ i) (h1 : i < 9) : M 1 i = absR M 0 i := by simp [absR, absS, h0, h1]
theorem txtOk_abs {M : gSt} (h : absR M 0 9 ≤ 62 ∧ absR M 0 10 ≤ 62) : txtOk (M 1) := by
  have e1 : absR M 0 9 = M 1 202 := by simp [absR, absS]
  have e2 : absR M 0 10 = M 1 327 := by simp [absR, absS]
  rw [e1, e2] at h
  exact h
/-- lengths of the texts, as every step keeps them -/
def tOk (σ : gSt) : Prop := σ 0 9 ≤ 62 ∧ σ 0 10 ≤ 62
theorem tOk_B {σ : gSt} {c : Nat} {i x : Int} (h : tOk σ) (hc : c ≠ 0 ∨ i < 9) : tOk (up1 σ c i x) := by
  unfold tOk up1
  rcases hc with hc | hc
  · rw [wrO (Ne.symm hc), wrO (Ne.symm hc)]; exact h
  · by_cases h0 : 0 = c
    · subst h0; rw [wrN (by omega), wrN (by omega)]; exact h
    · rw [wrO h0, wrO h0]; exact h
theorem sp_Rits {t w : Int} {M : gSt} {k : Int → gSt → Prop} (ht : 0 ≤ t ∧ t ≤ 12) (hw : 0 ≤ w ∧ w ≤ 9) (h : k (absR M 1 (10 * t + w)) M) : w_Rits t w M k := by
  unfold w_Rits
  refine ⟨⟨by omega, by omega⟩, ?_⟩
  rw [show 10 + 10 * t + w = 10 + (10 * t + w) from by omega, rdB M (10 * t + w) (by omega) (by omega)]
  exact h
theorem sp_Rlays1 {t w v : Int} {M : gSt} {k : gSt → Prop} (ht : 0 ≤ t ∧ t ≤ 12) (hw : 0 ≤ w ∧ w ≤ 9) (hx : tOk (absR M)) (h : ∀ M', absR M' = up1 (absR M) 1 (10 * t + w) v → onlyS M M' → fr M M' → k M') : w_Rlays1 t w v M k := by
  unfold w_Rlays1
  refine ⟨⟨by omega, by omega⟩, fun M' e => ?_⟩
  subst e
  refine h _ ?_ onlyS_wr (fr_wr (by decide) (fun _ => by omega))
  refine absR_s (fun o ho => wrO' ho) (by decide) (absS_put (txtOk_abs hx) 1 10 130 (Or.inl ⟨rfl, rfl, rfl⟩) (by omega) (by omega) (fun j => ?_))
  rw [show 10 + 10 * t + w = 10 + (10 * t + w) from by omega]
  by_cases hj : j = 10 + (10 * t + w)
  · rw [if_pos hj, hj, wrI]
  · rw [if_neg hj, wrN hj]
theorem sp_Rsc {M : gSt} {j x : Int} (h0 : 0 ≤ j) (h1 : j < 9) (hx : tOk (absR M)) : absR (wr M 1 j x) = up1 (absR M) 0 j x := by
  refine absR_s (fun o ho => wrO' ho) (by decide) (absS_sc (txtOk_abs hx) h0 h1 (fun i => ?_))
  by_cases hj : i = j
  · rw [if_pos hj, hj, wrI]
  · rw [if_neg hj, wrN hj]
theorem sp_RisThing {t : Int} {M : gSt} {k : Int → gSt → Prop} (ht : inI t) (hn : 0 ≤ absR M 0 0 ∧ absR M 0 0 ≤ 12) (k1 : 0 ≤ t ∧ t < absR M 0 0 → k 1 M) (k0 : ¬ (0 ≤ t ∧ t < absR M 0 0) → k 0 M) : w_RisThing t M k := by
  unfold w_RisThing
  rw [rdS M 0 (by omega) (by omega)]
  exact sp_Rin ht ⟨by omega, by omega⟩ ⟨by omega, by omega⟩ (fun h => ⟨Or.inr rfl, k1 ⟨h.1, by omega⟩⟩) (fun h => ⟨Or.inl rfl, k0 (fun h2 => h ⟨h2.1, by omega⟩)⟩)
/-- one more thing: kind and m of km, all else 0 -/
def addT (σ : gSt) (km : Int) : gSt := fun c i =>
  if c = 0 ∧ i = 0 then σ 0 0 + 1
  else if c = 1 ∧ 10 * σ 0 0 ≤ i ∧ i < 10 * σ 0 0 + 10 then (if i = 10 * σ 0 0 then km / 100 else if i = 10 * σ 0 0 + 1 then km % 100 else 0)
  else σ c i
def zerT (σ : gSt) (n j : Int) : gSt := fun c i => if c = 1 ∧ 10 * n ≤ i ∧ i < 10 * n + j then 0 else σ c i
theorem tdiv_pos {a b : Int} (h : 0 ≤ a) : a.tdiv b = a / b := Int.tdiv_eq_ediv_of_nonneg h
theorem tmod_pos {a b : Int} (h : 0 ≤ a) : a.tmod b = a % b := Int.tmod_eq_emod_of_nonneg h
theorem sp_RaddThing {km : Int} {M : gSt} {k : Int → gSt → Prop} (hk : 0 ≤ km ∧ km ≤ 699) (hn : 0 ≤ absR M 0 0 ∧ absR M 0 0 ≤ 11) (hx : tOk (absR M)) (h : ∀ M', absR M' = addT (absR M) km → fr M M' → onlyS M M' → k (absR M 0 0) M') : w_RaddThing km M k := by
  unfold w_RaddThing
  intro n hnE
  rw [rdS M 0 (by omega) (by omega)] at hnE
  have hn0 : 0 ≤ n ∧ n ≤ 11 := by omega
  refine ⟨11, ?_⟩
  have loop : ∀ (d : Nat) (j : Int) (M1 : gSt), (d : Int) = 10 - j → 0 ≤ j → absR M1 = zerT (absR M) n j → fr M M1 → onlyS M M1 → ∀ f : Nat, d < f → wL_RaddThing_9 km k (fun u2_9 M9 => w_Rlays1 u2_9 0 (Int.tdiv (wrap km) 100) M9 (fun M35 => w_Rlays1 u2_9 1 (Int.tmod (wrap km) 100) M35 (fun M45 => ∀ M57 : gSt, M57 = wr M45 1 0 ((M45 1 0) + 1) → (k u2_9 M57)))) f n j M1 := by
    intro d
    induction d with
    | zero =>
      intro j M1 hd hj0 hA hF hO f hf
      obtain ⟨f, rfl⟩ : ∃ g, f = g + 1 := ⟨f - 1, by omega⟩
      have hj : j = 10 := by omega
      subst hj
      simp only [wL_RaddThing_9, wC_RaddThing_9]
      refine ⟨fun _ => ?_, fun h => absurd h (by decide)⟩
      have hx1 : tOk (absR M1) := by rw [hA]; unfold tOk zerT; simp; exact hx
      rw [wI ⟨by omega, by omega⟩, tdiv_pos hk.1, tmod_pos hk.1]
      refine sp_Rlays1 ⟨by omega, by omega⟩ ⟨by omega, by omega⟩ hx1 (fun M2 h2 o2 f2 => ?_)
      have hx2 : tOk (absR M2) := by rw [h2]; exact tOk_B hx1 (Or.inl (by decide))
      refine sp_Rlays1 ⟨by omega, by omega⟩ ⟨by omega, by omega⟩ hx2 (fun M3 h3 o3 f3 => ?_)
      have hx3 : tOk (absR M3) := by rw [h3]; exact tOk_B hx2 (Or.inl (by decide))
      intro M4 e4
      subst e4
      have en : absR M 0 0 = n := hnE.symm
      rw [rdS M3 0 (by omega) (by omega)]
      have e0 : absR M3 0 0 = n := by
        rw [h3, h2, hA]
        simp [up1, wr, zerT, en]
      rw [e0]
      rw [hnE]
      refine h _ ?_ (fr_trans hF (fr_trans f2 (fr_trans f3 (fr_wr (by decide) (fun _ => by omega))))) (onlyS_trans hO (onlyS_trans o2 (onlyS_trans o3 onlyS_wr)))
      rw [sp_Rsc (by omega) (by omega) hx3, h3, h2, hA]
      funext c i
      simp only [up1, wr, zerT, addT, en]
      repeat' split
      all_goals first | rfl | omega
    | succ d ih =>
      intro j M1 hd hj0 hA hF hO f hf
      obtain ⟨f, rfl⟩ : ∃ g, f = g + 1 := ⟨f - 1, by omega⟩
      simp only [wL_RaddThing_9, wC_RaddThing_9]
      rw [wI (x := j) ⟨by omega, by omega⟩]
      refine ⟨fun h => absurd h (by omega), fun _ => ?_⟩
      have hx1 : tOk (absR M1) := by rw [hA]; unfold tOk zerT; simp; exact hx
      refine sp_Rlays1 ⟨by omega, by omega⟩ ⟨by omega, by omega⟩ hx1 (fun M2 h2 o2 f2 => ?_)
      refine ih (j + 1) M2 (by omega) (by omega) ?_ (fr_trans hF f2) (onlyS_trans hO o2) f (by omega)
      rw [h2, hA]
      funext c i
      simp only [up1, wr, zerT]
      repeat' split
      all_goals first | rfl | omega
  exact loop 10 0 M (by omega) (by omega) (by funext c i; simp [zerT]; intro _ _ _; omega) fr_rf onlyS_rf 11 (by omega)
end
section
-- what the abstract state keeps, and the reference's first public methods on it
def iN (σ : gSt) : Prop := 0 ≤ σ 0 0 ∧ σ 0 0 ≤ 12 ∧ 0 ≤ σ 0 1 ∧ σ 0 1 ≤ 4 ∧ σ 0 1 ≤ σ 0 0 ∧ 0 ≤ σ 0 2 ∧ σ 0 2 ≤ 10 ∧ 0 ≤ σ 0 3 ∧ σ 0 3 ≤ 6 ∧ 0 ≤ σ 0 4 ∧ σ 0 4 ≤ 8 ∧ 0 ≤ σ 0 5 ∧ σ 0 5 ≤ 9999 ∧ 0 ≤ σ 0 6 ∧ σ 0 6 ≤ 60 ∧ 0 ≤ σ 0 7 ∧ σ 0 7 ≤ 24 ∧ 0 ≤ σ 0 9 ∧ σ 0 9 ≤ 60 ∧ 0 ≤ σ 0 10 ∧ σ 0 10 ≤ 60
/-- one thing's numbers (its cells from b on) -/
def thOk (B : Int → Int) (b : Int) : Prop := (0 ≤ B (b + 0) ∧ B (b + 0) ≤ 6) ∧ (0 ≤ B (b + 1) ∧ B (b + 1) ≤ 99) ∧ (0 ≤ B (b + 2) ∧ B (b + 2) ≤ 9999999) ∧ (0 ≤ B (b + 3) ∧ B (b + 3) ≤ B (b + 2)) ∧ (0 ≤ B (b + 4) ∧ B (b + 4) ≤ B (b + 2)) ∧ (0 ≤ B (b + 5) ∧ B (b + 5) ≤ B (b + 2)) ∧ (0 ≤ B (b + 6) ∧ B (b + 6) ≤ 1000000) ∧ (0 ≤ B (b + 7) ∧ B (b + 7) ≤ 1000000) ∧ (0 ≤ B (b + 8) ∧ B (b + 8) ≤ 1000000) ∧ (0 ≤ B (b + 9) ∧ B (b + 9) ≤ 1000000)
def iB (σ : gSt) : Prop := ∀ t, 0 ≤ t → t ≤ 12 → thOk (σ 1) (10 * t)
theorem iN_t {σ : gSt} (h : iN σ) : tOk σ := by unfold iN at h; unfold tOk; omega
theorem errL {M : gSt} {k : Int → gSt → Prop} {j : Int} {S : Int × gSt} (h0 : 0 ≤ j) (h1 : j < 7) (hS : S = S_err (absR M) j) (h : ∀ M', absR M' = S.2 → fr M M' → k S.1 M') : w_Rerror j M k := by
  subst hS
  exact sp_Rerror h0 h1 h
theorem absR_put {M : gSt} {c : Nat} {b n q x p : Int} (hx : tOk (absR M)) (hc : (c = 1 ∧ b = 10 ∧ n = 130) ∨ (c = 2 ∧ b = 140 ∧ n = 20) ∨ (c = 3 ∧ b = 160 ∧ n = 18) ∨ (c = 4 ∧ b = 178 ∧ n = 24) ∨ (c = 5 ∧ b = 452 ∧ n = 60) ∨ (c = 6 ∧ b = 512 ∧ n = 24)) (h0 : 0 ≤ q) (h1 : q < n) (hp : p = b + q) : absR (wr M 1 p x) = up1 (absR M) c q x := by
  subst hp
  refine absR_s (fun o ho => wrO' ho) (by omega) (absS_put (txtOk_abs hx) c b n hc h0 h1 (fun j => ?_))
  by_cases hj : j = b + q
  · rw [if_pos hj, hj, wrI]
  · rw [if_neg hj, wrN hj]
theorem up1_i {σ : gSt} {c : Nat} {i x : Int} : up1 σ c i x c i = x := wrI
theorem up1_o {σ : gSt} {c c' : Nat} {i i' x : Int} (h : c' ≠ c) : up1 σ c i x c' i' = σ c' i' := wrO h
theorem up1_n {σ : gSt} {c : Nat} {i i' x : Int} (h : i' ≠ i) : up1 σ c i x c i' = σ c i' := wrN h
def S_thing (km g : Int) (σ : gSt) : Int × gSt :=
  if ¬ ((0 ≤ km ∧ km ≤ 699) ∧ (0 ≤ g ∧ g ≤ 9999999)) then S_err σ 1
  else if σ 0 0 = 12 then S_err σ 4
  else (σ 0 0, if σ 0 1 < 4 then up1 (up1 (up1 (addT σ km) 1 (10 * σ 0 0 + 2) g) 1 (10 * σ 0 0 + (6 + σ 0 1)) 1000000) 0 1 (σ 0 1 + 1) else up1 (addT σ km) 1 (10 * σ 0 0 + 2) g)
theorem sR_thing {a1 a2 : Int} {M : gSt} {k : Int → gSt → Prop} (i1 : inI a1) (i2 : inI a2) (I : iN (absR M)) (h : ∀ M', absR M' = (S_thing a1 a2 (absR M)).2 → fr M M' → k (S_thing a1 a2 (absR M)).1 M') : w_Rthing a1 a2 M k := by
  have I0 := I
  unfold iN at I
  unfold w_Rthing wB_Rthing_21
  refine sp_Rin i1 (by constructor <;> decide) (by constructor <;> decide) (fun h1 => z1 ?_) (fun h1 => z0 (errL (by decide) (by decide) (if_pos (fun q => h1 q.1)) h))
  refine sp_Rin i2 (by constructor <;> decide) (by constructor <;> decide) (fun h2 => z1n ?_) (fun h2 => z0n (errL (by decide) (by decide) (if_pos (fun q => h2 q.2)) h))
  have hc : ¬ ¬ ((0 ≤ a1 ∧ a1 ≤ 699) ∧ (0 ≤ a2 ∧ a2 ≤ 9999999)) := fun q => q ⟨h1, h2⟩
  rw [rdS M 0 (by omega) (by omega), wI (x := absR M 0 0) ⟨by omega, by omega⟩]
  refine ⟨fun h3 => ?_, fun h3 => errL (by decide) (by decide) ((if_neg hc).trans (if_pos h3)) h⟩
  have hS : S_thing a1 a2 (absR M) = _ := (if_neg hc).trans (if_neg h3)
  rw [hS] at h
  have hx := iN_t I0
  refine sp_RaddThing h1 ⟨by omega, by omega⟩ hx (fun M1 e1 f1 o1 => ?_)
  have hx1 : tOk (absR M1) := by rw [e1]; unfold tOk addT; simp; exact hx
  refine sp_Rlays1 ⟨by omega, by omega⟩ ⟨by omega, by omega⟩ hx1 (fun M2 e2 o2 f2 => ?_)
  have hx2 : tOk (absR M2) := by rw [e2]; exact tOk_B hx1 (Or.inl (by decide))
  have r1 : M2 1 1 = absR M 0 1 := by
    rw [rdS M2 1 (by omega) (by omega), e2, e1]
    simp [up1, wr, addT]
  rw [r1, wI (x := absR M 0 1) ⟨by omega, by omega⟩]
  refine ⟨fun h4 => ?_, fun h4 => ?_⟩
  · rw [if_neg (by omega)] at h
    exact h M2 (by rw [e2, e1]) (fr_trans f1 f2)
  · rw [if_pos h4] at h
    refine sp_Rlays1 ⟨by omega, by omega⟩ ⟨by omega, by omega⟩ hx2 (fun M3 e3 o3 f3 => ?_)
    have hx3 : tOk (absR M3) := by rw [e3]; exact tOk_B hx2 (Or.inl (by decide))
    intro M4 e4
    have r3 : M3 1 1 = absR M 0 1 := by
      rw [rdS M3 1 (by omega) (by omega), e3, e2, e1]
      simp [up1, wr, addT]
    rw [r3] at e4
    subst e4
    exact h _ (by rw [sp_Rsc (by omega) (by omega) hx3, e3, e2, e1]) (fr_trans f1 (fr_trans f2 (fr_trans f3 (fr_wr (by decide) (fun _ => by omega)))))
/-- a KIND is another one, or under it -/
def under (own kind : Int) : Prop := kind = 0 ∨ own = kind ∨ (kind = 1 ∧ own = 4) ∨ (kind = 2 ∧ own = 5) ∨ (kind = 3 ∧ own = 6)
theorem sp_RisUnder {a b : Int} {M : gSt} {k : Int → gSt → Prop} (ha : inI a) (hb : inI b) (k1 : under a b → k 1 M) (k0 : ¬ under a b → k 0 M) : w_RisUnder a b M k := by
  unfold w_RisUnder wB_RisUnder_19 wB_RisUnder_29
  rw [wI ha, wI hb]
  unfold under at k1 k0
  refine ⟨fun h1 => k1 (by omega), fun h1 => ⟨fun h2 => k1 (by omega), fun h2 => ⟨fun h3 => ⟨fun h4 => ⟨fun h5 => k0 (by omega), fun h5 => ⟨fun h6 => k0 (by omega), fun h6 => k1 (by omega)⟩⟩, fun h4 => ⟨fun h5 => k1 (by omega), fun h5 => ⟨fun h6 => k0 (by omega), fun h6 => ⟨fun h7 => k0 (by omega), fun h7 => k1 (by omega)⟩⟩⟩⟩, fun h3 => ⟨fun h4 => k1 (by omega), fun h4 => ⟨fun h5 => ⟨fun h6 => k0 (by omega), fun h6 => ⟨fun h7 => k0 (by omega), fun h7 => k1 (by omega)⟩⟩, fun h5 => ⟨fun h6 => k1 (by omega), fun h6 => ⟨fun h7 => k0 (by omega), fun h7 => ⟨fun h8 => k0 (by omega), fun h8 => k1 (by omega)⟩⟩⟩⟩⟩⟩⟩⟩
def S_as (t kind : Int) (σ : gSt) : Int × gSt :=
  if ¬ ((0 ≤ t ∧ t < σ 0 0) ∧ (0 ≤ kind ∧ kind ≤ 6)) then S_err σ 1
  else if σ 1 (10 * t + 0) = kind ∨ kind = 0 ∨ (kind = 1 ∧ σ 1 (10 * t + 0) = 4) ∨ (kind = 2 ∧ σ 1 (10 * t + 0) = 5) ∨ (kind = 3 ∧ σ 1 (10 * t + 0) = 6) then (σ 1 (10 * t + 2), σ) else S_err σ 5
theorem sR_as {a1 a2 : Int} {M : gSt} {k : Int → gSt → Prop} (i1 : inI a1) (i2 : inI a2) (I : iN (absR M)) (J : iB (absR M)) (h : ∀ M', absR M' = (S_as a1 a2 (absR M)).2 → fr M M' → k (S_as a1 a2 (absR M)).1 M') : w_Ras a1 a2 M k := by
  unfold iN at I
  unfold w_Ras wB_Ras_18
  refine sp_RisThing i1 ⟨by omega, by omega⟩ (fun h1 => z1 ?_) (fun h1 => z0 (errL (by decide) (by decide) (if_pos (fun q => h1 q.1)) h))
  refine sp_Rin i2 (by constructor <;> decide) (by constructor <;> decide) (fun h2 => z1n ?_) (fun h2 => z0n (errL (by decide) (by decide) (if_pos (fun q => h2 q.2)) h))
  have hc : ¬ ¬ ((0 ≤ a1 ∧ a1 < absR M 0 0) ∧ (0 ≤ a2 ∧ a2 ≤ 6)) := fun q => q ⟨h1, h2⟩
  have T := J a1 (by omega) (by omega)
  unfold thOk at T
  refine sp_Rits ⟨by omega, by omega⟩ ⟨by omega, by omega⟩ ?_
  refine sp_RisUnder ⟨by omega, by omega⟩ i2 (fun h3 => z1 ?_) (fun h3 => z0 (errL (by decide) (by decide) ((if_neg hc).trans (if_neg (by unfold under at h3; omega))) h))
  refine sp_Rits ⟨by omega, by omega⟩ ⟨by omega, by omega⟩ ?_
  have hS : S_as a1 a2 (absR M) = _ := (if_neg hc).trans (if_pos (by unfold under at h3; omega))
  rw [hS] at h
  exact h M rfl fr_rf
def S_set (t w v : Int) (σ : gSt) : Int × gSt :=
  if ¬ ((0 ≤ t ∧ t < σ 0 0) ∧ (0 ≤ w ∧ w ≤ 5 ∧ ¬ w = 2) ∧ (0 ≤ v ∧ v ≤ (if w = 0 then 6 else if w = 1 then 99 else σ 1 (10 * t + 2)))) then S_err σ 1
  else (σ 1 (10 * t + w), up1 σ 1 (10 * t + w) v)
theorem sR_set {a1 a2 a3 : Int} {M : gSt} {k : Int → gSt → Prop} (i1 : inI a1) (i2 : inI a2) (i3 : inI a3) (I : iN (absR M)) (J : iB (absR M)) (h : ∀ M', absR M' = (S_set a1 a2 a3 (absR M)).2 → fr M M' → k (S_set a1 a2 a3 (absR M)).1 M') : w_Rset a1 a2 a3 M k := by
  have hx := iN_t I
  unfold iN at I
  unfold w_Rset wB_Rset_22
  refine sp_RisThing i1 ⟨by omega, by omega⟩ (fun h1 => z1 ?_) (fun h1 => z0 (errL (by decide) (by decide) (if_pos (fun q => h1 q.1)) h))
  refine sp_Rin i2 (by constructor <;> decide) (by constructor <;> decide) (fun h2 => z1 ?_) (fun h2 => z0 (errL (by decide) (by decide) (if_pos (fun q => h2 ⟨q.2.1.1, q.2.1.2.1⟩)) h))
  have T := J a1 (by omega) (by omega)
  unfold thOk at T
  rw [wI i2]
  have fin : ∀ s : Int, inI s → ¬ a2 = 2 → s = (if a2 = 0 then 6 else if a2 = 1 then 99 else absR M 1 (10 * a1 + 2)) → wB_Rset_55 a1 a2 a3 k s 0 a3 M := by
    intro s hs n2 es
    unfold wB_Rset_55
    refine sp_Rin i3 (by constructor <;> decide) hs (fun h3 => z1n ?_) (fun h3 => z0n (errL (by decide) (by decide) (if_pos (fun q => h3 ⟨q.2.2.1, by rw [es]; exact q.2.2.2⟩)) h))
    have hS : S_set a1 a2 a3 (absR M) = _ := if_neg (fun q => q ⟨h1, ⟨h2.1, h2.2, n2⟩, ⟨h3.1, by rw [← es]; exact h3.2⟩⟩)
    rw [hS] at h
    refine sp_Rits ⟨by omega, by omega⟩ ⟨by omega, by omega⟩ ?_
    refine sp_Rlays1 ⟨by omega, by omega⟩ ⟨by omega, by omega⟩ hx (fun M2 e2 o2 f2 => ?_)
    exact h M2 e2 f2
  refine ⟨fun n2 => ⟨fun n0 => ⟨fun n1 => ?_, fun e1 => fin 99 (by constructor <;> decide) n2 (by rw [if_neg n0, if_pos e1])⟩, fun e0 => fin 6 (by constructor <;> decide) n2 (by rw [if_pos e0])⟩, fun e2 => errL (by decide) (by decide) (if_pos (fun q => q.2.1.2.2 e2)) h⟩
  refine sp_Rits ⟨by omega, by omega⟩ ⟨by omega, by omega⟩ ?_
  exact fin _ ⟨by omega, by omega⟩ n2 (by rw [if_neg n0, if_neg n1])
def S_crucible (w : Int) (σ : gSt) : Int × gSt := if ¬ (2 ≤ w ∧ w ≤ 9) then S_err σ 1 else (σ 1 (10 * 12 + w), σ)
theorem sR_crucible {a1 : Int} {M : gSt} {k : Int → gSt → Prop} (i1 : inI a1) (h : ∀ M', absR M' = (S_crucible a1 (absR M)).2 → fr M M' → k (S_crucible a1 (absR M)).1 M') : w_Rcrucible a1 M k := by
  unfold w_Rcrucible
  refine sp_Rin i1 (by constructor <;> decide) (by constructor <;> decide) (fun h1 => z1 ?_) (fun h1 => z0 (errL (by decide) (by decide) (if_pos h1) h))
  have hS : S_crucible a1 (absR M) = _ := if_neg (fun q => q h1)
  rw [hS] at h
  exact sp_Rits ⟨by omega, by omega⟩ ⟨by omega, by omega⟩ (h M rfl fr_rf)
def S_seed (v : Int) (σ : gSt) : Int × gSt := (σ 0 8, up1 σ 0 8 v)
theorem sR_seed {a1 : Int} {M : gSt} {k : Int → gSt → Prop} (I : iN (absR M)) (h : ∀ M', absR M' = (S_seed a1 (absR M)).2 → fr M M' → k (S_seed a1 (absR M)).1 M') : w_Rseed a1 M k := by
  unfold w_Rseed
  intro x ex M1 e1
  rw [rdS M 8 (by omega) (by omega)] at ex
  subst ex; subst e1
  exact h _ (sp_Rsc (by omega) (by omega) (iN_t I)) (fr_wr (by decide) (fun _ => by omega))
def S_claim (t g : Int) (σ : gSt) : Int × gSt :=
  if ¬ ((0 ≤ t ∧ t < σ 0 0) ∧ (1 ≤ g ∧ g ≤ 99999)) then S_err σ 1
  else if σ 0 2 = 10 then S_err σ 4
  else (σ 0 2, up1 (up1 (up1 σ 2 (2 * σ 0 2) t) 2 (2 * σ 0 2 + 1) g) 0 2 (σ 0 2 + 1))
theorem sR_claim {a1 a2 : Int} {M : gSt} {k : Int → gSt → Prop} (i1 : inI a1) (i2 : inI a2) (I : iN (absR M)) (h : ∀ M', absR M' = (S_claim a1 a2 (absR M)).2 → fr M M' → k (S_claim a1 a2 (absR M)).1 M') : w_Rclaim a1 a2 M k := by
  have hx := iN_t I
  unfold iN at I
  unfold w_Rclaim wB_Rclaim_18
  refine sp_RisThing i1 ⟨by omega, by omega⟩ (fun h1 => z1 ?_) (fun h1 => z0 (errL (by decide) (by decide) (if_pos (fun q => h1 q.1)) h))
  refine sp_Rin i2 (by constructor <;> decide) (by constructor <;> decide) (fun h2 => z1n ?_) (fun h2 => z0n (errL (by decide) (by decide) (if_pos (fun q => h2 q.2)) h))
  have hc : ¬ ¬ ((0 ≤ a1 ∧ a1 < absR M 0 0) ∧ (1 ≤ a2 ∧ a2 ≤ 99999)) := fun q => q ⟨h1, h2⟩
  rw [rdS M 2 (by omega) (by omega), wI (x := absR M 0 2) ⟨by omega, by omega⟩]
  refine ⟨fun h3 => ?_, fun h3 => errL (by decide) (by decide) ((if_neg hc).trans (if_pos h3)) h⟩
  have hS : S_claim a1 a2 (absR M) = _ := (if_neg hc).trans (if_neg h3)
  rw [hS] at h
  refine ⟨⟨by omega, by omega⟩, fun M1 e1 => ?_⟩
  have A1 : absR M1 = up1 (absR M) 2 (2 * absR M 0 2) a1 := by
    rw [e1]; exact absR_put hx (Or.inr (Or.inl ⟨rfl, rfl, rfl⟩)) (by omega) (by omega) rfl
  have F1 : fr M M1 := by rw [e1]; exact fr_wr (by decide) (fun _ => by omega)
  have r1 : M1 1 2 = absR M 0 2 := by rw [rdS M1 2 (by omega) (by omega), A1, up1_o (by decide)]
  have x1 : tOk (absR M1) := by rw [A1]; exact tOk_B hx (Or.inl (by decide))
  rw [r1]
  refine ⟨⟨by omega, by omega⟩, fun M2 e2 => ?_⟩
  have A2 : absR M2 = up1 (absR M1) 2 (2 * absR M 0 2 + 1) a2 := by
    rw [e2]; exact absR_put x1 (Or.inr (Or.inl ⟨rfl, rfl, rfl⟩)) (by omega) (by omega) (by omega)
  have F2 : fr M1 M2 := by rw [e2]; exact fr_wr (by decide) (fun _ => by omega)
  have r2 : M2 1 2 = absR M 0 2 := by rw [rdS M2 2 (by omega) (by omega), A2, up1_o (by decide), A1, up1_o (by decide)]
  have x2 : tOk (absR M2) := by rw [A2]; exact tOk_B x1 (Or.inl (by decide))
  rw [r2]
  intro M3 e3
  have A3 : absR M3 = up1 (absR M2) 0 2 (absR M 0 2 + 1) := by rw [e3]; exact sp_Rsc (by omega) (by omega) x2
  have F3 : fr M2 M3 := by rw [e3]; exact fr_wr (by decide) (fun _ => by omega)
  have r3 : M3 1 2 - 1 = absR M 0 2 := by rw [rdS M3 2 (by omega) (by omega), A3, up1_i]; omega
  rw [r3]
  exact h M3 (by rw [A3, A2, A1]) (fr_trans F1 (fr_trans F2 F3))
end
section
-- the reference: papers, weighings, waiting, told, body, sheets, count
theorem sp_RisPaper {a b c : Int} {M : gSt} {k : Int → gSt → Prop} (ia : inI a) (ib : inI b) (ic : inI c) (hn : 0 ≤ absR M 0 0 ∧ absR M 0 0 ≤ 12) (k1 : (0 ≤ a ∧ a < absR M 0 0) ∧ (0 ≤ b ∧ b < absR M 0 0) ∧ ¬ a = b ∧ (1 ≤ c ∧ c ≤ 8) → k 1 M) (k0 : ¬ ((0 ≤ a ∧ a < absR M 0 0) ∧ (0 ≤ b ∧ b < absR M 0 0) ∧ ¬ a = b ∧ (1 ≤ c ∧ c ≤ 8)) → k 0 M) : w_RisPaper a b c M k := by
  unfold w_RisPaper
  refine sp_RisThing ia hn (fun h1 => z1 ?_) (fun h1 => z0 (k0 (fun q => h1 q.1)))
  refine sp_RisThing ib hn (fun h2 => z1 ?_) (fun h2 => z0 (k0 (fun q => h2 q.2.1)))
  rw [wI ia, wI ib]
  refine ⟨fun h3 => k0 (fun q => q.2.2.1 h3), fun h3 => ?_⟩
  exact sp_Rin ic (by constructor <;> decide) (by constructor <;> decide) (fun h4 => z1 (k1 ⟨h1, h2, h3, h4⟩)) (fun h4 => z0 (k0 (fun q => h4 q.2.2.2)))
/-- three numbers more in the row c (3 papers, 4 weighings), one more counted at j -/
def add3 (σ : gSt) (c : Nat) (j a b d : Int) : gSt := up1 (up1 (up1 (up1 σ c (3 * σ 0 j) a) c (3 * σ 0 j + 1) b) c (3 * σ 0 j + 2) d) 0 j (σ 0 j + 1)
theorem sp_RaddPaper {a b d : Int} {M : gSt} {k : gSt → Prop} (hx : tOk (absR M)) (hn : 0 ≤ absR M 0 3 ∧ absR M 0 3 ≤ 5) (h : ∀ M', absR M' = add3 (absR M) 3 3 a b d → fr M M' → onlyS M M' → k M') : w_RaddPaper a b d M k := by
  unfold w_RaddPaper
  intro x ex
  rw [rdS M 3 (by omega) (by omega)] at ex
  refine ⟨⟨by omega, by omega⟩, fun M1 e1 => ?_⟩
  have A1 : absR M1 = up1 (absR M) 3 (3 * absR M 0 3) a := by
    rw [e1]; exact absR_put hx (Or.inr (Or.inr (Or.inl ⟨rfl, rfl, rfl⟩))) (by omega) (by omega) (by omega)
  have F1 : fr M M1 := by rw [e1]; exact fr_wr (by decide) (fun _ => by omega)
  have x1 : tOk (absR M1) := by rw [A1]; exact tOk_B hx (Or.inl (by decide))
  refine ⟨⟨by omega, by omega⟩, fun M2 e2 => ?_⟩
  have A2 : absR M2 = up1 (absR M1) 3 (3 * absR M 0 3 + 1) b := by
    rw [e2]; exact absR_put x1 (Or.inr (Or.inr (Or.inl ⟨rfl, rfl, rfl⟩))) (by omega) (by omega) (by omega)
  have F2 : fr M1 M2 := by rw [e2]; exact fr_wr (by decide) (fun _ => by omega)
  have x2 : tOk (absR M2) := by rw [A2]; exact tOk_B x1 (Or.inl (by decide))
  refine ⟨⟨by omega, by omega⟩, fun M3 e3 => ?_⟩
  have A3 : absR M3 = up1 (absR M2) 3 (3 * absR M 0 3 + 2) d := by
    rw [e3]; exact absR_put x2 (Or.inr (Or.inr (Or.inl ⟨rfl, rfl, rfl⟩))) (by omega) (by omega) (by omega)
  have F3 : fr M2 M3 := by rw [e3]; exact fr_wr (by decide) (fun _ => by omega)
  have x3 : tOk (absR M3) := by rw [A3]; exact tOk_B x2 (Or.inl (by decide))
  intro M4 e4
  have r3 : M3 1 3 = absR M 0 3 := by rw [rdS M3 3 (by omega) (by omega), A3, up1_o (by decide), A2, up1_o (by decide), A1, up1_o (by decide)]
  rw [r3] at e4
  have A4 : absR M4 = up1 (absR M3) 0 3 (absR M 0 3 + 1) := by rw [e4]; exact sp_Rsc (by omega) (by omega) x3
  have F4 : fr M3 M4 := by rw [e4]; exact fr_wr (by decide) (fun _ => by omega)
  refine h M4 (by rw [A4, A3, A2, A1]; rfl) (fr_trans F1 (fr_trans F2 (fr_trans F3 F4))) ?_
  rw [e4, e3, e2, e1]
  exact onlyS_trans onlyS_wr (onlyS_trans onlyS_wr (onlyS_trans onlyS_wr onlyS_wr))
def S_paper (a b d : Int) (σ : gSt) : Int × gSt :=
  if ¬ ((0 ≤ a ∧ a < σ 0 0) ∧ (0 ≤ b ∧ b < σ 0 0) ∧ ¬ a = b ∧ (1 ≤ d ∧ d ≤ 8)) then S_err σ 1
  else if σ 0 3 = 6 then S_err σ 4 else (σ 0 3, add3 σ 3 3 a b d)
theorem sR_paper {a1 a2 a3 : Int} {M : gSt} {k : Int → gSt → Prop} (i1 : inI a1) (i2 : inI a2) (i3 : inI a3) (I : iN (absR M)) (h : ∀ M', absR M' = (S_paper a1 a2 a3 (absR M)).2 → fr M M' → k (S_paper a1 a2 a3 (absR M)).1 M') : w_Rpaper a1 a2 a3 M k := by
  have hx := iN_t I
  unfold iN at I
  unfold w_Rpaper
  refine sp_RisPaper i1 i2 i3 ⟨by omega, by omega⟩ (fun h1 => z1n ?_) (fun h1 => z0n (errL (by decide) (by decide) (if_pos h1) h))
  have hc := fun q : ¬ _ => q h1
  rw [rdS M 3 (by omega) (by omega), wI (x := absR M 0 3) ⟨by omega, by omega⟩]
  refine ⟨fun h3 => ?_, fun h3 => errL (by decide) (by decide) ((if_neg hc).trans (if_pos h3)) h⟩
  have hS : S_paper a1 a2 a3 (absR M) = _ := (if_neg hc).trans (if_neg h3)
  rw [hS] at h
  refine sp_RaddPaper hx ⟨by omega, by omega⟩ (fun M' e f _ => ?_)
  have r : M' 1 3 - 1 = absR M 0 3 := by rw [rdS M' 3 (by omega) (by omega), e]; simp only [add3]; rw [up1_i]; omega
  rw [r]
  exact h M' e f
def S_weigh (t g s : Int) (σ : gSt) : Int × gSt :=
  if ¬ ((0 ≤ t ∧ t < σ 0 0) ∧ (0 ≤ g ∧ g ≤ 9999999) ∧ (0 ≤ s ∧ s ≤ 99)) then S_err σ 1
  else if σ 0 4 = 8 then S_err σ 4 else (σ 0 4, add3 σ 4 4 t g s)
theorem sR_weigh {a1 a2 a3 : Int} {M : gSt} {k : Int → gSt → Prop} (i1 : inI a1) (i2 : inI a2) (i3 : inI a3) (I : iN (absR M)) (h : ∀ M', absR M' = (S_weigh a1 a2 a3 (absR M)).2 → fr M M' → k (S_weigh a1 a2 a3 (absR M)).1 M') : w_Rweigh a1 a2 a3 M k := by
  have hx := iN_t I
  unfold iN at I
  unfold w_Rweigh wB_Rweigh_28
  refine sp_RisThing i1 ⟨by omega, by omega⟩ (fun h1 => z1 ?_) (fun h1 => z0 (errL (by decide) (by decide) (if_pos (fun q => h1 q.1)) h))
  refine sp_Rin i2 (by constructor <;> decide) (by constructor <;> decide) (fun h2 => z1 ?_) (fun h2 => z0 (errL (by decide) (by decide) (if_pos (fun q => h2 q.2.1)) h))
  refine sp_Rin i3 (by constructor <;> decide) (by constructor <;> decide) (fun h3 => z1n ?_) (fun h3 => z0n (errL (by decide) (by decide) (if_pos (fun q => h3 q.2.2)) h))
  have hc := fun q : ¬ ((0 ≤ a1 ∧ a1 < absR M 0 0) ∧ (0 ≤ a2 ∧ a2 ≤ 9999999) ∧ (0 ≤ a3 ∧ a3 ≤ 99)) => q ⟨h1, h2, h3⟩
  rw [rdS M 4 (by omega) (by omega), wI (x := absR M 0 4) ⟨by omega, by omega⟩]
  refine ⟨fun h4 => ?_, fun h4 => errL (by decide) (by decide) ((if_neg hc).trans (if_pos h4)) h⟩
  have hS : S_weigh a1 a2 a3 (absR M) = _ := (if_neg hc).trans (if_neg h4)
  rw [hS] at h
  intro x ex
  refine ⟨⟨by omega, by omega⟩, fun M1 e1 => ?_⟩
  have A1 : absR M1 = up1 (absR M) 4 (3 * absR M 0 4) a1 := by
    rw [e1]; exact absR_put hx (Or.inr (Or.inr (Or.inr (Or.inl ⟨rfl, rfl, rfl⟩)))) (by omega) (by omega) (by omega)
  have F1 : fr M M1 := by rw [e1]; exact fr_wr (by decide) (fun _ => by omega)
  have x1 : tOk (absR M1) := by rw [A1]; exact tOk_B hx (Or.inl (by decide))
  refine ⟨⟨by omega, by omega⟩, fun M2 e2 => ?_⟩
  have A2 : absR M2 = up1 (absR M1) 4 (3 * absR M 0 4 + 1) a2 := by
    rw [e2]; exact absR_put x1 (Or.inr (Or.inr (Or.inr (Or.inl ⟨rfl, rfl, rfl⟩)))) (by omega) (by omega) (by omega)
  have F2 : fr M1 M2 := by rw [e2]; exact fr_wr (by decide) (fun _ => by omega)
  have x2 : tOk (absR M2) := by rw [A2]; exact tOk_B x1 (Or.inl (by decide))
  refine ⟨⟨by omega, by omega⟩, fun M3 e3 => ?_⟩
  have A3 : absR M3 = up1 (absR M2) 4 (3 * absR M 0 4 + 2) a3 := by
    rw [e3]; exact absR_put x2 (Or.inr (Or.inr (Or.inr (Or.inl ⟨rfl, rfl, rfl⟩)))) (by omega) (by omega) (by omega)
  have F3 : fr M2 M3 := by rw [e3]; exact fr_wr (by decide) (fun _ => by omega)
  have x3 : tOk (absR M3) := by rw [A3]; exact tOk_B x2 (Or.inl (by decide))
  intro M4 e4
  have r3 : M3 1 4 = absR M 0 4 := by rw [rdS M3 4 (by omega) (by omega), A3, up1_o (by decide), A2, up1_o (by decide), A1, up1_o (by decide)]
  rw [r3] at e4
  have A4 : absR M4 = up1 (absR M3) 0 4 (absR M 0 4 + 1) := by rw [e4]; exact sp_Rsc (by omega) (by omega) x3
  have F4 : fr M3 M4 := by rw [e4]; exact fr_wr (by decide) (fun _ => by omega)
  have r : M4 1 4 - 1 = absR M 0 4 := by rw [rdS M4 4 (by omega) (by omega), A4, up1_i]; omega
  rw [r]
  exact h M4 (by rw [A4, A3, A2, A1]; rfl) (fr_trans F1 (fr_trans F2 (fr_trans F3 F4)))
def S_forget (w : Int) (σ : gSt) : Int × gSt := if ¬ (0 ≤ w ∧ w ≤ 1) then S_err σ 1 else (σ 0 (3 + w), up1 σ 0 (3 + w) 0)
theorem sR_forget {a1 : Int} {M : gSt} {k : Int → gSt → Prop} (i1 : inI a1) (I : iN (absR M)) (h : ∀ M', absR M' = (S_forget a1 (absR M)).2 → fr M M' → k (S_forget a1 (absR M)).1 M') : w_Rforget a1 M k := by
  have hx := iN_t I
  unfold w_Rforget
  refine sp_Rin i1 (by constructor <;> decide) (by constructor <;> decide) (fun h1 => z1n ?_) (fun h1 => z0n (errL (by decide) (by decide) (if_pos h1) h))
  have hS : S_forget a1 (absR M) = _ := if_neg (fun q => q h1)
  rw [hS] at h
  refine ⟨⟨by omega, by omega⟩, fun x ex => ⟨⟨by omega, by omega⟩, fun M1 e1 => ?_⟩⟩
  rw [rdS M (3 + a1) (by omega) (by omega)] at ex
  subst ex; subst e1
  exact h _ (sp_Rsc (by omega) (by omega) hx) (fr_wr (by decide) (fun _ => by omega))
def S_tell (v : Int) (σ : gSt) : Int × gSt := if σ 0 7 = 24 then S_err σ 4 else (σ 0 7 + 1, up1 (up1 σ 6 (σ 0 7) v) 0 7 (σ 0 7 + 1))
theorem sR_tell {a1 : Int} {M : gSt} {k : Int → gSt → Prop} (I : iN (absR M)) (h : ∀ M', absR M' = (S_tell a1 (absR M)).2 → fr M M' → k (S_tell a1 (absR M)).1 M') : w_Rtell a1 M k := by
  have hx := iN_t I
  unfold iN at I
  unfold w_Rtell
  rw [rdS M 7 (by omega) (by omega), wI (x := absR M 0 7) ⟨by omega, by omega⟩]
  refine ⟨fun h1 => ?_, fun h1 => errL (by decide) (by decide) (if_pos h1) h⟩
  have hS : S_tell a1 (absR M) = _ := if_neg h1
  rw [hS] at h
  refine ⟨⟨by omega, by omega⟩, fun M1 e1 M2 e2 => ?_⟩
  have A1 : absR M1 = up1 (absR M) 6 (absR M 0 7) a1 := by
    rw [e1]; exact absR_put hx (Or.inr (Or.inr (Or.inr (Or.inr (Or.inr ⟨rfl, rfl, rfl⟩))))) (by omega) (by omega) (by omega)
  have F1 : fr M M1 := by rw [e1]; exact fr_wr (by decide) (fun _ => by omega)
  have x1 : tOk (absR M1) := by rw [A1]; exact tOk_B hx (Or.inl (by decide))
  have r1 : M1 1 7 = absR M 0 7 := by rw [rdS M1 7 (by omega) (by omega), A1, up1_o (by decide)]
  rw [r1] at e2
  have A2 : absR M2 = up1 (absR M1) 0 7 (absR M 0 7 + 1) := by rw [e2]; exact sp_Rsc (by omega) (by omega) x1
  have F2 : fr M1 M2 := by rw [e2]; exact fr_wr (by decide) (fun _ => by omega)
  have r2 : M2 1 7 = absR M 0 7 + 1 := by rw [rdS M2 7 (by omega) (by omega), A2, up1_i]
  rw [r2]
  exact h M2 (by rw [A2, A1]) (fr_trans F1 F2)
/-- told and body only end -/
theorem sR_told {a1 : Int} {M : gSt} {k : Int → gSt → Prop} (i1 : inI a1) (h : ∀ r M', absR M' = absR M → fr M M' → k r M') : w_Rtold a1 M k := by
  unfold w_Rtold
  refine sp_Rin i1 (by constructor <;> decide) (by constructor <;> decide) (fun h1 => z1 ⟨⟨by omega, by omega⟩, h _ M rfl fr_rf⟩) (fun h1 => z0 (sp_Rerror (by decide) (by decide) (fun M' e f => h _ M' e f)))
theorem sR_body {a1 : Int} {M : gSt} {k : Int → gSt → Prop} (i1 : inI a1) (I : 0 ≤ M 0 16 ∧ M 0 16 ≤ 30) (h : ∀ r M', absR M' = absR M → fr M M' → k r M') : w_Rbody a1 M k := by
  unfold w_Rbody
  exact sp_Rin i1 (by constructor <;> decide) ⟨by omega, by omega⟩ (fun h1 => z1 ⟨⟨by omega, by omega⟩, h _ M rfl fr_rf⟩) (fun h1 => z0 (sp_Rerror (by decide) (by decide) (fun M' e f => h _ M' e f)))
-- sheets
def iSh (σ : gSt) : Prop := ∀ q, 0 ≤ q → q < 4 → (σ 23 q = 0 ∨ σ 23 q = 8 ∨ σ 23 q = 16 ∨ σ 23 q = 32) ∧ (0 ≤ σ 24 q ∧ σ 24 q ≤ 24) ∧ ∀ i, 0 ≤ i → i < 24 → inI (σ 25 (24 * q + i))
theorem absR_sh {M : gSt} {o c : Nat} {n q x : Int} (hc : (o = 11 ∧ c = 23 ∧ n = 4) ∨ (o = 12 ∧ c = 24 ∧ n = 4) ∨ (o = 13 ∧ c = 25 ∧ n = 96)) (h0 : 0 ≤ q) (h1 : q < n) : absR (wr M o q x) = up1 (absR M) c q x := by
  have e : ∀ p, p ≠ o → wr M o q x p = M p := fun p hp => wrO' hp
  funext d i
  unfold up1
  by_cases hd : d = c
  · subst hd
    rcases hc with ⟨rfl, rfl, rfl⟩ | ⟨rfl, rfl, rfl⟩ | ⟨rfl, rfl, rfl⟩ <;>
    · by_cases hi : i = q
      · subst hi; simp [absR, msk, wr, h0, h1]
      · simp [absR, msk, wr, hi]
  · rw [wrO hd]
    simp only [absR]
    rw [e 1 (by omega), e 2 (by omega), e 0 (by omega)]
    rcases hc with ⟨rfl, rfl, rfl⟩ | ⟨rfl, rfl, rfl⟩ | ⟨rfl, rfl, rfl⟩
    · rw [e 12 (by omega), e 13 (by omega), if_neg hd, if_neg hd]
    · rw [e 11 (by omega), e 13 (by omega)]
      simp only [hd, if_false]
    · rw [e 11 (by omega), e 12 (by omega)]
      simp only [hd, if_false]
theorem rdBits (M : gSt) (q : Int) (h0 : 0 ≤ q) (h1 : q < 4) : M 11 q = absR M 23 q := by simp [absR, msk, h0, h1]
theorem rdSize (M : gSt) (q : Int) (h0 : 0 ≤ q) (h1 : q < 4) : M 12 q = absR M 24 q := by simp [absR, msk, h0, h1]
theorem rdNum (M : gSt) (q : Int) (h0 : 0 ≤ q) (h1 : q < 96) : M 13 q = absR M 25 q := by simp [absR, msk, h0, h1]
theorem sp_RisSheet {a : Int} {M : gSt} {k : Int → gSt → Prop} (ia : inI a) (k1 : 0 ≤ a ∧ a < 4 → k 1 M) (k0 : ¬ (0 ≤ a ∧ a < 4) → k 0 M) : w_RisSheet a M k := by
  unfold w_RisSheet
  exact sp_Rin ia (by constructor <;> decide) (by constructor <;> decide) (fun h => ⟨Or.inr rfl, k1 ⟨h.1, by omega⟩⟩) (fun h => ⟨Or.inl rfl, k0 (fun q => h ⟨q.1, by omega⟩)⟩)
/-- the lowest bits of v, with a sign -/
def lowB (b v : Int) : Int := xshr (xshl v (32 - b)) (32 - b)
def S_put (q i v : Int) (σ : gSt) : Int × gSt :=
  if ¬ (0 ≤ q ∧ q < 4) then S_err σ 1 else if σ 23 q = 0 then S_err σ 2 else if ¬ (0 ≤ i ∧ i < σ 24 q) then S_err σ 1
  else (1, up1 σ 25 (24 * q + i) (lowB (σ 23 q) v))
theorem sR_put {a1 a2 a3 : Int} {M : gSt} {k : Int → gSt → Prop} (i1 : inI a1) (i2 : inI a2) (I : iSh (absR M)) (h : ∀ M', absR M' = (S_put a1 a2 a3 (absR M)).2 → fr M M' → k (S_put a1 a2 a3 (absR M)).1 M') : w_Rput a1 a2 a3 M k := by
  unfold w_Rput
  refine sp_RisSheet i1 (fun h1 => z1n ?_) (fun h1 => z0n (errL (by decide) (by decide) (if_pos h1) h))
  obtain ⟨hb, hs, hn⟩ := I a1 h1.1 h1.2
  refine ⟨h1, ?_⟩
  rw [rdBits M a1 h1.1 h1.2, wI (x := absR M 23 a1) ⟨by omega, by omega⟩]
  refine ⟨fun h2 => ⟨h1, ?_⟩, fun h2 => errL (by decide) (by decide) ((if_neg (fun q => q h1)).trans (if_pos h2)) h⟩
  rw [rdSize M a1 h1.1 h1.2]
  refine sp_Rin i2 (by constructor <;> decide) ⟨by omega, by omega⟩ (fun h3 => z1n ?_) (fun h3 => z0n (errL (by decide) (by decide) ((if_neg (fun q => q h1)).trans ((if_neg h2).trans (if_pos (fun q => h3 ⟨q.1, by omega⟩)))) h))
  have hS : S_put a1 a2 a3 (absR M) = _ := (if_neg (fun q => q h1)).trans ((if_neg h2).trans (if_neg (fun q => q ⟨h3.1, by omega⟩)))
  rw [hS] at h
  refine ⟨h1, fun x ex => ?_⟩
  rw [rdBits M a1 h1.1 h1.2] at ex
  subst ex
  refine ⟨⟨by omega, by omega⟩, fun M1 e1 => ?_⟩
  subst e1
  exact h _ (absR_sh (Or.inr (Or.inr ⟨rfl, rfl, rfl⟩)) (by omega) (by omega)) (fr_wr (by decide) (fun e => absurd e (by decide)))
/-- a sheet begins: so many bits, n numbers, all 24 places 0 -/
def shB (σ : gSt) (q b n : Int) : gSt := fun c i => if c = 23 ∧ i = q then b else if c = 24 ∧ i = q then n else if c = 25 ∧ 24 * q ≤ i ∧ i < 24 * q + 24 then 0 else σ c i
def S_sheet (q b n : Int) (σ : gSt) : Int × gSt :=
  if ¬ ((0 ≤ q ∧ q < 4) ∧ (b = 0 ∨ b = 8 ∨ b = 16 ∨ b = 32)) then S_err σ 1
  else if ¬ b = 0 ∧ n < 0 then S_err σ 3 else if ¬ b = 0 ∧ 24 < n then S_err σ 1
  else (1, shB σ q b (if b = 0 then 0 else n))
theorem sR_sheet {a1 a2 a3 : Int} {M : gSt} {k : Int → gSt → Prop} (i1 : inI a1) (i2 : inI a2) (i3 : inI a3) (h : ∀ M', absR M' = (S_sheet a1 a2 a3 (absR M)).2 → fr M M' → k (S_sheet a1 a2 a3 (absR M)).1 M') : w_Rsheet a1 a2 a3 M k := by
  have body : (0 ≤ a1 ∧ a1 < 4) → (a2 = 0 ∨ a2 = 8 ∨ a2 = 16 ∨ a2 = 32) → wB_Rsheet_35 a1 a2 a3 k M := by
    intro h1 h2
    have hc := fun q : ¬ ((0 ≤ a1 ∧ a1 < 4) ∧ (a2 = 0 ∨ a2 = 8 ∨ a2 = 16 ∨ a2 = 32)) => q ⟨h1, h2⟩
    have fin : ¬ (¬ a2 = 0 ∧ a3 < 0) → ¬ (¬ a2 = 0 ∧ 24 < a3) → wB_Rsheet_65 a1 a2 a3 k M := by
      intro n1 n2
      have hS : S_sheet a1 a2 a3 (absR M) = _ := (if_neg hc).trans ((if_neg n1).trans (if_neg n2))
      rw [hS] at h
      unfold wB_Rsheet_65
      refine ⟨h1, fun M1 e1 => ?_⟩
      have A1 : absR M1 = up1 (absR M) 23 a1 a2 := by rw [e1]; exact absR_sh (Or.inl ⟨rfl, rfl, rfl⟩) h1.1 h1.2
      have F1 : fr M M1 := by rw [e1]; exact fr_wr (by decide) (fun e => absurd e (by decide))
      have go : ∀ s : Int, s = (if a2 = 0 then 0 else a3) → wB_Rsheet_86 a1 a2 a3 k s a1 M1 := by
        intro s es
        unfold wB_Rsheet_86
        refine ⟨h1, fun M2 e2 => ⟨25, ?_⟩⟩
        have A2 : absR M2 = up1 (absR M1) 24 a1 s := by rw [e2]; exact absR_sh (Or.inr (Or.inl ⟨rfl, rfl, rfl⟩)) h1.1 h1.2
        have F2 : fr M1 M2 := by rw [e2]; exact fr_wr (by decide) (fun e => absurd e (by decide))
        have loop : ∀ (d : Nat) (j : Int) (M3 : gSt), (d : Int) = 24 - j → 0 ≤ j → absR M3 = (fun c i => if c = 25 ∧ 24 * a1 ≤ i ∧ i < 24 * a1 + j then 0 else absR M2 c i) → fr M2 M3 → ∀ f : Nat, d < f → wL_Rsheet_90 a1 a2 a3 k (fun M90 => k 1 M90) f j M3 := by
          intro d
          induction d with
          | zero =>
            intro j M3 hd hj hA hF f hf
            obtain ⟨f, rfl⟩ : ∃ g, f = g + 1 := ⟨f - 1, by omega⟩
            simp only [wL_Rsheet_90, wC_Rsheet_90]
            rw [wI (x := j) ⟨by omega, by omega⟩]
            refine ⟨fun _ => ?_, fun h => absurd h (by omega)⟩
            refine h M3 ?_ (fr_trans F1 (fr_trans F2 hF))
            rw [hA, A2, A1]
            have hj : j = 24 := by omega
            subst hj; subst es
            funext c i
            simp only [up1, wr, shB]
            repeat' split
            all_goals first | rfl | omega
          | succ d ih =>
            intro j M3 hd hj hA hF f hf
            obtain ⟨f, rfl⟩ : ∃ g, f = g + 1 := ⟨f - 1, by omega⟩
            simp only [wL_Rsheet_90, wC_Rsheet_90]
            rw [wI (x := j) ⟨by omega, by omega⟩]
            refine ⟨fun h => absurd h (by omega), fun _ => ⟨⟨by omega, by omega⟩, fun M4 e4 => ?_⟩⟩
            refine ih (j + 1) M4 (by omega) (by omega) ?_ (fr_trans hF (by rw [e4]; exact fr_wr (by decide) (fun e => absurd e (by decide)))) f (by omega)
            rw [e4, absR_sh (Or.inr (Or.inr ⟨rfl, rfl, rfl⟩)) (by omega) (by omega), hA]
            funext c i
            simp only [up1, wr]
            repeat' split
            all_goals first | rfl | omega
        exact loop 24 0 M2 (by omega) (by omega) (by funext c i; exact (if_neg (by omega)).symm) fr_rf 25 (by omega)
      rw [wI i2]
      exact ⟨fun z => go a3 (by rw [if_neg z]), fun z => go 0 (by rw [if_pos z])⟩
    unfold wB_Rsheet_35 wB_Rsheet_49
    rw [wI i2, wI i3]
    refine ⟨fun z => ⟨fun _ => fin (by omega) (by omega), fun y => absurd z y⟩, fun z => ⟨fun y => ⟨fun x => absurd x z, fun _ => ⟨fun x => fin (by omega) (by omega), fun x => errL (by decide) (by decide) ((if_neg hc).trans ((if_neg (by omega)).trans (if_pos ⟨z, x⟩))) h⟩⟩, fun y => errL (by decide) (by decide) ((if_neg hc).trans (if_pos ⟨z, y⟩)) h⟩⟩
  unfold w_Rsheet wB_Rsheet_29
  refine sp_RisSheet i1 (fun h1 => z1 ?_) (fun h1 => z0 (errL (by decide) (by decide) (if_pos (fun q => h1 q.1)) h))
  rw [wI i2]
  exact ⟨fun e => body h1 (by omega), fun n0 => ⟨fun e => body h1 (by omega), fun n8 => ⟨fun e => body h1 (by omega), fun n16 => ⟨fun e => body h1 (by omega), fun n32 => errL (by decide) (by decide) (if_pos (fun q => by omega)) h⟩⟩⟩⟩
end
section
-- the reference: carry, image, restore; sums, draws, years; move, papers of a sheet; count
def cpyA (M : gSt) (a b : Nat) : gSt := fun o i => if o = b ∧ 0 ≤ i ∧ i < 536 then M a i else M o i
theorem sp_Rcarry {a b : Nat} {M : gSt} {k : gSt → Prop} (ha : a = 1 ∨ a = 2 ∨ a = 3) (hb : b = 1 ∨ b = 2 ∨ b = 3) (hab : a ≠ b) (h : k (cpyA M a b)) : w_Rcarry a b M k := by
  unfold w_Rcarry
  refine ⟨537, ?_⟩
  have la : isA a ∧ lenR a = 536 := by rcases ha with rfl | rfl | rfl <;> exact ⟨⟨by decide, by decide⟩, rfl⟩
  have lb : isA b ∧ lenR b = 536 := by rcases hb with rfl | rfl | rfl <;> exact ⟨⟨by decide, by decide⟩, rfl⟩
  have loop : ∀ (d : Nat) (j : Int) (M1 : gSt), (d : Int) = 536 - j → 0 ≤ j → M1 = (fun o i => if o = b ∧ 0 ≤ i ∧ i < j then M a i else M o i) → ∀ f : Nat, d < f → wL_Rcarry_2 a b k (fun M2 => k M2) f j M1 := by
    intro d
    induction d with
    | zero =>
      intro j M1 hd hj hA f hf
      obtain ⟨f, rfl⟩ : ∃ g, f = g + 1 := ⟨f - 1, by omega⟩
      simp only [wL_Rcarry_2, wC_Rcarry_2]
      rw [wI (x := j) ⟨by omega, by omega⟩]
      refine ⟨fun _ => ?_, fun h => absurd h (by omega)⟩
      have e : j = 536 := by omega
      subst e
      rw [hA]
      exact h
    | succ d ih =>
      intro j M1 hd hj hA f hf
      obtain ⟨f, rfl⟩ : ∃ g, f = g + 1 := ⟨f - 1, by omega⟩
      simp only [wL_Rcarry_2, wC_Rcarry_2]
      rw [wI (x := j) ⟨by omega, by omega⟩, la.2, lb.2]
      refine ⟨fun h => absurd h (by omega), fun _ => ⟨⟨la.1, by omega, by omega⟩, ⟨lb.1, by omega, by omega⟩, fun M2 e2 => ?_⟩⟩
      refine ih (j + 1) M2 (by omega) (by omega) ?_ f (by omega)
      rw [e2, hA]
      funext o i
      simp only [wr]
      by_cases ho : o = b
      · subst ho
        by_cases hi : i = j
        · subst hi
          rw [if_pos ⟨rfl, rfl⟩, if_neg (fun q => hab q.1), if_pos ⟨rfl, by omega, by omega⟩]
        · rw [if_neg (fun q => hi q.2)]
          by_cases h2 : 0 ≤ i ∧ i < j
          · rw [if_pos ⟨rfl, h2⟩, if_pos ⟨rfl, by omega⟩]
          · rw [if_neg (fun q => h2 q.2), if_neg (fun q => h2 (by omega))]
      · rw [if_neg (fun q => ho q.1), if_neg (fun q => ho q.1), if_neg (fun q => ho q.1)]
  exact loop 536 0 M (by omega) (by omega) (by funext o i; exact (if_neg (by omega)).symm) 537 (by omega)
theorem regS_in {c : Nat} {j : Int} (h : regS c j) : 0 ≤ j ∧ j < 536 := by
  match c, h with
  | 0, h => simp only [regS] at h; omega
  | 1, h => simp only [regS] at h; omega
  | 2, h => simp only [regS] at h; omega
  | 3, h => simp only [regS] at h; omega
  | 4, h => simp only [regS] at h; omega
  | 5, h => simp only [regS] at h; omega
  | 6, h => simp only [regS] at h; omega
  | 7, h => simp only [regS] at h; omega
  | 8, h => simp only [regS] at h; omega
  | (n + 9), h => exact absurd h (fun q => q)
theorem absS_536 {s s' : Int → Int} (ht : txtOk s) (h : ∀ j, 0 ≤ j → j < 536 → s' j = s j) : absS s' = absS s := by
  funext c
  exact absS_congr c (fun _ => ht.1) (fun _ => ht.2) (fun j hj => h j (regS_in hj).1 (regS_in hj).2)
/-- the image is what is now -/
def imgσ (σ : gSt) : gSt := fun c i => if 10 ≤ c ∧ c < 20 then σ (c - 10) i else if c = 21 ∧ i = 0 then σ 21 0 + 1 else σ c i
/-- what is now is the image -/
def rstσ (σ : gSt) : gSt := fun c i => if c < 10 then σ (c + 10) i else σ c i
def S_image (σ : gSt) : Int × gSt := (σ 21 0 + 1, imgσ σ)
theorem rdImg (M : gSt) : M 0 3 = absR M 21 0 := by simp [absR]
theorem sR_image {M : gSt} {k : Int → gSt → Prop} (I : iN (absR M)) (hi : 0 ≤ absR M 21 0) (h : ∀ M', absR M' = (S_image (absR M)).2 → M' 1 = M 1 → (∀ j, 0 ≤ j → j < 536 → M' 2 j = M 1 j) → M' 0 16 = M 0 16 → k (S_image (absR M)).1 M') : w_Rimage M k := by
  have ht := txtOk_abs (iN_t I)
  unfold w_Rimage
  refine sp_Rcarry (Or.inl rfl) (Or.inr (Or.inl rfl)) (by decide) ?_
  intro M1 e1
  have c0 : cpyA M 1 2 0 3 = absR M 21 0 := by rw [← rdImg]; simp [cpyA]
  rw [c0] at e1
  have v : M1 0 3 = absR M 21 0 + 1 := by rw [e1, wrI]
  rw [v]
  have m1 : M1 1 = M 1 := by rw [e1, wrO' (by decide)]; funext i; simp [cpyA]
  have m2 : ∀ j, 0 ≤ j → j < 536 → M1 2 j = M 1 j := fun j a b => by rw [e1, wrO (by decide)]; simp [cpyA, a, b]
  have t : M1 0 16 = M 0 16 := by rw [e1, wrN (by decide)]; simp [cpyA]
  refine h M1 ?_ m1 m2 t
  have s2 : absS (M1 2) = absS (M 1) := absS_536 ht m2
  have mo : ∀ o, o ≠ 2 → o ≠ 0 → M1 o = M o := fun o a b => by rw [e1, wrO' b]; funext i; simp [cpyA, a]
  have nz : ¬ absR M 21 0 + 1 = 0 := by omega
  funext c i
  simp only [S_image, imgσ, absR]
  by_cases c1 : c < 10
  · rw [if_neg (show ¬ (10 ≤ c ∧ c < 20) by omega), if_neg (show ¬ (c = 21 ∧ i = 0) by omega), if_pos c1, if_pos c1, m1]
  · by_cases c2 : c < 20
    · have a : 10 ≤ c := by omega
      have b : c - 10 < 10 := by omega
      rw [v]
      simp [c1, c2, a, b, s2, nz]
    · have a : ¬ (10 ≤ c ∧ c < 20) := by omega
      rw [mo 11 (by decide) (by decide), mo 12 (by decide) (by decide), mo 13 (by decide) (by decide)]
      simp only [c1, c2, a, if_false]
      by_cases c21 : c = 21
      · subst c21
        by_cases i0 : i = 0
        · subst i0
          simp [v, absR]
        · simp [i0]
      · simp [c21]
def S_restore (σ : gSt) : Int × gSt := if σ 21 0 = 0 then S_err σ 2 else (σ 10 5, rstσ σ)
theorem sR_restore {M : gSt} {k : Int → gSt → Prop} (hi : 0 ≤ absR M 21 0 ∧ absR M 21 0 < 1000000) (ht : absR M 21 0 ≠ 0 → txtOk (M 2)) (h : ∀ M', absR M' = (S_restore (absR M)).2 → (absR M 21 0 = 0 → fr M M') → (absR M 21 0 ≠ 0 → M' 2 = M 2 ∧ M' 0 16 = M 0 16 ∧ ∀ j, 0 ≤ j → j < 536 → M' 1 j = M 2 j) → k (S_restore (absR M)).1 M') : w_Rrestore M k := by
  unfold w_Rrestore
  rw [rdImg M, wI (x := absR M 21 0) ⟨by omega, by omega⟩]
  refine ⟨fun h1 => ?_, fun h1 => errL (S := S_restore (absR M)) (by decide) (by decide) (if_pos h1) (fun M' e f => h M' e (fun _ => f) (fun q => absurd h1 q))⟩
  have hS : S_restore (absR M) = _ := if_neg h1
  rw [hS] at h
  refine sp_Rcarry (Or.inr (Or.inl rfl)) (Or.inl rfl) (by decide) ?_
  have m1 : ∀ j, 0 ≤ j → j < 536 → cpyA M 2 1 1 j = M 2 j := fun j a b => by simp [cpyA, a, b]
  have mo : ∀ o, o ≠ 1 → cpyA M 2 1 o = M o := fun o a => by funext i; simp [cpyA, a]
  have s1 : absS (cpyA M 2 1 1) = absS (M 2) := absS_536 (ht h1) m1
  have z : ¬ M 0 3 = 0 := by rw [rdImg M]; exact h1
  have v : cpyA M 2 1 1 5 = absR M 10 5 := by rw [m1 5 (by omega) (by omega)]; simp [absR, absS, z]
  rw [v]
  refine h _ ?_ (fun q => absurd q h1) (fun _ => ⟨mo 2 (by decide), by rw [mo 0 (by decide)], m1⟩)
  funext c i
  simp only [rstσ, absR]
  by_cases c1 : c < 10
  · have a : ¬ c + 10 < 10 := by omega
    have b : c + 10 < 20 := by omega
    simp [c1, a, b, s1, z]
  · rw [mo 2 (by decide), mo 0 (by decide), mo 11 (by decide), mo 12 (by decide), mo 13 (by decide)]
    simp [c1]
-- sums
def sumT (f : Int → Int) : Nat → Int
  | 0 => 0
  | n + 1 => sumT f n + f (n : Int)
theorem sp_RallGrams {M : gSt} {k : Int → gSt → Prop} (hn : 0 ≤ absR M 0 0 ∧ absR M 0 0 ≤ 12) (h : k (sumT (fun t => absR M 1 (10 * t + 2)) (absR M 0 0).toNat) M) : w_RallGrams M k := by
  unfold w_RallGrams
  refine ⟨14, ?_⟩
  have loop : ∀ (d : Nat) (j : Int), (d : Int) = absR M 0 0 - j → 0 ≤ j → ∀ f : Nat, d < f → wL_RallGrams_4 k (fun u1_4 M4 => k u1_4 M4) f (sumT (fun t => absR M 1 (10 * t + 2)) j.toNat) j M := by
    intro d
    induction d with
    | zero =>
      intro j hd hj f hf
      obtain ⟨f, rfl⟩ : ∃ g, f = g + 1 := ⟨f - 1, by omega⟩
      simp only [wL_RallGrams_4, wC_RallGrams_4]
      rw [rdS M 0 (by omega) (by omega), wI (x := j) ⟨by omega, by omega⟩, wI (x := absR M 0 0) ⟨by omega, by omega⟩]
      refine ⟨fun _ => ?_, fun h => absurd h (by omega)⟩
      have e : j = absR M 0 0 := by omega
      rw [e]; exact h
    | succ d ih =>
      intro j hd hj f hf
      obtain ⟨f, rfl⟩ : ∃ g, f = g + 1 := ⟨f - 1, by omega⟩
      simp only [wL_RallGrams_4, wC_RallGrams_4]
      rw [rdS M 0 (by omega) (by omega), wI (x := j) ⟨by omega, by omega⟩, wI (x := absR M 0 0) ⟨by omega, by omega⟩]
      refine ⟨fun h => absurd h (by omega), fun _ => ?_⟩
      refine sp_Rits ⟨by omega, by omega⟩ ⟨by omega, by omega⟩ ?_
      intro x ex
      have e2 : x = sumT (fun t => absR M 1 (10 * t + 2)) (j + 1).toNat := by
        rw [ex, show (j + 1).toNat = j.toNat + 1 from by omega]
        simp only [sumT]
        rw [Int.toNat_of_nonneg hj]
      rw [e2]
      exact ih (j + 1) (by omega) (by omega) f (by omega)
  exact loop (absR M 0 0).toNat 0 (by omega) (by omega) 14 (by omega)
def S_count (w : Int) (σ : gSt) : Int × gSt :=
  if w = 0 then (σ 0 0, σ) else if w = 1 then (σ 0 1, σ) else if w = 2 then (σ 0 2, σ) else if w = 3 then (σ 0 3, σ) else if w = 4 then (σ 0 4, σ)
  else if w = 5 then (sumT (fun t => σ 1 (10 * t + 2)) (σ 0 0).toNat, σ) else if w = 6 then (σ 0 5, σ) else if w = 7 then (σ 0 6, σ) else if w = 8 then (σ 0 7, σ) else if w = 9 then (0, σ) else if w = 10 then (σ 0 8, σ) else S_err σ 1
theorem sR_count {a1 : Int} {M : gSt} {k : Int → gSt → Prop} (i1 : inI a1) (I : iN (absR M)) (h : ∀ r M', (a1 = 9 ∨ r = (S_count a1 (absR M)).1) → absR M' = (S_count a1 (absR M)).2 → fr M M' → k r M') : w_Rcount a1 M k := by
  unfold iN at I
  unfold w_Rcount
  rw [wI i1, rdS M 0 (by omega) (by omega), rdS M 1 (by omega) (by omega), rdS M 2 (by omega) (by omega), rdS M 3 (by omega) (by omega), rdS M 4 (by omega) (by omega), rdS M 5 (by omega) (by omega), rdS M 6 (by omega) (by omega), rdS M 7 (by omega) (by omega), rdS M 8 (by omega) (by omega)]
  refine ⟨fun e => ?_, fun e => ?_, fun e => ?_, fun e => ?_, fun e => ?_, fun e => ?_, fun e => ?_, fun e => ?_, fun e => ?_, fun e => ?_, fun e => ?_, fun e => ?_⟩
  all_goals try (subst e; exact h _ M (Or.inr rfl) rfl fr_rf)
  · subst e
    exact sp_RallGrams ⟨by omega, by omega⟩ (h _ M (Or.inr rfl) rfl fr_rf)
  · subst e
    exact h _ M (Or.inl rfl) rfl fr_rf
  · obtain ⟨n0, n1, n2, n3, n4, n5, n6, n7, n8, n9, n10⟩ := e
    have e : S_count a1 (absR M) = S_err (absR M) 1 := by
      unfold S_count
      rw [if_neg n0, if_neg n1, if_neg n2, if_neg n3, if_neg n4, if_neg n5, if_neg n6, if_neg n7, if_neg n8, if_neg n9, if_neg n10]
    exact sp_Rerror (by decide) (by decide) (fun M' a f => h _ M' (Or.inr (by rw [e])) (by rw [e]; exact a) f)
-- draws, years
theorem xushr8 (x : Int) : 0 ≤ xushr x 8 ∧ xushr x 8 < 16777216 := by
  have h := pk_ushr (Int32.ofInt x) (Int32.ofInt 8) 8 (by decide)
  unfold xushr
  generalize ((Int32.ofInt x).toUInt32 >>> ((Int32.ofInt 8).toUInt32 &&& Int32.toUInt32 31)).toInt32 = v at h ⊢
  have hx := (Int32.ofInt x).toBitVec.isLt
  have h2 : v.toBitVec.toNat < 16777216 := by rw [h]; omega
  have h3 : v.toInt = (v.toBitVec.toNat : Int) := by
    show v.toBitVec.toInt = _
    rw [BitVec.toInt_eq_toNat_of_lt (by omega)]
  omega
def nextZ (z : Int) : Int := z * 1103515245 + 12345
def loseT (τ : gSt) (t : Int) : gSt := fun c i => if c = 1 ∧ 10 * t + 2 ≤ i ∧ i < 10 * t + 6 then τ 1 i - τ 1 i / 100 else τ c i
/-- the first so many things of a year -/
def yearT (σ : gSt) : Nat → gSt
  | 0 => σ
  | t + 1 => let τ := up1 (yearT σ t) 0 8 (nextZ (yearT σ t 0 8))
    if xushr (nextZ (yearT σ t 0 8)) 8 % 100 < yearT σ t 1 (10 * (t : Int) + 1) then loseT τ t else τ
def yearσ (σ : gSt) : gSt := up1 (yearT σ (σ 0 0).toNat) 0 5 (σ 0 5 + 1)
def goσ (σ : gSt) : Nat → gSt
  | 0 => σ
  | n + 1 => yearσ (goσ σ n)
theorem iN_up {σ : gSt} {c : Nat} {i x : Int} (h : iN σ) (hc : c ≠ 0 ∨ i = 8) : iN (up1 σ c i x) := by
  have e : ∀ j, j ≠ 8 → up1 σ c i x 0 j = σ 0 j := fun j hj => by
    rcases hc with hc | hc
    · exact up1_o (Ne.symm hc)
    · subst hc
      by_cases h0 : 0 = c
      · subst h0; exact up1_n hj
      · exact up1_o h0
  unfold iN
  rw [e 0 (by decide), e 1 (by decide), e 2 (by decide), e 3 (by decide), e 4 (by decide), e 5 (by decide), e 6 (by decide), e 7 (by decide), e 9 (by decide), e 10 (by decide)]
  exact h
theorem thOk_lose {σ : gSt} {t u : Int} (h : thOk (σ 1) (10 * u)) : thOk (loseT σ t 1) (10 * u) := by
  have key : ∀ w, 0 ≤ w → w ≤ 9 → loseT σ t 1 (10 * u + w) = if t = u ∧ 2 ≤ w ∧ w ≤ 5 then σ 1 (10 * u + w) - σ 1 (10 * u + w) / 100 else σ 1 (10 * u + w) := by
    intro w h0 h1
    unfold loseT
    by_cases q : t = u ∧ 2 ≤ w ∧ w ≤ 5
    · rw [if_pos q, if_pos ⟨rfl, by omega, by omega⟩]
    · rw [if_neg q, if_neg (fun z => q (by omega))]
  unfold thOk at h ⊢
  rw [key 0 (by decide) (by decide), key 1 (by decide) (by decide), key 2 (by decide) (by decide), key 3 (by decide) (by decide), key 4 (by decide) (by decide), key 5 (by decide) (by decide), key 6 (by decide) (by decide), key 7 (by decide) (by decide), key 8 (by decide) (by decide), key 9 (by decide) (by decide)]
  simp only [Int.add_zero] at h ⊢
  by_cases e : t = u
  · simp [e]
    omega
  · simp [e]
    omega
/-- what a year asks -/
def iW (σ : gSt) : Prop := 0 ≤ σ 0 0 ∧ σ 0 0 ≤ 12 ∧ tOk σ
theorem iN_w {σ : gSt} (h : iN σ) : iW σ := ⟨h.1, h.2.1, iN_t h⟩
theorem yearT_keep {σ : gSt} (hB : iB σ) : ∀ n : Nat, iB (yearT σ n) ∧ ∀ c i, (c ≠ 1 ∧ ¬ (c = 0 ∧ i = 8)) → yearT σ n c i = σ c i := by
  intro n
  induction n with
  | zero => exact ⟨hB, fun _ _ _ => rfl⟩
  | succ n ih =>
    obtain ⟨b, e⟩ := ih
    have b2 : iB (up1 (yearT σ n) 0 8 (nextZ (yearT σ n 0 8))) := fun t h0 h1 => by
      have := b t h0 h1
      unfold thOk at this ⊢
      simp only [up1, wr] at this ⊢
      simpa using this
    have e2 : ∀ c i, (c ≠ 1 ∧ ¬ (c = 0 ∧ i = 8)) → up1 (yearT σ n) 0 8 (nextZ (yearT σ n 0 8)) c i = σ c i := fun c i h => by
      simp only [up1, wr]
      rw [if_neg h.2]
      exact e c i h
    simp only [yearT]
    split
    · refine ⟨fun t h0 h1 => thOk_lose (b2 t h0 h1), fun c i h => ?_⟩
      simp only [loseT]
      rw [if_neg (fun q => h.1 q.1)]
      exact e2 c i h
    · exact ⟨b2, e2⟩
theorem sp_Ryear {M : gSt} {k : gSt → Prop} (I : iW (absR M)) (J : iB (absR M)) (h : ∀ M', absR M' = yearσ (absR M) → fr M M' → onlyS M M' → k M') : w_Ryear M k := by
  have I0 := I
  unfold iW at I
  unfold w_Ryear
  refine ⟨14, ?_⟩
  have loop : ∀ (d : Nat) (j : Int) (M1 : gSt), (d : Int) = absR M 0 0 - j → 0 ≤ j → absR M1 = yearT (absR M) j.toNat → fr M M1 → onlyS M M1 → ∀ f : Nat, d < f → wL_Ryear_2 k (fun M2 => ∀ M78 : gSt, M78 = wr M2 1 5 ((M2 1 5) + 1) → (k M78)) f j M1 := by
    intro d
    induction d with
    | zero =>
      intro j M1 hd hj hA hF hO f hf
      obtain ⟨f, rfl⟩ : ∃ g, f = g + 1 := ⟨f - 1, by omega⟩
      obtain ⟨b, e⟩ := yearT_keep J j.toNat
      have e00 : absR M1 0 0 = absR M 0 0 := by rw [hA]; exact e 0 0 ⟨by decide, by decide⟩
      have e05 : absR M1 0 5 = absR M 0 5 := by rw [hA]; exact e 0 5 ⟨by decide, by decide⟩
      have ht : tOk (absR M1) := by
        unfold tOk
        rw [hA, e 0 9 ⟨by decide, by decide⟩, e 0 10 ⟨by decide, by decide⟩]
        exact I0.2.2
      simp only [wL_Ryear_2, wC_Ryear_2]
      rw [rdS M1 0 (by omega) (by omega), e00, wI (x := j) ⟨by omega, by omega⟩, wI (x := absR M 0 0) ⟨by omega, by omega⟩]
      refine ⟨fun _ => fun M2 e2 => ?_, fun h => absurd h (by omega)⟩
      rw [rdS M1 5 (by omega) (by omega), e05] at e2
      refine h M2 ?_ (fr_trans hF (by rw [e2]; exact fr_wr (by decide) (fun _ => by omega))) (onlyS_trans hO (by rw [e2]; exact onlyS_wr))
      rw [e2, sp_Rsc (by omega) (by omega) ht, hA]
      unfold yearσ
      rw [show (absR M 0 0).toNat = j.toNat from by omega]
    | succ d ih =>
      intro j M1 hd hj hA hF hO f hf
      obtain ⟨f, rfl⟩ : ∃ g, f = g + 1 := ⟨f - 1, by omega⟩
      obtain ⟨b, e⟩ := yearT_keep J j.toNat
      have e00 : absR M1 0 0 = absR M 0 0 := by rw [hA]; exact e 0 0 ⟨by decide, by decide⟩
      have ht : tOk (absR M1) := by
        unfold tOk
        rw [hA, e 0 9 ⟨by decide, by decide⟩, e 0 10 ⟨by decide, by decide⟩]
        exact I0.2.2
      simp only [wL_Ryear_2, wC_Ryear_2]
      rw [rdS M1 0 (by omega) (by omega), e00, wI (x := j) ⟨by omega, by omega⟩, wI (x := absR M 0 0) ⟨by omega, by omega⟩]
      refine ⟨fun h => absurd h (by omega), fun _ => ?_⟩
      unfold w_Rdraw
      intro M2 e2
      have A2 : absR M2 = up1 (absR M1) 0 8 (nextZ (absR M1 0 8)) := by
        rw [rdS M1 8 (by omega) (by omega)] at e2
        rw [e2]; exact sp_Rsc (by omega) (by omega) ht
      have z2 : M2 1 8 = nextZ (absR M1 0 8) := by rw [rdS M2 8 (by omega) (by omega), A2, up1_i]
      rw [z2]
      have F2 : fr M1 M2 := by rw [e2]; exact fr_wr (by decide) (fun _ => by omega)
      have O2 : onlyS M1 M2 := by rw [e2]; exact onlyS_wr
      have ht2 : tOk (absR M2) := by rw [A2]; exact tOk_B ht (Or.inr (by decide))
      have T := b j hj (by omega)
      unfold thOk at T
      rw [← hA] at T
      have hr := xushr8 (nextZ (absR M1 0 8))
      have eB : ∀ i, absR M2 1 i = absR M1 1 i := fun i => by rw [A2]; exact up1_o (by decide)
      refine sp_Rits ⟨by omega, by omega⟩ ⟨by omega, by omega⟩ ?_
      rw [eB, wI (x := absR M1 1 (10 * j + 1)) ⟨by omega, by omega⟩, wI (x := xushr (nextZ (absR M1 0 8)) 8) ⟨by omega, by omega⟩, tmod_pos hr.1, wI (x := xushr (nextZ (absR M1 0 8)) 8 % 100) ⟨by omega, by omega⟩]
      have ej : (j + 1).toNat = j.toNat + 1 := by omega
      have ejj : ((j.toNat : Nat) : Int) = j := Int.toNat_of_nonneg hj
      refine ⟨fun hc => ?_, fun hc => ⟨5, ?_⟩⟩
      · unfold wB_Ryear_63
        refine ih (j + 1) M2 (by omega) (by omega) ?_ (fr_trans hF F2) (onlyS_trans hO O2) f (by omega)
        rw [ej]
        simp only [yearT]
        rw [ejj, ← hA, if_neg (by omega), A2]
      · have inner : ∀ (d2 : Nat) (w : Int) (M3 : gSt), (d2 : Int) = 6 - w → 2 ≤ w → absR M3 = (fun c i => if c = 1 ∧ 10 * j + 2 ≤ i ∧ i < 10 * j + w then absR M2 1 i - absR M2 1 i / 100 else absR M2 c i) → fr M2 M3 → onlyS M2 M3 → ∀ f2 : Nat, d2 < f2 → wL_Ryear_30 k (wL_Ryear_2 k (fun M2 => ∀ M78 : gSt, M78 = wr M2 1 5 ((M2 1 5) + 1) → (k M78)) f) (fun M2 => ∀ M78 : gSt, M78 = wr M2 1 5 ((M2 1 5) + 1) → (k M78)) (fun u1_30 M30 => wB_Ryear_63 k (wL_Ryear_2 k (fun M2 => ∀ M78 : gSt, M78 = wr M2 1 5 ((M2 1 5) + 1) → (k M78)) f) (fun M2 => ∀ M78 : gSt, M78 = wr M2 1 5 ((M2 1 5) + 1) → (k M78)) u1_30 M30) f2 j w M3 := by
          intro d2
          induction d2 with
          | zero =>
            intro w M3 hd2 hw hA3 hF3 hO3 f2 hf2
            obtain ⟨f2, rfl⟩ : ∃ g, f2 = g + 1 := ⟨f2 - 1, by omega⟩
            simp only [wL_Ryear_30, wC_Ryear_30, wB_Ryear_63]
            rw [wI (x := w) ⟨by omega, by omega⟩]
            refine ⟨fun _ => ?_, fun h => absurd h (by omega)⟩
            refine ih (j + 1) M3 (by omega) (by omega) ?_ (fr_trans hF (fr_trans F2 hF3)) (onlyS_trans hO (onlyS_trans O2 hO3)) f (by omega)
            have ew : w = 6 := by omega
            subst ew
            rw [ej]
            simp only [yearT]
            rw [ejj, ← hA, if_pos (by omega), hA3, A2]
            funext c i
            simp only [loseT]
          | succ d2 ih2 =>
            intro w M3 hd2 hw hA3 hF3 hO3 f2 hf2
            obtain ⟨f2, rfl⟩ : ∃ g, f2 = g + 1 := ⟨f2 - 1, by omega⟩
            have ht3 : tOk (absR M3) := by
              unfold tOk
              rw [hA3]
              simp only [show ¬ ((0 : Nat) = 1) by decide, false_and, if_false]
              exact ht2
            have eW : absR M3 1 (10 * j + w) = absR M2 1 (10 * j + w) := by rw [hA3]; exact if_neg (by omega)
            have bnd : 0 ≤ absR M2 1 (10 * j + w) ∧ absR M2 1 (10 * j + w) ≤ 9999999 := by
              rw [eB]
              rcases (show w = 2 ∨ w = 3 ∨ w = 4 ∨ w = 5 by omega) with rfl | rfl | rfl | rfl <;> omega
            simp only [wL_Ryear_30, wC_Ryear_30]
            rw [wI (x := w) ⟨by omega, by omega⟩]
            refine ⟨fun h => absurd h (by omega), fun _ => ?_⟩
            refine sp_Rits ⟨by omega, by omega⟩ ⟨by omega, by omega⟩ ?_
            refine sp_Rits ⟨by omega, by omega⟩ ⟨by omega, by omega⟩ ?_
            rw [eW, wI (x := absR M2 1 (10 * j + w)) ⟨by omega, by omega⟩, tdiv_pos bnd.1]
            refine sp_Rlays1 ⟨by omega, by omega⟩ ⟨by omega, by omega⟩ ht3 (fun M4 h4 o4 f4 => ?_)
            refine ih2 (w + 1) M4 (by omega) (by omega) ?_ (fr_trans hF3 f4) (onlyS_trans hO3 o4) f2 (by omega)
            rw [h4, hA3]
            funext c i
            simp only [up1, wr]
            by_cases hi : c = 1 ∧ i = 10 * j + w
            · rw [if_pos hi, if_pos (by omega), hi.2]
            · rw [if_neg hi]
              by_cases h5 : c = 1 ∧ 10 * j + 2 ≤ i ∧ i < 10 * j + w
              · rw [if_pos h5, if_pos (by omega)]
              · rw [if_neg h5, if_neg (by omega)]
        exact inner 4 2 M2 (by omega) (by omega) (by funext c i; exact (if_neg (by omega)).symm) fr_rf onlyS_rf 5 (by omega)
  exact loop (absR M 0 0).toNat 0 M (by omega) (by omega) rfl fr_rf onlyS_rf 14 (by omega)
end
