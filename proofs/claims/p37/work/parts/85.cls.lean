section
-- the class's memory as the same abstract state, and each of its writes
def absC (M : gSt) : gSt := fun c => match c with
  | 0 => fun j => if j = 0 then M 2 1 else if j = 1 then M 2 2 else if j = 2 then M 6 3 else if j = 3 then M 8 3 else if j = 4 then M 10 3 else if j = 5 then M 2 3 else if j = 6 then M 4 3 else if j = 7 then M 12 3 else if j = 8 then M 2 4 else if j = 9 then M 14 3 else if j = 10 then M 16 3 else 0
  | 1 => msk 130 (M 3)
  | 2 => msk 20 (M 7)
  | 3 => msk 18 (M 9)
  | 4 => msk 24 (M 11)
  | 5 => msk 60 (M 5)
  | 6 => msk 24 (M 13)
  | 7 => msk (M 14 3) (M 15)
  | 8 => msk (M 16 3) (M 17)
  | 10 => if M 0 8 = 0 then fun _ => 0 else fun j => if j = 0 then M 21 1 else if j = 1 then M 21 2 else if j = 2 then M 25 3 else if j = 3 then M 27 3 else if j = 4 then M 29 3 else if j = 5 then M 21 3 else if j = 6 then M 23 3 else if j = 7 then M 31 3 else if j = 8 then M 21 4 else if j = 9 then M 33 3 else if j = 10 then M 35 3 else 0
  | 11 => if M 0 8 = 0 then fun _ => 0 else msk 130 (M 22)
  | 12 => if M 0 8 = 0 then fun _ => 0 else msk 20 (M 26)
  | 13 => if M 0 8 = 0 then fun _ => 0 else msk 18 (M 28)
  | 14 => if M 0 8 = 0 then fun _ => 0 else msk 24 (M 30)
  | 15 => if M 0 8 = 0 then fun _ => 0 else msk 60 (M 24)
  | 16 => if M 0 8 = 0 then fun _ => 0 else msk 24 (M 32)
  | 17 => if M 0 8 = 0 then fun _ => 0 else msk (M 33 3) (M 34)
  | 18 => if M 0 8 = 0 then fun _ => 0 else msk (M 35 3) (M 36)
  | 21 => fun j => if j = 0 then M 0 8 else 0
  | 23 => fun j => if j = 0 then M 56 1 else if j = 1 then M 58 1 else if j = 2 then M 60 1 else if j = 3 then M 62 1 else 0
  | 24 => fun j => if j = 0 then M 56 2 else if j = 1 then M 58 2 else if j = 2 then M 60 2 else if j = 3 then M 62 2 else 0
  | 25 => fun j => if 0 ≤ j ∧ j < 24 then M 57 j else if 24 ≤ j ∧ j < 48 then M 59 (j - 24) else if 48 ≤ j ∧ j < 72 then M 61 (j - 48) else if 72 ≤ j ∧ j < 96 then M 63 (j - 72) else 0
  | _ => fun _ => 0
def cRows : List (Nat × Int × Int) := [(4, 1, 60), (6, 2, 10), (8, 3, 6), (10, 3, 8), (12, 1, 24), (14, 1, 60), (16, 1, 60), (23, 1, 60), (25, 2, 10), (27, 3, 6), (29, 3, 8), (31, 1, 24), (33, 1, 60), (35, 1, 60), (44, 1, 64), (48, 1, 60), (50, 1, 60), (53, 1, 30)]
def cK (M : gSt) : Prop := (∀ q ∈ cRows, M q.1 0 = q.2.1 ∧ M q.1 2 = q.2.2) ∧ 0 ≤ M 53 3 ∧ M 53 3 ≤ 30
theorem cK_wr {M : gSt} {o : Nat} {i x : Int} (h : cK M) (hi : i ≠ 0 ∧ i ≠ 2 ∨ (cRows.all fun q => q.1 != o) = true) (h53 : o = 53 → i ≠ 3 := by intro h; omega) : cK (wr M o i x) := by
  refine ⟨fun q hq => ?_, ?_⟩
  · obtain ⟨h1, h2⟩ := h.1 q hq
    rcases hi with hi | hi
    · by_cases e : q.1 = o
      · rw [e] at h1 h2 ⊢
        rw [wrN (by omega), wrN (by omega)]
        exact ⟨h1, h2⟩
      · rw [wrO e, wrO e]
        exact ⟨h1, h2⟩
    · have e : q.1 ≠ o := by
        have := List.all_eq_true.mp hi q hq
        simpa using this
      rw [wrO e, wrO e]
      exact ⟨h1, h2⟩
  · by_cases e : 53 = o
    · subst e
      rw [wrN (h53 rfl).symm]
      exact h.2
    · rw [wrO e]
      exact h.2
theorem cK_cpy {M : gSt} {a b : Nat} {i j n : Int} (h : cK M) (hi : (cRows.all fun q => q.1 != b) = true) : cK (cpy M a i b j n) := by
  have key : ∀ q ∈ cRows, q.1 ≠ b := fun q hq => by
    have := List.all_eq_true.mp hi q hq
    simpa using this
  refine ⟨fun q hq => ?_, ?_⟩
  · obtain ⟨h1, h2⟩ := h.1 q hq
    have e := key q hq
    unfold cpy
    rw [if_neg (fun z => e z.1), if_neg (fun z => e z.1)]
    exact ⟨h1, h2⟩
  · have e : (53 : Nat) ≠ b := key (53, 1, 30) (List.mem_of_getElem? (i := 17) rfl)
    unfold cpy
    rw [if_neg (fun z => e z.1)]
    exact h.2
theorem cK_eq {M M' : gSt} (h : cK M) (e : ∀ o, ¬ (18 ≤ o ∧ o ≤ 19) → ¬ (37 ≤ o ∧ o ≤ 43) → ¬ (45 ≤ o ∧ o ≤ 47) → o ≠ 64 → ∀ i, (i = 0 ∨ i = 2 ∨ (o = 53 ∧ i = 3)) → M' o i = M o i) : cK M' := by
  refine ⟨fun q hq => ?_, ?_⟩
  · have hb : ¬ (18 ≤ q.1 ∧ q.1 ≤ 19) ∧ ¬ (37 ≤ q.1 ∧ q.1 ≤ 43) ∧ ¬ (45 ≤ q.1 ∧ q.1 ≤ 47) ∧ q.1 ≠ 64 := by
      simp only [cRows, List.mem_cons, List.not_mem_nil, or_false] at hq
      rcases hq with rfl | rfl | rfl | rfl | rfl | rfl | rfl | rfl | rfl | rfl | rfl | rfl | rfl | rfl | rfl | rfl | rfl | rfl <;> decide
    rw [e q.1 hb.1 hb.2.1 hb.2.2.1 hb.2.2.2 0 (Or.inl rfl), e q.1 hb.1 hb.2.1 hb.2.2.1 hb.2.2.2 2 (Or.inr (Or.inl rfl))]
    exact h.1 q hq
  · rw [e 53 (by decide) (by decide) (by decide) (by decide) 3 (Or.inr (Or.inr ⟨rfl, rfl⟩))]
    exact h.2
theorem cK_4 {M : gSt} (h : cK M) : M 4 0 = 1 ∧ M 4 2 = 60 := h.1 (4, 1, 60) (List.mem_of_getElem? (i := 0) rfl)
theorem cK_6 {M : gSt} (h : cK M) : M 6 0 = 2 ∧ M 6 2 = 10 := h.1 (6, 2, 10) (List.mem_of_getElem? (i := 1) rfl)
theorem cK_8 {M : gSt} (h : cK M) : M 8 0 = 3 ∧ M 8 2 = 6 := h.1 (8, 3, 6) (List.mem_of_getElem? (i := 2) rfl)
theorem cK_10 {M : gSt} (h : cK M) : M 10 0 = 3 ∧ M 10 2 = 8 := h.1 (10, 3, 8) (List.mem_of_getElem? (i := 3) rfl)
theorem cK_12 {M : gSt} (h : cK M) : M 12 0 = 1 ∧ M 12 2 = 24 := h.1 (12, 1, 24) (List.mem_of_getElem? (i := 4) rfl)
theorem cK_14 {M : gSt} (h : cK M) : M 14 0 = 1 ∧ M 14 2 = 60 := h.1 (14, 1, 60) (List.mem_of_getElem? (i := 5) rfl)
theorem cK_16 {M : gSt} (h : cK M) : M 16 0 = 1 ∧ M 16 2 = 60 := h.1 (16, 1, 60) (List.mem_of_getElem? (i := 6) rfl)
theorem cK_23 {M : gSt} (h : cK M) : M 23 0 = 1 ∧ M 23 2 = 60 := h.1 (23, 1, 60) (List.mem_of_getElem? (i := 7) rfl)
theorem cK_25 {M : gSt} (h : cK M) : M 25 0 = 2 ∧ M 25 2 = 10 := h.1 (25, 2, 10) (List.mem_of_getElem? (i := 8) rfl)
theorem cK_27 {M : gSt} (h : cK M) : M 27 0 = 3 ∧ M 27 2 = 6 := h.1 (27, 3, 6) (List.mem_of_getElem? (i := 9) rfl)
theorem cK_29 {M : gSt} (h : cK M) : M 29 0 = 3 ∧ M 29 2 = 8 := h.1 (29, 3, 8) (List.mem_of_getElem? (i := 10) rfl)
theorem cK_31 {M : gSt} (h : cK M) : M 31 0 = 1 ∧ M 31 2 = 24 := h.1 (31, 1, 24) (List.mem_of_getElem? (i := 11) rfl)
theorem cK_33 {M : gSt} (h : cK M) : M 33 0 = 1 ∧ M 33 2 = 60 := h.1 (33, 1, 60) (List.mem_of_getElem? (i := 12) rfl)
theorem cK_35 {M : gSt} (h : cK M) : M 35 0 = 1 ∧ M 35 2 = 60 := h.1 (35, 1, 60) (List.mem_of_getElem? (i := 13) rfl)
theorem cK_44 {M : gSt} (h : cK M) : M 44 0 = 1 ∧ M 44 2 = 64 := h.1 (44, 1, 64) (List.mem_of_getElem? (i := 14) rfl)
theorem cK_48 {M : gSt} (h : cK M) : M 48 0 = 1 ∧ M 48 2 = 60 := h.1 (48, 1, 60) (List.mem_of_getElem? (i := 15) rfl)
theorem cK_50 {M : gSt} (h : cK M) : M 50 0 = 1 ∧ M 50 2 = 60 := h.1 (50, 1, 60) (List.mem_of_getElem? (i := 16) rfl)
theorem cK_53 {M : gSt} (h : cK M) : M 53 0 = 1 ∧ M 53 2 = 30 := h.1 (53, 1, 30) (List.mem_of_getElem? (i := 17) rfl)
/-- the places that a component reads -/
def dep (d : Nat) : List Nat := match d with
  | 0 => [2, 4, 6, 8, 10, 12, 14, 16]
  | 1 => [3]
  | 2 => [7]
  | 3 => [9]
  | 4 => [11]
  | 5 => [5]
  | 6 => [13]
  | 7 => [14, 15]
  | 8 => [16, 17]
  | 10 => [0, 21, 23, 25, 27, 29, 31, 33, 35]
  | 11 => [0, 22]
  | 12 => [0, 26]
  | 13 => [0, 28]
  | 14 => [0, 30]
  | 15 => [0, 24]
  | 16 => [0, 32]
  | 17 => [0, 33, 34]
  | 18 => [0, 35, 36]
  | 21 => [0]
  | 23 => [56, 58, 60, 62]
  | 24 => [56, 58, 60, 62]
  | 25 => [57, 59, 61, 63]
  | _ => []
theorem ac_cg {M M' : gSt} (d : Nat) (h : ∀ o ∈ dep d, M' o = M o) : absC M' d = absC M d := by
  match d with
  | 0 => simp only [absC, h 2 (by decide), h 4 (by decide), h 6 (by decide), h 8 (by decide), h 10 (by decide), h 12 (by decide), h 14 (by decide), h 16 (by decide)]
  | 1 => simp only [absC, h 3 (by decide)]
  | 2 => simp only [absC, h 7 (by decide)]
  | 3 => simp only [absC, h 9 (by decide)]
  | 4 => simp only [absC, h 11 (by decide)]
  | 5 => simp only [absC, h 5 (by decide)]
  | 6 => simp only [absC, h 13 (by decide)]
  | 7 => simp only [absC, h 14 (by decide), h 15 (by decide)]
  | 8 => simp only [absC, h 16 (by decide), h 17 (by decide)]
  | 9 => rfl
  | 10 => simp only [absC, h 0 (by decide), h 21 (by decide), h 23 (by decide), h 25 (by decide), h 27 (by decide), h 29 (by decide), h 31 (by decide), h 33 (by decide), h 35 (by decide)]
  | 11 => simp only [absC, h 0 (by decide), h 22 (by decide)]
  | 12 => simp only [absC, h 0 (by decide), h 26 (by decide)]
  | 13 => simp only [absC, h 0 (by decide), h 28 (by decide)]
  | 14 => simp only [absC, h 0 (by decide), h 30 (by decide)]
  | 15 => simp only [absC, h 0 (by decide), h 24 (by decide)]
  | 16 => simp only [absC, h 0 (by decide), h 32 (by decide)]
  | 17 => simp only [absC, h 0 (by decide), h 33 (by decide), h 34 (by decide)]
  | 18 => simp only [absC, h 0 (by decide), h 35 (by decide), h 36 (by decide)]
  | 19 => rfl
  | 20 => rfl
  | 21 => simp only [absC, h 0 (by decide)]
  | 22 => rfl
  | 23 => simp only [absC, h 56 (by decide), h 58 (by decide), h 60 (by decide), h 62 (by decide)]
  | 24 => simp only [absC, h 56 (by decide), h 58 (by decide), h 60 (by decide), h 62 (by decide)]
  | 25 => simp only [absC, h 57 (by decide), h 59 (by decide), h 61 (by decide), h 63 (by decide)]
  | n + 26 => rfl
theorem ac_w {M : gSt} {p c : Nat} {q x j : Int} (hp : ((List.range 26).all fun d => d == c || !(dep d).contains p) = true) (hc : ∀ i, absC (wr M p q x) c i = up1 (absC M) c j x c i) : absC (wr M p q x) = up1 (absC M) c j x := by
  funext d i
  by_cases hd : d = c
  · subst hd; exact hc i
  · rw [show up1 (absC M) c j x d i = absC M d i from wrO hd]
    refine congrFun (ac_cg d (fun o ho => wrO' (fun e => ?_))) i
    subst e
    by_cases h26 : d < 26
    · have := List.all_eq_true.mp hp d (List.mem_range.mpr h26)
      simp [hd] at this
      exact this ho
    · obtain ⟨n, rfl⟩ : ∃ n, d = n + 26 := ⟨d - 26, by omega⟩
      exact absurd ho (by simp [dep])
theorem ac_w2 {M : gSt} {p c : Nat} (c2 : Nat) {q x j : Int} (hp : ((List.range 26).all fun d => d == c || d == c2 || !(dep d).contains p) = true) (hc : ∀ i, absC (wr M p q x) c i = up1 (absC M) c j x c i) (h2 : ∀ i, absC (wr M p q x) c2 i = absC M c2 i) : absC (wr M p q x) = up1 (absC M) c j x := by
  funext d i
  by_cases hd : d = c
  · subst hd; exact hc i
  · rw [show up1 (absC M) c j x d i = absC M d i from wrO hd]
    by_cases hd2 : d = c2
    · subst hd2; exact h2 i
    refine congrFun (ac_cg d (fun o ho => wrO' (fun e => ?_))) i
    subst e
    by_cases h26 : d < 26
    · have := List.all_eq_true.mp hp d (List.mem_range.mpr h26)
      simp [hd, hd2] at this
      exact this ho
    · obtain ⟨n, rfl⟩ : ∃ n, d = n + 26 := ⟨d - 26, by omega⟩
      exact absurd ho (by simp [dep])
theorem ac_3 {M : gSt} {q x : Int} (h0 : 0 ≤ q) (h1 : q < 130) : absC (wr M 3 q x) = up1 (absC M) 1 q x := by
  refine ac_w (by decide) (fun i => ?_)
  by_cases hi : i = q
  · subst hi; simp [absC, up1, wrI, msk, h0, h1]
  · simp [absC, up1, wrN hi, msk]
theorem ac_7 {M : gSt} {q x : Int} (h0 : 0 ≤ q) (h1 : q < 20) : absC (wr M 7 q x) = up1 (absC M) 2 q x := by
  refine ac_w (by decide) (fun i => ?_)
  by_cases hi : i = q
  · subst hi; simp [absC, up1, wrI, msk, h0, h1]
  · simp [absC, up1, wrN hi, msk]
theorem ac_9 {M : gSt} {q x : Int} (h0 : 0 ≤ q) (h1 : q < 18) : absC (wr M 9 q x) = up1 (absC M) 3 q x := by
  refine ac_w (by decide) (fun i => ?_)
  by_cases hi : i = q
  · subst hi; simp [absC, up1, wrI, msk, h0, h1]
  · simp [absC, up1, wrN hi, msk]
theorem ac_11 {M : gSt} {q x : Int} (h0 : 0 ≤ q) (h1 : q < 24) : absC (wr M 11 q x) = up1 (absC M) 4 q x := by
  refine ac_w (by decide) (fun i => ?_)
  by_cases hi : i = q
  · subst hi; simp [absC, up1, wrI, msk, h0, h1]
  · simp [absC, up1, wrN hi, msk]
theorem ac_5 {M : gSt} {q x : Int} (h0 : 0 ≤ q) (h1 : q < 60) : absC (wr M 5 q x) = up1 (absC M) 5 q x := by
  refine ac_w (by decide) (fun i => ?_)
  by_cases hi : i = q
  · subst hi; simp [absC, up1, wrI, msk, h0, h1]
  · simp [absC, up1, wrN hi, msk]
theorem ac_13 {M : gSt} {q x : Int} (h0 : 0 ≤ q) (h1 : q < 24) : absC (wr M 13 q x) = up1 (absC M) 6 q x := by
  refine ac_w (by decide) (fun i => ?_)
  by_cases hi : i = q
  · subst hi; simp [absC, up1, wrI, msk, h0, h1]
  · simp [absC, up1, wrN hi, msk]
theorem ac_2_1 {M : gSt} {x : Int} : absC (wr M 2 1 x) = up1 (absC M) 0 0 x := by
  refine ac_w (by decide) (fun i => ?_)
  by_cases hi : i = 0
  · subst hi; simp [absC, up1, wr]
  · simp [absC, up1, wr, hi]
theorem ac_2_2 {M : gSt} {x : Int} : absC (wr M 2 2 x) = up1 (absC M) 0 1 x := by
  refine ac_w (by decide) (fun i => ?_)
  by_cases hi : i = 1
  · subst hi; simp [absC, up1, wr]
  · simp [absC, up1, wr, hi]
theorem ac_2_3 {M : gSt} {x : Int} : absC (wr M 2 3 x) = up1 (absC M) 0 5 x := by
  refine ac_w (by decide) (fun i => ?_)
  by_cases hi : i = 5
  · subst hi; simp [absC, up1, wr]
  · simp [absC, up1, wr, hi]
theorem ac_2_4 {M : gSt} {x : Int} : absC (wr M 2 4 x) = up1 (absC M) 0 8 x := by
  refine ac_w (by decide) (fun i => ?_)
  by_cases hi : i = 8
  · subst hi; simp [absC, up1, wr]
  · simp [absC, up1, wr, hi]
theorem ac_4_3 {M : gSt} {x : Int} : absC (wr M 4 3 x) = up1 (absC M) 0 6 x := by
  refine ac_w (by decide) (fun i => ?_)
  by_cases hi : i = 6
  · subst hi; simp [absC, up1, wr]
  · simp [absC, up1, wr, hi]
theorem ac_6_3 {M : gSt} {x : Int} : absC (wr M 6 3 x) = up1 (absC M) 0 2 x := by
  refine ac_w (by decide) (fun i => ?_)
  by_cases hi : i = 2
  · subst hi; simp [absC, up1, wr]
  · simp [absC, up1, wr, hi]
theorem ac_8_3 {M : gSt} {x : Int} : absC (wr M 8 3 x) = up1 (absC M) 0 3 x := by
  refine ac_w (by decide) (fun i => ?_)
  by_cases hi : i = 3
  · subst hi; simp [absC, up1, wr]
  · simp [absC, up1, wr, hi]
theorem ac_10_3 {M : gSt} {x : Int} : absC (wr M 10 3 x) = up1 (absC M) 0 4 x := by
  refine ac_w (by decide) (fun i => ?_)
  by_cases hi : i = 4
  · subst hi; simp [absC, up1, wr]
  · simp [absC, up1, wr, hi]
theorem ac_12_3 {M : gSt} {x : Int} : absC (wr M 12 3 x) = up1 (absC M) 0 7 x := by
  refine ac_w (by decide) (fun i => ?_)
  by_cases hi : i = 7
  · subst hi; simp [absC, up1, wr]
  · simp [absC, up1, wr, hi]
theorem ac_56_1 {M : gSt} {x : Int} : absC (wr M 56 1 x) = up1 (absC M) 23 0 x := by
  refine ac_w2 24 (by decide) (fun i => ?_) (fun i => by simp [absC, wr])
  by_cases hi : i = 0
  · subst hi; simp [absC, up1, wr]
  · simp [absC, up1, wr, hi]
theorem ac_58_1 {M : gSt} {x : Int} : absC (wr M 58 1 x) = up1 (absC M) 23 1 x := by
  refine ac_w2 24 (by decide) (fun i => ?_) (fun i => by simp [absC, wr])
  by_cases hi : i = 1
  · subst hi; simp [absC, up1, wr]
  · simp [absC, up1, wr, hi]
theorem ac_60_1 {M : gSt} {x : Int} : absC (wr M 60 1 x) = up1 (absC M) 23 2 x := by
  refine ac_w2 24 (by decide) (fun i => ?_) (fun i => by simp [absC, wr])
  by_cases hi : i = 2
  · subst hi; simp [absC, up1, wr]
  · simp [absC, up1, wr, hi]
theorem ac_62_1 {M : gSt} {x : Int} : absC (wr M 62 1 x) = up1 (absC M) 23 3 x := by
  refine ac_w2 24 (by decide) (fun i => ?_) (fun i => by simp [absC, wr])
  by_cases hi : i = 3
  · subst hi; simp [absC, up1, wr]
  · simp [absC, up1, wr, hi]
theorem ac_56_2 {M : gSt} {x : Int} : absC (wr M 56 2 x) = up1 (absC M) 24 0 x := by
  refine ac_w2 23 (by decide) (fun i => ?_) (fun i => by simp [absC, wr])
  by_cases hi : i = 0
  · subst hi; simp [absC, up1, wr]
  · simp [absC, up1, wr, hi]
theorem ac_58_2 {M : gSt} {x : Int} : absC (wr M 58 2 x) = up1 (absC M) 24 1 x := by
  refine ac_w2 23 (by decide) (fun i => ?_) (fun i => by simp [absC, wr])
  by_cases hi : i = 1
  · subst hi; simp [absC, up1, wr]
  · simp [absC, up1, wr, hi]
theorem ac_60_2 {M : gSt} {x : Int} : absC (wr M 60 2 x) = up1 (absC M) 24 2 x := by
  refine ac_w2 23 (by decide) (fun i => ?_) (fun i => by simp [absC, wr])
  by_cases hi : i = 2
  · subst hi; simp [absC, up1, wr]
  · simp [absC, up1, wr, hi]
theorem ac_62_2 {M : gSt} {x : Int} : absC (wr M 62 2 x) = up1 (absC M) 24 3 x := by
  refine ac_w2 23 (by decide) (fun i => ?_) (fun i => by simp [absC, wr])
  by_cases hi : i = 3
  · subst hi; simp [absC, up1, wr]
  · simp [absC, up1, wr, hi]
theorem r25_0 (M : gSt) {i : Int} (h : 0 ≤ i ∧ i < 24) : absC M 25 i = M 57 i := by
  simp only [absC]
  rw [if_pos h]
theorem ac_57 {M : gSt} {q x : Int} (h0 : 0 ≤ q) (h1 : q < 24) : absC (wr M 57 q x) = up1 (absC M) 25 (0 + q) x := by
  refine ac_w (by decide) (fun i => ?_)
  by_cases b : 0 ≤ i ∧ i < 24
  · rw [r25_0 _ b]
    by_cases hi : i = 0 + q
    · subst hi
      rw [show 0 + q = q from by omega, wrI]
      exact (wrI (M := absC M)).symm
    · rw [wrN (by omega)]
      unfold up1
      rw [wrN hi, r25_0 _ b]
  · unfold up1
    rw [wrN (by omega)]
    simp only [absC]
    repeat' split
    all_goals first | rfl | omega | exact wrO (by decide)
theorem r25_1 (M : gSt) {i : Int} (h : 24 ≤ i ∧ i < 48) : absC M 25 i = M 59 (i - 24) := by
  simp only [absC]
  rw [if_neg (by omega)]
  rw [if_pos h]
theorem ac_59 {M : gSt} {q x : Int} (h0 : 0 ≤ q) (h1 : q < 24) : absC (wr M 59 q x) = up1 (absC M) 25 (24 + q) x := by
  refine ac_w (by decide) (fun i => ?_)
  by_cases b : 24 ≤ i ∧ i < 48
  · rw [r25_1 _ b]
    by_cases hi : i = 24 + q
    · subst hi
      rw [show 24 + q - 24 = q from by omega, wrI]
      exact (wrI (M := absC M)).symm
    · rw [wrN (by omega)]
      unfold up1
      rw [wrN hi, r25_1 _ b]
  · unfold up1
    rw [wrN (by omega)]
    simp only [absC]
    repeat' split
    all_goals first | rfl | omega | exact wrO (by decide)
theorem r25_2 (M : gSt) {i : Int} (h : 48 ≤ i ∧ i < 72) : absC M 25 i = M 61 (i - 48) := by
  simp only [absC]
  rw [if_neg (by omega)]
  rw [if_neg (by omega)]
  rw [if_pos h]
theorem ac_61 {M : gSt} {q x : Int} (h0 : 0 ≤ q) (h1 : q < 24) : absC (wr M 61 q x) = up1 (absC M) 25 (48 + q) x := by
  refine ac_w (by decide) (fun i => ?_)
  by_cases b : 48 ≤ i ∧ i < 72
  · rw [r25_2 _ b]
    by_cases hi : i = 48 + q
    · subst hi
      rw [show 48 + q - 48 = q from by omega, wrI]
      exact (wrI (M := absC M)).symm
    · rw [wrN (by omega)]
      unfold up1
      rw [wrN hi, r25_2 _ b]
  · unfold up1
    rw [wrN (by omega)]
    simp only [absC]
    repeat' split
    all_goals first | rfl | omega | exact wrO (by decide)
theorem r25_3 (M : gSt) {i : Int} (h : 72 ≤ i ∧ i < 96) : absC M 25 i = M 63 (i - 72) := by
  simp only [absC]
  rw [if_neg (by omega)]
  rw [if_neg (by omega)]
  rw [if_neg (by omega)]
  rw [if_pos h]
theorem ac_63 {M : gSt} {q x : Int} (h0 : 0 ≤ q) (h1 : q < 24) : absC (wr M 63 q x) = up1 (absC M) 25 (72 + q) x := by
  refine ac_w (by decide) (fun i => ?_)
  by_cases b : 72 ≤ i ∧ i < 96
  · rw [r25_3 _ b]
    by_cases hi : i = 72 + q
    · subst hi
      rw [show 72 + q - 72 = q from by omega, wrI]
      exact (wrI (M := absC M)).symm
    · rw [wrN (by omega)]
      unfold up1
      rw [wrN hi, r25_3 _ b]
  · unfold up1
    rw [wrN (by omega)]
    simp only [absC]
    repeat' split
    all_goals first | rfl | omega | exact wrO (by decide)
def scr (o : Nat) : Prop := o = 18 ∨ o = 19 ∨ o = 37 ∨ o = 38 ∨ o = 39 ∨ o = 40 ∨ o = 41 ∨ o = 42 ∨ o = 43 ∨ o = 44 ∨ o = 45 ∨ o = 46 ∨ o = 47 ∨ o = 48 ∨ o = 49 ∨ o = 50 ∨ o = 51 ∨ o = 52 ∨ o = 53 ∨ o = 54 ∨ o = 64
theorem ac_eq {M M' : gSt} (h : ∀ o, ¬ scr o → M' o = M o) : absC M' = absC M := by
  funext d i
  have nn : ∀ o : Nat, o < 18 ∨ (19 < o ∧ o < 37) ∨ (54 < o ∧ o < 64) → M' o = M o := fun o ho => h o (by unfold scr; omega)
  refine congrFun (ac_cg d (fun o ho => nn o ?_)) i
  by_cases h26 : d < 26
  · have k : ((List.range 26).all fun d => (dep d).all fun o => decide (o < 18 ∨ (19 < o ∧ o < 37) ∨ (54 < o ∧ o < 64))) = true := by decide
    have := List.all_eq_true.mp (List.all_eq_true.mp k d (List.mem_range.mpr h26)) o ho
    exact of_decide_eq_true this
  · obtain ⟨n, rfl⟩ : ∃ n, d = n + 26 := ⟨d - 26, by omega⟩
    exact absurd ho (by simp [dep])
end
section
-- the class's small methods, as they act on its memory
theorem wrapL130 : wrap ((130 : Nat) : Int) = 130 := by decide
theorem sp_within {v lo hi : Int} {M : gSt} {k : Int → gSt → Prop} (hv : inI v) (hl : inI lo) (hh : inI hi) (k1 : lo ≤ v ∧ v ≤ hi → k 1 M) (k0 : ¬ (lo ≤ v ∧ v ≤ hi) → k 0 M) : w_X8_within v lo hi M k := by
  unfold w_X8_within
  rw [wI hv, wI hl, wI hh]
  exact ⟨fun h => k0 (by omega), fun h => ⟨fun h2 => k0 (by omega), fun h2 => k1 (by omega)⟩⟩
theorem sp_refuse {j : Int} {M : gSt} {k : Int → gSt → Prop} (h0 : 0 ≤ j) (h1 : j < 7) (h : k (-1000000000 - j) (wr M 64 j (M 64 j + 1))) : w_X8_refuse j M k := by
  unfold w_X8_refuse
  rw [wI ⟨by omega, by omega⟩]
  refine ⟨fun q => absurd q (by omega), fun _ => ⟨fun q => absurd q (by omega), fun _ => ⟨⟨h0, h1⟩, ⟨h0, h1⟩, fun M' e => ?_⟩⟩⟩
  subst e
  exact h
theorem errC {M : gSt} {k : Int → gSt → Prop} {j : Int} {S : Int × gSt} (h0 : 0 ≤ j) (h1 : j < 7) (hK : cK M) (hS : S = S_err (absC M) j) (h : ∀ M', absC M' = S.2 → cK M' → k S.1 M') : w_X8_refuse j M k := by
  subst hS
  exact sp_refuse h0 h1 (h _ (ac_eq (fun o ho => wrO' (by unfold scr at ho; omega))) (cK_wr hK (Or.inr (by decide))))
theorem isKM {a : Int} {M : gSt} {k : Int → gSt → Prop} (ha : inI a) (k1 : 0 ≤ a ∧ a ≤ 699 → k 1 M) (k0 : ¬ (0 ≤ a ∧ a ≤ 699) → k 0 M) : w_X8_isKindAndM a M k := by
  unfold w_X8_isKindAndM
  exact sp_within ha (by constructor <;> decide) (by constructor <;> decide) (fun h => ⟨Or.inr rfl, k1 h⟩) (fun h => ⟨Or.inl rfl, k0 h⟩)
-- Bronze
theorem sp_has0 {o : Nat} {t : Int} {M : gSt} {k : Int → gSt → Prop} (hb : isBronze o) (ht : inI t) (hn : 0 ≤ M o 1 ∧ M o 1 ≤ 12) (k1 : 0 ≤ t ∧ t < M o 1 → k 1 M) (k0 : ¬ (0 ≤ t ∧ t < M o 1) → k 0 M) : w_X0_has o t M k := by
  unfold w_X0_has
  rw [wI ht, wI (x := M o 1) ⟨by omega, by omega⟩]
  exact ⟨hb, fun h => k0 (by omega), fun h => ⟨fun h2 => k0 (by omega), fun h2 => k1 (by omega)⟩⟩
theorem sp_placeOf {t w : Int} {M : gSt} {k : Int → gSt → Prop} (ht : 0 ≤ t ∧ t ≤ 12) (hw : 0 ≤ w ∧ w ≤ 9) (h : k (10 * t + w) M) : w_X0_placeOf t w M k := by
  unfold w_X0_placeOf wB_X0_placeOf_25
  rw [wI (x := t) ⟨by omega, by omega⟩, wI (x := w) ⟨by omega, by omega⟩]
  refine ⟨fun q => absurd q (by omega), fun _ => ⟨fun q => absurd q (by omega), fun _ => ⟨fun q => absurd q (by omega), fun _ => ⟨fun q => absurd q (by omega), fun _ => z1 ?_⟩⟩⟩⟩
  rw [show t * 10 + w = 10 * t + w from by omega]
  exact h
theorem sp_placeOfN {t w : Int} {M : gSt} {k : Int → gSt → Prop} (hi : inI t) (hw : inI w) (ht : ¬ (0 ≤ t ∧ t ≤ 12) ∨ ¬ (0 ≤ w ∧ w ≤ 9)) (h : k (-1) M) : w_X0_placeOf t w M k := by
  unfold w_X0_placeOf wB_X0_placeOf_24 wB_X0_placeOf_25
  rw [wI hi, wI hw]
  refine ⟨fun _ => z0 h, fun _ => ⟨fun _ => z0 h, fun _ => ⟨fun _ => z0 h, fun _ => ⟨fun _ => z0 h, fun _ => ?_⟩⟩⟩⟩
  rcases ht with q | q
  · exact absurd q (by omega)
  · exact absurd q (by omega)
theorem sp_number {o : Nat} {t w : Int} {M : gSt} {k : Int → gSt → Prop} (hb : isBronze o) (hl : lenC (o + 1) = 130) (ht : 0 ≤ t ∧ t ≤ 12) (hw : 0 ≤ w ∧ w ≤ 9) (h : k (M (o + 1) (10 * t + w)) M) : w_X0_number o t w M k := by
  unfold w_X0_number
  refine ⟨hb, sp_placeOf ht hw ?_⟩
  rw [hl, wrapL130, wI (x := 10 * t + w) ⟨by omega, by omega⟩]
  exact ⟨fun q => absurd q (by omega), fun _ => ⟨fun q => absurd q (by omega), fun _ => ⟨⟨by omega, by omega⟩, h⟩⟩⟩
theorem sp_become {o : Nat} {t w v : Int} {M : gSt} {k : gSt → Prop} (hb : isBronze o) (hl : lenC (o + 1) = 130) (ht : 0 ≤ t ∧ t ≤ 12) (hw : 0 ≤ w ∧ w ≤ 9) (h : k (wr M (o + 1) (10 * t + w) v)) : w_X0_become o t w v M k := by
  unfold w_X0_become
  refine ⟨hb, sp_placeOf ht hw ?_⟩
  rw [hl, wrapL130, wI (x := 10 * t + w) ⟨by omega, by omega⟩]
  refine ⟨fun q => absurd q (by omega), fun _ => ⟨fun q => absurd q (by omega), fun _ => ⟨⟨by omega, by omega⟩, fun M' e => ?_⟩⟩⟩
  subst e
  exact h
theorem sp_becomeN {o : Nat} {t w v : Int} {M : gSt} {k : gSt → Prop} (hb : isBronze o) (hi : inI t) (hw : inI w) (ht : ¬ (0 ≤ t ∧ t ≤ 12) ∨ ¬ (0 ≤ w ∧ w ≤ 9)) (h : k M) : w_X0_become o t w v M k := by
  unfold w_X0_become
  refine ⟨hb, sp_placeOfN hi hw ht ⟨fun _ => h, fun q => absurd q (by decide)⟩⟩
-- Rows
theorem sp_size4 {o : Nat} {M : gSt} {k : Int → gSt → Prop} (hr : isRows o) (h : k (M o 3) M) : w_X4_size o M k := ⟨hr, h⟩
theorem sp_room4 {o : Nat} {M : gSt} {k : Int → gSt → Prop} (hr : isRows o) (h : k (M o 2 - M o 3) M) : w_X4_room o M k := ⟨hr, h⟩
theorem sp_clear {o : Nat} {M : gSt} {k : gSt → Prop} (hr : isRows o) (h : k (wr M o 3 0)) : w_X4_clear o M k := ⟨hr, fun M' e => by subst e; exact h⟩
theorem sp_has4 {o : Nat} {t : Int} {M : gSt} {k : Int → gSt → Prop} (hr : isRows o) (ht : inI t) (hn : inI (M o 3)) (k1 : 0 ≤ t ∧ t < M o 3 → k 1 M) (k0 : ¬ (0 ≤ t ∧ t < M o 3) → k 0 M) : w_X4_has o t M k := by
  unfold w_X4_has
  rw [wI ht, wI hn]
  exact ⟨hr, fun h => k0 (by omega), fun h => ⟨fun h2 => k0 (by omega), fun h2 => k1 (by omega)⟩⟩
theorem sp_at {o : Nat} {r c W : Int} {M : gSt} {k : Int → gSt → Prop} (hr : isRows o) (hW : M o 0 = W) (hn : 0 ≤ r ∧ r < M o 3) (hc : 0 ≤ c ∧ c < W) (hb : M o 3 ≤ 1000 ∧ W ≤ 3) (hlen : r * W + c < lenC (o + 1)) (hl2 : (lenC (o + 1) : Int) ≤ 1000) (h : k (M (o + 1) (r * W + c)) M) : w_X4_at o r c M k := by
  have hp : 0 ≤ r * W := Int.mul_nonneg hn.1 (by omega)
  unfold w_X4_at wB_X4_at_29 wB_X4_at_46
  rw [hW, wI (x := r) ⟨by omega, by omega⟩, wI (x := c) ⟨by omega, by omega⟩, wI (x := M o 3) ⟨by omega, by omega⟩, wI (x := W) ⟨by omega, by omega⟩, wI (x := r * W + c) ⟨by omega, by omega⟩, wI (x := (lenC (o + 1) : Int)) ⟨by omega, by omega⟩]
  refine ⟨hr, fun q => absurd q (by omega), fun _ => ⟨fun q => absurd q (by omega), fun _ => ⟨fun q => absurd q (by omega), fun _ => ⟨fun q => absurd q (by omega), fun _ => z1 ⟨fun q => absurd q (by omega), fun _ => ⟨fun q => absurd q (by omega), fun _ => ⟨⟨by omega, by omega⟩, h⟩⟩⟩⟩⟩⟩⟩
theorem sp_write {o : Nat} {c v W : Int} {M : gSt} {k : gSt → Prop} (hr : isRows o) (hW : M o 0 = W) (hn : 0 ≤ M o 3 ∧ M o 3 ≤ 1000) (hc : 0 ≤ c ∧ c < W) (hb : W ≤ 3) (hlen : M o 3 * W + c < lenC (o + 1)) (hl2 : (lenC (o + 1) : Int) ≤ 1000) (h : k (wr M (o + 1) (M o 3 * W + c) v)) : w_X4_write o c v M k := by
  have hp : 0 ≤ M o 3 * W := Int.mul_nonneg hn.1 (by omega)
  unfold w_X4_write
  refine ⟨hr, fun x e => ?_⟩
  rw [hW] at e ⊢
  subst e
  rw [wI (x := c) ⟨by omega, by omega⟩, wI (x := W) ⟨by omega, by omega⟩, wI (x := M o 3 * W + c) ⟨by omega, by omega⟩, wI (x := (lenC (o + 1) : Int)) ⟨by omega, by omega⟩]
  refine ⟨fun q => absurd q (by omega), fun _ => ⟨fun q => absurd q (by omega), fun _ => ⟨fun q => absurd q (by omega), fun _ => ⟨⟨by omega, by omega⟩, fun M' e => ?_⟩⟩⟩⟩
  subst e
  exact h
theorem sp_writeN {o : Nat} {c v W : Int} {M : gSt} {k : gSt → Prop} (hr : isRows o) (hW : M o 0 = W) (hc : 0 ≤ W ∧ W ≤ c ∧ c ≤ 3) (h : k M) : w_X4_write o c v M k := by
  unfold w_X4_write
  refine ⟨hr, fun x e => ?_⟩
  rw [hW, wI (x := c) ⟨by omega, by omega⟩, wI (x := W) ⟨by omega, by omega⟩]
  exact ⟨fun _ => h, fun q => absurd q (by omega)⟩
theorem sp_app1 {o : Nat} {a b c L : Int} {M : gSt} {k : Int → gSt → Prop} (hr : isRows o) (hW : M o 0 = 1) (hL : M o 2 = L) (hn : 0 ≤ M o 3 ∧ M o 3 < L) (hb : L ≤ 300) (hlen : (lenC (o + 1) : Int) = L) (h : k (M o 3) (wr (wr M (o + 1) (M o 3) a) o 3 (M o 3 + 1))) : w_X4_append o a b c M k := by
  have ne : o ≠ o + 1 := by omega
  unfold w_X4_append
  refine ⟨hr, sp_room4 hr ⟨fun _ => ?_, fun q => absurd q (by rw [hL, wI ⟨by omega, by omega⟩]; omega)⟩⟩
  refine sp_write hr hW ⟨by omega, by omega⟩ (by decide) (by decide) (by omega) (by omega) ?_
  rw [show M o 3 * 1 + 0 = M o 3 from by omega]
  refine sp_writeN (W := 1) hr (by rw [wrO ne]; exact hW) (by decide) (sp_writeN (W := 1) hr (by rw [wrO ne]; exact hW) (by decide) (fun M' e => ?_))
  subst e
  rw [wrO ne, wrI, show M o 3 + 1 - 1 = M o 3 from by omega]
  exact h
theorem sp_app2 {o : Nat} {a b c L : Int} {M : gSt} {k : Int → gSt → Prop} (hr : isRows o) (hW : M o 0 = 2) (hL : M o 2 = L) (hn : 0 ≤ M o 3 ∧ M o 3 < L) (hb : L ≤ 300) (hlen : (lenC (o + 1) : Int) = 2 * L) (h : k (M o 3) (wr (wr (wr M (o + 1) (2 * M o 3) a) (o + 1) (2 * M o 3 + 1) b) o 3 (M o 3 + 1))) : w_X4_append o a b c M k := by
  have ne : o ≠ o + 1 := by omega
  unfold w_X4_append
  refine ⟨hr, sp_room4 hr ⟨fun _ => ?_, fun q => absurd q (by rw [hL, wI ⟨by omega, by omega⟩]; omega)⟩⟩
  refine sp_write hr hW ⟨by omega, by omega⟩ (by decide) (by decide) (by omega) (by omega) ?_
  rw [show M o 3 * 2 + 0 = 2 * M o 3 from by omega]
  refine sp_write (W := 2) hr (by rw [wrO ne]; exact hW) (by rw [wrO ne]; exact ⟨by omega, by omega⟩) (by decide) (by decide) (by rw [wrO ne]; omega) (by omega) ?_
  rw [wrO (i' := 3) ne, show M o 3 * 2 + 1 = 2 * M o 3 + 1 from by omega]
  refine sp_writeN (W := 2) hr (by rw [wrO ne, wrO ne]; exact hW) (by decide) (fun M' e => ?_)
  subst e
  rw [wrO ne, wrO ne, wrI, show M o 3 + 1 - 1 = M o 3 from by omega]
  exact h
theorem sp_app3 {o : Nat} {a b c L : Int} {M : gSt} {k : Int → gSt → Prop} (hr : isRows o) (hW : M o 0 = 3) (hL : M o 2 = L) (hn : 0 ≤ M o 3 ∧ M o 3 < L) (hb : L ≤ 300) (hlen : (lenC (o + 1) : Int) = 3 * L) (h : k (M o 3) (wr (wr (wr (wr M (o + 1) (3 * M o 3) a) (o + 1) (3 * M o 3 + 1) b) (o + 1) (3 * M o 3 + 2) c) o 3 (M o 3 + 1))) : w_X4_append o a b c M k := by
  have ne : o ≠ o + 1 := by omega
  unfold w_X4_append
  refine ⟨hr, sp_room4 hr ⟨fun _ => ?_, fun q => absurd q (by rw [hL, wI ⟨by omega, by omega⟩]; omega)⟩⟩
  refine sp_write hr hW ⟨by omega, by omega⟩ (by decide) (by decide) (by omega) (by omega) ?_
  rw [show M o 3 * 3 + 0 = 3 * M o 3 from by omega]
  refine sp_write (W := 3) hr (by rw [wrO ne]; exact hW) (by rw [wrO ne]; exact ⟨by omega, by omega⟩) (by decide) (by decide) (by rw [wrO ne]; omega) (by omega) ?_
  rw [wrO (i' := 3) ne, show M o 3 * 3 + 1 = 3 * M o 3 + 1 from by omega]
  refine sp_write (W := 3) hr (by rw [wrO ne, wrO ne]; exact hW) (by rw [wrO ne, wrO ne]; exact ⟨by omega, by omega⟩) (by decide) (by decide) (by rw [wrO ne, wrO ne]; omega) (by omega) ?_
  rw [wrO (i' := 3) ne, wrO (i' := 3) ne, show M o 3 * 3 + 2 = 3 * M o 3 + 2 from by omega]
  intro M' e
  subst e
  rw [wrO ne, wrO ne, wrO ne, wrI, show M o 3 + 1 - 1 = M o 3 from by omega]
  exact h
-- the abstract numbers, read
theorem rc00 (M : gSt) : absC M 0 0 = M 2 1 := by simp [absC]
theorem rc01 (M : gSt) : absC M 0 1 = M 2 2 := by simp [absC]
theorem rc02 (M : gSt) : absC M 0 2 = M 6 3 := by simp [absC]
theorem rc03 (M : gSt) : absC M 0 3 = M 8 3 := by simp [absC]
theorem rc04 (M : gSt) : absC M 0 4 = M 10 3 := by simp [absC]
theorem rc05 (M : gSt) : absC M 0 5 = M 2 3 := by simp [absC]
theorem rc06 (M : gSt) : absC M 0 6 = M 4 3 := by simp [absC]
theorem rc07 (M : gSt) : absC M 0 7 = M 12 3 := by simp [absC]
theorem rc08 (M : gSt) : absC M 0 8 = M 2 4 := by simp [absC]
theorem rc09 (M : gSt) : absC M 0 9 = M 14 3 := by simp [absC]
theorem rc010 (M : gSt) : absC M 0 10 = M 16 3 := by simp [absC]
theorem rc1 (M : gSt) {i : Int} (h0 : 0 ≤ i) (h1 : i < 130) : absC M 1 i = M 3 i := by simp [absC, msk, h0, h1]
theorem rc210 (M : gSt) : absC M 21 0 = M 0 8 := by simp [absC]
theorem sp_fill {t : Int} {M : gSt} {k : gSt → Prop} (ht : 0 ≤ t ∧ t ≤ 12) (hK : cK M) (h : ∀ M', absC M' = zerT (absC M) t 10 → cK M' → k M') : w_X0_fill 2 t 0 M k := by
  unfold w_X0_fill
  refine ⟨pl_2, 11, ?_⟩
  have loop : ∀ (d : Nat) (j : Int) (M1 : gSt), (d : Int) = 10 - j → 0 ≤ j → absC M1 = zerT (absC M) t j → cK M1 → ∀ f : Nat, d < f → wL_X0_fill_2 2 t 0 k (fun M2 => k M2) f j M1 := by
    intro d
    induction d with
    | zero =>
      intro j M1 hd hj0 hA hK1 f hf
      obtain ⟨f, rfl⟩ : ∃ g, f = g + 1 := ⟨f - 1, by omega⟩
      have hj : j = 10 := by omega
      subst hj
      simp only [wL_X0_fill_2, wC_X0_fill_2]
      exact ⟨fun _ => h M1 hA hK1, fun q => absurd q (by decide)⟩
    | succ d ih =>
      intro j M1 hd hj0 hA hK1 f hf
      obtain ⟨f, rfl⟩ : ∃ g, f = g + 1 := ⟨f - 1, by omega⟩
      simp only [wL_X0_fill_2, wC_X0_fill_2]
      rw [wI (x := j) ⟨by omega, by omega⟩]
      refine ⟨fun q => absurd q (by omega), fun _ => ?_⟩
      refine sp_become pl_2 rfl ht ⟨hj0, by omega⟩ ?_
      refine ih (j + 1) _ (by omega) (by omega) ?_ (cK_wr hK1 (Or.inr (by decide))) f (by omega)
      rw [ac_3 (by omega) (by omega), hA]
      funext c i
      simp only [up1, wr, zerT]
      repeat' split
      all_goals first | rfl | omega
  exact loop 10 0 M (by omega) (by omega) (by funext c i; simp [zerT]; intro _ _ _; omega) hK 11 (by omega)
theorem sp_add {km : Int} {M : gSt} {k : Int → gSt → Prop} (hk : 0 ≤ km ∧ km ≤ 699) (hn : 0 ≤ M 2 1 ∧ M 2 1 ≤ 11) (hK : cK M) (h : ∀ M', absC M' = addT (absC M) km → cK M' → k (M 2 1) M') : w_X0_add 2 km M k := by
  unfold w_X0_add w_X0_room
  refine ⟨pl_2, pl_2, ?_⟩
  dsimp only
  rw [wI (x := 12 - M 2 1) ⟨by omega, by omega⟩, wI (x := km) ⟨by omega, by omega⟩, tdiv_pos hk.1, tmod_pos hk.1]
  refine ⟨fun _ => ?_, fun q => absurd q (by omega)⟩
  intro n hn1 M1 e1
  subst e1
  have hn0 : 0 ≤ n ∧ n ≤ 11 := by omega
  refine sp_fill ⟨by omega, by omega⟩ (cK_wr hK (Or.inr (by decide))) (fun M2 e2 K2 => ?_)
  refine sp_become pl_2 rfl ⟨by omega, by omega⟩ (by decide) ?_
  refine sp_become pl_2 rfl ⟨by omega, by omega⟩ (by decide) ?_
  rw [hn1]
  refine h _ ?_ (cK_wr (cK_wr K2 (Or.inr (by decide))) (Or.inr (by decide)))
  rw [ac_3 (by omega) (by omega), ac_3 (by omega) (by omega), e2, ac_2_1]
  have en : absC M 0 0 = n := by rw [rc00]; exact hn1.symm
  funext c i
  simp only [up1, wr, zerT, addT, en, ← hn1]
  repeat' split
  all_goals first | rfl | omega
theorem cpyO {M : gSt} {a b o : Nat} {i j n : Int} (h : o ≠ b) : cpy M a i b j n o = M o := by
  funext q
  unfold cpy
  rw [if_neg (fun z => h z.1)]
theorem sp_copy4 {o a : Nat} {M : gSt} {k : gSt → Prop} (ho : isRows o) (ha : isRows a) (hl : lenC (a + 1) = lenC (o + 1)) (hn : a ≠ o + 1) (h : k (wr (cpy M (a + 1) 0 (o + 1) 0 (lenC (o + 1) : Int)) o 3 (M a 3))) : w_X4_copyFrom o a M k := by
  unfold w_X4_copyFrom
  refine ⟨ho, ha, fun _ => ⟨⟨by omega, by omega, by omega, by omega, by omega⟩, fun M1 e1 M2 e2 => ?_⟩, fun n => absurd (by rw [hl]) n⟩
  subst e1; subst e2
  rw [cpyO hn]
  exact h
theorem sp_copy0 {o a : Nat} {M : gSt} {k : gSt → Prop} (ho : isBronze o) (ha : isBronze a) (hl : lenC (a + 1) = lenC (o + 1)) (hn : a ≠ o + 1 ∧ a ≠ o) (h : k (wr (wr (wr (wr (cpy M (a + 1) 0 (o + 1) 0 (lenC (o + 1) : Int)) o 1 (M a 1)) o 2 (M a 2)) o 3 (M a 3)) o 4 (M a 4))) : w_X0_copyFrom o a M k := by
  unfold w_X0_copyFrom
  refine ⟨ho, ha, fun _ => ⟨⟨by omega, by omega, by omega, by omega, by omega⟩, fun M1 e1 M2 e2 M3 e3 M4 e4 M5 e5 => ?_⟩, fun n => absurd (by rw [hl]) n⟩
  rw [e1] at e2
  rw [cpyO hn.1] at e2
  rw [e2, wrO hn.2, cpyO hn.1] at e3
  rw [e3, wrO hn.2, wrO hn.2, cpyO hn.1] at e4
  rw [e4, wrO hn.2, wrO hn.2, wrO hn.2, cpyO hn.1] at e5
  rw [e5]
  exact h
/-- the grams behind a history are noted -/
theorem sp_noteGrams {f : Int} {M : gSt} {k : gSt → Prop} (hf : 0 ≤ f ∧ f ≤ 63) (h : ∀ M', (∀ o, o ≠ 46 → M' o = M o) → (∀ j, M' 46 j = if 12 * f ≤ j ∧ j < 12 * f + 12 then M 43 (10 * (j - 12 * f) + 2) else M 46 j) → k M') : w_X2_noteGrams 41 f M k := by
  unfold w_X2_noteGrams
  refine ⟨pl_41, 13, ?_⟩
  have loop : ∀ (d : Nat) (t : Int) (M1 : gSt), (d : Int) = 12 - t → 0 ≤ t → (∀ o, o ≠ 46 → M1 o = M o) → (∀ j, M1 46 j = if 12 * f ≤ j ∧ j < 12 * f + t then M 43 (10 * (j - 12 * f) + 2) else M 46 j) → ∀ g : Nat, d < g → wL_X2_noteGrams_2 41 f k (fun M2 => k M2) g t M1 := by
    intro d
    induction d with
    | zero =>
      intro t M1 hd ht h1 h2 g hg
      obtain ⟨g, rfl⟩ : ∃ q, g = q + 1 := ⟨g - 1, by omega⟩
      have e : t = 12 := by omega
      subst e
      simp only [wL_X2_noteGrams_2, wC_X2_noteGrams_2]
      exact ⟨fun _ => h M1 h1 h2, fun q => absurd q (by decide)⟩
    | succ d ih =>
      intro t M1 hd ht h1 h2 g hg
      obtain ⟨g, rfl⟩ : ∃ q, g = q + 1 := ⟨g - 1, by omega⟩
      simp only [wL_X2_noteGrams_2, wC_X2_noteGrams_2, wB_X2_noteGrams_43]
      rw [wI (x := t) ⟨by omega, by omega⟩]
      refine ⟨fun q => absurd q (by omega), fun _ x ex => ?_⟩
      subst ex
      have hl : (lenC (41 + 5) : Int) = 768 := rfl
      rw [hl, wI (x := f * 12 + t) ⟨by omega, by omega⟩, wI (x := 768) (by constructor <;> decide)]
      refine ⟨fun q => absurd q (by omega), fun _ => ⟨fun q => absurd q (by omega), fun _ => ?_⟩⟩
      refine sp_number pl_42 rfl ⟨by omega, by omega⟩ (by decide) ⟨⟨by omega, by omega⟩, fun M2 e2 => ?_⟩
      subst e2
      refine ih (t + 1) _ (by omega) (by omega) (fun o ho => by rw [wrO' ho]; exact h1 o ho) (fun j => ?_) g (by omega)
      by_cases hj : j = f * 12 + t
      · subst hj
        rw [show wr M1 (41 + 5) (f * 12 + t) (M1 (42 + 1) (10 * t + 2)) 46 (f * 12 + t) = M1 (42 + 1) (10 * t + 2) from wrI, if_pos ⟨by omega, by omega⟩, h1 (42 + 1) (by decide)]
        rw [show 10 * (f * 12 + t - 12 * f) + 2 = 10 * t + 2 from by omega]
      · rw [show wr M1 (41 + 5) (f * 12 + t) (M1 (42 + 1) (10 * t + 2)) 46 j = M1 46 j from wrN hj, h2 j]
        by_cases c : 12 * f ≤ j ∧ j < 12 * f + t
        · rw [if_pos c, if_pos ⟨c.1, by omega⟩]
        · rw [if_neg c, if_neg (fun z => c ⟨z.1, by omega⟩)]
  exact loop 12 0 M (by omega) (by omega) (fun _ _ => rfl) (fun j => by rw [if_neg (fun z => by omega)]) 13 (by omega)
end
section
-- the class's public methods on the abstract state (the same S_ as the reference's)
theorem sp_addFirst {km g : Int} {M : gSt} {k : Int → gSt → Prop} (hk : 0 ≤ km ∧ km ≤ 699) (hn : 0 ≤ M 2 1 ∧ M 2 1 ≤ 11) (hf : 0 ≤ M 2 2 ∧ M 2 2 ≤ 4) (hK : cK M) (h : ∀ M', absC M' = (if absC M 0 1 < 4 then up1 (up1 (up1 (addT (absC M) km) 1 (10 * absC M 0 0 + 2) g) 1 (10 * absC M 0 0 + (6 + absC M 0 1)) 1000000) 0 1 (absC M 0 1 + 1) else up1 (addT (absC M) km) 1 (10 * absC M 0 0 + 2) g) → cK M' → k (M 2 1) M') : w_X0_addFirst 2 km g M k := by
  unfold w_X0_addFirst
  refine ⟨pl_2, sp_add hk hn hK (fun M1 e1 K1 => ?_)⟩
  refine sp_become pl_2 rfl ⟨by omega, by omega⟩ (by decide) ?_
  have r1 : wr M1 (2 + 1) (10 * M 2 1 + 2) g 2 2 = M 2 2 := by
    rw [wrO (by decide), ← rc01 M1, e1, ← rc01 M]
    simp [addT]
  rw [r1, wI (x := M 2 2) ⟨by omega, by omega⟩]
  rw [rc01, rc00] at h
  refine ⟨fun q => ?_, fun q => ?_⟩
  · rw [if_neg (by omega)] at h
    exact h _ (by rw [ac_3 (by omega) (by omega), e1]) (cK_wr K1 (Or.inr (by decide)))
  · rw [if_pos q] at h
    refine sp_become pl_2 rfl ⟨by omega, by omega⟩ ⟨by omega, by omega⟩ ?_
    intro M2 e2
    have r2 : wr (wr M1 (2 + 1) (10 * M 2 1 + 2) g) (2 + 1) (10 * M 2 1 + (6 + M 2 2)) 1000000 2 2 = M 2 2 := by
      rw [wrO (by decide)]; exact r1
    rw [r2] at e2
    subst e2
    refine h _ ?_ (cK_wr (cK_wr (cK_wr K1 (Or.inr (by decide))) (Or.inr (by decide))) (Or.inr (by decide)))
    rw [ac_2_2, ac_3 (by omega) (by omega), ac_3 (by omega) (by omega), e1]
theorem sC_thing {a1 a2 : Int} {M : gSt} {k : Int → gSt → Prop} (i1 : inI a1) (i2 : inI a2) (I : iN (absC M)) (hK : cK M) (h : ∀ M', absC M' = (S_thing a1 a2 (absC M)).2 → cK M' → k (S_thing a1 a2 (absC M)).1 M') : w_X8_thing a1 a2 M k := by
  unfold iN at I
  unfold w_X8_thing wB_X8_thing_17
  refine isKM i1 (fun h1 => z1 ?_) (fun h1 => z0 (errC (by decide) (by decide) hK (if_pos (fun q => h1 q.1)) h))
  refine sp_within i2 (by constructor <;> decide) (by constructor <;> decide) (fun h2 => z1n ?_) (fun h2 => z0n (errC (by decide) (by decide) hK (if_pos (fun q => h2 q.2)) h))
  have hc : ¬ ¬ ((0 ≤ a1 ∧ a1 ≤ 699) ∧ (0 ≤ a2 ∧ a2 ≤ 9999999)) := fun q => q ⟨h1, h2⟩
  have n0 := rc00 M
  have n1 := rc01 M
  unfold w_X0_room
  dsimp only
  rw [wI (x := 12 - M 2 1) ⟨by omega, by omega⟩]
  refine ⟨pl_2, fun h3 => ?_, fun h3 => errC (by decide) (by decide) hK ((if_neg hc).trans (if_pos (by omega))) h⟩
  have hS : S_thing a1 a2 (absC M) = _ := (if_neg hc).trans (if_neg (by omega))
  rw [hS, n0, n1] at h
  refine sp_addFirst h1 ⟨by omega, by omega⟩ ⟨by omega, by omega⟩ hK (fun M1 e1 K1 => h M1 ?_ K1)
  rw [e1, n0, n1]
theorem sp_above {x : Int} {M : gSt} {k : Int → gSt → Prop} (hx : inI x) (h : k (if x = 4 then 1 else if x = 5 then 2 else if x = 6 then 3 else 0) M) : w_X8_above x M k := by
  unfold w_X8_above
  rw [wI hx]
  refine ⟨fun q => ?_, fun q => ⟨fun q2 => ?_, fun q2 => ⟨⟨by omega, by omega⟩, ?_⟩⟩⟩
  · rw [if_neg (by omega), if_neg (by omega), if_neg (by omega)] at h; exact h
  · rw [if_neg (by omega), if_neg (by omega), if_neg (by omega)] at h; exact h
  · rcases (show x = 0 ∨ x = 1 ∨ x = 2 ∨ x = 3 ∨ x = 4 ∨ x = 5 ∨ x = 6 by omega) with rfl | rfl | rfl | rfl | rfl | rfl | rfl <;> exact h
theorem iu0 {a b v j : Int} {f : Nat} {M : gSt} {k : Int → gSt → Prop} (hv : 0 ≤ v ∧ v ≤ 3) (hj : 0 ≤ j ∧ j ≤ 3) (hb : 0 ≤ b ∧ b ≤ 6) (k1 : v = b ∨ b = 0 → k 1 M) (k0 : ¬ (v = b ∨ b = 0) → k 0 M) : wL_X8_isUnder_4 a b k (fun u2_4 M4 => wB_X8_isUnder_30 a b k u2_4 M4) (f + 2) v j M := by
  simp only [wL_X8_isUnder_4, wC_X8_isUnder_4, wB_X8_isUnder_30]
  rw [wI (x := v) ⟨by omega, by omega⟩, wI (x := b) ⟨by omega, by omega⟩, wI (x := j) ⟨by omega, by omega⟩]
  refine ⟨fun q => absurd q (by omega), fun _ => ⟨fun e => ⟨fun n => absurd e n, fun _ => k1 (Or.inl e)⟩, fun n => ⟨fun z => ⟨fun _ => k0 (by omega), fun e => absurd e n⟩, fun nz => sp_above ⟨by omega, by omega⟩ ?_⟩⟩⟩
  rw [if_neg (by omega), if_neg (by omega), if_neg (by omega), wI (x := j + 1) ⟨by omega, by omega⟩, wrap_0]
  exact ⟨fun q => absurd q (by omega), fun _ => ⟨fun e => ⟨fun n => absurd e n, fun _ => k1 (Or.inr e.symm)⟩, fun n0 => ⟨fun _ => ⟨fun _ => k0 (by omega), fun e => absurd e n0⟩, fun q => absurd rfl q⟩⟩⟩
theorem sp_isUnder {a b : Int} {M : gSt} {k : Int → gSt → Prop} (ha : 0 ≤ a ∧ a ≤ 6) (hb : 0 ≤ b ∧ b ≤ 6) (k1 : under a b → k 1 M) (k0 : ¬ under a b → k 0 M) : w_X8_isUnder a b M k := by
  unfold w_X8_isUnder
  unfold under at k1 k0
  by_cases h3 : a ≤ 3
  · exact ⟨2, iu0 (f := 0) ⟨ha.1, h3⟩ (by decide) hb (fun q => k1 (by omega)) (fun q => k0 (by omega))⟩
  · refine ⟨3, ?_⟩
    rw [wL_X8_isUnder_4]
    unfold wC_X8_isUnder_4
    dsimp only
    rw [wI (x := a) ⟨by omega, by omega⟩, wI (x := b) ⟨by omega, by omega⟩, wrap_0]
    refine ⟨fun q => absurd q (by decide), fun _ => ⟨fun e => ?_, fun n => ⟨fun z => absurd z (by omega), fun nz => sp_above ⟨by omega, by omega⟩ ?_⟩⟩⟩
    · unfold wB_X8_isUnder_30
      rw [wI (x := a) ⟨by omega, by omega⟩, wI (x := b) ⟨by omega, by omega⟩]
      exact ⟨fun n => absurd e n, fun _ => k1 (by omega)⟩
    · rcases (show a = 4 ∨ a = 5 ∨ a = 6 by omega) with rfl | rfl | rfl
      · exact iu0 (f := 0) (v := 1) (by decide) (by decide) hb (fun q => k1 (by omega)) (fun q => k0 (by omega))
      · exact iu0 (f := 0) (v := 2) (by decide) (by decide) hb (fun q => k1 (by omega)) (fun q => k0 (by omega))
      · exact iu0 (f := 0) (v := 3) (by decide) (by decide) hb (fun q => k1 (by omega)) (fun q => k0 (by omega))
theorem sC_as {a1 a2 : Int} {M : gSt} {k : Int → gSt → Prop} (i1 : inI a1) (i2 : inI a2) (I : iN (absC M)) (J : iB (absC M)) (hK : cK M) (h : ∀ M', absC M' = (S_as a1 a2 (absC M)).2 → cK M' → k (S_as a1 a2 (absC M)).1 M') : w_X8_as a1 a2 M k := by
  unfold iN at I
  have n0 := rc00 M
  unfold w_X8_as wB_X8_as_24
  refine sp_has0 pl_2 i1 ⟨by omega, by omega⟩ (fun h1 => z1 ?_) (fun h1 => z0 (errC (by decide) (by decide) hK (if_pos (fun q => h1 (by omega))) h))
  refine sp_within i2 (by constructor <;> decide) (by constructor <;> decide) (fun h2 => z1n ?_) (fun h2 => z0n (errC (by decide) (by decide) hK (if_pos (fun q => h2 q.2)) h))
  have hc : ¬ ¬ ((0 ≤ a1 ∧ a1 < absC M 0 0) ∧ (0 ≤ a2 ∧ a2 ≤ 6)) := fun q => q ⟨by omega, h2⟩
  have T := J a1 (by omega) (by omega)
  unfold thOk at T
  refine sp_number pl_2 rfl ⟨by omega, by omega⟩ (by decide) ?_
  rw [← rc1 M (i := 10 * a1 + 0) (by omega) (by omega)]
  refine sp_isUnder T.1 h2 (fun h3 => z1n ?_) (fun h3 => z0n (errC (by decide) (by decide) hK ((if_neg hc).trans (if_neg (by unfold under at h3; omega))) h))
  refine sp_number pl_2 rfl ⟨by omega, by omega⟩ (by decide) ?_
  have hS : S_as a1 a2 (absC M) = _ := (if_neg hc).trans (if_pos (by unfold under at h3; omega))
  rw [hS] at h
  have := h M rfl hK
  rw [rc1 M (by omega) (by omega)] at this
  exact this
theorem sC_set {a1 a2 a3 : Int} {M : gSt} {k : Int → gSt → Prop} (i1 : inI a1) (i2 : inI a2) (i3 : inI a3) (I : iN (absC M)) (J : iB (absC M)) (hK : cK M) (h : ∀ M', absC M' = (S_set a1 a2 a3 (absC M)).2 → cK M' → k (S_set a1 a2 a3 (absC M)).1 M') : w_X8_set a1 a2 a3 M k := by
  unfold iN at I
  have n0 := rc00 M
  unfold w_X8_set wB_X8_set_34
  refine sp_has0 pl_2 i1 ⟨by omega, by omega⟩ (fun h1 => z1 ?_) (fun h1 => z0 (errC (by decide) (by decide) hK (if_pos (fun q => h1 (by omega))) h))
  have T := J a1 (by omega) (by omega)
  unfold thOk at T
  have fin : ∀ s : Int, inI s → (0 ≤ a2 ∧ a2 ≤ 5 ∧ ¬ a2 = 2) → s = (if a2 = 0 then 6 else if a2 = 1 then 99 else absC M 1 (10 * a1 + 2)) → w_X8_within a3 0 s M (fun r28c M28 => (¬ wrap r28c = 0 → w_X0_number 2 a1 a2 M28 (fun r49c M49 => w_X0_become 2 a1 a2 a3 M49 (fun M64 => k r49c M64))) ∧ (wrap r28c = 0 → w_X8_refuse 1 M28 (fun r36c M36 => k r36c M36))) := by
    intro s hs h2 es
    refine sp_within i3 (by constructor <;> decide) hs (fun h3 => z1n ?_) (fun h3 => z0n (errC (by decide) (by decide) hK (if_pos (fun q => h3 (by rw [es]; exact q.2.2))) h))
    have hS : S_set a1 a2 a3 (absC M) = _ := if_neg (fun q => q ⟨by omega, h2, by rw [← es]; exact h3⟩)
    rw [hS, rc1 M (by omega) (by omega)] at h
    refine sp_number pl_2 rfl ⟨by omega, by omega⟩ ⟨by omega, by omega⟩ (sp_become pl_2 rfl ⟨by omega, by omega⟩ ⟨by omega, by omega⟩ ?_)
    exact h _ (ac_3 (by omega) (by omega)) (cK_wr hK (Or.inr (by decide)))
  unfold w_X0_mostSettable
  rw [wI i2]
  refine ⟨pl_2, fun n0 => ⟨fun n1 => ?_, fun e1 => fin 99 (by constructor <;> decide) (by omega) (by rw [if_neg n0, if_pos e1])⟩, fun e0 => fin 6 (by constructor <;> decide) (by omega) (by rw [if_pos e0])⟩
  refine sp_within i2 (by constructor <;> decide) (by constructor <;> decide) (fun h2 => z1 ?_) (fun h2 => z0 ?_)
  · refine sp_number pl_2 rfl ⟨by omega, by omega⟩ (by decide) ?_
    rw [← rc1 M (i := 10 * a1 + 2) (by omega) (by omega)]
    exact fin _ ⟨by omega, by omega⟩ (by omega) (by rw [if_neg n0, if_neg n1])
  · refine sp_within i3 (by constructor <;> decide) (by constructor <;> decide) (fun h3 => absurd h3 (by omega)) (fun h3 => z0n (errC (by decide) (by decide) hK (if_pos (fun q => h2 (by omega))) h))
theorem sC_crucible {a1 : Int} {M : gSt} {k : Int → gSt → Prop} (i1 : inI a1) (hK : cK M) (h : ∀ M', absC M' = (S_crucible a1 (absC M)).2 → cK M' → k (S_crucible a1 (absC M)).1 M') : w_X8_crucible a1 M k := by
  unfold w_X8_crucible
  refine sp_within i1 (by constructor <;> decide) (by constructor <;> decide) (fun h1 => z1n ?_) (fun h1 => z0n (errC (by decide) (by decide) hK (if_pos h1) h))
  have hS : S_crucible a1 (absC M) = _ := if_neg (fun q => q h1)
  rw [hS] at h
  refine sp_number pl_2 rfl (by decide) ⟨by omega, by omega⟩ ?_
  have := h M rfl hK
  rw [rc1 M (by omega) (by omega)] at this
  exact this
theorem sC_seed {a1 : Int} {M : gSt} {k : Int → gSt → Prop} (hK : cK M) (h : ∀ M', absC M' = (S_seed a1 (absC M)).2 → cK M' → k (S_seed a1 (absC M)).1 M') : w_X8_seed a1 M k := by
  unfold w_X8_seed w_X0_reseed
  refine ⟨pl_2, fun x e M1 e1 => ?_⟩
  subst e; subst e1
  have := h (wr M 2 4 a1) ac_2_4 (cK_wr hK (Or.inr (by decide)))
  simp only [S_seed] at this
  rw [rc08] at this
  exact this
theorem sC_claim {a1 a2 : Int} {M : gSt} {k : Int → gSt → Prop} (i1 : inI a1) (i2 : inI a2) (I : iN (absC M)) (hK : cK M) (h : ∀ M', absC M' = (S_claim a1 a2 (absC M)).2 → cK M' → k (S_claim a1 a2 (absC M)).1 M') : w_X8_claim a1 a2 M k := by
  unfold iN at I
  have n0 := rc00 M
  have n2 := rc02 M
  obtain ⟨w0, w2⟩ := cK_6 hK
  unfold w_X8_claim wB_X8_claim_24
  refine sp_has0 pl_2 i1 ⟨by omega, by omega⟩ (fun h1 => z1 ?_) (fun h1 => z0 (errC (by decide) (by decide) hK (if_pos (fun q => h1 (by omega))) h))
  refine sp_within i2 (by constructor <;> decide) (by constructor <;> decide) (fun h2 => z1n ?_) (fun h2 => z0n (errC (by decide) (by decide) hK (if_pos (fun q => h2 q.2)) h))
  have hc : ¬ ¬ ((0 ≤ a1 ∧ a1 < absC M 0 0) ∧ (1 ≤ a2 ∧ a2 ≤ 99999)) := fun q => q ⟨by omega, h2⟩
  refine sp_room4 pl_6 ?_
  rw [w2, wI (x := 10 - M 6 3) ⟨by omega, by omega⟩]
  refine ⟨fun h3 => ?_, fun h3 => errC (by decide) (by decide) hK ((if_neg hc).trans (if_pos (by omega))) h⟩
  have hS : S_claim a1 a2 (absC M) = _ := (if_neg hc).trans (if_neg (by omega))
  rw [hS, n2] at h
  refine sp_app2 (L := 10) pl_6 w0 w2 ⟨by omega, by omega⟩ (by decide) rfl (h _ ?_ (cK_wr (cK_wr (cK_wr hK (Or.inr (by decide))) (Or.inr (by decide))) (Or.inl (by decide))))
  rw [ac_6_3, ac_7 (by omega) (by omega), ac_7 (by omega) (by omega)]
theorem sp_isPaper {a b d : Int} {M : gSt} {k : Int → gSt → Prop} (ia : inI a) (ib : inI b) (id : inI d) (hn : 0 ≤ M 2 1 ∧ M 2 1 ≤ 12) (k1 : ((0 ≤ a ∧ a < M 2 1) ∧ (0 ≤ b ∧ b < M 2 1) ∧ ¬ a = b ∧ (1 ≤ d ∧ d ≤ 8)) → k 1 M) (k0 : ¬ ((0 ≤ a ∧ a < M 2 1) ∧ (0 ≤ b ∧ b < M 2 1) ∧ ¬ a = b ∧ (1 ≤ d ∧ d ≤ 8)) → k 0 M) : w_X8_isPaper a b d M k := by
  unfold w_X8_isPaper
  refine sp_has0 pl_2 ia hn (fun h1 => z1 ?_) (fun h1 => z0 (k0 (fun q => h1 q.1)))
  refine sp_has0 pl_2 ib hn (fun h2 => z1 ?_) (fun h2 => z0 (k0 (fun q => h2 q.2.1)))
  rw [wI ia, wI ib]
  refine ⟨fun e => k0 (fun q => q.2.2.1 e), fun e => ?_⟩
  exact sp_within id (by constructor <;> decide) (by constructor <;> decide) (fun h4 => z1 (k1 ⟨h1, h2, e, h4⟩)) (fun h4 => z0 (k0 (fun q => h4 q.2.2.2)))
theorem sC_paper {a1 a2 a3 : Int} {M : gSt} {k : Int → gSt → Prop} (i1 : inI a1) (i2 : inI a2) (i3 : inI a3) (I : iN (absC M)) (hK : cK M) (h : ∀ M', absC M' = (S_paper a1 a2 a3 (absC M)).2 → cK M' → k (S_paper a1 a2 a3 (absC M)).1 M') : w_X8_paper a1 a2 a3 M k := by
  unfold iN at I
  have n0 := rc00 M
  have n3 := rc03 M
  obtain ⟨w0, w2⟩ := cK_8 hK
  unfold w_X8_paper
  refine sp_isPaper i1 i2 i3 ⟨by omega, by omega⟩ (fun h1 => z1n ?_) (fun h1 => z0n (errC (by decide) (by decide) hK (if_pos (by rw [n0]; exact h1)) h))
  have hc : ¬ ¬ ((0 ≤ a1 ∧ a1 < absC M 0 0) ∧ (0 ≤ a2 ∧ a2 < absC M 0 0) ∧ ¬ a1 = a2 ∧ (1 ≤ a3 ∧ a3 ≤ 8)) := fun q => q (by rw [n0]; exact h1)
  refine sp_room4 pl_8 ?_
  rw [w2, wI (x := 6 - M 8 3) ⟨by omega, by omega⟩]
  refine ⟨fun h3 => ?_, fun h3 => errC (by decide) (by decide) hK ((if_neg hc).trans (if_pos (by omega))) h⟩
  have hS : S_paper a1 a2 a3 (absC M) = _ := (if_neg hc).trans (if_neg (by omega))
  rw [hS] at h
  simp only [add3] at h
  rw [n3] at h
  refine sp_app3 (L := 6) pl_8 w0 w2 ⟨by omega, by omega⟩ (by decide) rfl (h _ ?_ (cK_wr (cK_wr (cK_wr (cK_wr hK (Or.inr (by decide))) (Or.inr (by decide))) (Or.inr (by decide))) (Or.inl (by decide))))
  rw [ac_8_3, ac_9 (by omega) (by omega), ac_9 (by omega) (by omega), ac_9 (by omega) (by omega)]
theorem sC_weigh {a1 a2 a3 : Int} {M : gSt} {k : Int → gSt → Prop} (i1 : inI a1) (i2 : inI a2) (i3 : inI a3) (I : iN (absC M)) (hK : cK M) (h : ∀ M', absC M' = (S_weigh a1 a2 a3 (absC M)).2 → cK M' → k (S_weigh a1 a2 a3 (absC M)).1 M') : w_X8_weigh a1 a2 a3 M k := by
  unfold iN at I
  have n0 := rc00 M
  have n4 := rc04 M
  obtain ⟨w0, w2⟩ := cK_10 hK
  unfold w_X8_weigh wB_X8_weigh_34
  refine sp_has0 pl_2 i1 ⟨by omega, by omega⟩ (fun h1 => z1 ?_) (fun h1 => z0 (errC (by decide) (by decide) hK (if_pos (fun q => h1 (by omega))) h))
  refine sp_within i2 (by constructor <;> decide) (by constructor <;> decide) (fun h2 => z1 ?_) (fun h2 => z0 (errC (by decide) (by decide) hK (if_pos (fun q => h2 q.2.1)) h))
  refine sp_within i3 (by constructor <;> decide) (by constructor <;> decide) (fun h3 => z1n ?_) (fun h3 => z0n (errC (by decide) (by decide) hK (if_pos (fun q => h3 q.2.2)) h))
  have hc : ¬ ¬ ((0 ≤ a1 ∧ a1 < absC M 0 0) ∧ (0 ≤ a2 ∧ a2 ≤ 9999999) ∧ (0 ≤ a3 ∧ a3 ≤ 99)) := fun q => q ⟨by omega, h2, h3⟩
  refine sp_room4 pl_10 ?_
  rw [w2, wI (x := 8 - M 10 3) ⟨by omega, by omega⟩]
  refine ⟨fun h4 => ?_, fun h4 => errC (by decide) (by decide) hK ((if_neg hc).trans (if_pos (by omega))) h⟩
  have hS : S_weigh a1 a2 a3 (absC M) = _ := (if_neg hc).trans (if_neg (by omega))
  rw [hS] at h
  simp only [add3] at h
  rw [n4] at h
  refine sp_app3 (L := 8) pl_10 w0 w2 ⟨by omega, by omega⟩ (by decide) rfl (h _ ?_ (cK_wr (cK_wr (cK_wr (cK_wr hK (Or.inr (by decide))) (Or.inr (by decide))) (Or.inr (by decide))) (Or.inl (by decide))))
  rw [ac_10_3, ac_11 (by omega) (by omega), ac_11 (by omega) (by omega), ac_11 (by omega) (by omega)]
theorem sC_forget {a1 : Int} {M : gSt} {k : Int → gSt → Prop} (i1 : inI a1) (hK : cK M) (h : ∀ M', absC M' = (S_forget a1 (absC M)).2 → cK M' → k (S_forget a1 (absC M)).1 M') : w_X8_forget a1 M k := by
  unfold w_X8_forget wB_X8_forget_36
  refine sp_within i1 (by constructor <;> decide) (by constructor <;> decide) (fun h1 => z1n ?_) (fun h1 => z0n (errC (by decide) (by decide) hK (if_pos h1) h))
  have hS : S_forget a1 (absC M) = _ := if_neg (fun q => q h1)
  rw [hS] at h
  rw [wI i1]
  refine ⟨fun n => ?_, fun e => ?_⟩
  · have e : a1 = 1 := by omega
    subst e
    refine sp_size4 pl_10 (sp_clear pl_10 ?_)
    have := h (wr M 10 3 0) ac_10_3 (cK_wr hK (Or.inl (by decide)))
    rw [show (3 : Int) + 1 = 4 from rfl, rc04] at this
    exact this
  · subst e
    refine sp_size4 pl_8 (sp_clear pl_8 ?_)
    have := h (wr M 8 3 0) ac_8_3 (cK_wr hK (Or.inl (by decide)))
    rw [show (3 : Int) + 0 = 3 from rfl, rc03] at this
    exact this
theorem sC_tell {a1 : Int} {M : gSt} {k : Int → gSt → Prop} (I : iN (absC M)) (hK : cK M) (h : ∀ M', absC M' = (S_tell a1 (absC M)).2 → cK M' → k (S_tell a1 (absC M)).1 M') : w_X8_tell a1 M k := by
  unfold iN at I
  have n7 := rc07 M
  obtain ⟨w0, w2⟩ := cK_12 hK
  unfold w_X8_tell
  refine sp_room4 pl_12 ?_
  rw [w2, wI (x := 24 - M 12 3) ⟨by omega, by omega⟩]
  refine ⟨fun h3 => ?_, fun h3 => errC (S := S_tell a1 (absC M)) (by decide) (by decide) hK (if_pos (by omega)) h⟩
  have hS : S_tell a1 (absC M) = _ := if_neg (by omega)
  rw [hS, n7] at h
  refine sp_app1 (L := 24) pl_12 w0 w2 ⟨by omega, by omega⟩ (by decide) rfl (sp_size4 pl_12 ?_)
  rw [wrI]
  refine h _ ?_ (cK_wr (cK_wr hK (Or.inr (by decide))) (Or.inl (by decide)))
  rw [ac_12_3, ac_13 (by omega) (by omega)]
theorem tC_err {j : Int} {M : gSt} {k : Int → gSt → Prop} (h0 : 0 ≤ j) (h1 : j < 7) (hK : cK M) (h : ∀ r M', absC M' = absC M → cK M' → k r M') : w_X8_refuse j M k :=
  errC (S := S_err (absC M) j) h0 h1 hK rfl (fun M' e K => h _ M' e K)
theorem sC_told {a1 : Int} {M : gSt} {k : Int → gSt → Prop} (i1 : inI a1) (hK : cK M) (h : ∀ r M', absC M' = absC M → cK M' → k r M') : w_X8_told a1 M k := by
  unfold w_X8_told wB_X8_told_23
  rw [wI i1]
  exact ⟨fun q => tC_err (by decide) (by decide) hK h, fun q => ⟨fun q2 => tC_err (by decide) (by decide) hK h, fun q2 => ⟨⟨by omega, by omega⟩, h _ M rfl hK⟩⟩⟩
theorem sC_body {a1 : Int} {M : gSt} {k : Int → gSt → Prop} (i1 : inI a1) (hK : cK M) (h : ∀ r M', absC M' = absC M → cK M' → k r M') : w_X8_body a1 M k := by
  have I := hK.2
  obtain ⟨w0, w2⟩ := cK_53 hK
  unfold w_X8_body w_X6_trace
  refine ⟨pl_52, 53, rfl, ?_⟩
  refine sp_has4 pl_53 i1 ⟨by omega, by omega⟩ (fun h1 => z1 ?_) (fun h1 => z0 (tC_err (by decide) (by decide) hK h))
  refine ⟨pl_52, 53, rfl, ?_⟩
  have hl : (lenC (53 + 1) : Int) = 30 := rfl
  exact sp_at pl_53 w0 h1 (by decide) ⟨by omega, by decide⟩ (by omega) (by omega) (h _ M rfl hK)
theorem sumT_congr {f g : Int → Int} : ∀ n : Nat, (∀ j : Nat, j < n → f (j : Int) = g (j : Int)) → sumT f n = sumT g n
  | 0, _ => rfl
  | n + 1, h => by
    show sumT f n + f n = sumT g n + g n
    rw [sumT_congr n (fun j hj => h j (by omega)), h n (by omega)]
theorem sp_allGrams {M : gSt} {k : Int → gSt → Prop} (hn : 0 ≤ M 2 1 ∧ M 2 1 ≤ 12) (h : k (sumT (fun t => absC M 1 (10 * t + 2)) (M 2 1).toNat) M) : w_X0_allGrams 2 M k := by
  unfold w_X0_allGrams
  refine ⟨pl_2, 14, ?_⟩
  have loop : ∀ (d : Nat) (j : Int), (d : Int) = M 2 1 - j → 0 ≤ j → ∀ f : Nat, d < f → wL_X0_allGrams_4 2 k (fun u1_4 M4 => k u1_4 M4) f (sumT (fun t => absC M 1 (10 * t + 2)) j.toNat) j M := by
    intro d
    induction d with
    | zero =>
      intro j hd hj f hf
      obtain ⟨f, rfl⟩ : ∃ g, f = g + 1 := ⟨f - 1, by omega⟩
      simp only [wL_X0_allGrams_4, wC_X0_allGrams_4]
      rw [wI (x := j) ⟨by omega, by omega⟩, wI (x := M 2 1) ⟨by omega, by omega⟩]
      refine ⟨fun _ => ?_, fun h => absurd h (by omega)⟩
      rw [show j = M 2 1 from by omega]
      exact h
    | succ d ih =>
      intro j hd hj f hf
      obtain ⟨f, rfl⟩ : ∃ g, f = g + 1 := ⟨f - 1, by omega⟩
      simp only [wL_X0_allGrams_4, wC_X0_allGrams_4]
      rw [wI (x := j) ⟨by omega, by omega⟩, wI (x := M 2 1) ⟨by omega, by omega⟩]
      refine ⟨fun h => absurd h (by omega), fun _ => sp_number pl_2 rfl ⟨by omega, by omega⟩ (by decide) (fun x ex => ?_)⟩
      have e : x = sumT (fun t => absC M 1 (10 * t + 2)) (j + 1).toNat := by
        rw [ex, show (j + 1).toNat = j.toNat + 1 from by omega]
        show _ = sumT _ j.toNat + absC M 1 (10 * (j.toNat : Int) + 2)
        rw [show (j.toNat : Int) = j from by omega, rc1 M (by omega) (by omega)]
      rw [e]
      exact ih (j + 1) (by omega) (by omega) f (by omega)
  exact loop (M 2 1).toNat 0 (by omega) (by omega) 14 (by omega)
theorem sC_count {a1 : Int} {M : gSt} {k : Int → gSt → Prop} (i1 : inI a1) (I : iN (absC M)) (hK : cK M) (h : ∀ r M', (a1 = 9 ∨ r = (S_count a1 (absC M)).1) → absC M' = (S_count a1 (absC M)).2 → cK M' → k r M') : w_X8_count a1 M k := by
  unfold iN at I
  have n0 := rc00 M
  unfold w_X8_count w_X0_size w_X0_firstsThatCount w_X0_yearsSoFar w_X0_lastDraw w_X6_trace
  rw [wI i1]
  refine ⟨fun e => ⟨pl_2, ?_⟩, fun e => ⟨pl_2, ?_⟩, fun e => sp_size4 pl_6 ?_, fun e => sp_size4 pl_8 ?_, fun e => sp_size4 pl_10 ?_, fun e => sp_allGrams ⟨by omega, by omega⟩ ?_, fun e => ⟨pl_2, ?_⟩, fun e => sp_size4 pl_4 ?_, fun e => sp_size4 pl_12 ?_, fun e => ⟨pl_52, 53, rfl, sp_size4 pl_53 ?_⟩, fun e => ⟨pl_2, ?_⟩, fun e => ?_⟩
  · subst e; exact h _ M (Or.inr (rc00 M).symm) rfl hK
  · subst e; exact h _ M (Or.inr (rc01 M).symm) rfl hK
  · subst e; exact h _ M (Or.inr (rc02 M).symm) rfl hK
  · subst e; exact h _ M (Or.inr (rc03 M).symm) rfl hK
  · subst e; exact h _ M (Or.inr (rc04 M).symm) rfl hK
  · subst e; exact h _ M (Or.inr (by rw [← n0]; rfl)) rfl hK
  · subst e; exact h _ M (Or.inr (rc05 M).symm) rfl hK
  · subst e; exact h _ M (Or.inr (rc06 M).symm) rfl hK
  · subst e; exact h _ M (Or.inr (rc07 M).symm) rfl hK
  · subst e; exact h _ M (Or.inl rfl) rfl hK
  · subst e; exact h _ M (Or.inr (rc08 M).symm) rfl hK
  · obtain ⟨n0, n1, n2, n3, n4, n5, n6, n7, n8, n9, n10⟩ := e
    have e : S_count a1 (absC M) = S_err (absC M) 1 := by
      unfold S_count
      rw [if_neg n0, if_neg n1, if_neg n2, if_neg n3, if_neg n4, if_neg n5, if_neg n6, if_neg n7, if_neg n8, if_neg n9, if_neg n10]
    exact errC (S := S_err (absC M) 1) (by decide) (by decide) hK rfl (fun M' a K => h _ M' (Or.inr (by rw [e])) (by rw [e]; exact a) K)
theorem shC {q : Int} {M : gSt} {k : Option Nat → gSt → Prop} (iq : inI q) (k1 : ∀ o : Nat, (o : Int) = 56 + 2 * q → 0 ≤ q ∧ q < 4 → k (some o) M) (k0 : ¬ (0 ≤ q ∧ q < 4) → k none M) : w_X8_sheetAt q M k := by
  unfold w_X8_sheetAt
  rw [wI iq]
  refine ⟨fun h => k0 (by omega), fun h => ⟨fun h2 => k0 (by omega), fun h2 => ?_⟩⟩
  rcases (show q = 0 ∨ q = 1 ∨ q = 2 ∨ q = 3 by omega) with rfl | rfl | rfl | rfl
  · exact ⟨56, ⟨by omega, by omega⟩, rfl, k1 56 (by omega) (by omega)⟩
  · exact ⟨58, ⟨by omega, by omega⟩, rfl, k1 58 (by omega) (by omega)⟩
  · exact ⟨60, ⟨by omega, by omega⟩, rfl, k1 60 (by omega) (by omega)⟩
  · exact ⟨62, ⟨by omega, by omega⟩, rfl, k1 62 (by omega) (by omega)⟩
theorem pl_sh {o : Nat} (h : o = 56 ∨ o = 58 ∨ o = 60 ∨ o = 62) : isSheet o ∧ isAr (o + 1) ∧ lenC (o + 1) = 24 := by
  rcases h with rfl | rfl | rfl | rfl
  · exact ⟨pl_56, pl_57, rfl⟩
  · exact ⟨pl_58, pl_59, rfl⟩
  · exact ⟨pl_60, pl_61, rfl⟩
  · exact ⟨pl_62, pl_63, rfl⟩
/-- a row of numbers is filled with 0 -/
theorem sp_Jfill {p : Nat} {M : gSt} {k : gSt → Prop} (ha : isAr p) (hl : lenC p = 24) (h : ∀ M', (∀ o, o ≠ p → M' o = M o) → (∀ j, M' p j = if 0 ≤ j ∧ j < 24 then 0 else M p j) → k M') : w_J7_fill_53178 p 0 M k := by
  unfold w_J7_fill_53178
  refine ⟨ha, fun x ex => ⟨25, ?_⟩⟩
  rw [hl] at ex
  subst ex
  have loop : ∀ (d : Nat) (t : Int) (M1 : gSt), (d : Int) = 24 - t → 0 ≤ t → (∀ o, o ≠ p → M1 o = M o) → (∀ j, M1 p j = if 0 ≤ j ∧ j < t then 0 else M p j) → ∀ g : Nat, d < g → wL_J7_fill_53178_5 p 0 k (fun M5 => k M5) g t ((24 : Nat) : Int) M1 := by
    intro d
    induction d with
    | zero =>
      intro t M1 hd ht h1 h2 g hg
      obtain ⟨g, rfl⟩ : ∃ q, g = q + 1 := ⟨g - 1, by omega⟩
      have e : t = 24 := by omega
      subst e
      simp only [wL_J7_fill_53178_5, wC_J7_fill_53178_5]
      exact ⟨fun _ => h M1 h1 h2, fun q => absurd q (by decide)⟩
    | succ d ih =>
      intro t M1 hd ht h1 h2 g hg
      obtain ⟨g, rfl⟩ : ∃ q, g = q + 1 := ⟨g - 1, by omega⟩
      simp only [wL_J7_fill_53178_5, wC_J7_fill_53178_5]
      rw [wI (x := t) ⟨by omega, by omega⟩, show wrap ((24 : Nat) : Int) = 24 from by decide, hl]
      refine ⟨fun q => absurd q (by omega), fun _ => ⟨⟨by omega, by omega⟩, fun M2 e2 => ?_⟩⟩
      subst e2
      refine ih (t + 1) _ (by omega) (by omega) (fun o ho => by rw [wrO' ho]; exact h1 o ho) (fun j => ?_) g (by omega)
      by_cases hj : j = t
      · subst hj; rw [wrI, if_pos ⟨by omega, by omega⟩]
      · rw [wrN hj, h2 j]
        by_cases c : 0 ≤ j ∧ j < t
        · rw [if_pos c, if_pos ⟨c.1, by omega⟩]
        · rw [if_neg c, if_neg (fun z => c ⟨z.1, by omega⟩)]
  exact loop 24 0 M (by omega) (by omega) (fun _ _ => rfl) (fun j => by rw [if_neg (fun z => by omega)]) 25 (by omega)
end
