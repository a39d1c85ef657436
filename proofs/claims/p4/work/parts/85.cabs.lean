-- the class's memory as the same abstract state, and each of its writes
def absC (M : gSt) : gSt := fun c => match c with
  | 0 => fun j => if j = 0 then M 2 1 else if j = 1 then M 2 2 else if j = 2 then M 6 3 else if j = 3 then M 8 3 else if j = 4 then M 10 3 else if j = 5 then M 2 3 else if j = 6 then M 4 3 else if j = 7 then M 12 3 else if j = 8 then M 2 4 else if j = 9 then M 14 3 else if j = 10 then M 16 3 else 0
  | 1 => msk 130 (M 3)
  | 2 => msk 20 (M 7)
  | 3 => msk 18 (M 9)
  | 4 => msk 24 (M 11)
  | 5 => msk 60 (M 5)
  | 6 => msk 24 (M 13)
  | 7 => msk (M 14 3) (M 15)
  | 8 => msk (M 16 3) (M 17)
  | 10 => if M 0 8 = 0 then fun _ => 0 else fun j => if j = 0 then M 21 1 else if j = 1 then M 21 2 else if j = 2 then M 25 3 else if j = 3 then M 27 3 else if j = 4 then M 29 3 else if j = 5 then M 21 3 else if j = 6 then M 23 3 else if j = 7 then M 31 3 else if j = 8 then M 21 4 else if j = 9 then M 33 3 else if j = 10 then M 35 3 else 0
  | 11 => if M 0 8 = 0 then fun _ => 0 else msk 130 (M 22)
  | 12 => if M 0 8 = 0 then fun _ => 0 else msk 20 (M 26)
  | 13 => if M 0 8 = 0 then fun _ => 0 else msk 18 (M 28)
  | 14 => if M 0 8 = 0 then fun _ => 0 else msk 24 (M 30)
  | 15 => if M 0 8 = 0 then fun _ => 0 else msk 60 (M 24)
  | 16 => if M 0 8 = 0 then fun _ => 0 else msk 24 (M 32)
  | 17 => if M 0 8 = 0 then fun _ => 0 else msk (M 33 3) (M 34)
  | 18 => if M 0 8 = 0 then fun _ => 0 else msk (M 35 3) (M 36)
  | 21 => fun j => if j = 0 then M 0 8 else 0
  | 23 => fun j => if j = 0 then M 56 1 else if j = 1 then M 58 1 else if j = 2 then M 60 1 else if j = 3 then M 62 1 else 0
  | 24 => fun j => if j = 0 then M 56 2 else if j = 1 then M 58 2 else if j = 2 then M 60 2 else if j = 3 then M 62 2 else 0
  | 25 => fun j => if 0 ≤ j ∧ j < 24 then M 57 j else if 24 ≤ j ∧ j < 48 then M 59 (j - 24) else if 48 ≤ j ∧ j < 72 then M 61 (j - 48) else if 72 ≤ j ∧ j < 96 then M 63 (j - 72) else 0
  | _ => fun _ => 0
def cRows : List (Nat × Int × Int) := [(4, 1, 60), (6, 2, 10), (8, 3, 6), (10, 3, 8), (12, 1, 24), (14, 1, 60), (16, 1, 60), (23, 1, 60), (25, 2, 10), (27, 3, 6), (29, 3, 8), (31, 1, 24), (33, 1, 60), (35, 1, 60), (44, 1, 64), (48, 1, 60), (50, 1, 60), (53, 1, 30)]
def cK (M : gSt) : Prop := (∀ q ∈ cRows, M q.1 0 = q.2.1 ∧ M q.1 2 = q.2.2) ∧ 0 ≤ M 53 3 ∧ M 53 3 ≤ 30
theorem cK_wr {M : gSt} {o : Nat} {i x : Int} (h : cK M) (hi : i ≠ 0 ∧ i ≠ 2 ∨ (cRows.all fun q => q.1 != o) = true) (h53 : o = 53 → i ≠ 3 := by intro h; omega) : cK (wr M o i x) := by
  refine ⟨fun q hq => ?_, ?_⟩
  · obtain ⟨h1, h2⟩ := h.1 q hq
    rcases hi with hi | hi
    · by_cases e : q.1 = o
      · rw [e] at h1 h2 ⊢
        rw [wrN (by omega), wrN (by omega)]
        exact ⟨h1, h2⟩
      · rw [wrO e, wrO e]
        exact ⟨h1, h2⟩
    · have e : q.1 ≠ o := by
        have := List.all_eq_true.mp hi q hq
        simpa using this
      rw [wrO e, wrO e]
      exact ⟨h1, h2⟩
  · by_cases e : 53 = o
    · subst e
      rw [wrN (h53 rfl).symm]
      exact h.2
    · rw [wrO e]
      exact h.2
theorem cK_cpy {M : gSt} {a b : Nat} {i j n : Int} (h : cK M) (hi : (cRows.all fun q => q.1 != b) = true) : cK (cpy M a i b j n) := by
  have key : ∀ q ∈ cRows, q.1 ≠ b := fun q hq => by
    have := List.all_eq_true.mp hi q hq
    simpa using this
  refine ⟨fun q hq => ?_, ?_⟩
  · obtain ⟨h1, h2⟩ := h.1 q hq
    have e := key q hq
    unfold cpy
    rw [if_neg (fun z => e z.1), if_neg (fun z => e z.1)]
    exact ⟨h1, h2⟩
  · have e : (53 : Nat) ≠ b := key (53, 1, 30) (List.mem_of_getElem? (i := 17) rfl)
    unfold cpy
    rw [if_neg (fun z => e z.1)]
    exact h.2
theorem cK_eq {M M' : gSt} (h : cK M) (e : ∀ o, ¬ (18 ≤ o ∧ o ≤ 19) → ¬ (37 ≤ o ∧ o ≤ 43) → ¬ (45 ≤ o ∧ o ≤ 47) → o ≠ 64 → ∀ i, (i = 0 ∨ i = 2 ∨ (o = 53 ∧ i = 3)) → M' o i = M o i) : cK M' := by
  refine ⟨fun q hq => ?_, ?_⟩
  · have hb : ¬ (18 ≤ q.1 ∧ q.1 ≤ 19) ∧ ¬ (37 ≤ q.1 ∧ q.1 ≤ 43) ∧ ¬ (45 ≤ q.1 ∧ q.1 ≤ 47) ∧ q.1 ≠ 64 := by
      simp only [cRows, List.mem_cons, List.not_mem_nil, or_false] at hq
      rcases hq with rfl | rfl | rfl | rfl | rfl | rfl | rfl | rfl | rfl | rfl | rfl | rfl | rfl | rfl | rfl | rfl | rfl | rfl <;> decide
    rw [e q.1 hb.1 hb.2.1 hb.2.2.1 hb.2.2.2 0 (Or.inl rfl), e q.1 hb.1 hb.2.1 hb.2.2.1 hb.2.2.2 2 (Or.inr (Or.inl rfl))]
    exact h.1 q hq
  · rw [e 53 (by decide) (by decide) (by decide) (by decide) 3 (Or.inr (Or.inr ⟨rfl, rfl⟩))]
    exact h.2
theorem cK_4 {M : gSt} (h : cK M) : M 4 0 = 1 ∧ M 4 2 = 60 := h.1 (4, 1, 60) (List.mem_of_getElem? (i := 0) rfl)
theorem cK_6 {M : gSt} (h : cK M) : M 6 0 = 2 ∧ M 6 2 = 10 := h.1 (6, 2, 10) (List.mem_of_getElem? (i := 1) rfl)
theorem cK_8 {M : gSt} (h : cK M) : M 8 0 = 3 ∧ M 8 2 = 6 := h.1 (8, 3, 6) (List.mem_of_getElem? (i := 2) rfl)
theorem cK_10 {M : gSt} (h : cK M) : M 10 0 = 3 ∧ M 10 2 = 8 := h.1 (10, 3, 8) (List.mem_of_getElem? (i := 3) rfl)
theorem cK_12 {M : gSt} (h : cK M) : M 12 0 = 1 ∧ M 12 2 = 24 := h.1 (12, 1, 24) (List.mem_of_getElem? (i := 4) rfl)
theorem cK_14 {M : gSt} (h : cK M) : M 14 0 = 1 ∧ M 14 2 = 60 := h.1 (14, 1, 60) (List.mem_of_getElem? (i := 5) rfl)
theorem cK_16 {M : gSt} (h : cK M) : M 16 0 = 1 ∧ M 16 2 = 60 := h.1 (16, 1, 60) (List.mem_of_getElem? (i := 6) rfl)
theorem cK_23 {M : gSt} (h : cK M) : M 23 0 = 1 ∧ M 23 2 = 60 := h.1 (23, 1, 60) (List.mem_of_getElem? (i := 7) rfl)
theorem cK_25 {M : gSt} (h : cK M) : M 25 0 = 2 ∧ M 25 2 = 10 := h.1 (25, 2, 10) (List.mem_of_getElem? (i := 8) rfl)
theorem cK_27 {M : gSt} (h : cK M) : M 27 0 = 3 ∧ M 27 2 = 6 := h.1 (27, 3, 6) (List.mem_of_getElem? (i := 9) rfl)
theorem cK_29 {M : gSt} (h : cK M) : M 29 0 = 3 ∧ M 29 2 = 8 := h.1 (29, 3, 8) (List.mem_of_getElem? (i := 10) rfl)
theorem cK_31 {M : gSt} (h : cK M) : M 31 0 = 1 ∧ M 31 2 = 24 := h.1 (31, 1, 24) (List.mem_of_getElem? (i := 11) rfl)
theorem cK_33 {M : gSt} (h : cK M) : M 33 0 = 1 ∧ M 33 2 = 60 := h.1 (33, 1, 60) (List.mem_of_getElem? (i := 12) rfl)
theorem cK_35 {M : gSt} (h : cK M) : M 35 0 = 1 ∧ M 35 2 = 60 := h.1 (35, 1, 60) (List.mem_of_getElem? (i := 13) rfl)
theorem cK_44 {M : gSt} (h : cK M) : M 44 0 = 1 ∧ M 44 2 = 64 := h.1 (44, 1, 64) (List.mem_of_getElem? (i := 14) rfl)
theorem cK_48 {M : gSt} (h : cK M) : M 48 0 = 1 ∧ M 48 2 = 60 := h.1 (48, 1, 60) (List.mem_of_getElem? (i := 15) rfl)
theorem cK_50 {M : gSt} (h : cK M) : M 50 0 = 1 ∧ M 50 2 = 60 := h.1 (50, 1, 60) (List.mem_of_getElem? (i := 16) rfl)
theorem cK_53 {M : gSt} (h : cK M) : M 53 0 = 1 ∧ M 53 2 = 30 := h.1 (53, 1, 30) (List.mem_of_getElem? (i := 17) rfl)
/-- the places that a component reads -/
def dep (d : Nat) : List Nat := match d with
  | 0 => [2, 4, 6, 8, 10, 12, 14, 16]
  | 1 => [3]
  | 2 => [7]
  | 3 => [9]
  | 4 => [11]
  | 5 => [5]
  | 6 => [13]
  | 7 => [14, 15]
  | 8 => [16, 17]
  | 10 => [0, 21, 23, 25, 27, 29, 31, 33, 35]
  | 11 => [0, 22]
  | 12 => [0, 26]
  | 13 => [0, 28]
  | 14 => [0, 30]
  | 15 => [0, 24]
  | 16 => [0, 32]
  | 17 => [0, 33, 34]
  | 18 => [0, 35, 36]
  | 21 => [0]
  | 23 => [56, 58, 60, 62]
  | 24 => [56, 58, 60, 62]
  | 25 => [57, 59, 61, 63]
  | _ => []
theorem ac_cg {M M' : gSt} (d : Nat) (h : ∀ o ∈ dep d, M' o = M o) : absC M' d = absC M d := by
  match d with
  | 0 => simp only [absC, h 2 (by decide), h 4 (by decide), h 6 (by decide), h 8 (by decide), h 10 (by decide), h 12 (by decide), h 14 (by decide), h 16 (by decide)]
  | 1 => simp only [absC, h 3 (by decide)]
  | 2 => simp only [absC, h 7 (by decide)]
  | 3 => simp only [absC, h 9 (by decide)]
  | 4 => simp only [absC, h 11 (by decide)]
  | 5 => simp only [absC, h 5 (by decide)]
  | 6 => simp only [absC, h 13 (by decide)]
  | 7 => simp only [absC, h 14 (by decide), h 15 (by decide)]
  | 8 => simp only [absC, h 16 (by decide), h 17 (by decide)]
  | 9 => rfl
  | 10 => simp only [absC, h 0 (by decide), h 21 (by decide), h 23 (by decide), h 25 (by decide), h 27 (by decide), h 29 (by decide), h 31 (by decide), h 33 (by decide), h 35 (by decide)]
  | 11 => simp only [absC, h 0 (by decide), h 22 (by decide)]
  | 12 => simp only [absC, h 0 (by decide), h 26 (by decide)]
  | 13 => simp only [absC, h 0 (by decide), h 28 (by decide)]
  | 14 => simp only [absC, h 0 (by decide), h 30 (by decide)]
  | 15 => simp only [absC, h 0 (by decide), h 24 (by decide)]
  | 16 => simp only [absC, h 0 (by decide), h 32 (by decide)]
  | 17 => simp only [absC, h 0 (by decide), h 33 (by decide), h 34 (by decide)]
  | 18 => simp only [absC, h 0 (by decide), h 35 (by decide), h 36 (by decide)]
  | 19 => rfl
  | 20 => rfl
  | 21 => simp only [absC, h 0 (by decide)]
  | 22 => rfl
  | 23 => simp only [absC, h 56 (by decide), h 58 (by decide), h 60 (by decide), h 62 (by decide)]
  | 24 => simp only [absC, h 56 (by decide), h 58 (by decide), h 60 (by decide), h 62 (by decide)]
  | 25 => simp only [absC, h 57 (by decide), h 59 (by decide), h 61 (by decide), h 63 (by decide)]
  | n + 26 => rfl
theorem ac_w {M : gSt} {p c : Nat} {q x j : Int} (hp : ((List.range 26).all fun d => d == c || !(dep d).contains p) = true) (hc : ∀ i, absC (wr M p q x) c i = up1 (absC M) c j x c i) : absC (wr M p q x) = up1 (absC M) c j x := by
  funext d i
  by_cases hd : d = c
  · subst hd; exact hc i
  · rw [show up1 (absC M) c j x d i = absC M d i from wrO hd]
    refine congrFun (ac_cg d (fun o ho => wrO' (fun e => ?_))) i
    subst e
    by_cases h26 : d < 26
    · have := List.all_eq_true.mp hp d (List.mem_range.mpr h26)
      simp [hd] at this
      exact this ho
    · obtain ⟨n, rfl⟩ : ∃ n, d = n + 26 := ⟨d - 26, by omega⟩
      exact absurd ho (by simp [dep])
theorem ac_w2 {M : gSt} {p c : Nat} (c2 : Nat) {q x j : Int} (hp : ((List.range 26).all fun d => d == c || d == c2 || !(dep d).contains p) = true) (hc : ∀ i, absC (wr M p q x) c i = up1 (absC M) c j x c i) (h2 : ∀ i, absC (wr M p q x) c2 i = absC M c2 i) : absC (wr M p q x) = up1 (absC M) c j x := by
  funext d i
  by_cases hd : d = c
  · subst hd; exact hc i
  · rw [show up1 (absC M) c j x d i = absC M d i from wrO hd]
    by_cases hd2 : d = c2
    · subst hd2; exact h2 i
    refine congrFun (ac_cg d (fun o ho => wrO' (fun e => ?_))) i
    subst e
    by_cases h26 : d < 26
    · have := List.all_eq_true.mp hp d (List.mem_range.mpr h26)
      simp [hd, hd2] at this
      exact this ho
    · obtain ⟨n, rfl⟩ : ∃ n, d = n + 26 := ⟨d - 26, by omega⟩
      exact absurd ho (by simp [dep])
theorem ac_3 {M : gSt} {q x : Int} (h0 : 0 ≤ q) (h1 : q < 130) : absC (wr M 3 q x) = up1 (absC M) 1 q x := by
  refine ac_w (by decide) (fun i => ?_)
  by_cases hi : i = q
  · subst hi; simp [absC, up1, wrI, msk, h0, h1]
  · simp [absC, up1, wrN hi, msk]
theorem ac_7 {M : gSt} {q x : Int} (h0 : 0 ≤ q) (h1 : q < 20) : absC (wr M 7 q x) = up1 (absC M) 2 q x := by
  refine ac_w (by decide) (fun i => ?_)
  by_cases hi : i = q
  · subst hi; simp [absC, up1, wrI, msk, h0, h1]
  · simp [absC, up1, wrN hi, msk]
theorem ac_9 {M : gSt} {q x : Int} (h0 : 0 ≤ q) (h1 : q < 18) : absC (wr M 9 q x) = up1 (absC M) 3 q x := by
  refine ac_w (by decide) (fun i => ?_)
  by_cases hi : i = q
  · subst hi; simp [absC, up1, wrI, msk, h0, h1]
  · simp [absC, up1, wrN hi, msk]
theorem ac_11 {M : gSt} {q x : Int} (h0 : 0 ≤ q) (h1 : q < 24) : absC (wr M 11 q x) = up1 (absC M) 4 q x := by
  refine ac_w (by decide) (fun i => ?_)
  by_cases hi : i = q
  · subst hi; simp [absC, up1, wrI, msk, h0, h1]
  · simp [absC, up1, wrN hi, msk]
theorem ac_5 {M : gSt} {q x : Int} (h0 : 0 ≤ q) (h1 : q < 60) : absC (wr M 5 q x) = up1 (absC M) 5 q x := by
  refine ac_w (by decide) (fun i => ?_)
  by_cases hi : i = q
  · subst hi; simp [absC, up1, wrI, msk, h0, h1]
  · simp [absC, up1, wrN hi, msk]
theorem ac_13 {M : gSt} {q x : Int} (h0 : 0 ≤ q) (h1 : q < 24) : absC (wr M 13 q x) = up1 (absC M) 6 q x := by
  refine ac_w (by decide) (fun i => ?_)
  by_cases hi : i = q
  · subst hi; simp [absC, up1, wrI, msk, h0, h1]
  · simp [absC, up1, wrN hi, msk]
theorem ac_2_1 {M : gSt} {x : Int} : absC (wr M 2 1 x) = up1 (absC M) 0 0 x := by
  refine ac_w (by decide) (fun i => ?_)
  by_cases hi : i = 0
  · subst hi; simp [absC, up1, wr]
  · simp [absC, up1, wr, hi]
theorem ac_2_2 {M : gSt} {x : Int} : absC (wr M 2 2 x) = up1 (absC M) 0 1 x := by
  refine ac_w (by decide) (fun i => ?_)
  by_cases hi : i = 1
  · subst hi; simp [absC, up1, wr]
  · simp [absC, up1, wr, hi]
theorem ac_2_3 {M : gSt} {x : Int} : absC (wr M 2 3 x) = up1 (absC M) 0 5 x := by
  refine ac_w (by decide) (fun i => ?_)
  by_cases hi : i = 5
  · subst hi; simp [absC, up1, wr]
  · simp [absC, up1, wr, hi]
theorem ac_2_4 {M : gSt} {x : Int} : absC (wr M 2 4 x) = up1 (absC M) 0 8 x := by
  refine ac_w (by decide) (fun i => ?_)
  by_cases hi : i = 8
  · subst hi; simp [absC, up1, wr]
  · simp [absC, up1, wr, hi]
theorem ac_4_3 {M : gSt} {x : Int} : absC (wr M 4 3 x) = up1 (absC M) 0 6 x := by
  refine ac_w (by decide) (fun i => ?_)
  by_cases hi : i = 6
  · subst hi; simp [absC, up1, wr]
  · simp [absC, up1, wr, hi]
theorem ac_6_3 {M : gSt} {x : Int} : absC (wr M 6 3 x) = up1 (absC M) 0 2 x := by
  refine ac_w (by decide) (fun i => ?_)
  by_cases hi : i = 2
  · subst hi; simp [absC, up1, wr]
  · simp [absC, up1, wr, hi]
theorem ac_8_3 {M : gSt} {x : Int} : absC (wr M 8 3 x) = up1 (absC M) 0 3 x := by
  refine ac_w (by decide) (fun i => ?_)
  by_cases hi : i = 3
  · subst hi; simp [absC, up1, wr]
  · simp [absC, up1, wr, hi]
theorem ac_10_3 {M : gSt} {x : Int} : absC (wr M 10 3 x) = up1 (absC M) 0 4 x := by
  refine ac_w (by decide) (fun i => ?_)
  by_cases hi : i = 4
  · subst hi; simp [absC, up1, wr]
  · simp [absC, up1, wr, hi]
theorem ac_12_3 {M : gSt} {x : Int} : absC (wr M 12 3 x) = up1 (absC M) 0 7 x := by
  refine ac_w (by decide) (fun i => ?_)
  by_cases hi : i = 7
  · subst hi; simp [absC, up1, wr]
  · simp [absC, up1, wr, hi]
theorem ac_56_1 {M : gSt} {x : Int} : absC (wr M 56 1 x) = up1 (absC M) 23 0 x := by
  refine ac_w2 24 (by decide) (fun i => ?_) (fun i => by simp [absC, wr])
  by_cases hi : i = 0
  · subst hi; simp [absC, up1, wr]
  · simp [absC, up1, wr, hi]
theorem ac_58_1 {M : gSt} {x : Int} : absC (wr M 58 1 x) = up1 (absC M) 23 1 x := by
  refine ac_w2 24 (by decide) (fun i => ?_) (fun i => by simp [absC, wr])
  by_cases hi : i = 1
  · subst hi; simp [absC, up1, wr]
  · simp [absC, up1, wr, hi]
theorem ac_60_1 {M : gSt} {x : Int} : absC (wr M 60 1 x) = up1 (absC M) 23 2 x := by
  refine ac_w2 24 (by decide) (fun i => ?_) (fun i => by simp [absC, wr])
  by_cases hi : i = 2
  · subst hi; simp [absC, up1, wr]
  · simp [absC, up1, wr, hi]
theorem ac_62_1 {M : gSt} {x : Int} : absC (wr M 62 1 x) = up1 (absC M) 23 3 x := by
  refine ac_w2 24 (by decide) (fun i => ?_) (fun i => by simp [absC, wr])
  by_cases hi : i = 3
  · subst hi; simp [absC, up1, wr]
  · simp [absC, up1, wr, hi]
theorem ac_56_2 {M : gSt} {x : Int} : absC (wr M 56 2 x) = up1 (absC M) 24 0 x := by
  refine ac_w2 23 (by decide) (fun i => ?_) (fun i => by simp [absC, wr])
  by_cases hi : i = 0
  · subst hi; simp [absC, up1, wr]
  · simp [absC, up1, wr, hi]
theorem ac_58_2 {M : gSt} {x : Int} : absC (wr M 58 2 x) = up1 (absC M) 24 1 x := by
  refine ac_w2 23 (by decide) (fun i => ?_) (fun i => by simp [absC, wr])
  by_cases hi : i = 1
  · subst hi; simp [absC, up1, wr]
  · simp [absC, up1, wr, hi]
theorem ac_60_2 {M : gSt} {x : Int} : absC (wr M 60 2 x) = up1 (absC M) 24 2 x := by
  refine ac_w2 23 (by decide) (fun i => ?_) (fun i => by simp [absC, wr])
  by_cases hi : i = 2
  · subst hi; simp [absC, up1, wr]
  · simp [absC, up1, wr, hi]
theorem ac_62_2 {M : gSt} {x : Int} : absC (wr M 62 2 x) = up1 (absC M) 24 3 x := by
  refine ac_w2 23 (by decide) (fun i => ?_) (fun i => by simp [absC, wr])
  by_cases hi : i = 3
  · subst hi; simp [absC, up1, wr]
  · simp [absC, up1, wr, hi]
theorem r25_0 (M : gSt) {i : Int} (h : 0 ≤ i ∧ i < 24) : absC M 25 i = M 57 i := by
  simp only [absC]
  rw [if_pos h]
theorem ac_57 {M : gSt} {q x : Int} (h0 : 0 ≤ q) (h1 : q < 24) : absC (wr M 57 q x) = up1 (absC M) 25 (0 + q) x := by
  refine ac_w (by decide) (fun i => ?_)
  by_cases b : 0 ≤ i ∧ i < 24
  · rw [r25_0 _ b]
    by_cases hi : i = 0 + q
    · subst hi
      rw [show 0 + q = q from by omega, wrI]
      exact (wrI (M := absC M)).symm
    · rw [wrN (by omega)]
      unfold up1
      rw [wrN hi, r25_0 _ b]
  · unfold up1
    rw [wrN (by omega)]
    simp only [absC]
    repeat' split
    all_goals first | rfl | omega | exact wrO (by decide)
theorem r25_1 (M : gSt) {i : Int} (h : 24 ≤ i ∧ i < 48) : absC M 25 i = M 59 (i - 24) := by
  simp only [absC]
  rw [if_neg (by omega)]
  rw [if_pos h]
theorem ac_59 {M : gSt} {q x : Int} (h0 : 0 ≤ q) (h1 : q < 24) : absC (wr M 59 q x) = up1 (absC M) 25 (24 + q) x := by
  refine ac_w (by decide) (fun i => ?_)
  by_cases b : 24 ≤ i ∧ i < 48
  · rw [r25_1 _ b]
    by_cases hi : i = 24 + q
    · subst hi
      rw [show 24 + q - 24 = q from by omega, wrI]
      exact (wrI (M := absC M)).symm
    · rw [wrN (by omega)]
      unfold up1
      rw [wrN hi, r25_1 _ b]
  · unfold up1
    rw [wrN (by omega)]
    simp only [absC]
    repeat' split
    all_goals first | rfl | omega | exact wrO (by decide)
theorem r25_2 (M : gSt) {i : Int} (h : 48 ≤ i ∧ i < 72) : absC M 25 i = M 61 (i - 48) := by
  simp only [absC]
  rw [if_neg (by omega)]
  rw [if_neg (by omega)]
  rw [if_pos h]
theorem ac_61 {M : gSt} {q x : Int} (h0 : 0 ≤ q) (h1 : q < 24) : absC (wr M 61 q x) = up1 (absC M) 25 (48 + q) x := by
  refine ac_w (by decide) (fun i => ?_)
  by_cases b : 48 ≤ i ∧ i < 72
  · rw [r25_2 _ b]
    by_cases hi : i = 48 + q
    · subst hi
      rw [show 48 + q - 48 = q from by omega, wrI]
      exact (wrI (M := absC M)).symm
    · rw [wrN (by omega)]
      unfold up1
      rw [wrN hi, r25_2 _ b]
  · unfold up1
    rw [wrN (by omega)]
    simp only [absC]
    repeat' split
    all_goals first | rfl | omega | exact wrO (by decide)
theorem r25_3 (M : gSt) {i : Int} (h : 72 ≤ i ∧ i < 96) : absC M 25 i = M 63 (i - 72) := by
  simp only [absC]
  rw [if_neg (by omega)]
  rw [if_neg (by omega)]
  rw [if_neg (by omega)]
  rw [if_pos h]
theorem ac_63 {M : gSt} {q x : Int} (h0 : 0 ≤ q) (h1 : q < 24) : absC (wr M 63 q x) = up1 (absC M) 25 (72 + q) x := by
  refine ac_w (by decide) (fun i => ?_)
  by_cases b : 72 ≤ i ∧ i < 96
  · rw [r25_3 _ b]
    by_cases hi : i = 72 + q
    · subst hi
      rw [show 72 + q - 72 = q from by omega, wrI]
      exact (wrI (M := absC M)).symm
    · rw [wrN (by omega)]
      unfold up1
      rw [wrN hi, r25_3 _ b]
  · unfold up1
    rw [wrN (by omega)]
    simp only [absC]
    repeat' split
    all_goals first | rfl | omega | exact wrO (by decide)
def scr (o : Nat) : Prop := o = 18 ∨ o = 19 ∨ o = 37 ∨ o = 38 ∨ o = 39 ∨ o = 40 ∨ o = 41 ∨ o = 42 ∨ o = 43 ∨ o = 44 ∨ o = 45 ∨ o = 46 ∨ o = 47 ∨ o = 48 ∨ o = 49 ∨ o = 50 ∨ o = 51 ∨ o = 52 ∨ o = 53 ∨ o = 54 ∨ o = 64
theorem ac_eq {M M' : gSt} (h : ∀ o, ¬ scr o → M' o = M o) : absC M' = absC M := by
  funext d i
  have nn : ∀ o : Nat, o < 18 ∨ (19 < o ∧ o < 37) ∨ (54 < o ∧ o < 64) → M' o = M o := fun o ho => h o (by unfold scr; omega)
  refine congrFun (ac_cg d (fun o ho => nn o ?_)) i
  by_cases h26 : d < 26
  · have k : ((List.range 26).all fun d => (dep d).all fun o => decide (o < 18 ∨ (19 < o ∧ o < 37) ∨ (54 < o ∧ o < 64))) = true := by decide
    have := List.all_eq_true.mp (List.all_eq_true.mp k d (List.mem_range.mpr h26)) o ho
    exact of_decide_eq_true this
  · obtain ⟨n, rfl⟩ : ∃ n, d = n + 26 := ⟨d - 26, by omega⟩
    exact absurd ho (by simp [dep])
