-- a text set (or cleared): both sides; untell
def setX (u n : Int) (f : Int → Int) (σ : gSt) : gSt := fun c i => if c = 0 ∧ i = 9 + u then n else if (c : Int) = 7 + u then msk n f i else σ c i
theorem setX_0 {u : Int} {f g : Int → Int} {σ : gSt} : setX u 0 f σ = setX u 0 g σ := by
  funext c i
  unfold setX msk
  rw [if_neg (c := 0 ≤ i ∧ i < 0) (by omega), if_neg (c := 0 ≤ i ∧ i < 0) (by omega)]
theorem acX {M M' : gSt} {u : Int} {o : Nat} (hu : u = 0 ∨ u = 1) (ho : (o : Int) = 14 + 2 * u) (h : ∀ p, p ≠ o → p ≠ o + 1 → M' p = M p) : absC M' = setX u (M' o 3) (M' (o + 1)) (absC M) := by
  have e : ∀ p : Nat, p < 14 ∨ 17 < p → M' p = M p := fun p hp => h p (by omega) (by omega)
  funext c i
  rcases hu with rfl | rfl
  · have o14 : o = 14 := by omega
    subst o14
    have e2 := h 16 (by decide) (by decide)
    have e3 := h 17 (by decide) (by decide)
    unfold setX
    match c with
    | 0 =>
      by_cases hi : i = 9
      · subst hi; simp [absC]
      · simp [absC, e, e2, hi]
    | 1 => simp [absC, e]
    | 2 => simp [absC, e]
    | 3 => simp [absC, e]
    | 4 => simp [absC, e]
    | 5 => simp [absC, e]
    | 6 => simp [absC, e]
    | 7 => simp [absC]
    | 8 => simp [absC, e2, e3]
    | 9 => simp [absC]
    | 10 => simp [absC, e]
    | 11 => simp [absC, e]
    | 12 => simp [absC, e]
    | 13 => simp [absC, e]
    | 14 => simp [absC, e]
    | 15 => simp [absC, e]
    | 16 => simp [absC, e]
    | 17 => simp [absC, e]
    | 18 => simp [absC, e]
    | 19 => simp [absC]
    | 20 => simp [absC]
    | 21 => simp [absC, e]
    | 22 => simp [absC]
    | 23 => simp [absC, e]
    | 24 => simp [absC, e]
    | 25 => simp [absC, e]
    | n + 26 => rw [if_neg (by omega), if_neg (by omega)]; simp [absC]
  · have o14 : o = 16 := by omega
    subst o14
    have e2 := h 14 (by decide) (by decide)
    have e3 := h 15 (by decide) (by decide)
    unfold setX
    match c with
    | 0 =>
      by_cases hi : i = 10
      · subst hi; simp [absC]
      · simp [absC, e, e2, hi]
    | 1 => simp [absC, e]
    | 2 => simp [absC, e]
    | 3 => simp [absC, e]
    | 4 => simp [absC, e]
    | 5 => simp [absC, e]
    | 6 => simp [absC, e]
    | 7 => simp [absC, e2, e3]
    | 8 => simp [absC]
    | 9 => simp [absC]
    | 10 => simp [absC, e]
    | 11 => simp [absC, e]
    | 12 => simp [absC, e]
    | 13 => simp [absC, e]
    | 14 => simp [absC, e]
    | 15 => simp [absC, e]
    | 16 => simp [absC, e]
    | 17 => simp [absC, e]
    | 18 => simp [absC, e]
    | 19 => simp [absC]
    | 20 => simp [absC]
    | 21 => simp [absC, e]
    | 22 => simp [absC]
    | 23 => simp [absC, e]
    | 24 => simp [absC, e]
    | 25 => simp [absC, e]
    | n + 26 => rw [if_neg (by omega), if_neg (by omega)]; simp [absC]
theorem asX {s s' : Int → Int} {u : Int} (hu : u = 0 ∨ u = 1) (ht : txtOk s) (h : ∀ j, j < 202 + 125 * u ∨ 327 + 125 * u ≤ j → s' j = s j) : absS s' = setX u (s' (202 + 125 * u)) (fun i => encT u (s' (203 + 125 * u + 2 * i)) (s' (204 + 125 * u + 2 * i))) (absS s) := by
  obtain ⟨t1, t2⟩ := ht
  funext c i
  rcases hu with rfl | rfl
  · have e : ∀ j, j < 202 ∨ 327 ≤ j → s' j = s j := fun j hj => h j (by omega)
    unfold setX
    match c with
    | 0 =>
      simp only [absS]
      by_cases hi : i = 9
      · subst hi; simp
      · have e1 := e 327 (by omega)
        by_cases w : 0 ≤ i ∧ i < 9
        · have e2 := e i (by omega)
          simp [hi, w, e2]
        · simp [hi, w, e1]
    | 1 => simp only [absS]; rw [if_neg (by omega), if_neg (by omega)]; exact congrFun (msk_congr (fun j a b => e _ (by omega))) i
    | 2 => simp only [absS]; rw [if_neg (by omega), if_neg (by omega)]; exact congrFun (msk_congr (fun j a b => e _ (by omega))) i
    | 3 => simp only [absS]; rw [if_neg (by omega), if_neg (by omega)]; exact congrFun (msk_congr (fun j a b => e _ (by omega))) i
    | 4 => simp only [absS]; rw [if_neg (by omega), if_neg (by omega)]; exact congrFun (msk_congr (fun j a b => e _ (by omega))) i
    | 5 => simp only [absS]; rw [if_neg (by omega), if_neg (by omega)]; exact congrFun (msk_congr (fun j a b => e _ (by omega))) i
    | 6 => simp only [absS]; rw [if_neg (by omega), if_neg (by omega)]; exact congrFun (msk_congr (fun j a b => e _ (by omega))) i
    | 7 => simp only [absS]; rw [if_neg (by omega), if_pos (by omega)]; rfl
    | 8 =>
      simp only [absS]
      rw [if_neg (by omega), if_neg (by omega), e 327 (by omega)]
      refine congrFun (msk_congr (fun j a b => ?_)) i
      rw [e _ (by omega), e _ (by omega)]
    | n + 9 => rw [if_neg (by omega), if_neg (by omega)]; rfl
  · have e : ∀ j, j < 327 ∨ 452 ≤ j → s' j = s j := fun j hj => h j (by omega)
    unfold setX
    match c with
    | 0 =>
      simp only [absS]
      by_cases hi : i = 10
      · subst hi; simp
      · have e1 := e 202 (by omega)
        by_cases w : 0 ≤ i ∧ i < 9
        · have e2 := e i (by omega)
          simp [hi, w, e2]
        · simp [hi, w, e1]
    | 1 => simp only [absS]; rw [if_neg (by omega), if_neg (by omega)]; exact congrFun (msk_congr (fun j a b => e _ (by omega))) i
    | 2 => simp only [absS]; rw [if_neg (by omega), if_neg (by omega)]; exact congrFun (msk_congr (fun j a b => e _ (by omega))) i
    | 3 => simp only [absS]; rw [if_neg (by omega), if_neg (by omega)]; exact congrFun (msk_congr (fun j a b => e _ (by omega))) i
    | 4 => simp only [absS]; rw [if_neg (by omega), if_neg (by omega)]; exact congrFun (msk_congr (fun j a b => e _ (by omega))) i
    | 5 => simp only [absS]; rw [if_neg (by omega), if_neg (by omega)]; exact congrFun (msk_congr (fun j a b => e _ (by omega))) i
    | 6 => simp only [absS]; rw [if_neg (by omega), if_neg (by omega)]; exact congrFun (msk_congr (fun j a b => e _ (by omega))) i
    | 7 =>
      simp only [absS]
      rw [if_neg (by omega), if_neg (by omega), e 202 (by omega)]
      refine congrFun (msk_congr (fun j a b => ?_)) i
      rw [e _ (by omega), e _ (by omega)]
    | 8 => simp only [absS]; rw [if_neg (by omega), if_pos (by omega)]; rfl
    | n + 9 => rw [if_neg (by omega), if_neg (by omega)]; rfl
theorem arX {M M' : gSt} {u : Int} (hu : u = 0 ∨ u = 1) (ht : tOk (absR M)) (hs : ∀ o, o ≠ 1 → (o = 0 ∨ o = 2 ∨ o = 11 ∨ o = 12 ∨ o = 13) → ∀ j, (o = 0 → j = 3) → M' o j = M o j) (h : ∀ j, j < 202 + 125 * u ∨ 327 + 125 * u ≤ j → M' 1 j = M 1 j) : absR M' = setX u (M' 1 (202 + 125 * u)) (fun i => encT u (M' 1 (203 + 125 * u + 2 * i)) (M' 1 (204 + 125 * u + 2 * i))) (absR M) := by
  have g := asX hu (txtOk_abs ht) h
  have e0 := hs 0 (by decide) (by omega) 3 (fun _ => rfl)
  have e2 : M' 2 = M 2 := funext fun j => hs 2 (by decide) (by omega) j (fun z => absurd z (by decide))
  have e11 : M' 11 = M 11 := funext fun j => hs 11 (by decide) (by omega) j (fun z => absurd z (by decide))
  have e12 : M' 12 = M 12 := funext fun j => hs 12 (by decide) (by omega) j (fun z => absurd z (by decide))
  have e13 : M' 13 = M 13 := funext fun j => hs 13 (by decide) (by omega) j (fun z => absurd z (by decide))
  funext c i
  by_cases hc : c < 10
  · have a : absR M' c i = absS (M' 1) c i := by unfold absR; rw [if_pos hc]
    rw [a, g]
    unfold setX absR
    rw [if_pos hc]
  · unfold setX
    rw [if_neg (by omega), if_neg (by omega)]
    unfold absR
    rw [if_neg hc, if_neg hc, e0, e2, e11, e12, e13]
def S_untell (u : Int) (σ : gSt) : Int × gSt := if ¬ (0 ≤ u ∧ u ≤ 1) then S_err σ 1 else (if 0 < σ 0 (9 + u) then 1 else 0, setX u 0 (fun _ => 0) σ)
theorem rdL {M : gSt} {u : Int} (hu : u = 0 ∨ u = 1) : M 1 (202 + 125 * u) = absR M 0 (9 + u) := by
  rcases hu with rfl | rfl <;> simp [absR, absS]
/-- raw texts outside text u, image: untouched -/
def frX (u : Int) (M M' : gSt) : Prop := (∀ j, j < 202 + 125 * u ∨ 327 + 125 * u ≤ j → M' 1 j = M 1 j) ∧ M' 2 = M 2 ∧ M' 0 16 = M 0 16
theorem sR_untell {u : Int} {M : gSt} {k : Int → gSt → Prop} (i1 : inI u) (I : iN (absR M)) (h : ∀ M', absR M' = (S_untell u (absR M)).2 → (¬ (0 ≤ u ∧ u ≤ 1) → fr M M') → (0 ≤ u ∧ u ≤ 1 → frX u M M' ∧ M' 1 (202 + 125 * u) = 0) → k (S_untell u (absR M)).1 M') : w_Runtell u M k := by
  unfold w_Runtell w_RhasText wB_Runtell_28
  refine sp_Rin i1 (by constructor <;> decide) (by constructor <;> decide) (fun hu => z1n ?_) (fun hu => z0n (errL (by decide) (by decide) (if_pos hu) (fun M' e f => h M' e (fun _ => f) (fun z => absurd z hu))))
  have hu' : u = 0 ∨ u = 1 := by omega
  have hS : S_untell u (absR M) = _ := (if_neg (fun w => w hu))
  rw [hS] at h
  have fin : ∀ M' : gSt, M' = wr M 1 (202 + 125 * u) 0 → k (if 0 < absR M 0 (9 + u) then 1 else 0) M' := fun M' e => by
    subst e
    refine h _ ?_ (fun z => absurd hu z) (fun _ => ⟨⟨fun j hj => wrN (by omega), wrO' (by decide), wrO (by decide)⟩, wrI⟩)
    refine (arX (M := M) hu' (iN_t I) (fun o ho _ j _ => wrO ho) (fun j hj => wrN (by omega))).trans ?_
    rw [wrI]
    exact setX_0
  have l := rdL (M := M) hu'
  have l2 : 0 ≤ absR M 0 (9 + u) ∧ absR M 0 (9 + u) ≤ 60 := by
    unfold iN at I
    rcases hu' with rfl | rfl
    · show 0 ≤ absR M 0 9 ∧ absR M 0 9 ≤ 60; omega
    · show 0 ≤ absR M 0 10 ∧ absR M 0 10 ≤ 60; omega
  refine ⟨⟨by omega, by omega⟩, ?_⟩
  rw [l, wI (x := absR M 0 (9 + u)) ⟨by omega, by omega⟩]
  refine ⟨fun z => z0 ⟨⟨by omega, by omega⟩, fun M' e => ?_⟩, fun z => z1 ⟨⟨by omega, by omega⟩, fun M' e => ?_⟩⟩
  · have := fin M' e
    rw [if_neg (by omega)] at this
    exact this
  · have := fin M' e
    rw [if_pos (by omega)] at this
    exact this
theorem pl_tx {u : Int} {o : Nat} (hu : u = 0 ∨ u = 1) (ho : (o : Int) = 14 + 2 * u) : isRows o ∧ lenC (o + 1) = 60 := by
  rcases (show o = 14 ∨ o = 16 by omega) with rfl | rfl
  · exact ⟨pl_14, rfl⟩
  · exact ⟨pl_16, rfl⟩
theorem sp_textOf {u : Int} {M : gSt} {k : Option Nat → gSt → Prop} (hu : u = 0 ∨ u = 1) (h : ∀ o : Nat, (o : Int) = 14 + 2 * u → k (some o) M) : w_X1_textOf 1 u M k := by
  unfold w_X1_textOf
  refine ⟨pl_1, ?_⟩
  rcases hu with rfl | rfl
  · exact ⟨fun z => absurd wrap_0 z, fun _ => h 14 rfl⟩
  · exact ⟨fun _ => h 16 rfl, fun z => absurd z (by decide)⟩
theorem rcL {M : gSt} {u : Int} {o : Nat} (hu : u = 0 ∨ u = 1) (ho : (o : Int) = 14 + 2 * u) : absC M 0 (9 + u) = M o 3 := by
  rcases hu with rfl | rfl
  · have : o = 14 := by omega
    subst this; simp [absC]
  · have : o = 16 := by omega
    subst this; simp [absC]
theorem sC_untell {u : Int} {M : gSt} {k : Int → gSt → Prop} (i1 : inI u) (I : iN (absC M)) (hK : cK M) (h : ∀ M', absC M' = (S_untell u (absC M)).2 → cK M' → k (S_untell u (absC M)).1 M') : w_X8_untell u M k := by
  unfold w_X8_untell wB_X8_untell_34
  refine sp_within i1 (by constructor <;> decide) (by constructor <;> decide) (fun hu => z1n ?_) (fun hu => z0n (errC (by decide) (by decide) hK (if_pos hu) h))
  have hu' : u = 0 ∨ u = 1 := by omega
  have hS : S_untell u (absC M) = _ := (if_neg (fun w => w hu))
  rw [hS] at h
  refine sp_textOf hu' (fun o ho => ⟨o, rfl, ?_⟩)
  obtain ⟨p1, p2⟩ := pl_tx hu' ho
  have l := rcL (M := M) hu' ho
  have l2 : 0 ≤ absC M 0 (9 + u) ∧ absC M 0 (9 + u) ≤ 60 := by
    unfold iN at I
    rcases hu' with rfl | rfl
    · show 0 ≤ absC M 0 9 ∧ absC M 0 9 ≤ 60; omega
    · show 0 ≤ absC M 0 10 ∧ absC M 0 10 ≤ 60; omega
  have fin : k (if 0 < absC M 0 (9 + u) then 1 else 0) (wr M o 3 0) := by
    refine h _ ?_ (cK_wr hK (Or.inl (by decide)))
    refine (acX (M := M) hu' ho (fun p a b => wrO' a)).trans ?_
    rw [wrI]
    exact setX_0
  refine sp_size4 p1 ?_
  rw [wI (x := M o 3) ⟨by omega, by omega⟩]
  refine ⟨fun z => sp_textOf hu' (fun o2 ho2 => ⟨o2, rfl, ?_⟩), fun z => sp_textOf hu' (fun o2 ho2 => ⟨o2, rfl, ?_⟩)⟩
  · have : o2 = o := by omega
    subst this
    rw [if_neg (by omega)] at fin
    exact sp_clear p1 fin
  · have : o2 = o := by omega
    subst this
    rw [if_pos (by omega)] at fin
    exact sp_clear p1 fin
