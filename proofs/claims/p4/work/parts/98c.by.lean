-- histories: things as they were by a history; by, both sides
theorem lose_mono {x y e : Int} (he : 1 ≤ e ∧ e ≤ 8) (h0 : 0 ≤ x) (h : x ≤ y) : 0 ≤ x - x * e / 8 ∧ x - x * e / 8 ≤ y - y * e / 8 ∧ y - y * e / 8 ≤ y := by
  rcases (show e = 1 ∨ e = 2 ∨ e = 3 ∨ e = 4 ∨ e = 5 ∨ e = 6 ∨ e = 7 ∨ e = 8 by omega) with rfl | rfl | rfl | rfl | rfl | rfl | rfl | rfl <;> omega
theorem cap_rng {x y : Int} (hx : 0 ≤ x) (hy : 0 ≤ y) : 0 ≤ cap x y ∧ cap x y ≤ y := by unfold cap; split <;> omega
theorem thOk_move {a b e t : Int} {B : Int → Int} (hab : a ≠ b) (he : 1 ≤ e ∧ e ≤ 8) (TA : thOk B (10 * a)) (TB : thOk B (10 * b)) (T : thOk B (10 * t)) : thOk (moveB a b e B) (10 * t) := by
  by_cases tb : t = b
  · subst tb
    obtain ⟨b0, b1, b2, b3, b4, b5, b6, b7, b8, b9⟩ := TB
    obtain ⟨a0, a1, a2, a3, a4, a5, a6, a7, a8, a9⟩ := TA
    have pr := part_rng a2 he
    have p3 := part_rng (g := B (10 * a + 3)) (by omega) he
    have p4 := part_rng (g := B (10 * a + 4)) (by omega) he
    have p5 := part_rng (g := B (10 * a + 5)) (by omega) he
    have v : ∀ w, w = 0 ∨ w = 1 → moveB a t e B (10 * t + w) = B (10 * t + w) := fun w hw => by
      unfold moveB; rw [if_neg (by omega), if_neg (by omega), if_neg (by omega), if_neg (by omega)]
    have v2 : moveB a t e B (10 * t + 2) = fA a t e B := by unfold moveB; rw [if_neg (by omega), if_pos rfl]
    have vT : ∀ w, 3 ≤ w → w < 6 → moveB a t e B (10 * t + w) = fT a t e B w := fun w x y => by
      unfold moveB; rw [if_neg (by omega), if_neg (by omega), if_pos (by omega), show 10 * t + w - 10 * t = w from by omega]
    have vH : ∀ w, 6 ≤ w → w < 10 → moveB a t e B (10 * t + w) = fH a t e B w := fun w x y => by
      unfold moveB; rw [if_pos (by omega), show 10 * t + w - 10 * t = w from by omega]
    have rA : 0 ≤ fA a t e B ∧ fA a t e B ≤ 9999999 := by unfold fA; exact cap_rng (by omega) (by decide)
    have rT : ∀ w, 0 ≤ B (10 * t + w) → 0 ≤ B (10 * a + w) * e / 8 → 0 ≤ fT a t e B w ∧ fT a t e B w ≤ fA a t e B := fun w x y => by unfold fT; exact cap_rng (by omega) rA.1
    have rH : ∀ w, 0 ≤ B (10 * t + w) ∧ B (10 * t + w) ≤ 1000000 → 0 ≤ B (10 * a + w) ∧ B (10 * a + w) ≤ 1000000 → 0 ≤ fH a t e B w ∧ fH a t e B w ≤ 1000000 := fun w x y => by unfold fH; exact qz_rng pr.2.2.1 b2.1 y x
    unfold thOk
    rw [v 0 (Or.inl rfl), v 1 (Or.inr rfl), v2, vT 3 (by decide) (by decide), vT 4 (by decide) (by decide), vT 5 (by decide) (by decide), vH 6 (by decide) (by decide), vH 7 (by decide) (by decide), vH 8 (by decide) (by decide), vH 9 (by decide) (by decide)]
    exact ⟨b0, b1, rA, rT 3 b3.1 p3.2.2.1, rT 4 b4.1 p4.2.2.1, rT 5 b5.1 p5.2.2.1, rH 6 b6 a6, rH 7 b7 a7, rH 8 b8 a8, rH 9 b9 a9⟩
  · by_cases ta : t = a
    · subst ta
      obtain ⟨a0, a1, a2, a3, a4, a5, a6, a7, a8, a9⟩ := TA
      have v : ∀ w, 0 ≤ w → w ≤ 9 → w < 2 ∨ 6 ≤ w → moveB t b e B (10 * t + w) = B (10 * t + w) := fun w x y z => by
        unfold moveB; rw [if_neg (by omega), if_neg (by omega), if_neg (by omega), if_neg (by omega)]
      have vL : ∀ w, 2 ≤ w → w < 6 → moveB t b e B (10 * t + w) = B (10 * t + w) - B (10 * t + w) * e / 8 := fun w x y => by
        unfold moveB; rw [if_neg (by omega), if_neg (by omega), if_neg (by omega), if_pos (by omega), show 10 * t + w - 10 * t = w from by omega]; rfl
      have m2 := lose_mono he a2.1 (Int.le_refl _)
      have m3 := lose_mono he a3.1 a3.2
      have m4 := lose_mono he a4.1 a4.2
      have m5 := lose_mono he a5.1 a5.2
      unfold thOk
      rw [v 0 (by decide) (by decide) (by decide), v 1 (by decide) (by decide) (by decide), vL 2 (by decide) (by decide), vL 3 (by decide) (by decide), vL 4 (by decide) (by decide), vL 5 (by decide) (by decide), v 6 (by decide) (by decide) (by decide), v 7 (by decide) (by decide) (by decide), v 8 (by decide) (by decide) (by decide), v 9 (by decide) (by decide) (by decide)]
      exact ⟨a0, a1, ⟨m2.1, by omega⟩, ⟨m3.1, m3.2.1⟩, ⟨m4.1, m4.2.1⟩, ⟨m5.1, m5.2.1⟩, a6, a7, a8, a9⟩
    · refine thOk_congr (fun w x y => ?_) T
      unfold moveB
      rw [if_neg (by omega), if_neg (by omega), if_neg (by omega), if_neg (by omega)]
/-- papers as they can be -/
def iP (σ : gSt) : Prop := ∀ i, 0 ≤ i → i < σ 0 3 → (0 ≤ σ 3 (3 * i) ∧ σ 3 (3 * i) ≤ 11) ∧ (0 ≤ σ 3 (3 * i + 1) ∧ σ 3 (3 * i + 1) ≤ 11) ∧ σ 3 (3 * i) ≠ σ 3 (3 * i + 1) ∧ (1 ≤ σ 3 (3 * i + 2) ∧ σ 3 (3 * i + 2) ≤ 8)
def byB (σ : gSt) (h : Int) : Nat → Int → Int
  | 0 => σ 1
  | n + 1 => if wrap (xand (xshr h n) 1) = 1 then moveB (σ 3 (3 * n)) (σ 3 (3 * n + 1)) (σ 3 (3 * n + 2)) (byB σ h n) else byB σ h n
theorem byB_s {σ : gSt} {h : Int} {n : Nat} : byB σ h (n + 1) = if wrap (xand (xshr h n) 1) = 1 then moveB (σ 3 (3 * n)) (σ 3 (3 * n + 1)) (σ 3 (3 * n + 2)) (byB σ h n) else byB σ h n := rfl
theorem byB_ok {σ : gSt} {h : Int} (J : iB σ) (P : iP σ) : ∀ n : Nat, (n : Int) ≤ σ 0 3 → ∀ t, 0 ≤ t → t ≤ 12 → thOk (byB σ h n) (10 * t)
  | 0, _ => J
  | n + 1, hn => fun t x y => by
    have ih := byB_ok (h := h) J P n (by omega)
    obtain ⟨p0, p1, p2, p3⟩ := P n (by omega) (by omega)
    rw [byB_s]
    by_cases w : wrap (xand (xshr h n) 1) = 1
    · rw [if_pos w]; exact thOk_move p2 p3 (ih _ p0.1 (by omega)) (ih _ p1.1 (by omega)) (ih t x y)
    · rw [if_neg w]; exact ih t x y
theorem rc3 (M : gSt) {i : Int} (h0 : 0 ≤ i) (h1 : i < 18) : absC M 3 i = M 9 i := by simp [absC, msk, h0, h1]
/-- the class's second cells hold things by a history -/
def folC (B : Int → Int) (M0 M : gSt) : Prop := (∀ p, p ≠ 42 → p ≠ 43 → M p = M0 p) ∧ ∀ j, 0 ≤ j → j < 130 → M 43 j = B j
theorem c_follow {σ M : gSt} {h : Int} {k : gSt → Prop} (hA : absC M = σ) (hK : cK M) (I : iN σ) (J : iB σ) (P : iP σ) (hk : ∀ M', folC (byB σ h (σ 0 3).toNat) M M' → k M') : w_X2_follow 41 1 h M k := by
  unfold iN at I
  have n3 := rc03 M
  rw [hA] at n3
  have k8 := (cK_8 hK).1
  have lp : ∀ (r n : Nat) (M1 : gSt), n + r = (σ 0 3).toNat → folC (byB σ h n) M M1 → wL_X2_follow_19 41 1 h k (fun M19 => k M19) (r + 1) 8 n M1 := by
    intro r
    induction r with
    | zero =>
      intro n M1 hn f
      unfold wL_X2_follow_19 wC_X2_follow_19
      refine sp_size4 pl_8 ?_
      rw [f.1 8 (by decide) (by decide), ← n3, wI (x := σ 0 3) ⟨by omega, by omega⟩, wI (x := (n : Int)) ⟨by omega, by omega⟩]
      refine ⟨fun _ => hk M1 ?_, fun z => absurd z (by omega)⟩
      rw [show (σ 0 3).toNat = n from by omega]
      exact f
    | succ r ih =>
      intro n M1 hn f
      obtain ⟨p0, p1, p2, p3⟩ := P n (by omega) (by omega)
      have ok := byB_ok (h := h) J P n (by omega)
      have m8 := f.1 8 (by decide) (by decide)
      have m9 := f.1 9 (by decide) (by decide)
      have rd : ∀ j, 0 ≤ j → j ≤ 2 → ∀ kk : Int → gSt → Prop, kk (σ 3 (3 * n + j)) M1 → w_X4_at 8 n j M1 kk := fun j x y kk hkk => by
        refine sp_at (W := 3) pl_8 (by rw [m8]; exact k8) (by rw [m8, ← n3]; exact ⟨by omega, by omega⟩) ⟨x, by omega⟩ ⟨by rw [m8, ← n3]; omega, by decide⟩ (by show (n : Int) * 3 + j < 18; omega) (by decide) ?_
        rw [show (n : Int) * 3 + j = 3 * n + j from by omega]
        show kk (M1 9 (3 * n + j)) M1
        rw [m9, ← rc3 M (by omega) (by omega), hA]
        exact hkk
      have e1 : ((n + 1 : Nat) : Int) = (n : Int) + 1 := by omega
      have next : ∀ M2, folC (byB σ h (n + 1)) M M2 → wL_X2_follow_19 41 1 h k (fun M19 => k M19) (r + 1) 8 ((n : Int) + 1) M2 := fun M2 g => by
        have := ih (n + 1) M2 (by omega) g
        rw [e1] at this
        exact this
      unfold wL_X2_follow_19 wC_X2_follow_19 wB_X2_follow_66
      refine sp_size4 pl_8 ?_
      rw [m8, ← n3, wI (x := σ 0 3) ⟨by omega, by omega⟩, wI (x := (n : Int)) ⟨by omega, by omega⟩]
      refine ⟨fun z => absurd z (by omega), fun _ => ⟨fun w => next M1 (by rw [byB_s, if_neg w]; exact f), fun w => rd 0 (by decide) (by decide) _ (rd 1 (by decide) (by decide) _ (rd 2 (by decide) (by decide) _ ?_))⟩⟩
      rw [show 3 * (n : Int) + 0 = 3 * n from by omega]
      refine sp_pour pl_42 rfl ⟨by omega, by omega⟩ ⟨by omega, by omega⟩ p2 p3 (thOk_cg ⟨by omega, by omega⟩ f.2 (ok _ p0.1 (by omega))) (thOk_cg ⟨by omega, by omega⟩ f.2 (ok _ p1.1 (by omega))) (next _ ⟨fun p x y => ?_, fun j x y => ?_⟩)
      · funext i
        unfold mvC
        rw [if_neg y, f.1 p x y]
      · rw [byB_s, if_pos w]
        show mvC 43 _ _ _ M1 43 j = _
        unfold mvC
        rw [if_pos rfl]
        exact moveB_congr ⟨by omega, by omega⟩ ⟨by omega, by omega⟩ f.2 x y
  unfold w_X2_follow
  refine ⟨pl_41, pl_1, sp_copy0F pl_42 pl_2 rfl (by decide) (fun M1 f b1 b2 b3 b4 c => ⟨_, lp (σ 0 3).toNat 0 M1 (by omega) ⟨f, fun j x y => ?_⟩⟩)⟩
  show M1 43 j = σ 1 j
  rw [← hA, rc1 M x y]
  exact c j x y
theorem allP_rng {n : Int} (h : 0 ≤ n ∧ n ≤ 6) : 0 ≤ xshl 1 n - 1 ∧ xshl 1 n - 1 ≤ 63 := by
  rcases (show n = 0 ∨ n = 1 ∨ n = 2 ∨ n = 3 ∨ n = 4 ∨ n = 5 ∨ n = 6 by omega) with rfl | rfl | rfl | rfl | rfl | rfl | rfl <;> decide
def S_by (h t w : Int) (σ : gSt) : Int := if ¬ ((0 ≤ h ∧ h ≤ xshl 1 (σ 0 3) - 1) ∧ (0 ≤ t ∧ t < σ 0 0) ∧ (2 ≤ w ∧ w ≤ 9)) then -1000000001 else byB σ h (σ 0 3).toNat (10 * t + w)
theorem sC_by {h t w : Int} {M : gSt} {k : Int → gSt → Prop} (i0 : inI h) (i1 : inI t) (i2 : inI w) (I : iN (absC M)) (J : iB (absC M)) (P : iP (absC M)) (hK : cK M) (hh : ∀ r M', wrap r = wrap (S_by h t w (absC M)) → absC M' = absC M → cK M' → k r M') : w_X8_by h t w M k := by
  have I' := I
  unfold iN at I'
  have n0 := rc00 M
  have n3 := rc03 M
  have ar := allP_rng (n := absC M 0 3) ⟨by omega, by omega⟩
  unfold w_X8_by wB_X8_by_32 w_X8_isHistory w_X8_allPapers
  refine sp_size4 pl_8 ?_
  rw [← n3]
  refine sp_within i0 (by constructor <;> decide) ⟨by omega, by omega⟩ (fun h0 => ⟨Or.inr rfl, z1 ?_⟩) (fun h0 => ⟨Or.inl rfl, z0 (badC (S := S_by h t w (absC M)) hK (if_pos (by omega)) hh)⟩)
  refine sp_has0 pl_2 i1 ⟨by omega, by omega⟩ (fun h1 => z1 ?_) (fun h1 => z0 (badC (S := S_by h t w (absC M)) hK (if_pos (by omega)) hh))
  refine sp_within i2 (by constructor <;> decide) (by constructor <;> decide) (fun h2 => z1n ?_) (fun h2 => z0n (badC (S := S_by h t w (absC M)) hK (if_pos (by omega)) hh))
  unfold S_by at hh
  rw [if_neg (by omega)] at hh
  refine c_follow rfl hK I J P (fun M1 f => ?_)
  unfold w_X2_numberBehind
  refine ⟨pl_41, sp_number pl_42 rfl ⟨by omega, by omega⟩ ⟨by omega, by omega⟩ (hh _ M1 ?_ ?_ ?_)⟩
  · show wrap (M1 43 (10 * t + w)) = _
    rw [f.2 _ (by omega) (by omega)]
  · exact ac_eq (fun o ho => f.1 o (by unfold scr at ho; omega) (by unfold scr at ho; omega))
  · exact cK_eq hK (fun o a b c d i hi => by rw [f.1 o (by omega) (by omega)])
-- the reference
def cellS (σ : gSt) (B : Int → Int) : gSt := fun p i => if p = 1 then B i else σ p i
theorem r_goes {σ M : gSt} {h : Int} {k : gSt → Prop} (hA : absR M = σ) (I : iN σ) (J : iB σ) (P : iP σ) (hk : ∀ M', absR M' = cellS σ (byB σ h (σ 0 3).toNat) → onlyS M M' → fr M M' → k M') : w_RgoesBy h M k := by
  have hx := iN_t I
  unfold iN at I
  have lp : ∀ (r n : Nat) (M1 : gSt), n + r = (σ 0 3).toNat → absR M1 = cellS σ (byB σ h n) → onlyS M M1 → fr M M1 → wL_RgoesBy_2 h k (fun M2 => k M2) (r + 1) n M1 := by
    intro r
    induction r with
    | zero =>
      intro n M1 hn A O F
      unfold wL_RgoesBy_2 wC_RgoesBy_2
      rw [rdS M1 3 (by decide) (by decide), A, show cellS σ (byB σ h n) 0 3 = σ 0 3 from rfl, wI (x := σ 0 3) ⟨by omega, by omega⟩, wI (x := (n : Int)) ⟨by omega, by omega⟩]
      refine ⟨fun _ => hk M1 ?_ O F, fun z => absurd z (by omega)⟩
      rw [show (σ 0 3).toNat = n from by omega]
      exact A
    | succ r ih =>
      intro n M1 hn A O F
      obtain ⟨p0, p1, p2, p3⟩ := P n (by omega) (by omega)
      have ok := byB_ok (h := h) J P n (by omega)
      have rd : ∀ j, 0 ≤ j → j < 18 → M1 1 (160 + j) = σ 3 j := fun j x y => by
        have : M1 1 (160 + j) = absR M1 3 j := by simp [absR, absS, msk, x, y]
        rw [this, A]
        rfl
      have e1 : ((n + 1 : Nat) : Int) = (n : Int) + 1 := by omega
      have next : ∀ M2, absR M2 = cellS σ (byB σ h (n + 1)) → onlyS M M2 → fr M M2 → wL_RgoesBy_2 h k (fun M2 => k M2) (r + 1) ((n : Int) + 1) M2 := fun M2 g o f => by
        have := ih (n + 1) M2 (by omega) g o f
        rw [e1] at this
        exact this
      unfold wL_RgoesBy_2 wC_RgoesBy_2 wB_RgoesBy_65
      rw [rdS M1 3 (by decide) (by decide), A, show cellS σ (byB σ h n) 0 3 = σ 0 3 from rfl, wI (x := σ 0 3) ⟨by omega, by omega⟩, wI (x := (n : Int)) ⟨by omega, by omega⟩]
      refine ⟨fun z => absurd z (by omega), fun _ => ⟨fun w => next M1 (by rw [byB_s, if_neg w]; exact A) O F, fun w => ⟨⟨by omega, by omega⟩, ⟨by omega, by omega⟩, ⟨by omega, by omega⟩, ?_⟩⟩⟩
      rw [show 160 + 3 * (n : Int) + 1 = 160 + (3 * n + 1) from by omega, show 160 + 3 * (n : Int) + 2 = 160 + (3 * n + 2) from by omega, rd _ (by omega) (by omega), rd _ (by omega) (by omega), rd _ (by omega) (by omega)]
      refine sp_Rmoves ⟨by omega, by omega⟩ ⟨by omega, by omega⟩ p2 p3 (by rw [A]; exact hx) (by rw [A]; exact ok _ p0.1 (by omega)) (by rw [A]; exact ok _ p1.1 (by omega)) (fun M2 A2 O2 F2 => next M2 ?_ (onlyS_trans O O2) (fr_trans F F2))
      rw [A2, A, byB_s, if_pos w]
      funext p i
      unfold mvC cellS
      by_cases p1 : p = 1
      · rw [if_pos p1, if_pos p1]; rfl
      · rw [if_neg p1, if_neg p1, if_neg p1]
  unfold w_RgoesBy
  refine ⟨_, lp (σ 0 3).toNat 0 M (by omega) ?_ onlyS_rf fr_rf⟩
  rw [hA]
  funext p i
  unfold cellS
  by_cases p1 : p = 1
  · rw [if_pos p1, p1]; rfl
  · rw [if_neg p1]
