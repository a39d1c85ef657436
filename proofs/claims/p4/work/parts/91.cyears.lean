-- the class's years
theorem up1_comm {σ : gSt} {c c' : Nat} {i i' x x' : Int} (h : ¬ (c = c' ∧ i = i')) : up1 (up1 σ c i x) c' i' x' = up1 (up1 σ c' i' x') c i x := by
  funext p q
  simp only [up1, wr]
  repeat' split
  all_goals first | rfl | omega
theorem loseT_up {τ : gSt} {t x : Int} : loseT (up1 τ 0 5 x) t = up1 (loseT τ t) 0 5 x := by
  funext p q
  simp only [loseT, up1, wr]
  repeat' split
  all_goals first | rfl | omega
theorem yearT_up {σ : gSt} {x : Int} : ∀ n : Nat, yearT (up1 σ 0 5 x) n = up1 (yearT σ n) 0 5 x
  | 0 => rfl
  | n + 1 => by
    have ih := @yearT_up σ x n
    simp only [yearT]
    rw [ih]
    have e8 : up1 (yearT σ n) 0 5 x 0 8 = yearT σ n 0 8 := up1_n (by decide)
    have e1 : up1 (yearT σ n) 0 5 x 1 (10 * (n : Int) + 1) = yearT σ n 1 (10 * (n : Int) + 1) := up1_o (by decide)
    rw [e8, e1, up1_comm (c := 0) (i := 5) (c' := 0) (i' := 8) (by decide)]
    split
    · rw [loseT_up]
    · rfl
theorem setW4 {σ : gSt} {c : Nat} {t : Int} {f : Int → Int} : setW σ c t 2 6 f = wr (wr (wr (wr σ c (10 * t + 2) (f 2)) c (10 * t + 3) (f 3)) c (10 * t + 4) (f 4)) c (10 * t + 5) (f 5) := by
  have a := @setW_s σ c t 2 2 f (by decide)
  have b := @setW_s σ c t 2 3 f (by decide)
  have d := @setW_s σ c t 2 4 f (by decide)
  have e := @setW_s σ c t 2 5 f (by decide)
  rw [setW_0] at a
  rw [show (6 : Int) = 5 + 1 from rfl, ← e, show (5 : Int) = 4 + 1 from rfl, ← d, show (4 : Int) = 3 + 1 from rfl, ← b, show (3 : Int) = 2 + 1 from rfl, ← a]
theorem V_lose {o : Nat} {V : gSt → gSt} (hV : isV o V) {M : gSt} {t : Int} (ht : 0 ≤ t ∧ t ≤ 12) : V (setW M (o + 1) t 2 6 (fL t 1 100 (M (o + 1)))) = loseT (V M) t := by
  obtain ⟨-, -, h3, -, -, -, h7⟩ := hV
  have rd : ∀ w, 0 ≤ w → w ≤ 9 → M (o + 1) (10 * t + w) = V M 1 (10 * t + w) := fun w a b => (h7 M _ (by omega) (by omega)).symm
  rw [setW4, h3 _ _ _ (by omega) (by omega), h3 _ _ _ (by omega) (by omega), h3 _ _ _ (by omega) (by omega), h3 _ _ _ (by omega) (by omega)]
  unfold fL
  rw [rd 2 (by decide) (by decide), rd 3 (by decide) (by decide), rd 4 (by decide) (by decide), rd 5 (by decide) (by decide)]
  funext p i
  simp only [up1, wr, loseT, Int.mul_one]
  by_cases hp : p = 1
  · subst hp
    simp only [true_and]
    by_cases c5 : i = 10 * t + 5
    · rw [if_pos c5, if_pos (by omega), c5]
    · rw [if_neg c5]
      by_cases c4 : i = 10 * t + 4
      · rw [if_pos c4, if_pos (by omega), c4]
      · rw [if_neg c4]
        by_cases c3 : i = 10 * t + 3
        · rw [if_pos c3, if_pos (by omega), c3]
        · rw [if_neg c3]
          by_cases c2 : i = 10 * t + 2
          · rw [if_pos c2, if_pos (by omega), c2]
          · rw [if_neg c2, if_neg (by omega)]
  · simp [hp]
/-- only a Bronze at o was written, its years and draws -/
def frB (o : Nat) (M M' : gSt) : Prop := ∀ p i, p ≠ o + 1 → ¬ (p = o ∧ (i = 3 ∨ i = 4)) → M' p i = M p i
theorem frB_rf {o : Nat} {M : gSt} : frB o M M := fun _ _ _ _ => rfl
theorem frB_trans {o : Nat} {M M' M'' : gSt} (h : frB o M M') (h2 : frB o M' M'') : frB o M M'' := fun p i a b => (h2 p i a b).trans (h p i a b)
theorem sp_passYear {o : Nat} {V : gSt → gSt} {M : gSt} {k : gSt → Prop} (hb : isBronze o) (hl : lenC (o + 1) = 130) (hV : isV o V) (hn : 0 ≤ V M 0 0 ∧ V M 0 0 ≤ 12) (J : iB (V M)) (h : ∀ M', V M' = yearσ (V M) → frB o M M' → k M') : w_X0_passYear o M k := by
  obtain ⟨h1, h2, h3, h4, h5, h6, h7⟩ := id hV
  unfold w_X0_passYear
  refine ⟨hb, fun M1 e1 => ⟨14, ?_⟩⟩
  have v1 : V M1 = up1 (V M) 0 5 (V M 0 5 + 1) := by rw [e1, h2, h6]
  have J1 : iB (V M1) := by
    intro t a b
    exact thOk_congr (fun w _ _ => by rw [v1]; exact up1_o (by decide)) (J t a b)
  have f1 : frB o M M1 := fun p i a b => by
    rw [e1]
    unfold wr
    rw [if_neg (fun z => b ⟨z.1, Or.inl z.2⟩)]
  have loop : ∀ (d : Nat) (j : Int) (M2 : gSt), (d : Int) = V M 0 0 - j → 0 ≤ j → V M2 = yearT (V M1) j.toNat → frB o M M2 → ∀ f : Nat, d < f → wL_X0_passYear_12 o k (fun M12 => k M12) f j M2 := by
    intro d
    induction d with
    | zero =>
      intro j M2 hd hj hA hF f hf
      obtain ⟨f, rfl⟩ : ∃ g, f = g + 1 := ⟨f - 1, by omega⟩
      obtain ⟨b, e⟩ := yearT_keep J1 j.toNat
      have e00 : M2 o 1 = V M 0 0 := by rw [← h4 M2, hA, e 0 0 ⟨by decide, by decide⟩, v1]; exact up1_n (by decide)
      simp only [wL_X0_passYear_12, wC_X0_passYear_12]
      rw [e00, wI (x := j) ⟨by omega, by omega⟩, wI (x := V M 0 0) ⟨by omega, by omega⟩]
      refine ⟨fun _ => h M2 ?_ hF, fun z => absurd z (by omega)⟩
      rw [hA, v1, show j = V M 0 0 from by omega, yearT_up]
      rfl
    | succ d ih =>
      intro j M2 hd hj hA hF f hf
      obtain ⟨f, rfl⟩ : ∃ g, f = g + 1 := ⟨f - 1, by omega⟩
      obtain ⟨b, e⟩ := yearT_keep J1 j.toNat
      have e00 : M2 o 1 = V M 0 0 := by rw [← h4 M2, hA, e 0 0 ⟨by decide, by decide⟩, v1]; exact up1_n (by decide)
      simp only [wL_X0_passYear_12, wC_X0_passYear_12, wB_X0_passYear_62]
      rw [e00, wI (x := j) ⟨by omega, by omega⟩, wI (x := V M 0 0) ⟨by omega, by omega⟩]
      refine ⟨fun z => absurd z (by omega), fun _ M3 e3 => ?_⟩
      have ez : M2 o 4 = yearT (V M1) j.toNat 0 8 := by rw [← h5 M2, hA]
      have v3 : V M3 = up1 (yearT (V M1) j.toNat) 0 8 (nextZ (yearT (V M1) j.toNat 0 8)) := by rw [e3, h1, hA, ez]; rfl
      have z3 : M3 o 4 = nextZ (yearT (V M1) j.toNat 0 8) := by rw [e3, wrI, ez]; rfl
      have f3 : frB o M2 M3 := fun p i a b => by
        rw [e3]
        unfold wr
        rw [if_neg (fun z => b ⟨z.1, Or.inr z.2⟩)]
      have T := b j hj (by omega)
      have m : M3 (o + 1) (10 * j + 1) = yearT (V M1) j.toNat 1 (10 * j + 1) := by
        rw [← h7 M3 _ (by omega) (by omega), v3]
        exact up1_o (by decide)
      have mr : 0 ≤ yearT (V M1) j.toNat 1 (10 * j + 1) ∧ yearT (V M1) j.toNat 1 (10 * j + 1) ≤ 99 := by unfold thOk at T; exact T.2.1
      have xr := xushr8 (nextZ (yearT (V M1) j.toNat 0 8))
      refine sp_number hb hl ⟨by omega, by omega⟩ (by decide) ?_
      rw [m, z3, wI (x := xushr (nextZ (yearT (V M1) j.toNat 0 8)) 8) ⟨by omega, by omega⟩, tmod_pos xr.1, wI (x := yearT (V M1) j.toNat 1 (10 * j + 1)) ⟨by omega, by omega⟩, wI (x := xushr (nextZ (yearT (V M1) j.toNat 0 8)) 8 % 100) ⟨by omega, by omega⟩]
      have en : (j + 1).toNat = j.toNat + 1 := by omega
      have ej : ((j.toNat : Nat) : Int) = j := by omega
      refine ⟨fun q => ?_, fun q => ?_⟩
      · refine ih (j + 1) M3 (by omega) (by omega) ?_ (frB_trans hF f3) f (by omega)
        rw [v3, en]
        simp only [yearT]
        rw [ej, if_neg (by omega)]
      · refine sp_lose hb hl ⟨by omega, by omega⟩ (by decide) (by decide) (fun w a c => ?_) ?_
        · rw [← h7 M3 _ (by omega) (by omega), v3, up1_o (by decide)]
          unfold thOk at T
          rcases (show w = 2 ∨ w = 3 ∨ w = 4 ∨ w = 5 by omega) with rfl | rfl | rfl | rfl <;> omega
        · refine ih (j + 1) _ (by omega) (by omega) ?_ (frB_trans hF (frB_trans f3 (fun p i a b => by rw [setW_c a]))) f (by omega)
          rw [V_lose hV ⟨by omega, by omega⟩, v3, en]
          simp only [yearT]
          rw [ej, if_pos q]
  exact loop (V M 0 0).toNat 0 M1 (by omega) (by omega) rfl f1 14 (by omega)
theorem yearσ_keep {σ : gSt} (J : iB σ) : iB (yearσ σ) ∧ yearσ σ 0 0 = σ 0 0 := by
  obtain ⟨b, e⟩ := yearT_keep J (σ 0 0).toNat
  refine ⟨fun t a c => thOk_congr (fun w _ _ => up1_o (by decide)) (b t a c), ?_⟩
  show up1 (yearT σ (σ 0 0).toNat) 0 5 (σ 0 5 + 1) 0 0 = σ 0 0
  rw [up1_n (by decide)]
  exact e 0 0 ⟨by decide, by decide⟩
theorem goσ_keep {σ : gSt} (J : iB σ) : ∀ n : Nat, iB (goσ σ n) ∧ goσ σ n 0 0 = σ 0 0
  | 0 => ⟨J, rfl⟩
  | n + 1 => by
    obtain ⟨a, b⟩ := goσ_keep J n
    obtain ⟨c, d⟩ := yearσ_keep a
    exact ⟨c, d.trans b⟩
theorem sp_passYears {o : Nat} {n : Int} {V : gSt → gSt} {M : gSt} {k : gSt → Prop} (hb : isBronze o) (hl : lenC (o + 1) = 130) (hV : isV o V) (h0 : 0 ≤ n ∧ n ≤ 60) (hn : 0 ≤ V M 0 0 ∧ V M 0 0 ≤ 12) (J : iB (V M)) (h : ∀ M', V M' = goσ (V M) n.toNat → frB o M M' → k M') : w_X0_passYears o n M k := by
  unfold w_X0_passYears
  refine ⟨hb, 62, ?_⟩
  have loop : ∀ (d : Nat) (j : Int) (M1 : gSt), (d : Int) = n - j → 0 ≤ j → V M1 = goσ (V M) j.toNat → frB o M M1 → ∀ f : Nat, d < f → wL_X0_passYears_2 o n k (fun M2 => k M2) f j M1 := by
    intro d
    induction d with
    | zero =>
      intro j M1 hd hj hA hF f hf
      obtain ⟨f, rfl⟩ : ∃ g, f = g + 1 := ⟨f - 1, by omega⟩
      simp only [wL_X0_passYears_2, wC_X0_passYears_2]
      rw [wI (x := j) ⟨by omega, by omega⟩, wI (x := n) ⟨by omega, by omega⟩]
      exact ⟨fun _ => h M1 (by rw [hA, show j = n from by omega]) hF, fun q => absurd q (by omega)⟩
    | succ d ih =>
      intro j M1 hd hj hA hF f hf
      obtain ⟨f, rfl⟩ : ∃ g, f = g + 1 := ⟨f - 1, by omega⟩
      simp only [wL_X0_passYears_2, wC_X0_passYears_2]
      rw [wI (x := j) ⟨by omega, by omega⟩, wI (x := n) ⟨by omega, by omega⟩]
      obtain ⟨b, e⟩ := goσ_keep J j.toNat
      refine ⟨fun q => absurd q (by omega), fun _ => sp_passYear hb hl hV (by rw [hA, e]; exact hn) (by rw [hA]; exact b) (fun M2 h2 F2 => ih (j + 1) M2 (by omega) (by omega) ?_ (frB_trans hF F2) f (by omega))⟩
      rw [h2, hA, show (j + 1).toNat = j.toNat + 1 from by omega]
      rfl
  exact loop n.toNat 0 M (by omega) (by omega) rfl frB_rf 62 (by omega)
theorem sp_Rgo {n : Int} {M : gSt} {k : gSt → Prop} (h0 : 0 ≤ n ∧ n ≤ 60) (I : iW (absR M)) (J : iB (absR M)) (h : ∀ M', absR M' = goσ (absR M) n.toNat → fr M M' → onlyS M M' → k M') : w_Rgo n M k := by
  unfold w_Rgo
  refine ⟨62, ?_⟩
  have keep : ∀ m : Nat, iB (goσ (absR M) m) ∧ iW (goσ (absR M) m) := by
    intro m
    induction m with
    | zero => exact ⟨J, I⟩
    | succ m ih =>
      obtain ⟨a, b⟩ := ih
      obtain ⟨c, d⟩ := yearT_keep a (goσ (absR M) m 0 0).toNat
      refine ⟨(yearσ_keep a).1, ?_⟩
      have e : ∀ i, i ≠ 8 → i ≠ 5 → goσ (absR M) (m + 1) 0 i = goσ (absR M) m 0 i := fun i h8 h5 => by
        show up1 (yearT (goσ (absR M) m) (goσ (absR M) m 0 0).toNat) 0 5 _ 0 i = _
        rw [up1_n h5]
        exact d 0 i ⟨by decide, fun z => h8 z.2⟩
      unfold iW tOk at b ⊢
      rw [e 0 (by decide) (by decide), e 9 (by decide) (by decide), e 10 (by decide) (by decide)]
      exact b
  have loop : ∀ (d : Nat) (j : Int) (M1 : gSt), (d : Int) = n - j → 0 ≤ j → absR M1 = goσ (absR M) j.toNat → fr M M1 → onlyS M M1 → ∀ f : Nat, d < f → wL_Rgo_2 n k (fun M2 => k M2) f j M1 := by
    intro d
    induction d with
    | zero =>
      intro j M1 hd hj hA hF hO f hf
      obtain ⟨f, rfl⟩ : ∃ g, f = g + 1 := ⟨f - 1, by omega⟩
      simp only [wL_Rgo_2, wC_Rgo_2]
      rw [wI (x := j) ⟨by omega, by omega⟩, wI (x := n) ⟨by omega, by omega⟩]
      exact ⟨fun _ => h M1 (by rw [hA, show j = n from by omega]) hF hO, fun q => absurd q (by omega)⟩
    | succ d ih =>
      intro j M1 hd hj hA hF hO f hf
      obtain ⟨f, rfl⟩ : ∃ g, f = g + 1 := ⟨f - 1, by omega⟩
      simp only [wL_Rgo_2, wC_Rgo_2]
      rw [wI (x := j) ⟨by omega, by omega⟩, wI (x := n) ⟨by omega, by omega⟩]
      obtain ⟨b, e⟩ := keep j.toNat
      refine ⟨fun q => absurd q (by omega), fun _ => sp_Ryear (by rw [hA]; exact e) (by rw [hA]; exact b) (fun M2 h2 F2 O2 => ih (j + 1) M2 (by omega) (by omega) ?_ (fr_trans hF F2) (onlyS_trans hO O2) f (by omega))⟩
      rw [h2, hA, show (j + 1).toNat = j.toNat + 1 from by omega]
      rfl
  exact loop n.toNat 0 M (by omega) (by omega) rfl fr_rf onlyS_rf 62 (by omega)
theorem cK_frB {M M' : gSt} (hK : cK M) (h : frB 2 M M') : cK M' :=
  cK_o2 hK (fun p i a b => h p i a b)
def S_years (n : Int) (σ : gSt) : Int × gSt :=
  if ¬ (1 ≤ n ∧ n ≤ 60) then S_err σ 1 else if 9999 < σ 0 5 + n then S_err σ 3
  else (sumT (fun t => goσ σ n.toNat 1 (10 * t + 2)) (σ 0 0).toNat, goσ σ n.toNat)
theorem sR_years {a1 : Int} {M : gSt} {k : Int → gSt → Prop} (i1 : inI a1) (I : iN (absR M)) (J : iB (absR M)) (h : ∀ M', absR M' = (S_years a1 (absR M)).2 → fr M M' → k (S_years a1 (absR M)).1 M') : w_Ryears a1 M k := by
  have I0 := I
  unfold iN at I
  unfold w_Ryears
  refine sp_Rin i1 (by constructor <;> decide) (by constructor <;> decide) (fun h1 => z1n ?_) (fun h1 => z0n (errL (by decide) (by decide) (if_pos h1) h))
  have hc := fun q : ¬ (1 ≤ a1 ∧ a1 ≤ 60) => q h1
  rw [rdS M 5 (by omega) (by omega), wI (x := absR M 0 5 + a1) ⟨by omega, by omega⟩]
  refine ⟨fun h2 => ?_, fun h2 => errL (by decide) (by decide) ((if_neg hc).trans (if_pos h2)) h⟩
  have hS : S_years a1 (absR M) = _ := (if_neg hc).trans (if_neg (by omega))
  rw [hS] at h
  refine sp_Rgo ⟨by omega, by omega⟩ (iN_w I0) J (fun M1 A F O => ?_)
  have e0 := (goσ_keep J a1.toNat).2
  refine sp_RallGrams (by rw [A, e0]; exact ⟨by omega, by omega⟩) ?_
  rw [A, e0]
  exact h M1 A F
theorem sC_years {a1 : Int} {M : gSt} {k : Int → gSt → Prop} (i1 : inI a1) (I : iN (absC M)) (J : iB (absC M)) (hK : cK M) (h : ∀ M', absC M' = (S_years a1 (absC M)).2 → cK M' → k (S_years a1 (absC M)).1 M') : w_X8_years a1 M k := by
  unfold iN at I
  unfold w_X8_years w_X0_yearsSoFar
  refine sp_within i1 (by constructor <;> decide) (by constructor <;> decide) (fun h1 => z1n ⟨pl_2, ?_⟩) (fun h1 => z0n (errC (by decide) (by decide) hK (if_pos h1) h))
  have hc := fun q : ¬ (1 ≤ a1 ∧ a1 ≤ 60) => q h1
  dsimp only
  rw [← rc05 M, wI (x := absC M 0 5 + a1) ⟨by omega, by omega⟩]
  refine ⟨fun h2 => ?_, fun h2 => errC (by decide) (by decide) hK ((if_neg hc).trans (if_pos h2)) h⟩
  have hS : S_years a1 (absC M) = _ := (if_neg hc).trans (if_neg (by omega))
  rw [hS] at h
  refine sp_passYears pl_2 rfl isV_2 ⟨by omega, by omega⟩ ⟨by omega, by omega⟩ J (fun M1 A F => ?_)
  have e0 := (goσ_keep J a1.toNat).2
  have n1 : M1 2 1 = absC M 0 0 := by rw [← rc00 M1, A, e0]
  refine sp_allGrams (by rw [n1]; exact ⟨by omega, by omega⟩) ?_
  rw [n1, A]
  exact h M1 A (cK_frB hK F)
