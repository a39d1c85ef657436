section
-- what every call keeps
def iAll (σ : gSt) : Prop := iN σ ∧ iB σ ∧ iCr σ ∧ iTp σ ∧ iX σ ∧ iC σ ∧ iP σ ∧ iG σ
def iImg (σ : gSt) : Prop := σ 21 0 ≠ 0 → iAll (rstσ σ)
def Inv (n : Nat) (σ : gSt) : Prop := iAll σ ∧ iSh σ ∧ (0 ≤ σ 21 0 ∧ σ 21 0 ≤ n) ∧ iImg σ
theorem cg_N {σ σ' : gSt} (h : ∀ j, j ≠ 8 → σ' 0 j = σ 0 j) (I : iN σ) : iN σ' := by
  unfold iN at I ⊢
  rw [h 0 (by decide), h 1 (by decide), h 2 (by decide), h 3 (by decide), h 4 (by decide), h 5 (by decide), h 6 (by decide), h 7 (by decide), h 9 (by decide), h 10 (by decide)]
  exact I
theorem cg_B {σ σ' : gSt} (h : σ' 1 = σ 1) (J : iB σ) : iB σ' := fun t a b => by rw [h]; exact J t a b
theorem cg_Cr {σ σ' : gSt} (h : σ' 1 = σ 1) (J : iCr σ) : iCr σ' := by unfold iCr at J ⊢; rw [h]; exact J
theorem cg_Tp {σ σ' : gSt} (h : σ' 5 = σ 5) (J : iTp σ) : iTp σ' := fun t a b => by rw [h]; exact J t a b
theorem cg_X {σ σ' : gSt} (h9 : σ' 0 9 = σ 0 9) (h10 : σ' 0 10 = σ 0 10) (h7 : σ' 7 = σ 7) (h8 : σ' 8 = σ 8) (J : iX σ) : iX σ' := by unfold iX at J ⊢; rw [h9, h10, h7, h8]; exact J
theorem cg_C {σ σ' : gSt} (h0 : σ' 0 2 = σ 0 2) (h : σ' 2 = σ 2) (J : iC σ) : iC σ' := by unfold iC at J ⊢; rw [h0, h]; exact J
theorem cg_P {σ σ' : gSt} (h0 : σ' 0 3 = σ 0 3) (h : σ' 3 = σ 3) (J : iP σ) : iP σ' := by unfold iP at J ⊢; rw [h0, h]; exact J
theorem cg_G {σ σ' : gSt} (h0 : σ' 0 4 = σ 0 4) (h : σ' 4 = σ 4) (J : iG σ) : iG σ' := by unfold iG at J ⊢; rw [h0, h]; exact J
theorem cg_Sh {σ σ' : gSt} (h : ∀ c, c = 23 ∨ c = 24 ∨ c = 25 → σ' c = σ c) (J : iSh σ) : iSh σ' := by
  unfold iSh at J ⊢; rw [h 23 (Or.inl rfl), h 24 (Or.inr (Or.inl rfl)), h 25 (Or.inr (Or.inr rfl))]; exact J
theorem cg_All {σ σ' : gSt} (h : ∀ c, c < 10 → σ' c = σ c) (I : iAll σ) : iAll σ' := by
  obtain ⟨a, b, c, d, e, f, g, i⟩ := I
  have h0 := h 0 (by decide)
  exact ⟨cg_N (fun j _ => by rw [h0]) a, cg_B (h 1 (by decide)) b, cg_Cr (h 1 (by decide)) c, cg_Tp (h 5 (by decide)) d, cg_X (by rw [h0]) (by rw [h0]) (h 7 (by decide)) (h 8 (by decide)) e, cg_C (by rw [h0]) (h 2 (by decide)) f, cg_P (by rw [h0]) (h 3 (by decide)) g, cg_G (by rw [h0]) (h 4 (by decide)) i⟩
theorem cg_Img {σ σ' : gSt} (h : ∀ c, 10 ≤ c → c < 22 → σ' c = σ c) (I : iImg σ) : iImg σ' := by
  unfold iImg at I ⊢
  rw [h 21 (by decide) (by decide)]
  intro q
  refine cg_All (fun c hc => ?_) (I q)
  funext i
  unfold rstσ
  rw [if_pos hc, if_pos hc, h (c + 10) (by omega) (by omega)]
theorem inv_mono {n m : Nat} {σ : gSt} (h : n ≤ m) (V : Inv n σ) : Inv m σ := ⟨V.1, V.2.1, ⟨V.2.2.1.1, by have := V.2.2.1.2; omega⟩, V.2.2.2⟩
/-- a change of what is now alone -/
theorem inv_now {n : Nat} {σ σ' : gSt} (V : Inv n σ) (h : ∀ c, 10 ≤ c → σ' c = σ c) (A : iAll σ') : Inv n σ' := by
  obtain ⟨-, b, c, d⟩ := V
  refine ⟨A, cg_Sh (fun c hc => h c (by omega)) b, ?_, cg_Img (fun c x _ => h c x) d⟩
  rw [h 21 (by decide)]
  exact c
/-- a change of things and their numbers alone -/
theorem inv_B {n : Nat} {σ σ' : gSt} (V : Inv n σ) (hc : ∀ c, c ≠ 0 → c ≠ 1 → σ' c = σ c) (h0 : ∀ j, j ≠ 0 → j ≠ 1 → j ≠ 5 → j ≠ 8 → σ' 0 j = σ 0 j) (b : (0 ≤ σ' 0 0 ∧ σ' 0 0 ≤ 12) ∧ (0 ≤ σ' 0 1 ∧ σ' 0 1 ≤ 4 ∧ σ' 0 1 ≤ σ' 0 0) ∧ 0 ≤ σ' 0 5 ∧ σ' 0 5 ≤ 9999) (J : iB σ') (CR : iCr σ') : Inv n σ' := by
  obtain ⟨I, J0, -, T, X, C, P, G⟩ := V.1
  refine inv_now V (fun c h => hc c (by omega) (by omega)) ⟨?_, J, CR, cg_Tp (hc 5 (by decide) (by decide)) T, cg_X (h0 9 (by decide) (by decide) (by decide) (by decide)) (h0 10 (by decide) (by decide) (by decide) (by decide)) (hc 7 (by decide) (by decide)) (hc 8 (by decide) (by decide)) X, cg_C (h0 2 (by decide) (by decide) (by decide) (by decide)) (hc 2 (by decide) (by decide)) C, cg_P (h0 3 (by decide) (by decide) (by decide) (by decide)) (hc 3 (by decide) (by decide)) P, cg_G (h0 4 (by decide) (by decide) (by decide) (by decide)) (hc 4 (by decide) (by decide)) G⟩
  unfold iN at I ⊢
  rw [h0 2 (by decide) (by decide) (by decide) (by decide), h0 3 (by decide) (by decide) (by decide) (by decide), h0 4 (by decide) (by decide) (by decide) (by decide), h0 6 (by decide) (by decide) (by decide) (by decide), h0 7 (by decide) (by decide) (by decide) (by decide), h0 9 (by decide) (by decide) (by decide) (by decide), h0 10 (by decide) (by decide) (by decide) (by decide)]
  omega
theorem th_new {B : Int → Int} {b kk m g h6 h7 h8 h9 : Int} (e0 : B (b + 0) = kk) (e1 : B (b + 1) = m) (e2 : B (b + 2) = g) (e3 : ∀ w, 3 ≤ w → w ≤ 5 → B (b + w) = 0) (e6 : B (b + 6) = h6) (e7 : B (b + 7) = h7) (e8 : B (b + 8) = h8) (e9 : B (b + 9) = h9) (q : (0 ≤ kk ∧ kk ≤ 6) ∧ (0 ≤ m ∧ m ≤ 99) ∧ (0 ≤ g ∧ g ≤ 9999999) ∧ (0 ≤ h6 ∧ h6 ≤ 1000000) ∧ (0 ≤ h7 ∧ h7 ≤ 1000000) ∧ (0 ≤ h8 ∧ h8 ≤ 1000000) ∧ (0 ≤ h9 ∧ h9 ≤ 1000000)) : thOk B b := by
  unfold thOk
  rw [e0, e1, e2, e3 3 (by decide) (by decide), e3 4 (by decide) (by decide), e3 5 (by decide) (by decide), e6, e7, e8, e9]
  omega
theorem kp_thing {n : Nat} {km g : Int} {σ : gSt} (V : Inv n σ) : Inv n (S_thing km g σ).2 := by
  unfold S_thing
  split
  · exact V
  rename_i hv
  split
  · exact V
  rename_i hf
  obtain ⟨I, J, CR, -⟩ := V.1
  unfold iN at I
  have key : ∀ (σ' : gSt) (q : Int), (∀ c, c ≠ 0 → c ≠ 1 → σ' c = σ c) → (∀ j, j ≠ 0 → j ≠ 1 → σ' 0 j = σ 0 j) → σ' 0 0 = σ 0 0 + 1 → (q = σ 0 1 ∧ σ 0 1 < 4 ∧ σ' 0 1 = σ 0 1 + 1 ∨ q = 200 ∧ σ' 0 1 = σ 0 1) → (∀ i, i < 130 → σ' 1 i = if i = 10 * σ 0 0 + (6 + q) then 1000000 else if i = 10 * σ 0 0 + 2 then g else if 10 * σ 0 0 ≤ i ∧ i < 10 * σ 0 0 + 10 then (if i = 10 * σ 0 0 then km / 100 else if i = 10 * σ 0 0 + 1 then km % 100 else 0) else σ 1 i) → Inv n σ' := by
    intro σ' q hc h0 e0 e1 eB
    refine inv_B V hc (fun j a b _ _ => h0 j a b) ⟨by omega, by omega, by rw [h0 5 (by decide) (by decide)]; omega⟩ (fun t a b => ?_) ?_
    · by_cases tn : t = σ 0 0
      · subst tn
        have z : ∀ w, 6 ≤ w → w ≤ 9 → σ' 1 (10 * σ 0 0 + w) = if w = 6 + q then 1000000 else 0 := fun w x y => by
          rw [eB _ (by omega)]
          by_cases e : w = 6 + q
          · rw [if_pos (by omega), if_pos e]
          · rw [if_neg (by omega), if_neg (by omega), if_pos (by omega), if_neg (by omega), if_neg (by omega), if_neg e]
        refine th_new (kk := km / 100) (m := km % 100) (g := g) ?_ ?_ ?_ (fun w x y => ?_) (z 6 (by decide) (by decide)) (z 7 (by decide) (by decide)) (z 8 (by decide) (by decide)) (z 9 (by decide) (by decide)) ?_
        · rw [eB _ (by omega), if_neg (by omega), if_neg (by omega), if_pos (by omega), if_pos (by omega)]
        · rw [eB _ (by omega), if_neg (by omega), if_neg (by omega), if_pos (by omega), if_neg (by omega), if_pos (by omega)]
        · rw [eB _ (by omega), if_neg (by omega), if_pos (by omega)]
        · rw [eB _ (by omega), if_neg (by omega), if_neg (by omega), if_pos (by omega), if_neg (by omega), if_neg (by omega)]
        · refine ⟨by omega, by omega, by omega, ?_, ?_, ?_, ?_⟩ <;> (split <;> constructor <;> decide)
      · refine thOk_congr (fun w x y => ?_) (J t a b)
        rw [eB _ (by omega), if_neg (by omega), if_neg (by omega), if_neg (by omega)]
    · unfold iCr at CR ⊢
      rw [eB _ (by omega), if_neg (by omega), if_neg (by omega), if_neg (by omega), eB _ (by omega), if_neg (by omega), if_neg (by omega), if_neg (by omega)]
      exact CR
  have aC : ∀ c, c ≠ 0 → c ≠ 1 → addT σ km c = σ c := fun c a b => by funext i; simp [addT, a, b]
  have a0 : ∀ j, j ≠ 0 → addT σ km 0 j = σ 0 j := fun j a => by simp [addT, a]
  have a00 : addT σ km 0 0 = σ 0 0 + 1 := by simp [addT]
  have a1 : ∀ i, addT σ km 1 i = if 10 * σ 0 0 ≤ i ∧ i < 10 * σ 0 0 + 10 then (if i = 10 * σ 0 0 then km / 100 else if i = 10 * σ 0 0 + 1 then km % 100 else 0) else σ 1 i := fun i => by simp [addT]
  show Inv n (if σ 0 1 < 4 then up1 (up1 (up1 (addT σ km) 1 (10 * σ 0 0 + 2) g) 1 (10 * σ 0 0 + (6 + σ 0 1)) 1000000) 0 1 (σ 0 1 + 1) else up1 (addT σ km) 1 (10 * σ 0 0 + 2) g)
  split
  · rename_i h4
    refine key _ (σ 0 1) (fun c a b => ?_) (fun j a b => ?_) ?_ (Or.inl ⟨rfl, h4, ?_⟩) (fun i hi => ?_)
    · funext i
      rw [up1_o a, up1_o b, up1_o b, aC c a b]
    · rw [up1_n b, up1_o (by decide), up1_o (by decide), a0 j a]
    · rw [up1_n (by decide), up1_o (by decide), up1_o (by decide), a00]
    · exact up1_i
    · rw [up1_o (by decide)]
      by_cases x : i = 10 * σ 0 0 + (6 + σ 0 1)
      · rw [if_pos x, x, up1_i]
      · rw [if_neg x, up1_n x]
        by_cases y : i = 10 * σ 0 0 + 2
        · rw [if_pos y, y, up1_i]
        · rw [if_neg y, up1_n y, a1]
  · refine key _ 200 (fun c a b => ?_) (fun j a b => ?_) ?_ (Or.inr ⟨rfl, ?_⟩) (fun i hi => ?_)
    · funext i
      rw [up1_o b, aC c a b]
    · rw [up1_o (by decide), a0 j a]
    · rw [up1_o (by decide), a00]
    · rw [up1_o (by decide), a0 1 (by decide)]
    · by_cases y : i = 10 * σ 0 0 + 2
      · rw [if_neg (by omega), if_pos y, y, up1_i]
      · rw [up1_n y, a1, if_neg (c := i = 10 * σ 0 0 + (6 + 200)) (by omega), if_neg y]
theorem kp_set {n : Nat} {t w v : Int} {σ : gSt} (V : Inv n σ) : Inv n (S_set t w v σ).2 := by
  unfold S_set
  by_cases hv : (0 ≤ t ∧ t < σ 0 0) ∧ (0 ≤ w ∧ w ≤ 5 ∧ ¬ w = 2) ∧ (0 ≤ v ∧ v ≤ (if w = 0 then 6 else if w = 1 then 99 else σ 1 (10 * t + 2)))
  case neg =>
    rw [if_pos hv]
    exact V
  rw [if_neg (fun z => z hv)]
  obtain ⟨I, J, CR, -⟩ := V.1
  unfold iN at I
  obtain ⟨h1, h2, h3⟩ := hv
  show Inv n (up1 σ 1 (10 * t + w) v)
  refine inv_B V (fun c a b => by funext i; exact up1_o b) (fun j _ _ _ _ => up1_o (by decide)) ?_ (fun u a b => ?_) ?_
  · rw [up1_o (by decide), up1_o (by decide), up1_o (by decide)]
    omega
  · by_cases ut : u = t
    · subst ut
      have T := J u a b
      have e : ∀ x, x ≠ w → up1 σ 1 (10 * u + w) v 1 (10 * u + x) = σ 1 (10 * u + x) := fun x hx => up1_n (by omega)
      unfold thOk at T ⊢
      rcases (show w = 0 ∨ w = 1 ∨ w = 3 ∨ w = 4 ∨ w = 5 by omega) with rfl | rfl | rfl | rfl | rfl
      · rw [if_pos rfl] at h3
        rw [up1_i, e 1 (by decide), e 2 (by decide), e 3 (by decide), e 4 (by decide), e 5 (by decide), e 6 (by decide), e 7 (by decide), e 8 (by decide), e 9 (by decide)]
        exact ⟨h3, T.2⟩
      · rw [if_neg (by decide), if_pos rfl] at h3
        rw [up1_i, e 0 (by decide), e 2 (by decide), e 3 (by decide), e 4 (by decide), e 5 (by decide), e 6 (by decide), e 7 (by decide), e 8 (by decide), e 9 (by decide)]
        exact ⟨T.1, h3, T.2.2⟩
      · rw [if_neg (by decide), if_neg (by decide)] at h3
        rw [up1_i, e 0 (by decide), e 1 (by decide), e 2 (by decide), e 4 (by decide), e 5 (by decide), e 6 (by decide), e 7 (by decide), e 8 (by decide), e 9 (by decide)]
        exact ⟨T.1, T.2.1, T.2.2.1, h3, T.2.2.2.2⟩
      · rw [if_neg (by decide), if_neg (by decide)] at h3
        rw [up1_i, e 0 (by decide), e 1 (by decide), e 2 (by decide), e 3 (by decide), e 5 (by decide), e 6 (by decide), e 7 (by decide), e 8 (by decide), e 9 (by decide)]
        exact ⟨T.1, T.2.1, T.2.2.1, T.2.2.2.1, h3, T.2.2.2.2.2⟩
      · rw [if_neg (by decide), if_neg (by decide)] at h3
        rw [up1_i, e 0 (by decide), e 1 (by decide), e 2 (by decide), e 3 (by decide), e 4 (by decide), e 6 (by decide), e 7 (by decide), e 8 (by decide), e 9 (by decide)]
        exact ⟨T.1, T.2.1, T.2.2.1, T.2.2.2.1, T.2.2.2.2.1, h3, T.2.2.2.2.2.2⟩
    · exact thOk_congr (fun x _ _ => up1_n (by omega)) (J u a b)
  · unfold iCr
    rw [up1_n (by omega), up1_n (by omega)]
    exact CR
theorem kp_melt {n : Nat} {t e : Int} {σ : gSt} (V : Inv n σ) : Inv n (S_melt t e σ).2 := by
  unfold S_melt
  split
  · exact V
  rename_i hv
  have hv := Classical.not_not.mp hv
  split
  · exact V
  obtain ⟨I, J, CR, -⟩ := V.1
  unfold iN at I
  have o : ∀ c, c ≠ 1 → mvC 1 t 12 e σ c = σ c := fun c b => by funext i; simp [mvC, b]
  show Inv n (mvC 1 t 12 e σ)
  refine inv_B V (fun c a b => o c b) (fun j _ _ _ _ => by rw [o 0 (by decide)]) ?_ (fun u a b => ?_) ?_
  · rw [o 0 (by decide)]
    omega
  · have k := thOk_move (t := u) (show t ≠ 12 by omega) hv.2 (J t hv.1.1 (by omega)) (J 12 (by decide) (by decide)) (J u a b)
    exact thOk_congr (fun x _ _ => by simp [mvC]) k
  · unfold iCr at CR ⊢
    have r : ∀ w, w < 2 → 0 ≤ w → mvC 1 t 12 e σ 1 (10 * 12 + w) = σ 1 (10 * 12 + w) := fun w a b => by
      simp only [mvC, if_true]
      unfold moveB
      rw [if_neg (by omega), if_neg (by omega), if_neg (by omega), if_neg (by omega)]
    rw [r 0 (by decide) (by decide), r 1 (by decide) (by decide)]
    exact CR
theorem yearσ_o {σ : gSt} (J : iB σ) : (∀ c, c ≠ 0 → c ≠ 1 → yearσ σ c = σ c) ∧ (∀ j, j ≠ 5 → j ≠ 8 → yearσ σ 0 j = σ 0 j) ∧ yearσ σ 0 5 = σ 0 5 + 1 := by
  obtain ⟨b, e⟩ := yearT_keep J (σ 0 0).toNat
  refine ⟨fun c h0 h1 => ?_, fun j h5 h8 => ?_, up1_i⟩
  · funext i
    show up1 _ 0 5 _ c i = _
    rw [up1_o h0]
    exact e c i ⟨h1, fun q => h0 q.1⟩
  · show up1 _ 0 5 _ 0 j = _
    rw [up1_n h5]
    exact e 0 j ⟨by decide, fun q => h8 q.2⟩
theorem loseT_cr {τ : gSt} {t : Int} {i : Int} (h : ¬ (10 * t + 2 ≤ i ∧ i < 10 * t + 6)) : loseT τ t 1 i = τ 1 i := by
  unfold loseT
  rw [if_neg (fun q => h q.2)]
theorem yearT_cr {σ : gSt} : ∀ n : Nat, (n : Int) ≤ 12 → ∀ i, 120 ≤ i → yearT σ n 1 i = σ 1 i
  | 0, _, _, _ => rfl
  | n + 1, h, i, hi => by
    have ih := @yearT_cr σ n (by omega) i hi
    simp only [yearT]
    split
    · rw [loseT_cr (by omega), up1_o (by decide)]
      exact ih
    · rw [up1_o (by decide)]
      exact ih
theorem yearσ_cr {σ : gSt} (h : σ 0 0 ≤ 12) {i : Int} (hi : 120 ≤ i) : yearσ σ 1 i = σ 1 i := by
  show up1 (yearT σ (σ 0 0).toNat) 0 5 _ 1 i = _
  rw [up1_o (by decide)]
  exact yearT_cr _ (by omega) i hi
theorem goσ_oo {σ : gSt} (J : iB σ) (h12 : σ 0 0 ≤ 12) : ∀ n : Nat, (∀ c, c ≠ 0 → c ≠ 1 → goσ σ n c = σ c) ∧ (∀ j, j ≠ 5 → j ≠ 8 → goσ σ n 0 j = σ 0 j) ∧ goσ σ n 0 5 = σ 0 5 + (n : Int) ∧ ∀ i, 120 ≤ i → goσ σ n 1 i = σ 1 i
  | 0 => ⟨fun _ _ _ => rfl, fun _ _ _ => rfl, by simp [goσ], fun _ _ => rfl⟩
  | n + 1 => by
    obtain ⟨a, b, c, d⟩ := goσ_oo J h12 n
    obtain ⟨K, k0⟩ := goσ_keep J n
    obtain ⟨a2, b2, c2⟩ := yearσ_o K
    refine ⟨fun p x y => (a2 p x y).trans (a p x y), fun j x y => (b2 j x y).trans (b j x y), ?_, fun i hi => (yearσ_cr (by omega) hi).trans (d i hi)⟩
    show yearσ (goσ σ n) 0 5 = _
    rw [c2, c]
    omega
theorem kp_years {n : Nat} {m : Int} {σ : gSt} (V : Inv n σ) : Inv n (S_years m σ).2 := by
  unfold S_years
  split
  · exact V
  rename_i hv
  have hv := Classical.not_not.mp hv
  split
  · exact V
  rename_i h9
  obtain ⟨I, J, CR, -⟩ := V.1
  unfold iN at I
  obtain ⟨a, b, c, d⟩ := goσ_oo J (by omega) m.toNat
  show Inv n (goσ σ m.toNat)
  refine inv_B V (fun p x y => a p x y) (fun j _ _ x y => b j x y) ?_ (goσ_keep J m.toNat).1 ?_
  · rw [b 0 (by decide) (by decide), b 1 (by decide) (by decide), c]
    omega
  · unfold iCr
    rw [d _ (by decide), d _ (by decide)]
    exact CR
theorem kp_seed {n : Nat} {v : Int} {σ : gSt} (V : Inv n σ) : Inv n (S_seed v σ).2 := by
  obtain ⟨I, J, CR, -⟩ := V.1
  unfold iN at I
  show Inv n (up1 σ 0 8 v)
  refine inv_B V (fun c a b => by funext i; exact up1_o a) (fun j _ _ _ x => up1_n x) ?_ (fun u a b => thOk_congr (fun x _ _ => up1_o (by decide)) (J u a b)) ?_
  · rw [up1_n (by decide), up1_n (by decide), up1_n (by decide)]
    omega
  · unfold iCr
    rw [up1_o (by decide), up1_o (by decide)]
    exact CR
end
section
-- what every call keeps: casts, texts, claims, papers, sheets, images
theorem inX (y : Int32) : inI y.toInt := by
  have h : y.toInt = wrap y.toInt := by rw [← ofInt_toInt, Int32.ofInt_toInt]
  rw [h]
  exact wrap_rng _
theorem addT_c {σ : gSt} {km : Int} {c : Nat} (h0 : c ≠ 0) (h1 : c ≠ 1) : addT σ km c = σ c := by funext i; simp [addT, h0, h1]
theorem addT_n {σ : gSt} {km j : Int} (h : j ≠ 0) : addT σ km 0 j = σ 0 j := by simp [addT, h]
theorem addT_0 {σ : gSt} {km : Int} : addT σ km 0 0 = σ 0 0 + 1 := by simp [addT]
theorem addT_1 {σ : gSt} {km i : Int} : addT σ km 1 i = if 10 * σ 0 0 ≤ i ∧ i < 10 * σ 0 0 + 10 then (if i = 10 * σ 0 0 then km / 100 else if i = 10 * σ 0 0 + 1 then km % 100 else 0) else σ 1 i := by simp [addT]
theorem burn_mono {x y b : Int} (hb : 0 ≤ b ∧ b ≤ 9) (h0 : 0 ≤ x) (h : x ≤ y) : 0 ≤ x - x * b / 100 ∧ x - x * b / 100 ≤ y - y * b / 100 ∧ y - y * b / 100 ≤ y := by
  rcases (show b = 0 ∨ b = 1 ∨ b = 2 ∨ b = 3 ∨ b = 4 ∨ b = 5 ∨ b = 6 ∨ b = 7 ∨ b = 8 ∨ b = 9 by omega) with rfl | rfl | rfl | rfl | rfl | rfl | rfl | rfl | rfl | rfl <;> omega
theorem keep_mono {x y b : Int} (hb : 0 ≤ b ∧ b ≤ 9) (h0 : 0 ≤ x) (h : x ≤ y) : (0 ≤ x - x * b / 10 ∧ x - x * b / 10 ≤ y - y * b / 10 ∧ y - y * b / 10 ≤ y) ∧ 0 ≤ x * b / 10 ∧ x * b / 10 ≤ y * b / 10 ∧ y * b / 10 ≤ y := by
  rcases (show b = 0 ∨ b = 1 ∨ b = 2 ∨ b = 3 ∨ b = 4 ∨ b = 5 ∨ b = 6 ∨ b = 7 ∨ b = 8 ∨ b = 9 by omega) with rfl | rfl | rfl | rfl | rfl | rfl | rfl | rfl | rfl | rfl <;> omega
theorem kp_cast {n : Nat} {km tin law : Int} {σ : gSt} (V : Inv n σ) : Inv n (S_cast km tin law σ).2 := by
  unfold S_cast
  split
  · exact V
  rename_i hv
  have hv := Classical.not_not.mp hv
  split
  · exact V
  rename_i hg
  by_cases hf : 12 < σ 0 0 + (if 0 < law / 10 % 10 then 2 else 1)
  case pos =>
    rw [if_pos hf]
    exact V
  rw [if_neg hf]
  obtain ⟨I, J, CR, -⟩ := V.1
  unfold iN at I
  have T := J 12 (by decide) (by decide)
  have hb : 0 ≤ law / 100 ∧ law / 100 ≤ 9 := by omega
  have hk : 0 ≤ law / 10 % 10 ∧ law / 10 % 10 ≤ 9 := by omega
  have g0 : 0 < σ 1 (10 * 12 + 2) := by have := T.2.2.1; omega
  obtain ⟨t1, t2, t3, t4, t5, t6⟩ := tinσ_v T hv.2.1 g0
  have e0 : tinσ tin σ 0 = σ 0 := tinσ_0 (by decide)
  generalize law / 100 = burn at *
  generalize law / 10 % 10 = keep at *
  have hf1 : σ 0 0 ≤ 11 := by split at hf <;> omega
  have hf2 : 0 < keep → σ 0 0 ≤ 10 := fun q => by rw [if_pos q] at hf; omega
  generalize hτ : tinσ tin σ = τ at *
  have oc : ∀ c, c ≠ 1 → τ c = σ c := fun c h => by rw [← hτ]; exact tinσ_0 h
  have cC : ∀ c, c ≠ 0 → c ≠ 1 → castσ km tin burn keep σ c = σ c := fun c a b => by
    funext i
    unfold castσ crN
    rw [hτ, if_neg (fun q => b q.1), if_neg (fun q => b q.1), if_neg (fun q => b q.1)]
    split
    · rw [addT_c a b, addT_c a b, oc c b]
    · rw [addT_c a b, oc c b]
  have c0 : ∀ j, castσ km tin burn keep σ 0 j = if j = 0 then σ 0 0 + (if 0 < keep then 2 else 1) else σ 0 j := fun j => by
    unfold castσ crN
    rw [hτ, if_neg (fun q => absurd q.1 (by decide)), if_neg (fun q => absurd q.1 (by decide)), if_neg (fun q => absurd q.1 (by decide))]
    by_cases hj : j = 0
    · subst hj
      rw [if_pos rfl]
      split
      · rw [addT_0, addT_0, e0]; omega
      · rw [addT_0, e0]
    · rw [if_neg hj]
      split
      · rw [addT_n hj, addT_n hj, e0]
      · rw [addT_n hj, e0]
  have cN : ∀ i, crN km keep τ 1 i = if 0 < keep ∧ 10 * (σ 0 0 + 1) ≤ i ∧ i < 10 * (σ 0 0 + 1) + 10 then (if i = 10 * (σ 0 0 + 1) then 6 else 0) else if 10 * σ 0 0 ≤ i ∧ i < 10 * σ 0 0 + 10 then (if i = 10 * σ 0 0 then km / 100 else if i = 10 * σ 0 0 + 1 then km % 100 else 0) else τ 1 i := fun i => by
    unfold crN
    by_cases q : 0 < keep
    · rw [if_pos q, addT_1, addT_0, addT_1, e0]
      by_cases r : 10 * (σ 0 0 + 1) ≤ i ∧ i < 10 * (σ 0 0 + 1) + 10
      · rw [if_pos r, if_pos (show 0 < keep ∧ 10 * (σ 0 0 + 1) ≤ i ∧ i < 10 * (σ 0 0 + 1) + 10 from ⟨q, r⟩)]
        by_cases s : i = 10 * (σ 0 0 + 1)
        · rw [if_pos s, if_pos s]; decide
        · rw [if_neg s, if_neg s]
          split
          · decide
          · rfl
      · rw [if_neg r, if_neg (show ¬ (0 < keep ∧ 10 * (σ 0 0 + 1) ≤ i ∧ i < 10 * (σ 0 0 + 1) + 10) from fun z => r z.2)]
    · rw [if_neg q, addT_1, e0, if_neg (show ¬ (0 < keep ∧ 10 * (σ 0 0 + 1) ≤ i ∧ i < 10 * (σ 0 0 + 1) + 10) from fun z => q z.1)]
  have c1 : ∀ i, castσ km tin burn keep σ 1 i = if 10 * 12 + 2 ≤ i ∧ i < 10 * 12 + 10 then 0 else if 10 * σ 0 0 + 2 ≤ i ∧ i < 10 * σ 0 0 + 10 then crT burn keep τ (i - 10 * σ 0 0) else if 0 < keep ∧ 10 * (σ 0 0 + 1) + 2 ≤ i ∧ i < 10 * (σ 0 0 + 1) + 10 then crS burn keep τ (i - 10 * (σ 0 0 + 1)) else crN km keep τ 1 i := fun i => by
    unfold castσ
    rw [hτ]
    simp only [true_and]
  have rg : ∀ w, 2 ≤ w → w ≤ 5 → 0 ≤ τ 1 (10 * 12 + w) ∧ τ 1 (10 * 12 + w) ≤ τ 1 (10 * 12 + 2) := fun w a b => by rw [t5]; exact t1 w a b
  have rL : ∀ w, 2 ≤ w → w ≤ 5 → 0 ≤ crL burn τ w ∧ crL burn τ w ≤ crL burn τ 2 ∧ crL burn τ 2 ≤ 9999999 := fun w a b => by
    unfold crL
    rw [if_pos (by omega), if_pos (by decide)]
    have m := burn_mono hb (rg w a b).1 (rg w a b).2
    exact ⟨m.1, m.2.1, by omega⟩
  have rT : ∀ w, 2 ≤ w → w ≤ 5 → 0 ≤ crT burn keep τ w ∧ crT burn keep τ w ≤ crT burn keep τ 2 ∧ crT burn keep τ 2 ≤ 9999999 := fun w a b => by
    unfold crT
    rw [if_pos (by omega), if_pos (by decide)]
    have l := rL w a b
    have m := (keep_mono hk l.1 l.2.1).1
    exact ⟨m.1, m.2.1, by omega⟩
  have rS : ∀ w, 2 ≤ w → w ≤ 5 → 0 ≤ crS burn keep τ w ∧ crS burn keep τ w ≤ crS burn keep τ 2 ∧ crS burn keep τ 2 ≤ 9999999 := fun w a b => by
    unfold crS
    rw [if_pos (by omega), if_pos (by decide)]
    have l := rL w a b
    have m := (keep_mono hk l.1 l.2.1).2
    exact ⟨m.1, m.2.1, by omega⟩
  have rHT : ∀ w, 6 ≤ w → w ≤ 9 → 0 ≤ crT burn keep τ w ∧ crT burn keep τ w ≤ 1000000 := fun w a b => by
    unfold crT crL
    rw [if_neg (by omega), if_neg (by omega)]
    exact t2 w a b
  have rHS : ∀ w, 6 ≤ w → w ≤ 9 → 0 ≤ crS burn keep τ w ∧ crS burn keep τ w ≤ 1000000 := fun w a b => by
    unfold crS crL
    rw [if_neg (by omega), if_neg (by omega)]
    exact t2 w a b
  have cr : ∀ w, w < 2 → 0 ≤ w → castσ km tin burn keep σ 1 (10 * 12 + w) = σ 1 (10 * 12 + w) := fun w a b => by
    rw [c1, if_neg (by omega), if_neg (by omega), if_neg (by omega), cN, if_neg (by omega), if_neg (by omega)]
    exact t6 w a
  show Inv n (castσ km tin burn keep σ)
  refine inv_B V (fun c a b => cC c a b) (fun j a _ _ _ => by rw [c0, if_neg a]) ?_ (fun t a b => ?_) ?_
  · have c00 := c0 0
    rw [if_pos rfl] at c00
    have c01 := c0 1
    rw [if_neg (by decide)] at c01
    have c05 := c0 5
    rw [if_neg (by decide)] at c05
    rw [c00, c01, c05]
    split <;> rename_i q
    · have := hf2 q; omega
    · omega
  · by_cases t12 : t = 12
    · subst t12
      have z : ∀ w, 2 ≤ w → w ≤ 9 → castσ km tin burn keep σ 1 (10 * 12 + w) = 0 := fun w a b => by rw [c1, if_pos (by omega)]
      unfold iCr at CR
      refine th_new (kk := 0) (m := 0) (g := 0) ((cr 0 (by decide) (by decide)).trans CR.1) ((cr 1 (by decide) (by decide)).trans CR.2) (z 2 (by decide) (by decide)) (fun w a b => z w (by omega) (by omega)) (z 6 (by decide) (by decide)) (z 7 (by decide) (by decide)) (z 8 (by decide) (by decide)) (z 9 (by decide) (by decide)) (by decide)
    · by_cases tn : t = σ 0 0
      · subst tn
        have v : ∀ w, 2 ≤ w → w ≤ 9 → castσ km tin burn keep σ 1 (10 * σ 0 0 + w) = crT burn keep τ w := fun w a b => by
          rw [c1, if_neg (by omega), if_pos (by omega), show 10 * σ 0 0 + w - 10 * σ 0 0 = w from by omega]
        have v0 : castσ km tin burn keep σ 1 (10 * σ 0 0 + 0) = km / 100 := by
          rw [c1, if_neg (by omega), if_neg (by omega), if_neg (by omega), cN, if_neg (by omega), if_pos (by omega), if_pos (by omega)]
        have v1 : castσ km tin burn keep σ 1 (10 * σ 0 0 + 1) = km % 100 := by
          rw [c1, if_neg (by omega), if_neg (by omega), if_neg (by omega), cN, if_neg (by omega), if_pos (by omega), if_neg (by omega), if_pos (by omega)]
        unfold thOk
        rw [v0, v1, v 2 (by decide) (by decide), v 3 (by decide) (by decide), v 4 (by decide) (by decide), v 5 (by decide) (by decide), v 6 (by decide) (by decide), v 7 (by decide) (by decide), v 8 (by decide) (by decide), v 9 (by decide) (by decide)]
        have r2 := rT 2 (by decide) (by decide)
        have r3 := rT 3 (by decide) (by decide)
        have r4 := rT 4 (by decide) (by decide)
        have r5 := rT 5 (by decide) (by decide)
        exact ⟨by omega, by omega, ⟨r2.1, r2.2.2⟩, ⟨r3.1, r3.2.1⟩, ⟨r4.1, r4.2.1⟩, ⟨r5.1, r5.2.1⟩, rHT 6 (by decide) (by decide), rHT 7 (by decide) (by decide), rHT 8 (by decide) (by decide), rHT 9 (by decide) (by decide)⟩
      · by_cases ts : 0 < keep ∧ t = σ 0 0 + 1
        · obtain ⟨hk0, rfl⟩ := ts
          have v : ∀ w, 2 ≤ w → w ≤ 9 → castσ km tin burn keep σ 1 (10 * (σ 0 0 + 1) + w) = crS burn keep τ w := fun w a b => by
            rw [c1, if_neg (by omega), if_neg (by omega), if_pos ⟨hk0, by omega, by omega⟩, show 10 * (σ 0 0 + 1) + w - 10 * (σ 0 0 + 1) = w from by omega]
          have v0 : castσ km tin burn keep σ 1 (10 * (σ 0 0 + 1) + 0) = 6 := by
            rw [c1, if_neg (by omega), if_neg (by omega), if_neg (by omega), cN, if_pos ⟨hk0, by omega, by omega⟩, if_pos (by omega)]
          have v1 : castσ km tin burn keep σ 1 (10 * (σ 0 0 + 1) + 1) = 0 := by
            rw [c1, if_neg (by omega), if_neg (by omega), if_neg (by omega), cN, if_pos ⟨hk0, by omega, by omega⟩, if_neg (by omega)]
          unfold thOk
          rw [v0, v1, v 2 (by decide) (by decide), v 3 (by decide) (by decide), v 4 (by decide) (by decide), v 5 (by decide) (by decide), v 6 (by decide) (by decide), v 7 (by decide) (by decide), v 8 (by decide) (by decide), v 9 (by decide) (by decide)]
          have r2 := rS 2 (by decide) (by decide)
          have r3 := rS 3 (by decide) (by decide)
          have r4 := rS 4 (by decide) (by decide)
          have r5 := rS 5 (by decide) (by decide)
          exact ⟨by omega, by omega, ⟨r2.1, r2.2.2⟩, ⟨r3.1, r3.2.1⟩, ⟨r4.1, r4.2.1⟩, ⟨r5.1, r5.2.1⟩, rHS 6 (by decide) (by decide), rHS 7 (by decide) (by decide), rHS 8 (by decide) (by decide), rHS 9 (by decide) (by decide)⟩
        · refine thOk_congr (fun w x y => ?_) (J t a b)
          have ts' : 0 < keep → t ≠ σ 0 0 + 1 := fun q z => ts ⟨q, z⟩
          by_cases q : 0 < keep
          · have := ts' q
            rw [c1, if_neg (by omega), if_neg (by omega), if_neg (by omega), cN, if_neg (by omega), if_neg (by omega), show 10 * t + w = 10 * 12 + (10 * t + w - 120) from by omega]
            exact t6 _ (by omega)
          · rw [c1, if_neg (by omega), if_neg (by omega), if_neg (fun z => q z.1), cN, if_neg (fun z => q z.1), if_neg (by omega), show 10 * t + w = 10 * 12 + (10 * t + w - 120) from by omega]
            exact t6 _ (by omega)
  · unfold iCr
    rw [cr 0 (by decide) (by decide), cr 1 (by decide) (by decide)]
    exact CR
/-- the scalars, when one of them changes -/
theorem iN_sc {σ σ' : gSt} {q : Int} (I : iN σ) (h : ∀ j, j ≠ q → σ' 0 j = σ 0 j) (hq : q = 2 ∨ q = 3 ∨ q = 4 ∨ q = 6 ∨ q = 7 ∨ q = 9 ∨ q = 10) (b : 0 ≤ σ' 0 q ∧ σ' 0 q ≤ (if q = 2 then 10 else if q = 3 then 6 else if q = 4 then 8 else if q = 7 then 24 else 60)) : iN σ' := by
  unfold iN at I ⊢
  have e0 := h 0
  have e1 := h 1
  have e2 := h 2
  have e3 := h 3
  have e4 := h 4
  have e5 := h 5
  have e6 := h 6
  have e7 := h 7
  have e9 := h 9
  have e10 := h 10
  rcases hq with rfl | rfl | rfl | rfl | rfl | rfl | rfl <;> simp at b e0 e1 e2 e3 e4 e5 e6 e7 e9 e10 <;> omega
theorem feedσ_oo {w : Int} {σ : gSt} : ∀ j : Nat, (∀ c, c ≠ 0 → c ≠ 5 → feedσ w σ j c = σ c) ∧ (∀ i, i ≠ 6 → feedσ w σ j 0 i = σ 0 i) ∧ (iTp σ → iTp (feedσ w σ j))
  | 0 => ⟨fun _ _ _ => rfl, fun _ _ => rfl, fun h => h⟩
  | j + 1 => by
    obtain ⟨a, b, c⟩ := @feedσ_oo w σ j
    refine ⟨fun p x y => ?_, fun i x => ?_, fun h i x y => ?_⟩
    · funext i
      show up1 _ 0 6 _ p i = _
      rw [up1_o x, up1_o y, a p x y]
    · show up1 _ 0 6 _ 0 i = _
      rw [up1_n x, up1_o (by decide), b i x]
    · show inI (up1 _ 0 6 _ 5 i)
      rw [up1_o (by decide)]
      by_cases e : i = σ 0 6 + (j : Int)
      · rw [e, up1_i]
        constructor <;> omega
      · rw [up1_n e]
        exact c h i x y
theorem kp_feed {n : Nat} {w m : Int} {σ : gSt} (V : Inv n σ) : Inv n (S_feed w m σ).2 := by
  unfold S_feed
  split
  · exact V
  rename_i hv
  have hv := Classical.not_not.mp hv
  split
  · exact V
  rename_i hf
  obtain ⟨I, J, CR, T, X, C, P, G⟩ := V.1
  have I' := I
  unfold iN at I'
  obtain ⟨a, b, c⟩ := @feedσ_oo w σ m.toNat
  have e6 := @feedσ_6 w σ m.toNat
  show Inv n (feedσ w σ m.toNat)
  exact inv_now V (fun c h => a c (by omega) (by omega)) ⟨iN_sc (q := 6) I (fun j h => b j h) (by decide) (by rw [e6, if_neg (by decide), if_neg (by decide), if_neg (by decide), if_neg (by decide)]; omega), cg_B (a 1 (by decide) (by decide)) J, cg_Cr (a 1 (by decide) (by decide)) CR, c T, cg_X (b 9 (by decide)) (b 10 (by decide)) (a 7 (by decide) (by decide)) (a 8 (by decide) (by decide)) X, cg_C (b 2 (by decide)) (a 2 (by decide) (by decide)) C, cg_P (b 3 (by decide)) (a 3 (by decide) (by decide)) P, cg_G (b 4 (by decide)) (a 4 (by decide) (by decide)) G⟩
theorem hX_hgt {u : Int} {w v : Int → Int} {L : Int} (hu : u = 0 ∨ u = 1) (ok : ∀ j, 0 ≤ j → j < L → tokOk u (w j) (v j)) : ∀ n : Nat, (n : Int) ≤ L → hX (msk L (fun i => encT u (w i) (v i))) n = hgt w n
  | 0, _ => rfl
  | n + 1, h => by
    have ih := hX_hgt hu ok n (by omega)
    have e : msk L (fun i => encT u (w i) (v i)) (n : Int) = encT u (w n) (v n) := by unfold msk; rw [if_pos ⟨by omega, by omega⟩]
    rw [hX_s, hgt_s, ih, e]
    rcases enc_cases hu (ok n (by omega) (by omega)) with ⟨a, b, c⟩ | ⟨a, b, -, c, d⟩ | ⟨a, b⟩ | ⟨a, b, -, c, d⟩
    · rw [if_neg (by omega), if_neg (by omega), if_neg (by omega), if_neg (by omega)]
    · rw [if_neg (by omega), if_neg (by omega), if_neg (by omega), if_neg (by omega)]
    · rw [if_pos b, if_pos a]
    · rw [b, if_neg d, if_pos c, if_neg (by omega), if_pos a]
theorem wfX_run {u : Int} {τ : gSt} (hu : u = 0 ∨ u = 1) (h0 : 0 ≤ τ 0 1) (g : grew u p0 τ 1) : wfX (msk (τ 0 1) (fun i => encT u (τ 1 i) (τ 2 i))) (τ 0 1).toNat := by
  obtain ⟨-, -, g3, g4⟩ := g
  have z : hgt (τ 1) (p0 0 1).toNat = 0 := rfl
  rw [z] at g3 g4
  have ok : ∀ j, 0 ≤ j → j < τ 0 1 → tokOk u (τ 1 j) (τ 2 j) := fun j a b => (g3 j a b).1
  have hh := hX_hgt hu ok
  refine ⟨fun j hj => ?_, ?_⟩
  · obtain ⟨q1, q2, q3, q4⟩ := g3 (j : Int) (show (0 : Int) ≤ j by omega) (by omega)
    rw [hh j (by omega)]
    have e : msk (τ 0 1) (fun i => encT u (τ 1 i) (τ 2 i)) (j : Int) = encT u (τ 1 j) (τ 2 j) := by unfold msk; rw [if_pos ⟨by omega, by omega⟩]
    rw [e]
    rw [Int.toNat_natCast] at q2 q3 q4
    rcases enc_cases hu q1 with ⟨a, b, c⟩ | ⟨a, b, -, c, d⟩ | ⟨a, b⟩ | ⟨a, b, l, c, d⟩
    · have r : τ 2 (j : Int) ≤ 9999 := by
        rcases q1 with q | q | q | q
        · exact q.2.2
        · omega
        · omega
        · omega
      exact ⟨Or.inl ⟨by omega, by omega⟩, fun x => by omega, fun x => by omega, q4⟩
    · exact ⟨Or.inr (Or.inl ⟨c, d⟩), fun x => by omega, fun x => by omega, q4⟩
    · have := q2 a
      exact ⟨Or.inr (Or.inr (Or.inl b)), fun _ => by omega, fun _ x => absurd b x, q4⟩
    · have := q3 a
      rw [b]
      exact ⟨Or.inr (Or.inr (Or.inr ⟨by rw [Int.neg_neg]; exact l, c⟩)), fun x => absurd x d, fun _ _ => by omega, q4⟩
  · rw [hh _ (by omega)]
    omega
theorem setX_o {u n : Int} {f : Int → Int} {σ : gSt} (hu : u = 0 ∨ u = 1) : (∀ c, c ≠ 0 → c ≠ 7 → c ≠ 8 → setX u n f σ c = σ c) ∧ (∀ j, j ≠ 9 + u → setX u n f σ 0 j = σ 0 j) ∧ setX u n f σ 0 (9 + u) = n ∧ (∀ c : Nat, (c : Int) = 7 + u → setX u n f σ c = msk n f) ∧ ∀ c : Nat, (c : Int) = 8 - u → setX u n f σ c = σ c := by
  refine ⟨fun c a b d => ?_, fun j a => ?_, ?_, fun c h => ?_, fun c h => ?_⟩
  · funext i
    unfold setX
    rw [if_neg (fun q => a q.1), if_neg (by omega)]
  · unfold setX
    rw [if_neg (fun q => a q.2), if_neg (by omega)]
  · unfold setX
    rw [if_pos ⟨rfl, rfl⟩]
  · funext i
    unfold setX
    rw [if_neg (by omega), if_pos h]
  · funext i
    unfold setX
    rw [if_neg (by omega), if_neg (by omega)]
theorem inv_X {n : Nat} {u m : Int} {f : Int → Int} {σ : gSt} (V : Inv n σ) (hu : u = 0 ∨ u = 1) (hm : 0 ≤ m ∧ m ≤ 60) (wf : 0 < m → wfX (msk m f) m.toNat) : Inv n (setX u m f σ) := by
  obtain ⟨I, J, CR, T, X, C, P, G⟩ := V.1
  obtain ⟨a, b, c, d, e⟩ := @setX_o u m f σ hu
  have hb : ∀ j, j < 9 → setX u m f σ 0 j = σ 0 j := fun j h => b j (by omega)
  refine inv_now V (fun c h => a c (by omega) (by omega) (by omega)) ⟨iN_sc (q := 9 + u) I b (by omega) ?_, cg_B (a 1 (by decide) (by decide) (by decide)) J, cg_Cr (a 1 (by decide) (by decide) (by decide)) CR, cg_Tp (a 5 (by decide) (by decide) (by decide)) T, ?_, cg_C (hb 2 (by decide)) (a 2 (by decide) (by decide) (by decide)) C, cg_P (hb 3 (by decide)) (a 3 (by decide) (by decide) (by decide)) P, cg_G (hb 4 (by decide)) (a 4 (by decide) (by decide) (by decide)) G⟩
  · rw [c, if_neg (by omega), if_neg (by omega), if_neg (by omega), if_neg (by omega)]
    exact hm
  · unfold iX at X ⊢
    rcases hu with rfl | rfl
    · rw [show setX 0 m f σ 0 9 = m from c, b 10 (by decide), d 7 (by decide), e 8 (by decide)]
      exact ⟨wf, X.2⟩
    · rw [show setX 1 m f σ 0 10 = m from c, b 9 (by decide), d 8 (by decide), e 7 (by decide)]
      exact ⟨X.1, wf⟩
theorem inv_sc {n : Nat} {q x : Int} {σ : gSt} (V : Inv n σ) (hq : q = 3 ∨ q = 4 ∨ q = 6 ∨ q = 7) (hx : x = 0) : Inv n (up1 σ 0 q x) := by
  subst hx
  obtain ⟨I, J, CR, T, X, C, P, G⟩ := V.1
  have e : ∀ c, c ≠ 0 → up1 σ 0 q 0 c = σ c := fun c h => by funext i; exact up1_o h
  have b : ∀ j, j ≠ q → up1 σ 0 q 0 0 j = σ 0 j := fun j h => up1_n h
  refine inv_now V (fun c h => e c (by omega)) ⟨iN_sc (q := q) I b (by omega) (by rw [up1_i]; refine ⟨by decide, ?_⟩; repeat' split
                                                                                  all_goals decide), cg_B (e 1 (by decide)) J, cg_Cr (e 1 (by decide)) CR, cg_Tp (e 5 (by decide)) T, cg_X (b 9 (by omega)) (b 10 (by omega)) (e 7 (by decide)) (e 8 (by decide)) X, cg_C (b 2 (by omega)) (e 2 (by decide)) C, ?_, ?_⟩
  · by_cases h : q = 3
    · subst h
      intro i a c
      rw [up1_i] at c
      exact absurd c (by omega)
    · exact cg_P (b 3 (by omega)) (e 3 (by decide)) P
  · by_cases h : q = 4
    · subst h
      intro i a c
      rw [up1_i] at c
      exact absurd c (by omega)
    · exact cg_G (b 4 (by omega)) (e 4 (by decide)) G
theorem kp_text {n : Nat} {u : Int} {σ : gSt} (V : Inv n σ) : Inv n (S_text u σ).2 := by
  unfold S_text
  split
  · exact V
  rename_i hv
  have hv := Classical.not_not.mp hv
  have I' := V.1.1
  unfold iN at I'
  obtain ⟨g1, g2⟩ := good_run (u := u) (σ := σ) (by omega)
  have V6 := inv_sc (q := 6) (x := 0) V (by decide) rfl
  split
  · rename_i h
    obtain ⟨h1, h2⟩ := h
    have g3 := g2.resolve_left h1
    unfold pOK at g1
    exact inv_X V6 (by omega) (by omega) (fun _ => wfX_run (by omega) g1.1 g3.2)
  · exact V6
theorem kp_untell {n : Nat} {u : Int} {σ : gSt} (V : Inv n σ) : Inv n (S_untell u σ).2 := by
  unfold S_untell
  split
  · exact V
  rename_i hv
  have hv := Classical.not_not.mp hv
  exact inv_X V (by omega) (by decide) (fun h => absurd h (by decide))
theorem kp_claim {n : Nat} {t g : Int} {σ : gSt} (V : Inv n σ) : Inv n (S_claim t g σ).2 := by
  unfold S_claim
  split
  · exact V
  rename_i hv
  have hv := Classical.not_not.mp hv
  split
  · exact V
  rename_i hf
  obtain ⟨I, J, CR, T, X, C, P, G⟩ := V.1
  have I' := I
  unfold iN at I'
  generalize hσ : up1 (up1 (up1 σ 2 (2 * σ 0 2) t) 2 (2 * σ 0 2 + 1) g) 0 2 (σ 0 2 + 1) = σ'
  show Inv n σ'
  have e : ∀ c, c ≠ 0 → c ≠ 2 → σ' c = σ c := fun c h h2 => by funext i; rw [← hσ, up1_o h, up1_o h2, up1_o h2]
  have b : ∀ j, j ≠ 2 → σ' 0 j = σ 0 j := fun j h => by rw [← hσ, up1_n h, up1_o (by decide), up1_o (by decide)]
  have b2 : σ' 0 2 = σ 0 2 + 1 := by rw [← hσ, up1_i]
  have q : ∀ j, σ' 2 j = if j = 2 * σ 0 2 + 1 then g else if j = 2 * σ 0 2 then t else σ 2 j := fun j => by
    rw [← hσ, up1_o (by decide)]
    by_cases x : j = 2 * σ 0 2 + 1
    · rw [if_pos x, x, up1_i]
    · rw [if_neg x, up1_n x]
      by_cases y : j = 2 * σ 0 2
      · rw [if_pos y, y, up1_i]
      · rw [if_neg y, up1_n y]
  refine inv_now V (fun c h => e c (by omega) (by omega)) ⟨iN_sc (q := 2) I b (by decide) (by rw [b2, if_pos rfl]; omega), cg_B (e 1 (by decide) (by decide)) J, cg_Cr (e 1 (by decide) (by decide)) CR, cg_Tp (e 5 (by decide) (by decide)) T, cg_X (b 9 (by decide)) (b 10 (by decide)) (e 7 (by decide) (by decide)) (e 8 (by decide) (by decide)) X, ?_, cg_P (b 3 (by decide)) (e 3 (by decide) (by decide)) P, cg_G (b 4 (by decide)) (e 4 (by decide) (by decide)) G⟩
  intro i x y
  rw [b2] at y
  rw [q, q]
  by_cases w : i = σ 0 2
  · rw [if_neg (by omega), if_pos (by omega), if_pos (by omega)]
    omega
  · rw [if_neg (by omega), if_neg (by omega), if_neg (by omega), if_neg (by omega)]
    exact C i x (by omega)
theorem inv_3 {n : Nat} {c : Nat} {q a b d : Int} {σ : gSt} (V : Inv n σ) (hc : (c = 3 ∧ q = 3 ∧ σ 0 3 < 6 ∧ (0 ≤ a ∧ a ≤ 11) ∧ (0 ≤ b ∧ b ≤ 11) ∧ a ≠ b ∧ (1 ≤ d ∧ d ≤ 8)) ∨ (c = 4 ∧ q = 4 ∧ σ 0 4 < 8 ∧ (0 ≤ a ∧ a ≤ 11) ∧ (0 ≤ b ∧ b ≤ 9999999) ∧ (0 ≤ d ∧ d ≤ 99))) : Inv n (add3 σ c q a b d) := by
  obtain ⟨I, J, CR, T, X, C, P, G⟩ := V.1
  have I' := I
  unfold iN at I'
  have c3 : c ≠ 0 := by rcases hc with h | h <;> omega
  generalize hσ : add3 σ c q a b d = σ'
  unfold add3 at hσ
  have e : ∀ p, p ≠ 0 → p ≠ c → σ' p = σ p := fun p h h2 => by funext i; rw [← hσ, up1_o h, up1_o h2, up1_o h2, up1_o h2]
  have b0 : ∀ j, j ≠ q → σ' 0 j = σ 0 j := fun j h => by rw [← hσ, up1_n h, up1_o (Ne.symm c3), up1_o (Ne.symm c3), up1_o (Ne.symm c3)]
  have b2 : σ' 0 q = σ 0 q + 1 := by rw [← hσ, up1_i]
  have w : ∀ j, σ' c j = if j = 3 * σ 0 q + 2 then d else if j = 3 * σ 0 q + 1 then b else if j = 3 * σ 0 q then a else σ c j := fun j => by
    rw [← hσ, up1_o c3]
    by_cases x : j = 3 * σ 0 q + 2
    · rw [if_pos x, x, up1_i]
    · rw [if_neg x, up1_n x]
      by_cases y : j = 3 * σ 0 q + 1
      · rw [if_pos y, y, up1_i]
      · rw [if_neg y, up1_n y]
        by_cases z : j = 3 * σ 0 q
        · rw [if_pos z, z, up1_i]
        · rw [if_neg z, up1_n z]
  have kN : iN σ' := iN_sc (q := q) I b0 (by rcases hc with h | h <;> omega) (by
    rw [b2]
    rcases hc with ⟨-, rfl, h, -⟩ | ⟨-, rfl, h, -⟩
    · rw [if_neg (by decide), if_pos rfl]; omega
    · rw [if_neg (by decide), if_neg (by decide), if_pos rfl]; omega)
  have ne : ∀ p : Nat, p ≠ 3 → p ≠ 4 → p ≠ c := fun p x y => by rcases hc with h | h <;> omega
  have ns : ∀ p : Int, p ≠ 3 → p ≠ 4 → p ≠ q := fun p x y => by rcases hc with h | h <;> omega
  refine inv_now V (fun p h => e p (by omega) (ne p (by omega) (by omega))) ⟨kN, cg_B (e 1 (by decide) (ne 1 (by decide) (by decide))) J, cg_Cr (e 1 (by decide) (ne 1 (by decide) (by decide))) CR, cg_Tp (e 5 (by decide) (ne 5 (by decide) (by decide))) T, cg_X (b0 9 (ns 9 (by decide) (by decide))) (b0 10 (ns 10 (by decide) (by decide))) (e 7 (by decide) (ne 7 (by decide) (by decide))) (e 8 (by decide) (ne 8 (by decide) (by decide))) X, cg_C (b0 2 (ns 2 (by decide) (by decide))) (e 2 (by decide) (ne 2 (by decide) (by decide))) C, ?_, ?_⟩
  · rcases hc with ⟨rfl, rfl, h1, h2⟩ | ⟨rfl, rfl, -⟩
    · intro i x y
      rw [b2] at y
      rw [w, w, w]
      by_cases z : i = σ 0 3
      · rw [if_neg (by omega), if_neg (by omega), if_pos (by omega), if_neg (by omega), if_pos (by omega), if_pos (by omega)]
        exact h2
      · rw [if_neg (by omega), if_neg (by omega), if_neg (by omega), if_neg (by omega), if_neg (by omega), if_neg (by omega), if_neg (by omega), if_neg (by omega), if_neg (by omega)]
        exact P i x (by omega)
    · exact cg_P (b0 3 (by decide)) (e 3 (by decide) (by decide)) P
  · rcases hc with ⟨rfl, rfl, -⟩ | ⟨rfl, rfl, h1, h2⟩
    · exact cg_G (b0 4 (by decide)) (e 4 (by decide) (by decide)) G
    · intro i x y
      rw [b2] at y
      rw [w, w, w]
      by_cases z : i = σ 0 4
      · rw [if_neg (by omega), if_neg (by omega), if_pos (by omega), if_neg (by omega), if_pos (by omega), if_pos (by omega)]
        exact h2
      · rw [if_neg (by omega), if_neg (by omega), if_neg (by omega), if_neg (by omega), if_neg (by omega), if_neg (by omega), if_neg (by omega), if_neg (by omega), if_neg (by omega)]
        exact G i x (by omega)
theorem kp_paper {n : Nat} {a b d : Int} {σ : gSt} (V : Inv n σ) : Inv n (S_paper a b d σ).2 := by
  unfold S_paper
  split
  · exact V
  rename_i hv
  have hv := Classical.not_not.mp hv
  split
  · exact V
  rename_i hf
  have I' := V.1.1
  unfold iN at I'
  exact inv_3 V (Or.inl ⟨rfl, rfl, by omega, by omega, by omega, hv.2.2.1, hv.2.2.2⟩)
theorem kp_weigh {n : Nat} {a b d : Int} {σ : gSt} (V : Inv n σ) : Inv n (S_weigh a b d σ).2 := by
  unfold S_weigh
  split
  · exact V
  rename_i hv
  have hv := Classical.not_not.mp hv
  split
  · exact V
  rename_i hf
  have I' := V.1.1
  unfold iN at I'
  exact inv_3 V (Or.inr ⟨rfl, rfl, by omega, by omega, hv.2.1, hv.2.2⟩)
theorem kp_forget {n : Nat} {w : Int} {σ : gSt} (V : Inv n σ) : Inv n (S_forget w σ).2 := by
  unfold S_forget
  split
  · exact V
  rename_i hv
  have hv := Classical.not_not.mp hv
  exact inv_sc V (by omega) rfl
theorem kp_check {n : Nat} {σ : gSt} (V : Inv n σ) : Inv n (S_check σ).2 := inv_sc V (by decide) rfl
theorem kp_tell {n : Nat} {v : Int} {σ : gSt} (V : Inv n σ) : Inv n (S_tell v σ).2 := by
  unfold S_tell
  split
  · exact V
  rename_i hf
  obtain ⟨I, J, CR, T, X, C, P, G⟩ := V.1
  have I' := I
  unfold iN at I'
  have e : ∀ c, c ≠ 0 → c ≠ 6 → up1 (up1 σ 6 (σ 0 7) v) 0 7 (σ 0 7 + 1) c = σ c := fun c h h2 => by funext i; rw [up1_o h, up1_o h2]
  have b : ∀ j, j ≠ 7 → up1 (up1 σ 6 (σ 0 7) v) 0 7 (σ 0 7 + 1) 0 j = σ 0 j := fun j h => by rw [up1_n h, up1_o (by decide)]
  show Inv n (up1 (up1 σ 6 (σ 0 7) v) 0 7 (σ 0 7 + 1))
  exact inv_now V (fun c h => e c (by omega) (by omega)) ⟨iN_sc (q := 7) I b (by decide) (by rw [up1_i, if_neg (by decide), if_neg (by decide), if_neg (by decide), if_pos rfl]; omega), cg_B (e 1 (by decide) (by decide)) J, cg_Cr (e 1 (by decide) (by decide)) CR, cg_Tp (e 5 (by decide) (by decide)) T, cg_X (b 9 (by decide)) (b 10 (by decide)) (e 7 (by decide) (by decide)) (e 8 (by decide) (by decide)) X, cg_C (b 2 (by decide)) (e 2 (by decide) (by decide)) C, cg_P (b 3 (by decide)) (e 3 (by decide) (by decide)) P, cg_G (b 4 (by decide)) (e 4 (by decide) (by decide)) G⟩
theorem kp_papL {q : Int} {k : Nat} : ∀ (n : Nat) (m : Int) (σ : gSt), Inv k σ → Inv k (papL q n m σ).2
  | 0, _, _, V => V
  | n + 1, m, σ, V => by
    unfold papL
    split
    · rename_i g
      have I' := V.1.1
      unfold iN at I'
      refine kp_papL n (m + 1) _ (inv_3 V (Or.inl ⟨rfl, rfl, g.2.1, by omega, by omega, g.2.2.2.2.1, g.2.2.2.2.2⟩))
    · exact V
theorem kp_papers {n : Nat} {q : Int} {σ : gSt} (V : Inv n σ) : Inv n (S_papers q σ).2 := by
  unfold S_papers
  split
  · exact V
  split
  · exact V
  exact kp_papL 8 0 σ V
/-- a change of sheets alone -/
theorem inv_S {n : Nat} {σ σ' : gSt} (V : Inv n σ) (h : ∀ c, c < 22 → σ' c = σ c) (S : iSh σ') : Inv n σ' := by
  obtain ⟨a, -, c, d⟩ := V
  refine ⟨cg_All (fun c q => h c (by omega)) a, S, ?_, cg_Img (fun c _ x => h c x) d⟩
  rw [h 21 (by decide)]
  exact c
theorem kp_sheet {n : Nat} {q b m : Int} {σ : gSt} (V : Inv n σ) : Inv n (S_sheet q b m σ).2 := by
  unfold S_sheet
  split
  · exact V
  rename_i hv
  have hv := Classical.not_not.mp hv
  split
  · exact V
  rename_i h1
  split
  · exact V
  rename_i h2
  show Inv n (shB σ q b (if b = 0 then 0 else m))
  refine inv_S V (fun c hc => by funext i; unfold shB; rw [if_neg (by omega), if_neg (by omega), if_neg (by omega)]) (fun t x y => ?_)
  have S := V.2.1 t x y
  unfold shB
  by_cases e : t = q
  · rw [if_pos ⟨rfl, e⟩, if_neg (fun z => absurd z.1 (by decide)), if_pos ⟨rfl, e⟩]
    refine ⟨hv.2, ?_, fun i _ _ => ?_⟩
    · split <;> omega
    · rw [if_neg (fun z => absurd z.1 (by decide)), if_neg (fun z => absurd z.1 (by decide)), if_pos ⟨rfl, by omega, by omega⟩]
      constructor <;> decide
  · rw [if_neg (fun z => e z.2), if_neg (fun z => absurd z.1 (by decide)), if_neg (fun z => absurd z.1 (by decide)), if_neg (fun z => absurd z.1 (by decide)), if_neg (fun z => e z.2), if_neg (fun z => absurd z.1 (by decide))]
    refine ⟨S.1, S.2.1, fun i a b => ?_⟩
    rw [if_neg (fun z => absurd z.1 (by decide)), if_neg (fun z => absurd z.1 (by decide)), if_neg (by omega)]
    exact S.2.2 i a b
theorem kp_put {n : Nat} {q i v : Int} {σ : gSt} (V : Inv n σ) : Inv n (S_put q i v σ).2 := by
  unfold S_put
  split
  · exact V
  rename_i hv
  have hv := Classical.not_not.mp hv
  split
  · exact V
  split
  · exact V
  show Inv n (up1 σ 25 (24 * q + i) (lowB (σ 23 q) v))
  refine inv_S V (fun c hc => by funext j; exact up1_o (by omega)) (fun t x y => ?_)
  have S := V.2.1 t x y
  rw [up1_o (by decide), up1_o (by decide)]
  refine ⟨S.1, S.2.1, fun j a b => ?_⟩
  by_cases e : 24 * t + j = 24 * q + i
  · rw [e, up1_i]
    exact inX _
  · rw [up1_n e]
    exact S.2.2 j a b
theorem kp_move {n : Nat} {q i q2 j m : Int} {σ : gSt} (V : Inv n σ) : Inv n (S_move q i q2 j m σ).2 := by
  unfold S_move
  split
  · exact V
  rename_i hv
  have hv := Classical.not_not.mp hv
  split
  · exact V
  split
  · exact V
  split
  · exact V
  rename_i hr
  show Inv n (mvS σ q i q2 j m)
  refine inv_S V (fun c hc => by funext p; unfold mvS; rw [if_neg (by omega)]) (fun t x y => ?_)
  have S := V.2.1 t x y
  have S1 := V.2.1 q hv.1.1 hv.1.2
  unfold mvS
  rw [if_neg (fun z => absurd z.1 (by decide)), if_neg (fun z => absurd z.1 (by decide))]
  refine ⟨S.1, S.2.1, fun p a b => ?_⟩
  by_cases e : 24 * q2 + j ≤ 24 * t + p ∧ 24 * t + p < 24 * q2 + j + m
  · rw [if_pos ⟨rfl, e⟩, show 24 * q + i + (24 * t + p - (24 * q2 + j)) = 24 * q + (i + (24 * t + p - (24 * q2 + j))) from by omega]
    exact S1.2.2 _ (by omega) (by omega)
  · rw [if_neg (fun z => e z.2)]
    exact S.2.2 p a b
theorem kp_image {n : Nat} {σ : gSt} (V : Inv n σ) : Inv (n + 6) (S_image σ).2 := by
  obtain ⟨a, b, c, d⟩ := V
  show Inv (n + 6) (imgσ σ)
  have lo : ∀ p, p < 10 → imgσ σ p = σ p := fun p h => by funext i; unfold imgσ; rw [if_neg (by omega), if_neg (by omega)]
  have hi : ∀ p, p < 10 → rstσ (imgσ σ) p = σ p := fun p h => by
    funext i; unfold rstσ imgσ; rw [if_pos h, if_pos (by omega), show p + 10 - 10 = p from by omega]
  refine ⟨cg_All lo a, cg_Sh (fun p h => ?_) b, ?_, fun _ => cg_All hi a⟩
  · funext i
    unfold imgσ
    rw [if_neg (by omega), if_neg (by omega)]
  · have : imgσ σ 21 0 = σ 21 0 + 1 := by unfold imgσ; rw [if_neg (by decide), if_pos ⟨rfl, rfl⟩]
    omega
theorem kp_restore {n : Nat} {σ : gSt} (V : Inv n σ) : Inv n (S_restore σ).2 := by
  unfold S_restore
  split
  · exact V
  rename_i hz
  obtain ⟨a, b, c, d⟩ := V
  show Inv n (rstσ σ)
  have hi : ∀ p, ¬ p < 10 → rstσ σ p = σ p := fun p h => by funext i; unfold rstσ; rw [if_neg h]
  refine ⟨d hz, cg_Sh (fun p h => hi p (by omega)) b, ?_, cg_Img (fun p h _ => hi p (by omega)) d⟩
  rw [hi 21 (by decide)]
  exact c
end
section
-- class and reference go alike, call by call
def Raw (M : gSt) : Prop := rawT 0 (M 1) ∧ rawT 1 (M 1) ∧ rawT 0 (M 2) ∧ rawT 1 (M 2) ∧ 0 ≤ M 0 16 ∧ M 0 16 ≤ 30
def Rel (i : Nat) (Mc Mr : gSt) : Prop := absC Mc = absR Mr ∧ cK Mc ∧ Inv i (absR Mr) ∧ Raw Mr
theorem len1 {M : gSt} (I : iN (absR M)) : M 1 202 ≤ 60 ∧ M 1 327 ≤ 60 := by
  have e1 : absR M 0 9 = M 1 202 := by simp [absR, absS]
  have e2 : absR M 0 10 = M 1 327 := by simp [absR, absS]
  unfold iN at I
  omega
theorem rawT_c {u : Int} {s s' : Int → Int} (hl : s' (202 + 125 * u) ≤ 60) (h : ∀ j, 202 + 125 * u ≤ j → j < 327 + 125 * u → s' j = s j) (r : rawT u s) : rawT u s' := by
  intro i a b
  have q := h (202 + 125 * u) (by omega) (by omega)
  rw [h _ (by omega) (by omega), h _ (by omega) (by omega)]
  exact r i a (by omega)
theorem raw_fr {M M' : gSt} (I : iN (absR M')) (f : fr M M') (W : Raw M) : Raw M' := by
  obtain ⟨a, b, c, d, e⟩ := W
  obtain ⟨f1, f2, f3⟩ := f
  have l := len1 I
  refine ⟨rawT_c l.1 (fun j x y => f1 j (by omega) (by omega)) a, rawT_c l.2 (fun j x y => f1 j (by omega) (by omega)) b, by rw [f2]; exact c, by rw [f2]; exact d, by rw [f3]; exact e⟩
theorem rel_of {i : Nat} {Mc' Mr Mr' σ : gSt} (hc : absC Mc' = σ) (hK : cK Mc') (hr : absR Mr' = σ) (V : Inv i σ) (f : fr Mr Mr') (W : Raw Mr) : Rel (i + 6) Mc' Mr' := by
  subst hr
  exact ⟨hc, hK, inv_mono (by omega) V, raw_fr V.1.1 f W⟩
theorem rel_now {i : Nat} {Mc Mc' Mr Mr' : gSt} (R : Rel i Mc Mr) (hc : absC Mc' = absC Mc) (hK : cK Mc') (hr : absR Mr' = absR Mr) (f : fr Mr Mr') : Rel (i + 6) Mc' Mr' :=
  rel_of (hc.trans R.1) hK hr R.2.2.1 f R.2.2.2
theorem ans {σ τ : gSt} {r r' : Int} (f : gSt → Int) (e : σ = τ) (h : wrap r = wrap (f σ)) (h' : wrap r' = wrap (f τ)) : wrap r = wrap r' := by
  subst e
  exact h.trans h'.symm
theorem kp_as {n : Nat} {t w : Int} {σ : gSt} (V : Inv n σ) : Inv n (S_as t w σ).2 := by
  unfold S_as
  split
  · exact V
  split <;> exact V
theorem kp_crucible {n : Nat} {w : Int} {σ : gSt} (V : Inv n σ) : Inv n (S_crucible w σ).2 := by
  unfold S_crucible
  split <;> exact V
theorem al_thing {i : Nat} {a1 a2 : Int} {Mc Mr : gSt} {Q : Int → gSt → Int → gSt → Prop} (j1 : inI a1) (j2 : inI a2) (R : Rel i Mc Mr) (hQ : ∀ r r' Mc' Mr', wrap r = wrap r' → Rel (i + 6) Mc' Mr' → Q r Mc' r' Mr') : w_X8_thing a1 a2 Mc (fun r Mc' => w_Rthing a1 a2 Mr (fun r' Mr' => Q r Mc' r' Mr')) := by
  obtain ⟨e, hK, V, W⟩ := id R
  obtain ⟨I, J, CR, T, X, C, P, G⟩ := id V.1
  have S := V.2.1
  exact sC_thing j1 j2 (by rw [e]; exact I) hK (fun Mc' a b => sR_thing j1 j2 I (fun Mr' c d => hQ _ _ _ _ (by rw [e]) (rel_of (a.trans (by rw [e])) b c (kp_thing V) d W)))
theorem al_thingIs {i : Nat} {a1 a2 : Int} {Mc Mr : gSt} {Q : Int → gSt → Int → gSt → Prop} (j1 : inI a1) (j2 : inI a2) (R : Rel i Mc Mr) (hQ : ∀ r r' Mc' Mr', wrap r = wrap r' → Rel (i + 6) Mc' Mr' → Q r Mc' r' Mr') : w_X8_thingIs a1 a2 Mc (fun r Mc' => w_RthingIs a1 a2 Mr (fun r' Mr' => Q r Mc' r' Mr')) := by
  obtain ⟨e, hK, V, W⟩ := id R
  obtain ⟨I, J, CR, T, X, C, P, G⟩ := id V.1
  have S := V.2.1
  exact sC_thingIs j1 j2 (by rw [e]; exact I) (by rw [e]; exact J) (by rw [e]; exact X) hK (fun r Mc' h a b => sR_thingIs j1 j2 I J X W.1 (fun r' Mr' h' c d => hQ _ _ _ _ (ans (fun σ => S_thingIs a1 a2 σ) e h h') (rel_now R a b c d)))
theorem al_as {i : Nat} {a1 a2 : Int} {Mc Mr : gSt} {Q : Int → gSt → Int → gSt → Prop} (j1 : inI a1) (j2 : inI a2) (R : Rel i Mc Mr) (hQ : ∀ r r' Mc' Mr', wrap r = wrap r' → Rel (i + 6) Mc' Mr' → Q r Mc' r' Mr') : w_X8_as a1 a2 Mc (fun r Mc' => w_Ras a1 a2 Mr (fun r' Mr' => Q r Mc' r' Mr')) := by
  obtain ⟨e, hK, V, W⟩ := id R
  obtain ⟨I, J, CR, T, X, C, P, G⟩ := id V.1
  have S := V.2.1
  exact sC_as j1 j2 (by rw [e]; exact I) (by rw [e]; exact J) hK (fun Mc' a b => sR_as j1 j2 I J (fun Mr' c d => hQ _ _ _ _ (by rw [e]) (rel_of (a.trans (by rw [e])) b c (kp_as V) d W)))
theorem al_set {i : Nat} {a1 a2 a3 : Int} {Mc Mr : gSt} {Q : Int → gSt → Int → gSt → Prop} (j1 : inI a1) (j2 : inI a2) (j3 : inI a3) (R : Rel i Mc Mr) (hQ : ∀ r r' Mc' Mr', wrap r = wrap r' → Rel (i + 6) Mc' Mr' → Q r Mc' r' Mr') : w_X8_set a1 a2 a3 Mc (fun r Mc' => w_Rset a1 a2 a3 Mr (fun r' Mr' => Q r Mc' r' Mr')) := by
  obtain ⟨e, hK, V, W⟩ := id R
  obtain ⟨I, J, CR, T, X, C, P, G⟩ := id V.1
  have S := V.2.1
  exact sC_set j1 j2 j3 (by rw [e]; exact I) (by rw [e]; exact J) hK (fun Mc' a b => sR_set j1 j2 j3 I J (fun Mr' c d => hQ _ _ _ _ (by rw [e]) (rel_of (a.trans (by rw [e])) b c (kp_set V) d W)))
theorem al_melt {i : Nat} {a1 a2 : Int} {Mc Mr : gSt} {Q : Int → gSt → Int → gSt → Prop} (j1 : inI a1) (j2 : inI a2) (R : Rel i Mc Mr) (hQ : ∀ r r' Mc' Mr', wrap r = wrap r' → Rel (i + 6) Mc' Mr' → Q r Mc' r' Mr') : w_X8_melt a1 a2 Mc (fun r Mc' => w_Rmelt a1 a2 Mr (fun r' Mr' => Q r Mc' r' Mr')) := by
  obtain ⟨e, hK, V, W⟩ := id R
  obtain ⟨I, J, CR, T, X, C, P, G⟩ := id V.1
  have S := V.2.1
  exact sC_melt j1 j2 (by rw [e]; exact I) (by rw [e]; exact J) hK (fun Mc' a b => sR_melt j1 j2 I J (fun Mr' c d => hQ _ _ _ _ (by rw [e]) (rel_of (a.trans (by rw [e])) b c (kp_melt V) d W)))
theorem al_crucible {i : Nat} {a1 : Int} {Mc Mr : gSt} {Q : Int → gSt → Int → gSt → Prop} (j1 : inI a1) (R : Rel i Mc Mr) (hQ : ∀ r r' Mc' Mr', wrap r = wrap r' → Rel (i + 6) Mc' Mr' → Q r Mc' r' Mr') : w_X8_crucible a1 Mc (fun r Mc' => w_Rcrucible a1 Mr (fun r' Mr' => Q r Mc' r' Mr')) := by
  obtain ⟨e, hK, V, W⟩ := id R
  obtain ⟨I, J, CR, T, X, C, P, G⟩ := id V.1
  have S := V.2.1
  exact sC_crucible j1 hK (fun Mc' a b => sR_crucible j1 (fun Mr' c d => hQ _ _ _ _ (by rw [e]) (rel_of (a.trans (by rw [e])) b c (kp_crucible V) d W)))
theorem al_cast {i : Nat} {a1 a2 a3 : Int} {Mc Mr : gSt} {Q : Int → gSt → Int → gSt → Prop} (j1 : inI a1) (j2 : inI a2) (j3 : inI a3) (R : Rel i Mc Mr) (hQ : ∀ r r' Mc' Mr', wrap r = wrap r' → Rel (i + 6) Mc' Mr' → Q r Mc' r' Mr') : w_X8_cast a1 a2 a3 Mc (fun r Mc' => w_Rcast a1 a2 a3 Mr (fun r' Mr' => Q r Mc' r' Mr')) := by
  obtain ⟨e, hK, V, W⟩ := id R
  obtain ⟨I, J, CR, T, X, C, P, G⟩ := id V.1
  have S := V.2.1
  exact sC_cast j1 j2 j3 (by rw [e]; exact I) (by rw [e]; exact J) (by rw [e]; exact CR) hK (fun Mc' a b => sR_cast j1 j2 j3 I J (fun Mr' c d => hQ _ _ _ _ (by rw [e]) (rel_of (a.trans (by rw [e])) b c (kp_cast V) d W)))
theorem al_years {i : Nat} {a1 : Int} {Mc Mr : gSt} {Q : Int → gSt → Int → gSt → Prop} (j1 : inI a1) (R : Rel i Mc Mr) (hQ : ∀ r r' Mc' Mr', wrap r = wrap r' → Rel (i + 6) Mc' Mr' → Q r Mc' r' Mr') : w_X8_years a1 Mc (fun r Mc' => w_Ryears a1 Mr (fun r' Mr' => Q r Mc' r' Mr')) := by
  obtain ⟨e, hK, V, W⟩ := id R
  obtain ⟨I, J, CR, T, X, C, P, G⟩ := id V.1
  have S := V.2.1
  exact sC_years j1 (by rw [e]; exact I) (by rw [e]; exact J) hK (fun Mc' a b => sR_years j1 I J (fun Mr' c d => hQ _ _ _ _ (by rw [e]) (rel_of (a.trans (by rw [e])) b c (kp_years V) d W)))
theorem al_then {i : Nat} {a1 a2 a3 : Int} {Mc Mr : gSt} {Q : Int → gSt → Int → gSt → Prop} (j1 : inI a1) (j2 : inI a2) (j3 : inI a3) (R : Rel i Mc Mr) (hQ : ∀ r r' Mc' Mr', wrap r = wrap r' → Rel (i + 6) Mc' Mr' → Q r Mc' r' Mr') : w_X8_then a1 a2 a3 Mc (fun r Mc' => w_Rthen a1 a2 a3 Mr (fun r' Mr' => Q r Mc' r' Mr')) := by
  obtain ⟨e, hK, V, W⟩ := id R
  obtain ⟨I, J, CR, T, X, C, P, G⟩ := id V.1
  have S := V.2.1
  exact sC_then j1 j2 j3 (by rw [e]; exact I) (by rw [e]; exact J) (by rw [e]; exact X) hK (fun r Mc' h a b => sR_then j1 j2 j3 I J X W.1 (fun r' Mr' h' c d => hQ _ _ _ _ (ans (fun σ => S_then a1 a2 a3 σ) e h h') (rel_now R a b c d)))
theorem al_seed {i : Nat} {a1 : Int} {Mc Mr : gSt} {Q : Int → gSt → Int → gSt → Prop} (j1 : inI a1) (R : Rel i Mc Mr) (hQ : ∀ r r' Mc' Mr', wrap r = wrap r' → Rel (i + 6) Mc' Mr' → Q r Mc' r' Mr') : w_X8_seed a1 Mc (fun r Mc' => w_Rseed a1 Mr (fun r' Mr' => Q r Mc' r' Mr')) := by
  obtain ⟨e, hK, V, W⟩ := id R
  obtain ⟨I, J, CR, T, X, C, P, G⟩ := id V.1
  have S := V.2.1
  exact sC_seed hK (fun Mc' a b => sR_seed I (fun Mr' c d => hQ _ _ _ _ (by rw [e]) (rel_of (a.trans (by rw [e])) b c (kp_seed V) d W)))
theorem al_feed {i : Nat} {a1 a2 : Int} {Mc Mr : gSt} {Q : Int → gSt → Int → gSt → Prop} (j2 : inI a2) (R : Rel i Mc Mr) (hQ : ∀ r r' Mc' Mr', wrap r = wrap r' → Rel (i + 6) Mc' Mr' → Q r Mc' r' Mr') : w_X8_feed a1 a2 Mc (fun r Mc' => w_Rfeed a1 a2 Mr (fun r' Mr' => Q r Mc' r' Mr')) := by
  obtain ⟨e, hK, V, W⟩ := id R
  obtain ⟨I, J, CR, T, X, C, P, G⟩ := id V.1
  have S := V.2.1
  exact sC_feed j2 (by rw [e]; exact I) hK (fun Mc' a b => sR_feed j2 I (fun Mr' c d => hQ _ _ _ _ (by rw [e]) (rel_of (a.trans (by rw [e])) b c (kp_feed V) d W)))
theorem al_text {i : Nat} {a1 : Int} {Mc Mr : gSt} {Q : Int → gSt → Int → gSt → Prop} (j1 : inI a1) (R : Rel i Mc Mr) (hQ : ∀ r r' Mc' Mr', wrap r = wrap r' → Rel (i + 6) Mc' Mr' → Q r Mc' r' Mr') : w_X8_text a1 Mc (fun r Mc' => w_Rtext a1 Mr (fun r' Mr' => Q r Mc' r' Mr')) := by
  obtain ⟨e, hK, V, W⟩ := id R
  obtain ⟨I, J, CR, T, X, C, P, G⟩ := id V.1
  have S := V.2.1
  refine sC_text j1 (by rw [e]; exact I) (by rw [e]; exact T) hK (fun Mc' a b => sR_text j1 I T (fun Mr' c d1 d2 => hQ _ _ _ _ (by rw [e]) ?_))
  have V' := kp_text (u := a1) V
  by_cases h1 : (S_text a1 (absR Mr)).1 = 1
  · have hu : 0 ≤ a1 ∧ a1 ≤ 1 := by
      apply Classical.byContradiction
      intro z
      unfold S_text at h1
      rw [if_pos z] at h1
      exact absurd h1 (by show ¬ ((-1000000000 : Int) - 1 = 1); decide)
    obtain ⟨⟨f1, f2, f3⟩, f4⟩ := d2 h1
    have I' : iN (absR Mr') := by rw [c]; exact V'.1.1
    have l := len1 I'
    obtain ⟨w1, w2, w3, w4, w5⟩ := W
    refine ⟨(a.trans (by rw [e])).trans c.symm, b, by rw [c]; exact inv_mono (by omega) V', ?_, ?_, by rw [f2]; exact w3, by rw [f2]; exact w4, by rw [f3]; exact w5⟩
    · by_cases z : a1 = 0
      · subst z; exact f4
      · exact rawT_c l.1 (fun j x y => f1 j (by omega) (by omega) (by omega)) w1
    · by_cases z : a1 = 1
      · subst z; exact f4
      · exact rawT_c l.2 (fun j x y => f1 j (by omega) (by omega) (by omega)) w2
  · exact rel_of (a.trans (by rw [e])) b c V' (d1 h1) W
theorem al_untell {i : Nat} {a1 : Int} {Mc Mr : gSt} {Q : Int → gSt → Int → gSt → Prop} (j1 : inI a1) (R : Rel i Mc Mr) (hQ : ∀ r r' Mc' Mr', wrap r = wrap r' → Rel (i + 6) Mc' Mr' → Q r Mc' r' Mr') : w_X8_untell a1 Mc (fun r Mc' => w_Runtell a1 Mr (fun r' Mr' => Q r Mc' r' Mr')) := by
  obtain ⟨e, hK, V, W⟩ := id R
  obtain ⟨I, J, CR, T, X, C, P, G⟩ := id V.1
  have S := V.2.1
  refine sC_untell j1 (by rw [e]; exact I) hK (fun Mc' a b => sR_untell j1 I (fun Mr' c d1 d2 => hQ _ _ _ _ (by rw [e]) ?_))
  have V' := kp_untell (u := a1) V
  by_cases hu : 0 ≤ a1 ∧ a1 ≤ 1
  · obtain ⟨⟨f1, f2, f3⟩, f4⟩ := d2 hu
    have I' : iN (absR Mr') := by rw [c]; exact V'.1.1
    have l := len1 I'
    obtain ⟨w1, w2, w3, w4, w5⟩ := W
    refine ⟨(a.trans (by rw [e])).trans c.symm, b, by rw [c]; exact inv_mono (by omega) V', ?_, ?_, by rw [f2]; exact w3, by rw [f2]; exact w4, by rw [f3]; exact w5⟩
    · by_cases z : a1 = 0
      · subst z
        intro i x y
        rw [f4] at y
        exact absurd y (by omega)
      · exact rawT_c l.1 (fun j x y => f1 j (by omega)) w1
    · by_cases z : a1 = 1
      · subst z
        intro i x y
        rw [f4] at y
        exact absurd y (by omega)
      · exact rawT_c l.2 (fun j x y => f1 j (by omega)) w2
  · exact rel_of (a.trans (by rw [e])) b c V' (d1 hu) W
theorem al_claim {i : Nat} {a1 a2 : Int} {Mc Mr : gSt} {Q : Int → gSt → Int → gSt → Prop} (j1 : inI a1) (j2 : inI a2) (R : Rel i Mc Mr) (hQ : ∀ r r' Mc' Mr', wrap r = wrap r' → Rel (i + 6) Mc' Mr' → Q r Mc' r' Mr') : w_X8_claim a1 a2 Mc (fun r Mc' => w_Rclaim a1 a2 Mr (fun r' Mr' => Q r Mc' r' Mr')) := by
  obtain ⟨e, hK, V, W⟩ := id R
  obtain ⟨I, J, CR, T, X, C, P, G⟩ := id V.1
  have S := V.2.1
  exact sC_claim j1 j2 (by rw [e]; exact I) hK (fun Mc' a b => sR_claim j1 j2 I (fun Mr' c d => hQ _ _ _ _ (by rw [e]) (rel_of (a.trans (by rw [e])) b c (kp_claim V) d W)))
theorem al_claimIs {i : Nat} {a1 a2 : Int} {Mc Mr : gSt} {Q : Int → gSt → Int → gSt → Prop} (j1 : inI a1) (j2 : inI a2) (R : Rel i Mc Mr) (hQ : ∀ r r' Mc' Mr', wrap r = wrap r' → Rel (i + 6) Mc' Mr' → Q r Mc' r' Mr') : w_X8_claimIs a1 a2 Mc (fun r Mc' => w_RclaimIs a1 a2 Mr (fun r' Mr' => Q r Mc' r' Mr')) := by
  obtain ⟨e, hK, V, W⟩ := id R
  obtain ⟨I, J, CR, T, X, C, P, G⟩ := id V.1
  have S := V.2.1
  exact sC_claimIs j1 j2 (by rw [e]; exact I) (by rw [e]; exact C) (by rw [e]; exact X) hK (fun r Mc' h a b => sR_claimIs j1 j2 I C X W.2.1 (fun r' Mr' h' c d => hQ _ _ _ _ (ans (fun σ => S_claimIs a1 a2 σ) e h h') (rel_now R a b c d)))
theorem al_share {i : Nat} {a1 a2 : Int} {Mc Mr : gSt} {Q : Int → gSt → Int → gSt → Prop} (j1 : inI a1) (j2 : inI a2) (R : Rel i Mc Mr) (hQ : ∀ r r' Mc' Mr', wrap r = wrap r' → Rel (i + 6) Mc' Mr' → Q r Mc' r' Mr') : w_X8_share a1 a2 Mc (fun r Mc' => w_Rshare a1 a2 Mr (fun r' Mr' => Q r Mc' r' Mr')) := by
  obtain ⟨e, hK, V, W⟩ := id R
  obtain ⟨I, J, CR, T, X, C, P, G⟩ := id V.1
  have S := V.2.1
  exact sC_share j1 j2 (by rw [e]; exact I) (by rw [e]; exact J) (by rw [e]; exact C) (by rw [e]; exact X) hK (fun r Mc' h a b => sR_share j1 j2 I J C X W.2.1 (fun r' Mr' h' c d => hQ _ _ _ _ (ans (fun σ => S_share a1 a2 σ) e h h') (rel_now R a b c d)))
theorem al_left {i : Nat} {a1 a2 : Int} {Mc Mr : gSt} {Q : Int → gSt → Int → gSt → Prop} (j1 : inI a1) (j2 : inI a2) (R : Rel i Mc Mr) (hQ : ∀ r r' Mc' Mr', wrap r = wrap r' → Rel (i + 6) Mc' Mr' → Q r Mc' r' Mr') : w_X8_left a1 a2 Mc (fun r Mc' => w_Rleft a1 a2 Mr (fun r' Mr' => Q r Mc' r' Mr')) := by
  obtain ⟨e, hK, V, W⟩ := id R
  obtain ⟨I, J, CR, T, X, C, P, G⟩ := id V.1
  have S := V.2.1
  exact sC_left j1 j2 (by rw [e]; exact I) (by rw [e]; exact J) (by rw [e]; exact C) (by rw [e]; exact X) hK (fun r Mc' h a b => sR_left j1 j2 I J C X W.2.1 (fun r' Mr' h' c d => hQ _ _ _ _ (ans (fun σ => S_left a1 a2 σ) e h h') (rel_now R a b c d)))
theorem al_paper {i : Nat} {a1 a2 a3 : Int} {Mc Mr : gSt} {Q : Int → gSt → Int → gSt → Prop} (j1 : inI a1) (j2 : inI a2) (j3 : inI a3) (R : Rel i Mc Mr) (hQ : ∀ r r' Mc' Mr', wrap r = wrap r' → Rel (i + 6) Mc' Mr' → Q r Mc' r' Mr') : w_X8_paper a1 a2 a3 Mc (fun r Mc' => w_Rpaper a1 a2 a3 Mr (fun r' Mr' => Q r Mc' r' Mr')) := by
  obtain ⟨e, hK, V, W⟩ := id R
  obtain ⟨I, J, CR, T, X, C, P, G⟩ := id V.1
  have S := V.2.1
  exact sC_paper j1 j2 j3 (by rw [e]; exact I) hK (fun Mc' a b => sR_paper j1 j2 j3 I (fun Mr' c d => hQ _ _ _ _ (by rw [e]) (rel_of (a.trans (by rw [e])) b c (kp_paper V) d W)))
theorem al_weigh {i : Nat} {a1 a2 a3 : Int} {Mc Mr : gSt} {Q : Int → gSt → Int → gSt → Prop} (j1 : inI a1) (j2 : inI a2) (j3 : inI a3) (R : Rel i Mc Mr) (hQ : ∀ r r' Mc' Mr', wrap r = wrap r' → Rel (i + 6) Mc' Mr' → Q r Mc' r' Mr') : w_X8_weigh a1 a2 a3 Mc (fun r Mc' => w_Rweigh a1 a2 a3 Mr (fun r' Mr' => Q r Mc' r' Mr')) := by
  obtain ⟨e, hK, V, W⟩ := id R
  obtain ⟨I, J, CR, T, X, C, P, G⟩ := id V.1
  have S := V.2.1
  exact sC_weigh j1 j2 j3 (by rw [e]; exact I) hK (fun Mc' a b => sR_weigh j1 j2 j3 I (fun Mr' c d => hQ _ _ _ _ (by rw [e]) (rel_of (a.trans (by rw [e])) b c (kp_weigh V) d W)))
theorem al_forget {i : Nat} {a1 : Int} {Mc Mr : gSt} {Q : Int → gSt → Int → gSt → Prop} (j1 : inI a1) (R : Rel i Mc Mr) (hQ : ∀ r r' Mc' Mr', wrap r = wrap r' → Rel (i + 6) Mc' Mr' → Q r Mc' r' Mr') : w_X8_forget a1 Mc (fun r Mc' => w_Rforget a1 Mr (fun r' Mr' => Q r Mc' r' Mr')) := by
  obtain ⟨e, hK, V, W⟩ := id R
  obtain ⟨I, J, CR, T, X, C, P, G⟩ := id V.1
  have S := V.2.1
  exact sC_forget j1 hK (fun Mc' a b => sR_forget j1 I (fun Mr' c d => hQ _ _ _ _ (by rw [e]) (rel_of (a.trans (by rw [e])) b c (kp_forget V) d W)))
theorem al_by {i : Nat} {a1 a2 a3 : Int} {Mc Mr : gSt} {Q : Int → gSt → Int → gSt → Prop} (j1 : inI a1) (j2 : inI a2) (j3 : inI a3) (R : Rel i Mc Mr) (hQ : ∀ r r' Mc' Mr', wrap r = wrap r' → Rel (i + 6) Mc' Mr' → Q r Mc' r' Mr') : w_X8_by a1 a2 a3 Mc (fun r Mc' => w_Rby a1 a2 a3 Mr (fun r' Mr' => Q r Mc' r' Mr')) := by
  obtain ⟨e, hK, V, W⟩ := id R
  obtain ⟨I, J, CR, T, X, C, P, G⟩ := id V.1
  have S := V.2.1
  exact sC_by j1 j2 j3 (by rw [e]; exact I) (by rw [e]; exact J) (by rw [e]; exact P) hK (fun r Mc' h a b => sR_by j1 j2 j3 I J P (fun r' Mr' h' c d => hQ _ _ _ _ (ans (fun σ => S_by a1 a2 a3 σ) e h h') (rel_now R a b c d)))
theorem al_fits {i : Nat} {a1 : Int} {Mc Mr : gSt} {Q : Int → gSt → Int → gSt → Prop} (j1 : inI a1) (R : Rel i Mc Mr) (hQ : ∀ r r' Mc' Mr', wrap r = wrap r' → Rel (i + 6) Mc' Mr' → Q r Mc' r' Mr') : w_X8_fits a1 Mc (fun r Mc' => w_Rfits a1 Mr (fun r' Mr' => Q r Mc' r' Mr')) := by
  obtain ⟨e, hK, V, W⟩ := id R
  obtain ⟨I, J, CR, T, X, C, P, G⟩ := id V.1
  have S := V.2.1
  exact sC_fits j1 (by rw [e]; exact I) (by rw [e]; exact J) (by rw [e]; exact P) (by rw [e]; exact G) hK (fun r Mc' h a b => sR_fits j1 I J P G (fun r' Mr' h' c d => hQ _ _ _ _ (ans (fun σ => S_fits a1 σ) e h h') (rel_now R a b c d)))
theorem al_span {i : Nat} {a1 a2 a3 : Int} {Mc Mr : gSt} {Q : Int → gSt → Int → gSt → Prop} (j1 : inI a1) (j2 : inI a2) (j3 : inI a3) (R : Rel i Mc Mr) (hQ : ∀ r r' Mc' Mr', wrap r = wrap r' → Rel (i + 6) Mc' Mr' → Q r Mc' r' Mr') : w_X8_span a1 a2 a3 Mc (fun r Mc' => w_Rspan a1 a2 a3 Mr (fun r' Mr' => Q r Mc' r' Mr')) := by
  obtain ⟨e, hK, V, W⟩ := id R
  obtain ⟨I, J, CR, T, X, C, P, G⟩ := id V.1
  have S := V.2.1
  exact sC_span j1 j2 j3 (by rw [e]; exact I) (by rw [e]; exact J) (by rw [e]; exact P) (by rw [e]; exact G) hK (fun r Mc' h a b => sR_span j1 j2 j3 I J P G (fun r' Mr' h' c d => hQ _ _ _ _ (ans (fun σ => S_span a1 a2 a3 σ) e h h') (rel_now R a b c d)))
theorem al_next {i : Nat} {Mc Mr : gSt} {Q : Int → gSt → Int → gSt → Prop} (R : Rel i Mc Mr) (hQ : ∀ r r' Mc' Mr', wrap r = wrap r' → Rel (i + 6) Mc' Mr' → Q r Mc' r' Mr') : w_X8_next  Mc (fun r Mc' => w_Rnext  Mr (fun r' Mr' => Q r Mc' r' Mr')) := by
  obtain ⟨e, hK, V, W⟩ := id R
  obtain ⟨I, J, CR, T, X, C, P, G⟩ := id V.1
  have S := V.2.1
  exact sC_next (by rw [e]; exact I) (by rw [e]; exact J) (by rw [e]; exact P) (by rw [e]; exact G) hK (fun r Mc' h a b => sR_next I J P G (fun r' Mr' h' c d => hQ _ _ _ _ (ans (fun σ => S_next σ) e h h') (rel_now R a b c d)))
theorem al_most {i : Nat} {a1 a2 a3 : Int} {Mc Mr : gSt} {Q : Int → gSt → Int → gSt → Prop} (j1 : inI a1) (j2 : inI a2) (j3 : inI a3) (R : Rel i Mc Mr) (hQ : ∀ r r' Mc' Mr', wrap r = wrap r' → Rel (i + 6) Mc' Mr' → Q r Mc' r' Mr') : w_X8_most a1 a2 a3 Mc (fun r Mc' => w_Rmost a1 a2 a3 Mr (fun r' Mr' => Q r Mc' r' Mr')) := by
  obtain ⟨e, hK, V, W⟩ := id R
  obtain ⟨I, J, CR, T, X, C, P, G⟩ := id V.1
  have S := V.2.1
  exact sC_most j1 j2 j3 (by rw [e]; exact I) (by rw [e]; exact J) hK (fun r Mc' h a b => sR_most j1 j2 j3 I J (fun r' Mr' h' c d => hQ _ _ _ _ (ans (fun σ => S_most a1 a2 a3 σ) e h h') (rel_now R a b c d)))
theorem al_voice {i : Nat} {a1 a2 a3 : Int} {Mc Mr : gSt} {Q : Int → gSt → Int → gSt → Prop} (j1 : inI a1) (j2 : inI a2) (j3 : inI a3) (R : Rel i Mc Mr) (hQ : ∀ r r' Mc' Mr', wrap r = wrap r' → Rel (i + 6) Mc' Mr' → Q r Mc' r' Mr') : w_X8_voice a1 a2 a3 Mc (fun r Mc' => w_Rvoice a1 a2 a3 Mr (fun r' Mr' => Q r Mc' r' Mr')) := by
  obtain ⟨e, hK, V, W⟩ := id R
  obtain ⟨I, J, CR, T, X, C, P, G⟩ := id V.1
  have S := V.2.1
  refine sC_voice j1 j2 (by rw [e]; exact I) (by rw [e]; exact J) hK (fun r Mc' h a b => sR_voice j1 j2 I J W.2.2.2.2 (fun r' Mr' h' c d => hQ _ _ _ _ (ans (fun σ => S_voice a1 a2 a3 σ) e h h') ?_))
  have I' : iN (absR Mr') := by rw [c]; exact I
  obtain ⟨w1, w2, w3, w4, -⟩ := W
  obtain ⟨f1, f2, f3⟩ := d
  have l := len1 I'
  exact ⟨(a.trans e).trans c.symm, b, by rw [c]; exact inv_mono (by omega) V, rawT_c l.1 (fun j x y => f1 j (by omega) (by omega)) w1, rawT_c l.2 (fun j x y => f1 j (by omega) (by omega)) w2, by rw [f2]; exact w3, by rw [f2]; exact w4, f3⟩
theorem al_body {i : Nat} {a1 : Int} {Mc Mr : gSt} {Q : Int → gSt → Int → gSt → Prop} (j1 : inI a1) (R : Rel i Mc Mr) (hQ : ∀ r r' Mc' Mr', Rel (i + 6) Mc' Mr' → Q r Mc' r' Mr') : w_X8_body a1 Mc (fun r Mc' => w_Rbody a1 Mr (fun r' Mr' => Q r Mc' r' Mr')) := by
  obtain ⟨e, hK, V, W⟩ := id R
  obtain ⟨I, J, CR, T, X, C, P, G⟩ := id V.1
  have S := V.2.1
  exact sC_body j1 hK (fun r Mc' a b => sR_body j1 W.2.2.2.2 (fun r' Mr' c d => hQ _ _ _ _ (rel_now R a b c d)))
theorem al_sheet {i : Nat} {a1 a2 a3 : Int} {Mc Mr : gSt} {Q : Int → gSt → Int → gSt → Prop} (j1 : inI a1) (j2 : inI a2) (j3 : inI a3) (R : Rel i Mc Mr) (hQ : ∀ r r' Mc' Mr', wrap r = wrap r' → Rel (i + 6) Mc' Mr' → Q r Mc' r' Mr') : w_X8_sheet a1 a2 a3 Mc (fun r Mc' => w_Rsheet a1 a2 a3 Mr (fun r' Mr' => Q r Mc' r' Mr')) := by
  obtain ⟨e, hK, V, W⟩ := id R
  obtain ⟨I, J, CR, T, X, C, P, G⟩ := id V.1
  have S := V.2.1
  exact sC_sheet j1 j2 j3 hK (fun Mc' a b => sR_sheet j1 j2 j3 (fun Mr' c d => hQ _ _ _ _ (by rw [e]) (rel_of (a.trans (by rw [e])) b c (kp_sheet V) d W)))
theorem al_put {i : Nat} {a1 a2 a3 : Int} {Mc Mr : gSt} {Q : Int → gSt → Int → gSt → Prop} (j1 : inI a1) (j2 : inI a2) (j3 : inI a3) (R : Rel i Mc Mr) (hQ : ∀ r r' Mc' Mr', wrap r = wrap r' → Rel (i + 6) Mc' Mr' → Q r Mc' r' Mr') : w_X8_put a1 a2 a3 Mc (fun r Mc' => w_Rput a1 a2 a3 Mr (fun r' Mr' => Q r Mc' r' Mr')) := by
  obtain ⟨e, hK, V, W⟩ := id R
  obtain ⟨I, J, CR, T, X, C, P, G⟩ := id V.1
  have S := V.2.1
  exact sC_put j1 j2 j3 (by rw [e]; exact S) hK (fun Mc' a b => sR_put j1 j2 S (fun Mr' c d => hQ _ _ _ _ (by rw [e]) (rel_of (a.trans (by rw [e])) b c (kp_put V) d W)))
theorem al_move {i : Nat} {a1 a2 a3 a4 a5 : Int} {Mc Mr : gSt} {Q : Int → gSt → Int → gSt → Prop} (j1 : inI a1) (j2 : inI a2) (j3 : inI a3) (j4 : inI a4) (j5 : inI a5) (R : Rel i Mc Mr) (hQ : ∀ r r' Mc' Mr', wrap r = wrap r' → Rel (i + 6) Mc' Mr' → Q r Mc' r' Mr') : w_X8_move a1 a2 a3 a4 a5 Mc (fun r Mc' => w_Rmove a1 a2 a3 a4 a5 Mr (fun r' Mr' => Q r Mc' r' Mr')) := by
  obtain ⟨e, hK, V, W⟩ := id R
  obtain ⟨I, J, CR, T, X, C, P, G⟩ := id V.1
  have S := V.2.1
  exact sC_move j1 j2 j3 j4 j5 (by rw [e]; exact S) hK (fun Mc' a b => sR_move j1 j2 j3 j4 j5 S (fun Mr' c d => hQ _ _ _ _ (by rw [e]) (rel_of (a.trans (by rw [e])) b c (kp_move V) d W)))
theorem al_papers {i : Nat} {a1 : Int} {Mc Mr : gSt} {Q : Int → gSt → Int → gSt → Prop} (j1 : inI a1) (R : Rel i Mc Mr) (hQ : ∀ r r' Mc' Mr', wrap r = wrap r' → Rel (i + 6) Mc' Mr' → Q r Mc' r' Mr') : w_X8_papers a1 Mc (fun r Mc' => w_Rpapers a1 Mr (fun r' Mr' => Q r Mc' r' Mr')) := by
  obtain ⟨e, hK, V, W⟩ := id R
  obtain ⟨I, J, CR, T, X, C, P, G⟩ := id V.1
  have S := V.2.1
  exact sC_papers j1 (by rw [e]; exact I) (by rw [e]; exact S) hK (fun Mc' a b => sR_papers j1 I S (fun Mr' c d => hQ _ _ _ _ (by rw [e]) (rel_of (a.trans (by rw [e])) b c (kp_papers V) d W)))
theorem al_judge {i : Nat} {a1 a2 : Int} {Mc Mr : gSt} {Q : Int → gSt → Int → gSt → Prop} (j1 : inI a1) (j2 : inI a2) (R : Rel i Mc Mr) (hQ : ∀ r r' Mc' Mr', wrap r = wrap r' → Rel (i + 6) Mc' Mr' → Q r Mc' r' Mr') : w_X8_judge a1 a2 Mc (fun r Mc' => w_Rjudge a1 a2 Mr (fun r' Mr' => Q r Mc' r' Mr')) := by
  obtain ⟨e, hK, V, W⟩ := id R
  obtain ⟨I, J, CR, T, X, C, P, G⟩ := id V.1
  have S := V.2.1
  exact sC_judge j1 j2 (by rw [e]; exact I) (by rw [e]; exact J) (by rw [e]; exact P) (by rw [e]; exact S) hK (fun r Mc' h a b => sR_judge j1 j2 I J P S (fun r' Mr' h' c d => hQ _ _ _ _ (ans (fun σ => S_judge a1 a2 σ) e h h') (rel_now R a b c d)))
theorem al_image {i : Nat} {Mc Mr : gSt} {Q : Int → gSt → Int → gSt → Prop} (R : Rel i Mc Mr) (hQ : ∀ r r' Mc' Mr', wrap r = wrap r' → Rel (i + 6) Mc' Mr' → Q r Mc' r' Mr') : w_X8_image  Mc (fun r Mc' => w_Rimage  Mr (fun r' Mr' => Q r Mc' r' Mr')) := by
  obtain ⟨e, hK, V, W⟩ := id R
  obtain ⟨I, J, CR, T, X, C, P, G⟩ := id V.1
  have S := V.2.1
  have p := V.2.2.1.1
  refine sC_image (by rw [e]; exact I) (by rw [e]; exact p) hK (fun Mc' a b => sR_image I p (fun Mr' c d1 d2 d3 => hQ _ _ _ _ (by rw [e]) ?_))
  have V' := kp_image V
  have l := len1 I
  obtain ⟨w1, w2, w3, w4, w5⟩ := W
  refine ⟨(a.trans (by rw [e])).trans c.symm, b, by rw [c]; exact V', by rw [d1]; exact w1, by rw [d1]; exact w2, rawT_c (by rw [d2 _ (by decide) (by decide)]; exact l.1) (fun j x y => d2 j (by omega) (by omega)) w1, rawT_c (by rw [d2 _ (by decide) (by decide)]; exact l.2) (fun j x y => d2 j (by omega) (by omega)) w2, by rw [d3]; exact w5⟩
theorem al_restore {i : Nat} {Mc Mr : gSt} {Q : Int → gSt → Int → gSt → Prop} (hi : i ≤ 384) (R : Rel i Mc Mr) (hQ : ∀ r r' Mc' Mr', wrap r = wrap r' → Rel (i + 6) Mc' Mr' → Q r Mc' r' Mr') : w_X8_restore  Mc (fun r Mc' => w_Rrestore  Mr (fun r' Mr' => Q r Mc' r' Mr')) := by
  obtain ⟨e, hK, V, W⟩ := id R
  obtain ⟨I, J, CR, T, X, C, P, G⟩ := id V.1
  have S := V.2.1
  have p := V.2.2.1
  have q : absR Mr 21 0 ≠ 0 → absR Mr 10 9 ≤ 60 ∧ absR Mr 10 10 ≤ 60 := fun z => by
    have k := (V.2.2.2 z).1
    unfold iN at k
    have e9 : rstσ (absR Mr) 0 9 = absR Mr 10 9 := by unfold rstσ; rw [if_pos (by decide)]
    have e10 : rstσ (absR Mr) 0 10 = absR Mr 10 10 := by unfold rstσ; rw [if_pos (by decide)]
    omega
  have ht : absR Mr 21 0 ≠ 0 → txtOk (Mr 2) := fun z => by
    have k := q z
    rw [← rdImg] at z
    have e9 : absR Mr 10 9 = Mr 2 202 := by simp [absR, absS, z]
    have e10 : absR Mr 10 10 = Mr 2 327 := by simp [absR, absS, z]
    unfold txtOk
    omega
  refine sC_restore (by rw [e]; omega) (by rw [e]; exact q) hK (fun Mc' a b => sR_restore (by omega) ht (fun Mr' c d1 d2 => hQ _ _ _ _ (by rw [e]) ?_))
  have V' := kp_restore V
  by_cases z : absR Mr 21 0 = 0
  · exact rel_of (a.trans (by rw [e])) b c V' (d1 z) W
  · obtain ⟨f2, f3, f1⟩ := d2 z
    have I' : iN (absR Mr') := by rw [c]; exact V'.1.1
    have l := len1 I'
    obtain ⟨w1, w2, w3, w4, w5⟩ := W
    exact ⟨(a.trans (by rw [e])).trans c.symm, b, by rw [c]; exact inv_mono (by omega) V', rawT_c l.1 (fun j x y => f1 j (by omega) (by omega)) w3, rawT_c l.2 (fun j x y => f1 j (by omega) (by omega)) w4, by rw [f2]; exact w3, by rw [f2]; exact w4, by rw [f3]; exact w5⟩
theorem al_tell {i : Nat} {a1 : Int} {Mc Mr : gSt} {Q : Int → gSt → Int → gSt → Prop} (j1 : inI a1) (R : Rel i Mc Mr) (hQ : ∀ r r' Mc' Mr', wrap r = wrap r' → Rel (i + 6) Mc' Mr' → Q r Mc' r' Mr') : w_X8_tell a1 Mc (fun r Mc' => w_Rtell a1 Mr (fun r' Mr' => Q r Mc' r' Mr')) := by
  obtain ⟨e, hK, V, W⟩ := id R
  obtain ⟨I, J, CR, T, X, C, P, G⟩ := id V.1
  have S := V.2.1
  exact sC_tell (by rw [e]; exact I) hK (fun Mc' a b => sR_tell I (fun Mr' c d => hQ _ _ _ _ (by rw [e]) (rel_of (a.trans (by rw [e])) b c (kp_tell V) d W)))
theorem al_check {i : Nat} {Mc Mr : gSt} {Q : Int → gSt → Int → gSt → Prop} (R : Rel i Mc Mr) (hQ : ∀ r r' Mc' Mr', wrap r = wrap r' → Rel (i + 6) Mc' Mr' → Q r Mc' r' Mr') : w_X8_check  Mc (fun r Mc' => w_Rcheck  Mr (fun r' Mr' => Q r Mc' r' Mr')) := by
  obtain ⟨e, hK, V, W⟩ := id R
  obtain ⟨I, J, CR, T, X, C, P, G⟩ := id V.1
  have S := V.2.1
  exact sC_check (by rw [e]; exact I) (by rw [e]; exact J) (by rw [e]; exact P) (by rw [e]; exact G) hK (fun r Mc' h a b => sR_check I J P G (fun r' Mr' h' c d => hQ _ _ _ _ (ans (fun σ => (S_check σ).1) e h h') (rel_of (a.trans (by rw [e])) b c (kp_check V) d W)))
theorem cnt_2 {w : Int} {σ : gSt} : (S_count w σ).2 = σ := by
  unfold S_count
  repeat' split
  all_goals rfl
theorem al_count {i : Nat} {a1 : Int} {Mc Mr : gSt} {Q : Int → gSt → Int → gSt → Prop} (j1 : inI a1) (R : Rel i Mc Mr) (hQ : ∀ r r' Mc' Mr', Rel (i + 6) Mc' Mr' → Q r Mc' r' Mr') : w_X8_count a1 Mc (fun r Mc' => w_Rcount a1 Mr (fun r' Mr' => Q r Mc' r' Mr')) := by
  obtain ⟨e, hK, V, W⟩ := id R
  obtain ⟨I, J, CR, T, X, C, P, G⟩ := id V.1
  have S := V.2.1
  exact sC_count j1 (by rw [e]; exact I) hK (fun r Mc' _ a b => sR_count j1 I (fun r' Mr' _ c d => hQ _ _ _ _ (rel_now R (a.trans cnt_2) b (c.trans cnt_2) d)))
theorem al_told {i : Nat} {a1 : Int} {Mc Mr : gSt} {Q : Int → gSt → Int → gSt → Prop} (j1 : inI a1) (R : Rel i Mc Mr) (hQ : ∀ r r' Mc' Mr', Rel (i + 6) Mc' Mr' → Q r Mc' r' Mr') : w_X8_told a1 Mc (fun r Mc' => w_Rtold a1 Mr (fun r' Mr' => Q r Mc' r' Mr')) := by
  obtain ⟨e, hK, V, W⟩ := id R
  obtain ⟨I, J, CR, T, X, C, P, G⟩ := id V.1
  have S := V.2.1
  exact sC_told j1 hK (fun r Mc' a b => sR_told j1 (fun r' Mr' c d => hQ _ _ _ _ (rel_now R a b c d)))
end
section
-- the start, and the law case by case
theorem e0cr (c : Nat) (i : Int) : absC M0c c i = absR M0r c i := by
  match c with
  | 0 =>
    show absC M0c 0 i = absS (M0r 1) 0 i
    by_cases h : 0 ≤ i ∧ i ≤ 10
    · rcases (show i = 0 ∨ i = 1 ∨ i = 2 ∨ i = 3 ∨ i = 4 ∨ i = 5 ∨ i = 6 ∨ i = 7 ∨ i = 8 ∨ i = 9 ∨ i = 10 by omega) with rfl | rfl | rfl | rfl | rfl | rfl | rfl | rfl | rfl | rfl | rfl <;> rfl
    · have h0 : ¬ i = 0 := by omega
      have h1 : ¬ i = 1 := by omega
      have h2 : ¬ i = 2 := by omega
      have h3 : ¬ i = 3 := by omega
      have h4 : ¬ i = 4 := by omega
      have h5 : ¬ i = 5 := by omega
      have h6 : ¬ i = 6 := by omega
      have h7 : ¬ i = 7 := by omega
      have h8 : ¬ i = 8 := by omega
      have h9 : ¬ i = 9 := by omega
      have h10 : ¬ i = 10 := by omega
      have g : ¬ (0 ≤ i ∧ i < 9) := by omega
      simp [absC, absS, h0, h1, h2, h3, h4, h5, h6, h7, h8, h9, h10, g]
  | 10 => simp [absC, absR, absS, msk, M0c, M0r]
  | 1 =>
    simp [absC, absR, absS, msk, M0c, M0r]
    try (intros; omega)
  | 2 =>
    simp [absC, absR, absS, msk, M0c, M0r]
    try (intros; omega)
  | 3 =>
    simp [absC, absR, absS, msk, M0c, M0r]
    try (intros; omega)
  | 4 =>
    simp [absC, absR, absS, msk, M0c, M0r]
    try (intros; omega)
  | 5 =>
    simp [absC, absR, absS, msk, M0c, M0r]
    try (intros; omega)
  | 6 =>
    simp [absC, absR, absS, msk, M0c, M0r]
    try (intros; omega)
  | 7 =>
    simp [absC, absR, absS, msk, M0c, M0r]
    try (intros; omega)
  | 8 =>
    simp [absC, absR, absS, msk, M0c, M0r]
    try (intros; omega)
  | 9 => simp [absC, absR, absS, msk, M0c, M0r]
  | 11 => simp [absC, absR, absS, msk, M0c, M0r]
  | 12 => simp [absC, absR, absS, msk, M0c, M0r]
  | 13 => simp [absC, absR, absS, msk, M0c, M0r]
  | 14 => simp [absC, absR, absS, msk, M0c, M0r]
  | 15 => simp [absC, absR, absS, msk, M0c, M0r]
  | 16 => simp [absC, absR, absS, msk, M0c, M0r]
  | 17 =>
    simp [absC, absR, absS, msk, M0c, M0r]
    try (intros; omega)
  | 18 =>
    simp [absC, absR, absS, msk, M0c, M0r]
    try (intros; omega)
  | 19 => simp [absC, absR, absS, msk, M0c, M0r]
  | 20 => simp [absC, absR, absS, msk, M0c, M0r] <;> (repeat' split) <;> first | rfl | omega
  | 21 => simp [absC, absR, absS, msk, M0c, M0r]
  | 22 => simp [absC, absR, absS, msk, M0c, M0r]
  | 23 => simp [absC, absR, absS, msk, M0c, M0r]
  | 24 => simp [absC, absR, absS, msk, M0c, M0r]
  | 25 => simp [absC, absR, absS, msk, M0c, M0r]
  | n + 26 =>
    have a : ¬ n + 26 < 10 := by omega
    have b : ¬ n + 26 < 20 := by omega
    simp [absC, absR, a, b]
theorem e0 : absC M0c = absR M0r := by
  funext c i
  exact e0cr c i
theorem z0n' : ∀ j : Int, absC M0c 1 j = 0 := fun j => by simp [absC, msk, M0c]
theorem I0c : iN (absC M0c) := by
  unfold iN
  decide
theorem inv0 : Inv 0 (absR M0r) := by
  rw [← e0]
  refine ⟨⟨I0c, fun t _ _ => ?_, ⟨z0n' _, z0n' _⟩, fun j _ _ => ?_, ⟨fun h => absurd h (by decide), fun h => absurd h (by decide)⟩, fun i a b => ?_, fun i a b => ?_, fun i a b => ?_⟩, fun q a b => ?_, by decide, fun h => absurd rfl h⟩
  · unfold thOk
    simp only [z0n']
    decide
  · rw [show absC M0c 5 j = 0 from by simp [absC, msk, M0c]]
    constructor <;> decide
  · exact absurd b (by rw [show absC M0c 0 2 = 0 from rfl]; omega)
  · exact absurd b (by rw [show absC M0c 0 3 = 0 from rfl]; omega)
  · exact absurd b (by rw [show absC M0c 0 4 = 0 from rfl]; omega)
  · rw [e0]
    refine ⟨Or.inl (by simp [absR, msk, M0r]), ?_, fun i _ _ => ?_⟩
    · rw [show absR M0r 24 q = 0 from by simp [absR, msk, M0r]]; decide
    · rw [show absR M0r 25 (24 * q + i) = 0 from by simp [absR, msk, M0r]]; constructor <;> decide
theorem cK0 : cK M0c := by
  refine ⟨fun q hq => ?_, by decide, by decide⟩
  simp only [cRows, List.mem_cons, List.not_mem_nil, or_false] at hq
  rcases hq with rfl | rfl | rfl | rfl | rfl | rfl | rfl | rfl | rfl | rfl | rfl | rfl | rfl | rfl | rfl | rfl | rfl | rfl <;> exact ⟨rfl, rfl⟩
theorem rel0 : Rel 0 M0c M0r := by
  have z1 : ∀ j, 9 < j → M0r 1 j = 0 := fun j h => by
    simp [M0r]
    try (intros; omega)
  have z2 : ∀ j, M0r 2 j = 0 := fun j => by simp [M0r]
  refine ⟨e0, cK0, inv0, fun i a b => ?_, fun i a b => ?_, fun i a b => ?_, fun i a b => ?_, by decide⟩
  · rw [z1 _ (by decide)] at b; omega
  · rw [z1 _ (by decide)] at b; omega
  · rw [z2] at b; omega
  · rw [z2] at b; omega
theorem ok_thing : lawP_thing 384 Rel := by
  intro i x Mc Mr K hi hR hK
  exact al_thing (Q := fun _ a _ b => K a b) (inX _) (inX _) hR (fun _ _ a b _ h => hK a b h)
theorem ok_thingIs : lawP_thingIs 384 Rel := by
  intro i x Mc Mr K hi hR hK
  exact al_thingIs (Q := fun _ a _ b => K a b) (inX _) (inX _) hR (fun _ _ a b _ h => hK a b h)
theorem ok_as : lawP_as 384 Rel := by
  intro i x Mc Mr K hi hR hK
  exact al_as (Q := fun _ a _ b => K a b) (inX _) (inX _) hR (fun _ _ a b _ h => hK a b h)
theorem ok_set : lawP_set 384 Rel := by
  intro i x Mc Mr K hi hR hK
  exact al_set (Q := fun _ a _ b => K a b) (inX _) (inX _) (inX _) hR (fun _ _ a b _ h => hK a b h)
theorem ok_melt : lawP_melt 384 Rel := by
  intro i x Mc Mr K hi hR hK
  exact al_melt (Q := fun _ a _ b => K a b) (inX _) (inX _) hR (fun _ _ a b _ h => hK a b h)
theorem ok_crucible : lawP_crucible 384 Rel := by
  intro i x Mc Mr K hi hR hK
  exact al_crucible (Q := fun _ a _ b => K a b) (inX _) hR (fun _ _ a b _ h => hK a b h)
theorem ok_cast : lawP_cast 384 Rel := by
  intro i x Mc Mr K hi hR hK
  exact al_cast (Q := fun _ a _ b => K a b) (inX _) (inX _) (inX _) hR (fun _ _ a b _ h => hK a b h)
theorem ok_years : lawP_years 384 Rel := by
  intro i x Mc Mr K hi hR hK
  exact al_years (Q := fun _ a _ b => K a b) (inX _) hR (fun _ _ a b _ h => hK a b h)
theorem ok_then : lawP_then 384 Rel := by
  intro i x Mc Mr K hi hR hK
  exact al_then (Q := fun _ a _ b => K a b) (inX _) (inX _) (inX _) hR (fun _ _ a b _ h => hK a b h)
theorem ok_seed : lawP_seed 384 Rel := by
  intro i x Mc Mr K hi hR hK
  exact al_seed (Q := fun _ a _ b => K a b) (inX _) hR (fun _ _ a b _ h => hK a b h)
theorem ok_feed : lawP_feed 384 Rel := by
  intro i x Mc Mr K hi hR hK
  exact al_feed (Q := fun _ a _ b => K a b) (inX _) hR (fun _ _ a b _ h => hK a b h)
theorem ok_text : lawP_text 384 Rel := by
  intro i x Mc Mr K hi hR hK
  exact al_text (Q := fun _ a _ b => K a b) (inX _) hR (fun _ _ a b _ h => hK a b h)
theorem ok_untell : lawP_untell 384 Rel := by
  intro i x Mc Mr K hi hR hK
  exact al_untell (Q := fun _ a _ b => K a b) (inX _) hR (fun _ _ a b _ h => hK a b h)
theorem ok_claim : lawP_claim 384 Rel := by
  intro i x Mc Mr K hi hR hK
  exact al_claim (Q := fun _ a _ b => K a b) (inX _) (inX _) hR (fun _ _ a b _ h => hK a b h)
theorem ok_claimIs : lawP_claimIs 384 Rel := by
  intro i x Mc Mr K hi hR hK
  exact al_claimIs (Q := fun _ a _ b => K a b) (inX _) (inX _) hR (fun _ _ a b _ h => hK a b h)
theorem ok_share : lawP_share 384 Rel := by
  intro i x Mc Mr K hi hR hK
  exact al_share (Q := fun _ a _ b => K a b) (inX _) (inX _) hR (fun _ _ a b _ h => hK a b h)
theorem ok_left : lawP_left 384 Rel := by
  intro i x Mc Mr K hi hR hK
  exact al_left (Q := fun _ a _ b => K a b) (inX _) (inX _) hR (fun _ _ a b _ h => hK a b h)
theorem ok_paper : lawP_paper 384 Rel := by
  intro i x Mc Mr K hi hR hK
  exact al_paper (Q := fun _ a _ b => K a b) (inX _) (inX _) (inX _) hR (fun _ _ a b _ h => hK a b h)
theorem ok_weigh : lawP_weigh 384 Rel := by
  intro i x Mc Mr K hi hR hK
  exact al_weigh (Q := fun _ a _ b => K a b) (inX _) (inX _) (inX _) hR (fun _ _ a b _ h => hK a b h)
theorem ok_forget : lawP_forget 384 Rel := by
  intro i x Mc Mr K hi hR hK
  exact al_forget (Q := fun _ a _ b => K a b) (inX _) hR (fun _ _ a b _ h => hK a b h)
theorem ok_by : lawP_by 384 Rel := by
  intro i x Mc Mr K hi hR hK
  exact al_by (Q := fun _ a _ b => K a b) (inX _) (inX _) (inX _) hR (fun _ _ a b _ h => hK a b h)
theorem ok_fits : lawP_fits 384 Rel := by
  intro i x Mc Mr K hi hR hK
  exact al_fits (Q := fun _ a _ b => K a b) (inX _) hR (fun _ _ a b _ h => hK a b h)
theorem ok_span : lawP_span 384 Rel := by
  intro i x Mc Mr K hi hR hK
  exact al_span (Q := fun _ a _ b => K a b) (inX _) (inX _) (inX _) hR (fun _ _ a b _ h => hK a b h)
theorem ok_next : lawP_next 384 Rel := by
  intro i x Mc Mr K hi hR hK
  exact al_next (Q := fun _ a _ b => K a b)  hR (fun _ _ a b _ h => hK a b h)
theorem ok_most : lawP_most 384 Rel := by
  intro i x Mc Mr K hi hR hK
  exact al_most (Q := fun _ a _ b => K a b) (inX _) (inX _) (inX _) hR (fun _ _ a b _ h => hK a b h)
theorem ok_voice : lawP_voice 384 Rel := by
  intro i x Mc Mr K hi hR hK
  exact al_voice (Q := fun _ a _ b => K a b) (inX _) (inX _) (inX _) hR (fun _ _ a b _ h => hK a b h)
theorem ok_body : lawP_body 384 Rel := by
  intro i x Mc Mr K hi hR hK
  exact al_body (Q := fun _ a _ b => K a b) (inX _) hR (fun _ _ a b h => hK a b h)
theorem ok_sheet : lawP_sheet 384 Rel := by
  intro i x Mc Mr K hi hR hK
  exact al_sheet (Q := fun _ a _ b => K a b) (inX _) (inX _) (inX _) hR (fun _ _ a b _ h => hK a b h)
theorem ok_put : lawP_put 384 Rel := by
  intro i x Mc Mr K hi hR hK
  exact al_put (Q := fun _ a _ b => K a b) (inX _) (inX _) (inX _) hR (fun _ _ a b _ h => hK a b h)
theorem ok_move : lawP_move 384 Rel := by
  intro i x Mc Mr K hi hR hK
  exact al_move (Q := fun _ a _ b => K a b) (inX _) (inX _) (inX _) (inX _) (inX _) hR (fun _ _ a b _ h => hK a b h)
theorem ok_papers : lawP_papers 384 Rel := by
  intro i x Mc Mr K hi hR hK
  exact al_papers (Q := fun _ a _ b => K a b) (inX _) hR (fun _ _ a b _ h => hK a b h)
theorem ok_judge : lawP_judge 384 Rel := by
  intro i x Mc Mr K hi hR hK
  exact al_judge (Q := fun _ a _ b => K a b) (inX _) (inX _) hR (fun _ _ a b _ h => hK a b h)
theorem ok_image : lawP_image 384 Rel := by
  intro i x Mc Mr K hi hR hK
  exact al_image (Q := fun _ a _ b => K a b)  hR (fun _ _ a b _ h => hK a b h)
theorem ok_restore : lawP_restore 384 Rel := by
  intro i x Mc Mr K hi hR hK
  exact al_restore (Q := fun _ a _ b => K a b) (by omega) hR (fun _ _ a b _ h => hK a b h)
theorem ok_tell : lawP_tell 384 Rel := by
  intro i x Mc Mr K hi hR hK
  exact al_tell (Q := fun _ a _ b => K a b) (inX _) hR (fun _ _ a b _ h => hK a b h)
theorem ok_check : lawP_check 384 Rel := by
  intro i x Mc Mr K hi hR hK
  exact al_check (Q := fun r a r' b => wrap r = wrap r' ∧ K a b)  hR (fun _ _ a b e h => ⟨e, hK a b h⟩)
theorem ok_count : lawP_count 384 Rel := by
  intro i x Mc Mr K hi hR hK
  exact al_count (Q := fun _ a _ b => K a b) (inX _) hR (fun _ _ a b h => hK a b h)
theorem ok_told : lawP_told 384 Rel := by
  intro i x Mc Mr K hi hR hK
  exact al_told (Q := fun _ a _ b => K a b) (inX _) hR (fun _ _ a b h => hK a b h)
theorem law_ok : lawOK 384 Rel := ⟨ok_thing, ok_thingIs, ok_as, ok_set, ok_melt, ok_crucible, ok_cast, ok_years, ok_then, ok_seed, ok_feed, ok_text, ok_untell, ok_claim, ok_claimIs, ok_share, ok_left, ok_paper, ok_weigh, ok_forget, ok_by, ok_fits, ok_span, ok_next, ok_most, ok_voice, ok_body, ok_sheet, ok_put, ok_move, ok_papers, ok_judge, ok_image, ok_restore, ok_tell, ok_check, ok_count, ok_told, fun i Mc Mr _ R => ⟨R.1, R.2.1, inv_mono (by omega) R.2.2.1, R.2.2.2⟩⟩
end
