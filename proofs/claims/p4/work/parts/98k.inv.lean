-- what every call keeps
def iAll (σ : gSt) : Prop := iN σ ∧ iB σ ∧ iCr σ ∧ iTp σ ∧ iX σ ∧ iC σ ∧ iP σ ∧ iG σ
def iImg (σ : gSt) : Prop := σ 21 0 ≠ 0 → iAll (rstσ σ)
def Inv (n : Nat) (σ : gSt) : Prop := iAll σ ∧ iSh σ ∧ (0 ≤ σ 21 0 ∧ σ 21 0 ≤ n) ∧ iImg σ
theorem cg_N {σ σ' : gSt} (h : ∀ j, j ≠ 8 → σ' 0 j = σ 0 j) (I : iN σ) : iN σ' := by
  unfold iN at I ⊢
  rw [h 0 (by decide), h 1 (by decide), h 2 (by decide), h 3 (by decide), h 4 (by decide), h 5 (by decide), h 6 (by decide), h 7 (by decide), h 9 (by decide), h 10 (by decide)]
  exact I
theorem cg_B {σ σ' : gSt} (h : σ' 1 = σ 1) (J : iB σ) : iB σ' := fun t a b => by rw [h]; exact J t a b
theorem cg_Cr {σ σ' : gSt} (h : σ' 1 = σ 1) (J : iCr σ) : iCr σ' := by unfold iCr at J ⊢; rw [h]; exact J
theorem cg_Tp {σ σ' : gSt} (h : σ' 5 = σ 5) (J : iTp σ) : iTp σ' := fun t a b => by rw [h]; exact J t a b
theorem cg_X {σ σ' : gSt} (h9 : σ' 0 9 = σ 0 9) (h10 : σ' 0 10 = σ 0 10) (h7 : σ' 7 = σ 7) (h8 : σ' 8 = σ 8) (J : iX σ) : iX σ' := by unfold iX at J ⊢; rw [h9, h10, h7, h8]; exact J
theorem cg_C {σ σ' : gSt} (h0 : σ' 0 2 = σ 0 2) (h : σ' 2 = σ 2) (J : iC σ) : iC σ' := by unfold iC at J ⊢; rw [h0, h]; exact J
theorem cg_P {σ σ' : gSt} (h0 : σ' 0 3 = σ 0 3) (h : σ' 3 = σ 3) (J : iP σ) : iP σ' := by unfold iP at J ⊢; rw [h0, h]; exact J
theorem cg_G {σ σ' : gSt} (h0 : σ' 0 4 = σ 0 4) (h : σ' 4 = σ 4) (J : iG σ) : iG σ' := by unfold iG at J ⊢; rw [h0, h]; exact J
theorem cg_Sh {σ σ' : gSt} (h : ∀ c, c = 23 ∨ c = 24 ∨ c = 25 → σ' c = σ c) (J : iSh σ) : iSh σ' := by
  unfold iSh at J ⊢; rw [h 23 (Or.inl rfl), h 24 (Or.inr (Or.inl rfl)), h 25 (Or.inr (Or.inr rfl))]; exact J
theorem cg_All {σ σ' : gSt} (h : ∀ c, c < 10 → σ' c = σ c) (I : iAll σ) : iAll σ' := by
  obtain ⟨a, b, c, d, e, f, g, i⟩ := I
  have h0 := h 0 (by decide)
  exact ⟨cg_N (fun j _ => by rw [h0]) a, cg_B (h 1 (by decide)) b, cg_Cr (h 1 (by decide)) c, cg_Tp (h 5 (by decide)) d, cg_X (by rw [h0]) (by rw [h0]) (h 7 (by decide)) (h 8 (by decide)) e, cg_C (by rw [h0]) (h 2 (by decide)) f, cg_P (by rw [h0]) (h 3 (by decide)) g, cg_G (by rw [h0]) (h 4 (by decide)) i⟩
theorem cg_Img {σ σ' : gSt} (h : ∀ c, 10 ≤ c → c < 22 → σ' c = σ c) (I : iImg σ) : iImg σ' := by
  unfold iImg at I ⊢
  rw [h 21 (by decide) (by decide)]
  intro q
  refine cg_All (fun c hc => ?_) (I q)
  funext i
  unfold rstσ
  rw [if_pos hc, if_pos hc, h (c + 10) (by omega) (by omega)]
theorem inv_mono {n m : Nat} {σ : gSt} (h : n ≤ m) (V : Inv n σ) : Inv m σ := ⟨V.1, V.2.1, ⟨V.2.2.1.1, by have := V.2.2.1.2; omega⟩, V.2.2.2⟩
/-- a change of what is now alone -/
theorem inv_now {n : Nat} {σ σ' : gSt} (V : Inv n σ) (h : ∀ c, 10 ≤ c → σ' c = σ c) (A : iAll σ') : Inv n σ' := by
  obtain ⟨-, b, c, d⟩ := V
  refine ⟨A, cg_Sh (fun c hc => h c (by omega)) b, ?_, cg_Img (fun c x _ => h c x) d⟩
  rw [h 21 (by decide)]
  exact c
/-- a change of things and their numbers alone -/
theorem inv_B {n : Nat} {σ σ' : gSt} (V : Inv n σ) (hc : ∀ c, c ≠ 0 → c ≠ 1 → σ' c = σ c) (h0 : ∀ j, j ≠ 0 → j ≠ 1 → j ≠ 5 → j ≠ 8 → σ' 0 j = σ 0 j) (b : (0 ≤ σ' 0 0 ∧ σ' 0 0 ≤ 12) ∧ (0 ≤ σ' 0 1 ∧ σ' 0 1 ≤ 4 ∧ σ' 0 1 ≤ σ' 0 0) ∧ 0 ≤ σ' 0 5 ∧ σ' 0 5 ≤ 9999) (J : iB σ') (CR : iCr σ') : Inv n σ' := by
  obtain ⟨I, J0, -, T, X, C, P, G⟩ := V.1
  refine inv_now V (fun c h => hc c (by omega) (by omega)) ⟨?_, J, CR, cg_Tp (hc 5 (by decide) (by decide)) T, cg_X (h0 9 (by decide) (by decide) (by decide) (by decide)) (h0 10 (by decide) (by decide) (by decide) (by decide)) (hc 7 (by decide) (by decide)) (hc 8 (by decide) (by decide)) X, cg_C (h0 2 (by decide) (by decide) (by decide) (by decide)) (hc 2 (by decide) (by decide)) C, cg_P (h0 3 (by decide) (by decide) (by decide) (by decide)) (hc 3 (by decide) (by decide)) P, cg_G (h0 4 (by decide) (by decide) (by decide) (by decide)) (hc 4 (by decide) (by decide)) G⟩
  unfold iN at I ⊢
  rw [h0 2 (by decide) (by decide) (by decide) (by decide), h0 3 (by decide) (by decide) (by decide) (by decide), h0 4 (by decide) (by decide) (by decide) (by decide), h0 6 (by decide) (by decide) (by decide) (by decide), h0 7 (by decide) (by decide) (by decide) (by decide), h0 9 (by decide) (by decide) (by decide) (by decide), h0 10 (by decide) (by decide) (by decide) (by decide)]
  omega
theorem th_new {B : Int → Int} {b kk m g h6 h7 h8 h9 : Int} (e0 : B (b + 0) = kk) (e1 : B (b + 1) = m) (e2 : B (b + 2) = g) (e3 : ∀ w, 3 ≤ w → w ≤ 5 → B (b + w) = 0) (e6 : B (b + 6) = h6) (e7 : B (b + 7) = h7) (e8 : B (b + 8) = h8) (e9 : B (b + 9) = h9) (q : (0 ≤ kk ∧ kk ≤ 6) ∧ (0 ≤ m ∧ m ≤ 99) ∧ (0 ≤ g ∧ g ≤ 9999999) ∧ (0 ≤ h6 ∧ h6 ≤ 1000000) ∧ (0 ≤ h7 ∧ h7 ≤ 1000000) ∧ (0 ≤ h8 ∧ h8 ≤ 1000000) ∧ (0 ≤ h9 ∧ h9 ≤ 1000000)) : thOk B b := by
  unfold thOk
  rw [e0, e1, e2, e3 3 (by decide) (by decide), e3 4 (by decide) (by decide), e3 5 (by decide) (by decide), e6, e7, e8, e9]
  omega
theorem kp_thing {n : Nat} {km g : Int} {σ : gSt} (V : Inv n σ) : Inv n (S_thing km g σ).2 := by
  unfold S_thing
  split
  · exact V
  rename_i hv
  split
  · exact V
  rename_i hf
  obtain ⟨I, J, CR, -⟩ := V.1
  unfold iN at I
  have key : ∀ (σ' : gSt) (q : Int), (∀ c, c ≠ 0 → c ≠ 1 → σ' c = σ c) → (∀ j, j ≠ 0 → j ≠ 1 → σ' 0 j = σ 0 j) → σ' 0 0 = σ 0 0 + 1 → (q = σ 0 1 ∧ σ 0 1 < 4 ∧ σ' 0 1 = σ 0 1 + 1 ∨ q = 200 ∧ σ' 0 1 = σ 0 1) → (∀ i, i < 130 → σ' 1 i = if i = 10 * σ 0 0 + (6 + q) then 1000000 else if i = 10 * σ 0 0 + 2 then g else if 10 * σ 0 0 ≤ i ∧ i < 10 * σ 0 0 + 10 then (if i = 10 * σ 0 0 then km / 100 else if i = 10 * σ 0 0 + 1 then km % 100 else 0) else σ 1 i) → Inv n σ' := by
    intro σ' q hc h0 e0 e1 eB
    refine inv_B V hc (fun j a b _ _ => h0 j a b) ⟨by omega, by omega, by rw [h0 5 (by decide) (by decide)]; omega⟩ (fun t a b => ?_) ?_
    · by_cases tn : t = σ 0 0
      · subst tn
        have z : ∀ w, 6 ≤ w → w ≤ 9 → σ' 1 (10 * σ 0 0 + w) = if w = 6 + q then 1000000 else 0 := fun w x y => by
          rw [eB _ (by omega)]
          by_cases e : w = 6 + q
          · rw [if_pos (by omega), if_pos e]
          · rw [if_neg (by omega), if_neg (by omega), if_pos (by omega), if_neg (by omega), if_neg (by omega), if_neg e]
        refine th_new (kk := km / 100) (m := km % 100) (g := g) ?_ ?_ ?_ (fun w x y => ?_) (z 6 (by decide) (by decide)) (z 7 (by decide) (by decide)) (z 8 (by decide) (by decide)) (z 9 (by decide) (by decide)) ?_
        · rw [eB _ (by omega), if_neg (by omega), if_neg (by omega), if_pos (by omega), if_pos (by omega)]
        · rw [eB _ (by omega), if_neg (by omega), if_neg (by omega), if_pos (by omega), if_neg (by omega), if_pos (by omega)]
        · rw [eB _ (by omega), if_neg (by omega), if_pos (by omega)]
        · rw [eB _ (by omega), if_neg (by omega), if_neg (by omega), if_pos (by omega), if_neg (by omega), if_neg (by omega)]
        · refine ⟨by omega, by omega, by omega, ?_, ?_, ?_, ?_⟩ <;> (split <;> constructor <;> decide)
      · refine thOk_congr (fun w x y => ?_) (J t a b)
        rw [eB _ (by omega), if_neg (by omega), if_neg (by omega), if_neg (by omega)]
    · unfold iCr at CR ⊢
      rw [eB _ (by omega), if_neg (by omega), if_neg (by omega), if_neg (by omega), eB _ (by omega), if_neg (by omega), if_neg (by omega), if_neg (by omega)]
      exact CR
  have aC : ∀ c, c ≠ 0 → c ≠ 1 → addT σ km c = σ c := fun c a b => by funext i; simp [addT, a, b]
  have a0 : ∀ j, j ≠ 0 → addT σ km 0 j = σ 0 j := fun j a => by simp [addT, a]
  have a00 : addT σ km 0 0 = σ 0 0 + 1 := by simp [addT]
  have a1 : ∀ i, addT σ km 1 i = if 10 * σ 0 0 ≤ i ∧ i < 10 * σ 0 0 + 10 then (if i = 10 * σ 0 0 then km / 100 else if i = 10 * σ 0 0 + 1 then km % 100 else 0) else σ 1 i := fun i => by simp [addT]
  show Inv n (if σ 0 1 < 4 then up1 (up1 (up1 (addT σ km) 1 (10 * σ 0 0 + 2) g) 1 (10 * σ 0 0 + (6 + σ 0 1)) 1000000) 0 1 (σ 0 1 + 1) else up1 (addT σ km) 1 (10 * σ 0 0 + 2) g)
  split
  · rename_i h4
    refine key _ (σ 0 1) (fun c a b => ?_) (fun j a b => ?_) ?_ (Or.inl ⟨rfl, h4, ?_⟩) (fun i hi => ?_)
    · funext i
      rw [up1_o a, up1_o b, up1_o b, aC c a b]
    · rw [up1_n b, up1_o (by decide), up1_o (by decide), a0 j a]
    · rw [up1_n (by decide), up1_o (by decide), up1_o (by decide), a00]
    · exact up1_i
    · rw [up1_o (by decide)]
      by_cases x : i = 10 * σ 0 0 + (6 + σ 0 1)
      · rw [if_pos x, x, up1_i]
      · rw [if_neg x, up1_n x]
        by_cases y : i = 10 * σ 0 0 + 2
        · rw [if_pos y, y, up1_i]
        · rw [if_neg y, up1_n y, a1]
  · refine key _ 200 (fun c a b => ?_) (fun j a b => ?_) ?_ (Or.inr ⟨rfl, ?_⟩) (fun i hi => ?_)
    · funext i
      rw [up1_o b, aC c a b]
    · rw [up1_o (by decide), a0 j a]
    · rw [up1_o (by decide), a00]
    · rw [up1_o (by decide), a0 1 (by decide)]
    · by_cases y : i = 10 * σ 0 0 + 2
      · rw [if_neg (by omega), if_pos y, y, up1_i]
      · rw [up1_n y, a1, if_neg (c := i = 10 * σ 0 0 + (6 + 200)) (by omega), if_neg y]
theorem kp_set {n : Nat} {t w v : Int} {σ : gSt} (V : Inv n σ) : Inv n (S_set t w v σ).2 := by
  unfold S_set
  by_cases hv : (0 ≤ t ∧ t < σ 0 0) ∧ (0 ≤ w ∧ w ≤ 5 ∧ ¬ w = 2) ∧ (0 ≤ v ∧ v ≤ (if w = 0 then 6 else if w = 1 then 99 else σ 1 (10 * t + 2)))
  case neg =>
    rw [if_pos hv]
    exact V
  rw [if_neg (fun z => z hv)]
  obtain ⟨I, J, CR, -⟩ := V.1
  unfold iN at I
  obtain ⟨h1, h2, h3⟩ := hv
  show Inv n (up1 σ 1 (10 * t + w) v)
  refine inv_B V (fun c a b => by funext i; exact up1_o b) (fun j _ _ _ _ => up1_o (by decide)) ?_ (fun u a b => ?_) ?_
  · rw [up1_o (by decide), up1_o (by decide), up1_o (by decide)]
    omega
  · by_cases ut : u = t
    · subst ut
      have T := J u a b
      have e : ∀ x, x ≠ w → up1 σ 1 (10 * u + w) v 1 (10 * u + x) = σ 1 (10 * u + x) := fun x hx => up1_n (by omega)
      unfold thOk at T ⊢
      rcases (show w = 0 ∨ w = 1 ∨ w = 3 ∨ w = 4 ∨ w = 5 by omega) with rfl | rfl | rfl | rfl | rfl
      · rw [if_pos rfl] at h3
        rw [up1_i, e 1 (by decide), e 2 (by decide), e 3 (by decide), e 4 (by decide), e 5 (by decide), e 6 (by decide), e 7 (by decide), e 8 (by decide), e 9 (by decide)]
        exact ⟨h3, T.2⟩
      · rw [if_neg (by decide), if_pos rfl] at h3
        rw [up1_i, e 0 (by decide), e 2 (by decide), e 3 (by decide), e 4 (by decide), e 5 (by decide), e 6 (by decide), e 7 (by decide), e 8 (by decide), e 9 (by decide)]
        exact ⟨T.1, h3, T.2.2⟩
      · rw [if_neg (by decide), if_neg (by decide)] at h3
        rw [up1_i, e 0 (by decide), e 1 (by decide), e 2 (by decide), e 4 (by decide), e 5 (by decide), e 6 (by decide), e 7 (by decide), e 8 (by decide), e 9 (by decide)]
        exact ⟨T.1, T.2.1, T.2.2.1, h3, T.2.2.2.2⟩
      · rw [if_neg (by decide), if_neg (by decide)] at h3
        rw [up1_i, e 0 (by decide), e 1 (by decide), e 2 (by decide), e 3 (by decide), e 5 (by decide), e 6 (by decide), e 7 (by decide), e 8 (by decide), e 9 (by decide)]
        exact ⟨T.1, T.2.1, T.2.2.1, T.2.2.2.1, h3, T.2.2.2.2.2⟩
      · rw [if_neg (by decide), if_neg (by decide)] at h3
        rw [up1_i, e 0 (by decide), e 1 (by decide), e 2 (by decide), e 3 (by decide), e 4 (by decide), e 6 (by decide), e 7 (by decide), e 8 (by decide), e 9 (by decide)]
        exact ⟨T.1, T.2.1, T.2.2.1, T.2.2.2.1, T.2.2.2.2.1, h3, T.2.2.2.2.2.2⟩
    · exact thOk_congr (fun x _ _ => up1_n (by omega)) (J u a b)
  · unfold iCr
    rw [up1_n (by omega), up1_n (by omega)]
    exact CR
theorem kp_melt {n : Nat} {t e : Int} {σ : gSt} (V : Inv n σ) : Inv n (S_melt t e σ).2 := by
  unfold S_melt
  split
  · exact V
  rename_i hv
  have hv := Classical.not_not.mp hv
  split
  · exact V
  obtain ⟨I, J, CR, -⟩ := V.1
  unfold iN at I
  have o : ∀ c, c ≠ 1 → mvC 1 t 12 e σ c = σ c := fun c b => by funext i; simp [mvC, b]
  show Inv n (mvC 1 t 12 e σ)
  refine inv_B V (fun c a b => o c b) (fun j _ _ _ _ => by rw [o 0 (by decide)]) ?_ (fun u a b => ?_) ?_
  · rw [o 0 (by decide)]
    omega
  · have k := thOk_move (t := u) (show t ≠ 12 by omega) hv.2 (J t hv.1.1 (by omega)) (J 12 (by decide) (by decide)) (J u a b)
    exact thOk_congr (fun x _ _ => by simp [mvC]) k
  · unfold iCr at CR ⊢
    have r : ∀ w, w < 2 → 0 ≤ w → mvC 1 t 12 e σ 1 (10 * 12 + w) = σ 1 (10 * 12 + w) := fun w a b => by
      simp only [mvC, if_true]
      unfold moveB
      rw [if_neg (by omega), if_neg (by omega), if_neg (by omega), if_neg (by omega)]
    rw [r 0 (by decide) (by decide), r 1 (by decide) (by decide)]
    exact CR
theorem yearσ_o {σ : gSt} (J : iB σ) : (∀ c, c ≠ 0 → c ≠ 1 → yearσ σ c = σ c) ∧ (∀ j, j ≠ 5 → j ≠ 8 → yearσ σ 0 j = σ 0 j) ∧ yearσ σ 0 5 = σ 0 5 + 1 := by
  obtain ⟨b, e⟩ := yearT_keep J (σ 0 0).toNat
  refine ⟨fun c h0 h1 => ?_, fun j h5 h8 => ?_, up1_i⟩
  · funext i
    show up1 _ 0 5 _ c i = _
    rw [up1_o h0]
    exact e c i ⟨h1, fun q => h0 q.1⟩
  · show up1 _ 0 5 _ 0 j = _
    rw [up1_n h5]
    exact e 0 j ⟨by decide, fun q => h8 q.2⟩
theorem loseT_cr {τ : gSt} {t : Int} {i : Int} (h : ¬ (10 * t + 2 ≤ i ∧ i < 10 * t + 6)) : loseT τ t 1 i = τ 1 i := by
  unfold loseT
  rw [if_neg (fun q => h q.2)]
theorem yearT_cr {σ : gSt} : ∀ n : Nat, (n : Int) ≤ 12 → ∀ i, 120 ≤ i → yearT σ n 1 i = σ 1 i
  | 0, _, _, _ => rfl
  | n + 1, h, i, hi => by
    have ih := @yearT_cr σ n (by omega) i hi
    simp only [yearT]
    split
    · rw [loseT_cr (by omega), up1_o (by decide)]
      exact ih
    · rw [up1_o (by decide)]
      exact ih
theorem yearσ_cr {σ : gSt} (h : σ 0 0 ≤ 12) {i : Int} (hi : 120 ≤ i) : yearσ σ 1 i = σ 1 i := by
  show up1 (yearT σ (σ 0 0).toNat) 0 5 _ 1 i = _
  rw [up1_o (by decide)]
  exact yearT_cr _ (by omega) i hi
theorem goσ_oo {σ : gSt} (J : iB σ) (h12 : σ 0 0 ≤ 12) : ∀ n : Nat, (∀ c, c ≠ 0 → c ≠ 1 → goσ σ n c = σ c) ∧ (∀ j, j ≠ 5 → j ≠ 8 → goσ σ n 0 j = σ 0 j) ∧ goσ σ n 0 5 = σ 0 5 + (n : Int) ∧ ∀ i, 120 ≤ i → goσ σ n 1 i = σ 1 i
  | 0 => ⟨fun _ _ _ => rfl, fun _ _ _ => rfl, by simp [goσ], fun _ _ => rfl⟩
  | n + 1 => by
    obtain ⟨a, b, c, d⟩ := goσ_oo J h12 n
    obtain ⟨K, k0⟩ := goσ_keep J n
    obtain ⟨a2, b2, c2⟩ := yearσ_o K
    refine ⟨fun p x y => (a2 p x y).trans (a p x y), fun j x y => (b2 j x y).trans (b j x y), ?_, fun i hi => (yearσ_cr (by omega) hi).trans (d i hi)⟩
    show yearσ (goσ σ n) 0 5 = _
    rw [c2, c]
    omega
theorem kp_years {n : Nat} {m : Int} {σ : gSt} (V : Inv n σ) : Inv n (S_years m σ).2 := by
  unfold S_years
  split
  · exact V
  rename_i hv
  have hv := Classical.not_not.mp hv
  split
  · exact V
  rename_i h9
  obtain ⟨I, J, CR, -⟩ := V.1
  unfold iN at I
  obtain ⟨a, b, c, d⟩ := goσ_oo J (by omega) m.toNat
  show Inv n (goσ σ m.toNat)
  refine inv_B V (fun p x y => a p x y) (fun j _ _ x y => b j x y) ?_ (goσ_keep J m.toNat).1 ?_
  · rw [b 0 (by decide) (by decide), b 1 (by decide) (by decide), c]
    omega
  · unfold iCr
    rw [d _ (by decide), d _ (by decide)]
    exact CR
theorem kp_seed {n : Nat} {v : Int} {σ : gSt} (V : Inv n σ) : Inv n (S_seed v σ).2 := by
  obtain ⟨I, J, CR, -⟩ := V.1
  unfold iN at I
  show Inv n (up1 σ 0 8 v)
  refine inv_B V (fun c a b => by funext i; exact up1_o a) (fun j _ _ _ x => up1_n x) ?_ (fun u a b => thOk_congr (fun x _ _ => up1_o (by decide)) (J u a b)) ?_
  · rw [up1_n (by decide), up1_n (by decide), up1_n (by decide)]
    omega
  · unfold iCr
    rw [up1_o (by decide), up1_o (by decide)]
    exact CR
