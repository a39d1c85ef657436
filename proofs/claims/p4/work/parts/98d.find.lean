-- by of the reference; the histories that fit: both sides
theorem r_back {M M1 M2 : gSt} {k : gSt → Prop} (I : iN (absR M)) (h1 : M1 = cpyA M 1 3) (h2 : ∀ p, p ≠ 1 → M2 p = M1 p) (hk : ∀ M', absR M' = absR M → fr M M' → (∀ p, p ≠ 1 → p ≠ 3 → M' p = M p) → k M') : w_Rcarry 3 1 M2 k := by
  have c1 : ∀ p, p ≠ 3 → M1 p = M p := fun p hp => by
    rw [h1]; funext j; unfold cpyA; rw [if_neg (fun z => hp z.1)]
  have c3 : ∀ j, 0 ≤ j → j < 536 → M1 3 j = M 1 j := fun j a b => by rw [h1]; unfold cpyA; rw [if_pos ⟨rfl, a, b⟩]
  refine sp_Rcarry (Or.inr (Or.inr rfl)) (Or.inl rfl) (by decide) ?_
  have d1 : ∀ p, p ≠ 1 → cpyA M2 3 1 p = M2 p := fun p hp => by
    funext j; unfold cpyA; rw [if_neg (fun z => hp z.1)]
  have d3 : ∀ j, 0 ≤ j → j < 536 → cpyA M2 3 1 1 j = M 1 j := fun j a b => by
    unfold cpyA
    rw [if_pos ⟨rfl, a, b⟩, h2 3 (by decide)]
    exact c3 j a b
  generalize cpyA M2 3 1 = M4 at d1 d3 ⊢
  have e : ∀ p, p ≠ 1 → p ≠ 3 → M4 p = M p := fun p x1 x3 => by rw [d1 p x1, h2 p x1, c1 p x3]
  refine hk M4 ?_ ⟨fun j x y => d3 j (by omega) (by omega), e 2 (by decide) (by decide), by rw [e 0 (by decide) (by decide)]⟩ e
  exact absR_s1 (absS_536 (txtOk_abs (iN_t I)) d3) (e 2 (by decide) (by decide)) (by rw [e 0 (by decide) (by decide)]) (e 11 (by decide) (by decide)) (e 12 (by decide) (by decide)) (e 13 (by decide) (by decide))
theorem aside {M : gSt} : absR (cpyA M 1 3) = absR M := by
  have c1 : ∀ p, p ≠ 3 → cpyA M 1 3 p = M p := fun p hp => by
    funext j; unfold cpyA; rw [if_neg (fun z => hp z.1)]
  exact absR_eq (c1 1 (by decide)) (c1 2 (by decide)) (by rw [c1 0 (by decide)]) (c1 11 (by decide)) (c1 12 (by decide)) (c1 13 (by decide))
theorem sR_by {h t w : Int} {M : gSt} {k : Int → gSt → Prop} (i0 : inI h) (i1 : inI t) (i2 : inI w) (I : iN (absR M)) (J : iB (absR M)) (P : iP (absR M)) (hh : ∀ r M', wrap r = wrap (S_by h t w (absR M)) → absR M' = absR M → fr M M' → k r M') : w_Rby h t w M k := by
  have I' := I
  unfold iN at I'
  have ar := allP_rng (n := absR M 0 3) ⟨by omega, by omega⟩
  unfold w_Rby wB_Rby_26 w_RisHistory w_RallPapers
  rw [rdS M 3 (by decide) (by decide)]
  refine sp_Rin i0 (by constructor <;> decide) ⟨by omega, by omega⟩ (fun h0 => ⟨Or.inr rfl, z1 ?_⟩) (fun h0 => ⟨Or.inl rfl, z0 (badR (S := S_by h t w (absR M)) (if_pos (by omega)) hh)⟩)
  refine sp_RisThing i1 ⟨by omega, by omega⟩ (fun h1 => z1 ?_) (fun h1 => z0 (badR (S := S_by h t w (absR M)) (if_pos (by omega)) hh))
  refine sp_Rin i2 (by constructor <;> decide) (by constructor <;> decide) (fun h2 => z1n ?_) (fun h2 => z0n (badR (S := S_by h t w (absR M)) (if_pos (by omega)) hh))
  unfold S_by at hh
  rw [if_neg (by omega)] at hh
  unfold w_Rafter
  refine sp_Rcarry (Or.inl rfl) (Or.inr (Or.inr rfl)) (by decide) (r_goes aside I J P (fun M1 A O F => sp_Rits ⟨by omega, by omega⟩ ⟨by omega, by omega⟩ ?_))
  refine r_back (M := M) I rfl (fun p hp => O p hp) (fun M' a f _ => hh _ M' ?_ a f)
  rw [A]
  rfl
/-- weighings as they can be -/
def iG (σ : gSt) : Prop := ∀ i, 0 ≤ i → i < σ 0 4 → (0 ≤ σ 4 (3 * i) ∧ σ 4 (3 * i) ≤ 11) ∧ (0 ≤ σ 4 (3 * i + 1) ∧ σ 4 (3 * i + 1) ≤ 9999999) ∧ (0 ≤ σ 4 (3 * i + 2) ∧ σ 4 (3 * i + 2) ≤ 99)
abbrev wOk (σ : gSt) (B : Int → Int) (j : Int) : Prop := -(σ 4 (3 * j + 2)) ≤ B (10 * σ 4 (3 * j) + 2) - σ 4 (3 * j + 1) ∧ B (10 * σ 4 (3 * j) + 2) - σ 4 (3 * j + 1) ≤ σ 4 (3 * j + 2)
def fitS (σ : gSt) (B : Int → Int) : Nat → Int
  | 0 => 1
  | n + 1 => if fitS σ B n = 0 then 0 else if wOk σ B n then 1 else 0
theorem fitS_s {σ : gSt} {B : Int → Int} {n : Nat} : fitS σ B (n + 1) = if fitS σ B n = 0 then 0 else if wOk σ B n then 1 else 0 := rfl
theorem fitS_01 {σ : gSt} {B : Int → Int} : ∀ n : Nat, fitS σ B n = 0 ∨ fitS σ B n = 1
  | 0 => Or.inr rfl
  | n + 1 => by
    rw [fitS_s]
    split
    · exact Or.inl rfl
    · split
      · exact Or.inr rfl
      · exact Or.inl rfl
theorem fitS_0 {σ : gSt} {B : Int → Int} {n : Nat} (h : fitS σ B n = 0) : ∀ r : Nat, fitS σ B (n + r) = 0
  | 0 => h
  | r + 1 => by
    show fitS σ B (n + r + 1) = 0
    rw [fitS_s, if_pos (fitS_0 h r)]
theorem rc4 (M : gSt) {i : Int} (h0 : 0 ≤ i) (h1 : i < 24) : absC M 4 i = M 11 i := by simp [absC, msk, h0, h1]
theorem c_isSo {σ M : gSt} {B : Int → Int} {k : Int → gSt → Prop} (hA : absC M = σ) (hK : cK M) (I : iN σ) (G : iG σ) (hB : ∀ j, 0 ≤ j → j < 130 → M 43 j = B j) (ok : ∀ t, 0 ≤ t → t ≤ 12 → thOk B (10 * t)) (hk : k (fitS σ B (σ 0 4).toNat) M) : w_X2_isSo 41 10 M k := by
  unfold iN at I
  have n4 := rc04 M
  rw [hA] at n4
  have k10 := (cK_10 hK).1
  have lp : ∀ (r n : Nat), n + r = (σ 0 4).toNat → fitS σ B n = 1 → wL_X2_isSo_2 41 10 k (fun M2 => k 0 M2) (fun M2 => k 1 M2) (r + 1) n M := by
    intro r
    induction r with
    | zero =>
      intro n hn f
      unfold wL_X2_isSo_2 wC_X2_isSo_2
      refine sp_size4 pl_10 ?_
      rw [← n4, wI (x := σ 0 4) ⟨by omega, by omega⟩, wI (x := (n : Int)) ⟨by omega, by omega⟩]
      refine ⟨fun _ => ?_, fun z => absurd z (by omega)⟩
      rw [show (σ 0 4).toNat = n from by omega, f] at hk
      exact hk
    | succ r ih =>
      intro n hn f
      obtain ⟨p0, p1, p2⟩ := G n (by omega) (by omega)
      have rd : ∀ j, 0 ≤ j → j ≤ 2 → ∀ kk : Int → gSt → Prop, kk (σ 4 (3 * n + j)) M → w_X4_at 10 n j M kk := fun j x y kk hkk => by
        refine sp_at (W := 3) pl_10 k10 (by rw [← n4]; exact ⟨by omega, by omega⟩) ⟨x, by omega⟩ ⟨by rw [← n4]; omega, by decide⟩ (by show (n : Int) * 3 + j < 24; omega) (by decide) ?_
        rw [show (n : Int) * 3 + j = 3 * n + j from by omega]
        show kk (M 11 (3 * n + j)) M
        rw [← rc4 M (by omega) (by omega), hA]
        exact hkk
      have g := (ok _ p0.1 (by omega)).2.2.1
      unfold wL_X2_isSo_2 wC_X2_isSo_2
      refine sp_size4 pl_10 ?_
      rw [← n4, wI (x := σ 0 4) ⟨by omega, by omega⟩, wI (x := (n : Int)) ⟨by omega, by omega⟩]
      refine ⟨fun z => absurd z (by omega), fun _ => rd 0 (by decide) (by decide) _ ?_⟩
      rw [show 3 * (n : Int) + 0 = 3 * n from by omega]
      refine sp_number pl_42 rfl ⟨by omega, by omega⟩ (by decide) (rd 1 (by decide) (by decide) _ (fun x ex => rd 2 (by decide) (by decide) _ ?_))
      rw [show M (41 + 1 + 1) (10 * σ 4 (3 * n) + 2) = B (10 * σ 4 (3 * n) + 2) from hB _ (by omega) (by omega)] at ex
      have ax : wrap (xabs x) = if x < 0 then -x else x := by
        unfold xabs
        rw [wI (x := x) ⟨by omega, by omega⟩]
        by_cases z : x < 0
        · rw [if_neg (by omega), if_pos z, show 0 - x = -x from by omega]; exact wI ⟨by omega, by omega⟩
        · rw [if_pos (by omega), if_neg z]; exact wI ⟨by omega, by omega⟩
      rw [ax, wI (x := σ 4 (3 * n + 2)) ⟨by omega, by omega⟩]
      have e1 : ((n + 1 : Nat) : Int) = (n : Int) + 1 := by omega
      refine ⟨fun z => ?_, fun z => ?_⟩
      · have := ih (n + 1) (by omega) (by
          rw [fitS_s, f, if_neg (by decide), if_pos]
          unfold wOk
          by_cases y : x < 0
          · rw [if_pos y] at z; omega
          · rw [if_neg y] at z; omega)
        rw [e1] at this
        exact this
      · have z0 : fitS σ B (n + 1) = 0 := by
          rw [fitS_s, f, if_neg (by decide), if_neg]
          unfold wOk
          by_cases y : x < 0
          · rw [if_pos y] at z; omega
          · rw [if_neg y] at z; omega
        have := fitS_0 z0 r
        rw [show n + 1 + r = (σ 0 4).toNat from by omega] at this
        rw [this] at hk
        exact hk
  unfold w_X2_isSo
  exact ⟨pl_41, pl_10, _, lp (σ 0 4).toNat 0 (by omega) rfl⟩
theorem r_fit {σ M : gSt} {h : Int} {k : Int → gSt → Prop} (hA : absR M = σ) (I : iN σ) (J : iB σ) (P : iP σ) (G : iG σ) (hk : ∀ M', absR M' = σ → fr M M' → (∀ p, p ≠ 1 → p ≠ 3 → M' p = M p) → k (fitS σ (byB σ h (σ 0 3).toNat) (σ 0 4).toNat) M') : w_RdoesFit h M k := by
  have I' := I
  unfold iN at I'
  have ok := byB_ok (h := h) J P (σ 0 3).toNat (by omega)
  unfold w_RdoesFit
  refine sp_Rcarry (Or.inl rfl) (Or.inr (Or.inr rfl)) (by decide) (r_goes (aside.trans hA) I J P (fun M1 A O F => ?_))
  generalize hB : byB σ h (σ 0 3).toNat = B at *
  have rd : ∀ j, 0 ≤ j → j < 24 → M1 1 (178 + j) = σ 4 j := fun j x y => by
    have : M1 1 (178 + j) = absR M1 4 j := by simp [absR, absS, msk, x, y]
    rw [this, A]
    rfl
  have fin : ∀ v, v = fitS σ B (σ 0 4).toNat → wB_RdoesFit_101 h k v M1 := fun v hv => by
    unfold wB_RdoesFit_101
    refine r_back (M := M) (by rw [hA]; exact I) rfl (fun p hp => O p hp) (fun M' a f e => ⟨by rw [hv]; exact fitS_01 _, ?_⟩)
    rw [hv]
    exact hk M' (a.trans hA) f e
  have lp : ∀ (r n : Nat), n + r = (σ 0 4).toNat → wL_RdoesFit_20 h k (fun u2_20 M20 => wB_RdoesFit_101 h k u2_20 M20) (r + 1) (fitS σ B n) n M1 := by
    intro r
    induction r with
    | zero =>
      intro n hn
      unfold wL_RdoesFit_20 wC_RdoesFit_20
      rw [rdS M1 4 (by decide) (by decide), A, show cellS σ B 0 4 = σ 0 4 from rfl, wI (x := σ 0 4) ⟨by omega, by omega⟩, wI (x := (n : Int)) ⟨by omega, by omega⟩]
      exact ⟨fun _ => fin _ (by rw [show (σ 0 4).toNat = n from by omega]), fun z => absurd z (by omega)⟩
    | succ r ih =>
      intro n hn
      obtain ⟨p0, p1, p2⟩ := G n (by omega) (by omega)
      have g := (ok _ p0.1 (by omega)).2.2.1
      unfold wL_RdoesFit_20 wC_RdoesFit_20
      rw [rdS M1 4 (by decide) (by decide), A, show cellS σ B 0 4 = σ 0 4 from rfl, wI (x := σ 0 4) ⟨by omega, by omega⟩, wI (x := (n : Int)) ⟨by omega, by omega⟩]
      refine ⟨fun z => absurd z (by omega), fun _ => ?_⟩
      have e1 : ((n + 1 : Nat) : Int) = (n : Int) + 1 := by omega
      rcases fitS_01 (σ := σ) (B := B) n with f | f
      · rw [f]
        refine ⟨fun _ => fin 0 ?_, fun z => absurd wrap_0 z⟩
        have := fitS_0 f (r + 1)
        rw [show n + (r + 1) = (σ 0 4).toNat from by omega] at this
        exact this.symm
      · have fs := fitS_s (σ := σ) (B := B) (n := n)
        rw [f, if_neg (by decide)] at fs
        rw [f]
        refine ⟨fun z => absurd z (by decide), fun _ => ⟨⟨by omega, by omega⟩, ?_⟩⟩
        rw [rd _ (by omega) (by omega)]
        refine sp_Rits ⟨by omega, by omega⟩ (by decide) ⟨⟨by omega, by omega⟩, fun x ex => ⟨⟨by omega, by omega⟩, fun y ey => ?_⟩⟩
        rw [A, show 178 + 3 * (n : Int) + 1 = 178 + (3 * n + 1) from by omega, rd _ (by omega) (by omega), show cellS σ B 1 (10 * σ 4 (3 * n) + 2) = B (10 * σ 4 (3 * n) + 2) from rfl] at ex
        rw [show 178 + 3 * (n : Int) + 2 = 178 + (3 * n + 2) from by omega, rd _ (by omega) (by omega)] at ey
        subst ex; subst ey
        have := ih (n + 1) (by omega)
        rw [e1] at this
        refine sp_Rin ⟨by omega, by omega⟩ ⟨by omega, by omega⟩ ⟨by omega, by omega⟩ (fun z => ?_) (fun z => ?_)
        · rw [fs, if_pos z] at this; exact this
        · rw [fs, if_neg z] at this; exact this
  exact ⟨_, lp (σ 0 4).toNat 0 (by omega)⟩
