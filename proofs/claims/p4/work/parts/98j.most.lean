-- most of one first thing: both sides
theorem xand1 (x : Int) : wrap (xand x 1) = 0 ∨ wrap (xand x 1) = 1 := by
  unfold xand
  have h : ∀ y : BitVec 32, (y &&& 1#32).toNat ≤ 1 := fun y => by
    rw [BitVec.toNat_and]
    exact Nat.and_le_right
  have e : (Int32.ofInt x &&& Int32.ofInt 1).toInt = ((Int32.ofInt x).toBitVec &&& 1#32).toInt := rfl
  rw [e]
  have h1 := h (Int32.ofInt x).toBitVec
  rw [BitVec.toInt_eq_toNat_of_lt (by omega)]
  unfold wrap
  omega
abbrev bitS (s t : Int) : Prop := wrap (xand (xshr s t) 1) = 1
def gS (B : Int → Int) (s : Int) : Nat → Int
  | 0 => 0
  | n + 1 => if bitS s n then gS B s n + B (10 * n + 2) else gS B s n
def hS (B : Int → Int) (w s : Int) : Nat → Int
  | 0 => 0
  | n + 1 => if bitS s n then hS B w s n + B (10 * n + 2) * B (10 * n + w) else hS B w s n
def okS (B : Int → Int) (s : Int) : Nat → Int
  | 0 => 1
  | n + 1 => if okS B s n = 0 then 0 else if bitS s n ∧ B (10 * n + 2) = 0 then 0 else 1
theorem gS_s {B : Int → Int} {s : Int} {n : Nat} : gS B s (n + 1) = if bitS s n then gS B s n + B (10 * n + 2) else gS B s n := rfl
theorem hS_s {B : Int → Int} {w s : Int} {n : Nat} : hS B w s (n + 1) = if bitS s n then hS B w s n + B (10 * n + 2) * B (10 * n + w) else hS B w s n := rfl
theorem okS_s {B : Int → Int} {s : Int} {n : Nat} : okS B s (n + 1) = if okS B s n = 0 then 0 else if bitS s n ∧ B (10 * n + 2) = 0 then 0 else 1 := rfl
def bOk (B : Int → Int) (w : Int) : Prop := ∀ t, 0 ≤ t → t < 12 → (0 ≤ B (10 * t + 2) ∧ B (10 * t + 2) ≤ 9999999) ∧ (0 ≤ B (10 * t + w) ∧ B (10 * t + w) ≤ 1000000)
theorem bOk_of {σ : gSt} {w : Int} (J : iB σ) (hw : 6 ≤ w ∧ w ≤ 9) : bOk (σ 1) w := by
  intro t a b
  obtain ⟨-, -, o2, -, -, -, o6, o7, o8, o9⟩ := J t a (by omega)
  rcases (show w = 6 ∨ w = 7 ∨ w = 8 ∨ w = 9 by omega) with rfl | rfl | rfl | rfl
  · exact ⟨o2, o6⟩
  · exact ⟨o2, o7⟩
  · exact ⟨o2, o8⟩
  · exact ⟨o2, o9⟩
theorem gh_rng {B : Int → Int} {w s : Int} (b : bOk B w) : ∀ n : Nat, n ≤ 12 → (0 ≤ gS B s n ∧ gS B s n ≤ 9999999 * n) ∧ (0 ≤ hS B w s n ∧ hS B w s n ≤ 1000000 * gS B s n)
  | 0, _ => ⟨⟨Int.le_refl _, Int.le_refl _⟩, ⟨Int.le_refl _, Int.le_refl _⟩⟩
  | n + 1, h => by
    have ih := gh_rng (s := s) b n (by omega)
    obtain ⟨b1, b2⟩ := b n (by omega) (by omega)
    have p : 0 ≤ B (10 * (n : Int) + 2) * B (10 * n + w) := Int.mul_nonneg b1.1 b2.1
    have p2 : B (10 * (n : Int) + 2) * B (10 * n + w) ≤ B (10 * (n : Int) + 2) * 1000000 := Int.mul_le_mul_of_nonneg_left b2.2 b1.1
    rw [gS_s, hS_s]
    by_cases z : bitS s n
    · rw [if_pos z, if_pos z]; omega
    · rw [if_neg z, if_neg z]; omega
theorem okS_01 {B : Int → Int} {s : Int} : ∀ n : Nat, okS B s n = 0 ∨ okS B s n = 1
  | 0 => Or.inr rfl
  | n + 1 => by
    rw [okS_s]
    split
    · exact Or.inl rfl
    · split
      · exact Or.inl rfl
      · exact Or.inr rfl
theorem okS_0 {B : Int → Int} {s : Int} {n : Nat} (h : okS B s n = 0) : ∀ r : Nat, okS B s (n + r) = 0
  | 0 => h
  | r + 1 => by
    show okS B s (n + r + 1) = 0
    rw [okS_s, if_pos (okS_0 h r)]
theorem okS_at {B : Int → Int} {s : Int} {t : Nat} (z : bitS s t) : ∀ n : Nat, t < n → ¬ okS B s n = 0 → ¬ B (10 * t + 2) = 0
  | 0, h, _ => absurd h (by omega)
  | n + 1, h, q => by
    rw [okS_s] at q
    by_cases e : okS B s n = 0
    · rw [if_pos e] at q; exact absurd rfl q
    · rw [if_neg e] at q
      by_cases f : t = n
      · subst f
        intro y
        rw [if_pos ⟨z, y⟩] at q
        exact q rfl
      · exact okS_at z n (by omega) e
theorem gS_ge {B : Int → Int} {w s : Int} (b : bOk B w) {t : Nat} (z : bitS s t) : ∀ n : Nat, n ≤ 12 → t < n → B (10 * t + 2) ≤ gS B s n
  | 0, _, h => absurd h (by omega)
  | n + 1, h12, h => by
    have r := (gh_rng (s := s) b n (by omega)).1
    have b1 := (b n (by omega) (by omega)).1
    rw [gS_s]
    by_cases f : t = n
    · subst f
      rw [if_pos z]; omega
    · have ih := gS_ge b z n (by omega) (by omega)
      split <;> omega
theorem xshl_pow : ∀ n : Nat, n ≤ 12 → xshl 1 (n : Int) = ((2 ^ n : Nat) : Int) := by decide +kernel
theorem full {B : Int → Int} {w s : Int} (b : bOk B w) {n : Nat} (h : n ≤ 12) (h0 : 1 ≤ s) (h1 : s < xshl 1 (n : Int)) (ok : ¬ okS B s n = 0) : ¬ gS B s n = 0 := by
  rw [xshl_pow n h] at h1
  have p12 : 2 ^ n ≤ 2 ^ 12 := Nat.pow_le_pow_right (by decide) h
  have e12 : (2 : Nat) ^ 12 = 4096 := by decide
  have sn : s.toNat ≠ 0 := by omega
  have l : Nat.log2 s.toNat < n := (Nat.log2_lt sn).mpr (by omega)
  have z := (bc_all (x := s) ⟨by omega, by omega⟩).2.2
  have z2 : bitS s ((Nat.log2 s.toNat : Nat) : Int) := z.resolve_left (by omega)
  have g := gS_ge b z2 n h l
  have nz := okS_at z2 n l ok
  have b1 := (b ((Nat.log2 s.toNat : Nat) : Int) (by omega) (by omega)).1
  omega
theorem bit0 {t : Nat} (h : t < 12) : ¬ bitS 0 t := by
  rcases (show t = 0 ∨ t = 1 ∨ t = 2 ∨ t = 3 ∨ t = 4 ∨ t = 5 ∨ t = 6 ∨ t = 7 ∨ t = 8 ∨ t = 9 ∨ t = 10 ∨ t = 11 by omega) with rfl | rfl | rfl | rfl | rfl | rfl | rfl | rfl | rfl | rfl | rfl | rfl <;> decide
theorem gS0 {B : Int → Int} : ∀ n : Nat, n ≤ 12 → gS B 0 n = 0
  | 0, _ => rfl
  | n + 1, h => by rw [gS_s, if_neg (bit0 (by omega))]; exact gS0 n (by omega)
def tgS (B : Int → Int) (w : Int) (N : Nat) (s : Int) : Int := qz (hS B w s N) (gS B s N)
theorem tg_rng {B : Int → Int} {w s : Int} (b : bOk B w) {N : Nat} (h : N ≤ 12) : 0 ≤ tgS B w N s ∧ tgS B w N s ≤ 1000000 := by
  have r := gh_rng (s := s) b N h
  unfold tgS qz
  split
  · omega
  · exact ⟨Int.ediv_nonneg r.2.1 r.1.1, Int.ediv_le_of_le_mul (by omega) r.2.2⟩
theorem tg_0 {B : Int → Int} {w : Int} {N : Nat} (h : N ≤ 12) : tgS B w N 0 = 0 := by
  unfold tgS qz
  rw [if_pos (gS0 N h)]
def tcS (B : Int → Int) (w : Int) (N : Nat) (s : Int) : Int := if okS B s N = 0 then -1 else if gS B s N = 0 then -1 else tgS B w N s
def moS (B : Int → Int) (w m : Int) (N : Nat) : Nat → Int
  | 0 => 0
  | s + 1 => if bc s ≤ m ∧ ¬ okS B s N = 0 ∧ (tgS B w N (moS B w m N s) < tgS B w N s ∨ (tgS B w N s = tgS B w N (moS B w m N s) ∧ bc s < bc (moS B w m N s))) then s else moS B w m N s
theorem moS_s {B : Int → Int} {w m : Int} {N s : Nat} : moS B w m N (s + 1) = if bc s ≤ m ∧ ¬ okS B s N = 0 ∧ (tgS B w N (moS B w m N s) < tgS B w N s ∨ (tgS B w N s = tgS B w N (moS B w m N s) ∧ bc s < bc (moS B w m N s))) then (s : Int) else moS B w m N s := rfl
theorem mo_rng {B : Int → Int} {w m : Int} {N : Nat} (b : bOk B w) (h : N ≤ 12) : ∀ s : Nat, (s : Int) ≤ xshl 1 (N : Int) → (0 ≤ moS B w m N s ∧ moS B w m N s ≤ s) ∧ (moS B w m N s = 0 ∨ (¬ okS B (moS B w m N s) N = 0 ∧ ¬ gS B (moS B w m N s) N = 0))
  | 0, _ => ⟨⟨Int.le_refl _, Int.le_refl _⟩, Or.inl rfl⟩
  | s + 1, hs => by
    have ih := mo_rng (m := m) b h s (by omega)
    rw [moS_s]
    split
    · rename_i c
      refine ⟨⟨by omega, by omega⟩, ?_⟩
      by_cases z : s = 0
      · exact Or.inl (by omega)
      · exact Or.inr ⟨c.2.1, full b h (by omega) (by omega) c.2.1⟩
    · exact ⟨⟨ih.1.1, by omega⟩, ih.2⟩
theorem mo_1 {B : Int → Int} {w m : Int} {N : Nat} : moS B w m N 1 = 0 := by
  rw [show (1 : Nat) = 0 + 1 from rfl, moS_s]
  split
  · rfl
  · rfl
def S_most (f m w : Int) (σ : gSt) : Int := if ¬ ((0 ≤ f ∧ f ≤ 3) ∧ (0 ≤ m ∧ m ≤ 3) ∧ (0 ≤ w ∧ w ≤ 1)) then -1000000000 - 1 else if w = 0 then moS (σ 1) (6 + f) m (σ 0 0).toNat (xshl 1 (σ 0 0)).toNat else tgS (σ 1) (6 + f) (σ 0 0).toNat (moS (σ 1) (6 + f) m (σ 0 0).toNat (xshl 1 (σ 0 0)).toNat)
theorem c_tog {σ M : gSt} {s w : Int} {k : Int → gSt → Prop} (hA : absC M = σ) (I : iN σ) (b : bOk (σ 1) w) (hw : 6 ≤ w ∧ w ≤ 9) (h : k (tcS (σ 1) w (σ 0 0).toNat s) M) : w_X0_together 2 s w M k := by
  unfold iN at I
  have n0 := rc00 M
  rw [hA] at n0
  have rd : ∀ i, 0 ≤ i → i < 130 → M 3 i = σ 1 i := fun i x y => by rw [← hA, rc1 M x y]
  have et : tcS (σ 1) w (σ 0 0).toNat s = if okS (σ 1) s (σ 0 0).toNat = 0 then -1 else if gS (σ 1) s (σ 0 0).toNat = 0 then -1 else tgS (σ 1) w (σ 0 0).toNat s := rfl
  unfold w_X0_together
  refine ⟨pl_2, (σ 0 0).toNat + 1, ?_⟩
  have lp : ∀ (r n : Nat), n + r = (σ 0 0).toNat → okS (σ 1) s n = 1 → wL_X0_together_8 2 s w k (fun M8 => k (-1) M8) (fun u3_8 u5_8 M8 => (¬ wrap (ycmp u5_8 0) = 0 → w_X8_quotient u3_8 u5_8 M8 (fun r86c M86 => k r86c M86)) ∧ (wrap (ycmp u5_8 0) = 0 → k (-1) M8)) (r + 1) (hS (σ 1) w s n) (gS (σ 1) s n) n M := by
    intro r
    induction r with
    | zero =>
      intro n hn ok
      have rg := gh_rng (s := s) b n (by omega)
      unfold wL_X0_together_8 wC_X0_together_8
      rw [← n0, wI (x := σ 0 0) ⟨by omega, by omega⟩, wI (x := (n : Int)) ⟨by omega, by omega⟩]
      refine ⟨fun _ => ?_, fun z => absurd z (by omega)⟩
      dsimp only
      rw [ycmpE ⟨by omega, by omega⟩ (by decide)]
      rw [show (σ 0 0).toNat = n from by omega, ok, if_neg (by decide)] at et
      rw [show (σ 0 0).toNat = n from by omega] at h
      by_cases z : gS (σ 1) s n = 0
      · rw [if_pos z] at et
        rw [et] at h
        rw [if_neg (by omega), if_pos z]
        exact ⟨fun y => absurd rfl y, fun _ => h⟩
      · rw [if_neg z] at et
        rw [et] at h
        rw [if_pos (by omega)]
        exact ⟨fun _ => sp_quot ⟨by omega, by omega⟩ ⟨by omega, by omega⟩ h, fun y => absurd y (by decide)⟩
    | succ r ih =>
      intro n hn ok
      obtain ⟨b1, b2⟩ := b n (by omega) (by omega)
      have nx := ih (n + 1) (by omega)
      rw [n1, okS_s, ok, if_neg (by decide), hS_s, gS_s] at nx
      unfold wL_X0_together_8 wC_X0_together_8
      rw [← n0, wI (x := σ 0 0) ⟨by omega, by omega⟩, wI (x := (n : Int)) ⟨by omega, by omega⟩]
      refine ⟨fun z => absurd z (by omega), fun _ => sp_number pl_2 rfl ⟨by omega, by omega⟩ (by decide) ?_⟩
      rw [show M (2 + 1) (10 * (n : Int) + 2) = σ 1 (10 * n + 2) from rd _ (by omega) (by omega), wI (x := σ 1 (10 * (n : Int) + 2)) ⟨by omega, by omega⟩]
      unfold wB_X0_together_66
      refine ⟨fun z => ?_, fun z => ⟨fun y => sp_number pl_2 rfl ⟨by omega, by omega⟩ ⟨by omega, by omega⟩ (fun p ep q eq => ?_), fun y => ?_⟩⟩
      · rw [if_neg (fun q => z q.1), if_neg z, if_neg z] at nx
        exact nx rfl
      · rw [show M (2 + 1) (10 * (n : Int) + w) = σ 1 (10 * n + w) from rd _ (by omega) (by omega), wI (x := σ 1 (10 * (n : Int) + w)) ⟨by omega, by omega⟩] at ep
        rw [if_neg (fun q => y q.2), if_pos z, if_pos z] at nx
        subst ep; subst eq
        exact nx rfl
      · have o0 : okS (σ 1) s (n + 1) = 0 := by rw [okS_s, ok, if_neg (by decide), if_pos ⟨z, y⟩]
        have o1 := okS_0 o0 r
        rw [show n + 1 + r = (σ 0 0).toNat from by omega] at o1
        rw [o1, if_pos rfl] at et
        rw [et] at h
        exact h
  exact lp _ 0 (by omega) rfl
theorem sC_most {f m w : Int} {M : gSt} {k : Int → gSt → Prop} (i0 : inI f) (i1 : inI m) (i2 : inI w) (I : iN (absC M)) (J : iB (absC M)) (hK : cK M) (hh : ∀ r M', wrap r = wrap (S_most f m w (absC M)) → absC M' = absC M → cK M' → k r M') : w_X8_most f m w M k := by
  have I' := I
  unfold iN at I'
  have n0 := rc00 M
  generalize hA : absC M = σ at *
  have bd : ¬ ((0 ≤ f ∧ f ≤ 3) ∧ (0 ≤ m ∧ m ≤ 3) ∧ (0 ≤ w ∧ w ≤ 1)) → wB_X8_most_27 f m w k M := fun h => bad2 (S := S_most f m w σ) (by decide) (by decide) hK (if_pos h) (fun r M' a b c => hh r M' a (b.trans hA) c)
  unfold w_X8_most
  refine sp_within i0 (by constructor <;> decide) (by constructor <;> decide) (fun h0 => z1 ?_) (fun h0 => z0 (bd (by omega)))
  refine sp_within i1 (by constructor <;> decide) (by constructor <;> decide) (fun h1 => z1 ?_) (fun h1 => z0 (bd (by omega)))
  refine sp_within i2 (by constructor <;> decide) (by constructor <;> decide) (fun h2 => z1n ?_) (fun h2 => z0n (bd (by omega)))
  have hg : ¬ ¬ ((0 ≤ f ∧ f ≤ 3) ∧ (0 ≤ m ∧ m ≤ 3) ∧ (0 ≤ w ∧ w ≤ 1)) := fun q => q ⟨h0, h1, h2⟩
  have hS : S_most f m w σ = _ := if_neg hg
  rw [hS] at hh
  have b : bOk (σ 1) (6 + f) := bOk_of J ⟨by omega, by omega⟩
  have N12 : (σ 0 0).toNat ≤ 12 := by omega
  have eN : (((σ 0 0).toNat : Nat) : Int) = σ 0 0 := by omega
  have xp := xshl_pow (σ 0 0).toNat N12
  rw [eN] at xp
  have p12 : 2 ^ (σ 0 0).toNat ≤ 2 ^ 12 := Nat.pow_le_pow_right (by decide) N12
  have e12 : (2 : Nat) ^ 12 = 4096 := by decide
  have p0 : 0 < 2 ^ (σ 0 0).toNat := Nat.pow_pos (by decide)
  have xr : 1 ≤ xshl 1 (σ 0 0) ∧ xshl 1 (σ 0 0) ≤ 4096 := by omega
  clear xp p12 e12 p0
  unfold w_X0_mostOf
  refine ⟨pl_2, (xshl 1 (σ 0 0)).toNat, ?_⟩
  have fin : ∀ b0, b0 = moS (σ 1) (6 + f) m (σ 0 0).toNat (xshl 1 (σ 0 0)).toNat → (¬ wrap w = 0 → w_X0_together 2 b0 (6 + f) M (fun r73c M73 => k (xmax 0 r73c) M73)) ∧ (wrap w = 0 → k b0 M) := by
    intro b0 eb
    rw [wI i2]
    refine ⟨fun z => c_tog hA I b ⟨by omega, by omega⟩ ?_, fun z => ?_⟩
    · rw [if_neg z] at hh
      refine hh _ M ?_ hA hK
      have mr := mo_rng (m := m) b N12 (xshl 1 (σ 0 0)).toNat (by rw [eN]; omega)
      rw [← eb] at mr ⊢
      have tr := tg_rng (s := b0) b N12
      have et : tcS (σ 1) (6 + f) (σ 0 0).toNat b0 = if okS (σ 1) b0 (σ 0 0).toNat = 0 then -1 else if gS (σ 1) b0 (σ 0 0).toNat = 0 then -1 else tgS (σ 1) (6 + f) (σ 0 0).toNat b0 := rfl
      rcases mr.2 with q | ⟨q1, q2⟩
      · subst q
        rw [gS0 _ N12, if_pos rfl] at et
        rw [tg_0 N12, et]
        split <;> decide
      · rw [if_neg q1, if_neg q2] at et
        rw [et, xmax_in (by constructor <;> decide) ⟨by omega, by omega⟩]
        split
        · rfl
        · rw [show tgS (σ 1) (6 + f) (σ 0 0).toNat b0 = 0 from by omega]
    · rw [if_pos z] at hh
      exact hh _ M (by rw [eb]) hA hK
  have lp : ∀ (r n : Nat), n + 1 + r = (xshl 1 (σ 0 0)).toNat → wL_X0_mostOf_8 2 (6 + f) m (fun r45c M45 => (¬ wrap w = 0 → w_X0_together 2 r45c (6 + f) M45 (fun r73c M73 => k (xmax 0 r73c) M73)) ∧ (wrap w = 0 → k r45c M45)) (fun u3_8 M8 => (¬ wrap w = 0 → w_X0_together 2 u3_8 (6 + f) M8 (fun r73c M73 => k (xmax 0 r73c) M73)) ∧ (wrap w = 0 → k u3_8 M8)) (r + 1) (moS (σ 1) (6 + f) m (σ 0 0).toNat (n + 1)) (tgS (σ 1) (6 + f) (σ 0 0).toNat (moS (σ 1) (6 + f) m (σ 0 0).toNat (n + 1))) ((n + 1 : Nat) : Int) M := by
    intro r
    induction r with
    | zero =>
      intro n hn
      unfold wL_X0_mostOf_8 wC_X0_mostOf_8
      rw [← n0, wI (x := xshl 1 (σ 0 0)) ⟨by omega, by omega⟩, wI (x := ((n + 1 : Nat) : Int)) ⟨by omega, by omega⟩]
      exact ⟨fun _ => fin _ (by rw [show (xshl 1 (σ 0 0)).toNat = n + 1 from by omega]), fun z => absurd z (by omega)⟩
    | succ r ih =>
      intro n hn
      have mr := mo_rng (m := m) b N12 (n + 1) (by rw [eN]; omega)
      have br := (bc_all (x := ((n + 1 : Nat) : Int)) ⟨by omega, by omega⟩).2.1
      have br2 := (bc_all (x := moS (σ 1) (6 + f) m (σ 0 0).toNat (n + 1)) ⟨by omega, by omega⟩).2.1
      have t1 := tg_rng (s := ((n + 1 : Nat) : Int)) b N12
      have t2 := tg_rng (s := moS (σ 1) (6 + f) m (σ 0 0).toNat (n + 1)) b N12
      have ms := moS_s (B := σ 1) (w := 6 + f) (m := m) (N := (σ 0 0).toNat) (s := n + 1)
      have fu := full (s := ((n + 1 : Nat) : Int)) b N12 (by omega) (by rw [eN]; omega)
      have nx := ih (n + 1) (by omega)
      rw [ms, show ((n + 1 + 1 : Nat) : Int) = ((n + 1 : Nat) : Int) + 1 from by omega] at nx
      clear ms ih
      generalize moS (σ 1) (6 + f) m (σ 0 0).toNat (n + 1) = b0 at *
      have go : ∀ s0, (s0 = -1 ∨ s0 = tgS (σ 1) (6 + f) (σ 0 0).toNat ((n + 1 : Nat) : Int)) → ((bc ((n + 1 : Nat) : Int) ≤ m ∧ ¬ okS (σ 1) ((n + 1 : Nat) : Int) (σ 0 0).toNat = 0) ↔ ¬ s0 = -1) → wB_X0_mostOf_43 2 (6 + f) m (fun r45c M45 => (¬ wrap w = 0 → w_X0_together 2 r45c (6 + f) M45 (fun r73c M73 => k (xmax 0 r73c) M73)) ∧ (wrap w = 0 → k r45c M45)) (wL_X0_mostOf_8 2 (6 + f) m (fun r45c M45 => (¬ wrap w = 0 → w_X0_together 2 r45c (6 + f) M45 (fun r73c M73 => k (xmax 0 r73c) M73)) ∧ (wrap w = 0 → k r45c M45)) (fun u3_8 M8 => (¬ wrap w = 0 → w_X0_together 2 u3_8 (6 + f) M8 (fun r73c M73 => k (xmax 0 r73c) M73)) ∧ (wrap w = 0 → k u3_8 M8)) (r + 1)) (fun u3_8 M8 => (¬ wrap w = 0 → w_X0_together 2 u3_8 (6 + f) M8 (fun r73c M73 => k (xmax 0 r73c) M73)) ∧ (wrap w = 0 → k u3_8 M8)) b0 (tgS (σ 1) (6 + f) (σ 0 0).toNat b0) ((n + 1 : Nat) : Int) (bc ((n + 1 : Nat) : Int)) s0 M := by
        intro s0 hs hc
        unfold wB_X0_mostOf_43 wB_X0_mostOf_68 wB_X0_mostOf_75
        rw [wI (x := s0) ⟨by omega, by omega⟩, wI (x := tgS (σ 1) (6 + f) (σ 0 0).toNat b0) ⟨by omega, by omega⟩, wI (x := bc ((n + 1 : Nat) : Int)) ⟨by omega, by omega⟩]
        refine ⟨fun z => ?_, fun z => ⟨fun z2 => ?_, fun z2 => c_bits ?_⟩⟩
        · have e := hs.resolve_left (by omega)
          have c := hc.mpr (by omega)
          rw [if_pos ⟨c.1, c.2, Or.inl (by omega)⟩] at nx
          rw [e]
          exact nx
        · rw [if_neg (fun q => by have c := hc.mp ⟨q.1, q.2.1⟩; have e := hs.resolve_left c; omega)] at nx
          exact nx
        · have e := hs.resolve_left (by omega)
          have c := hc.mpr (by omega)
          rw [wI (x := bc b0) ⟨by omega, by omega⟩]
          refine ⟨fun z3 => ?_, fun z3 => ?_⟩
          · rw [if_neg (fun q => by omega)] at nx
            exact nx
          · rw [if_pos ⟨c.1, c.2, Or.inr ⟨by omega, z3⟩⟩] at nx
            rw [e]
            exact nx
      unfold wL_X0_mostOf_8 wC_X0_mostOf_8
      rw [← n0, wI (x := xshl 1 (σ 0 0)) ⟨by omega, by omega⟩, wI (x := ((n + 1 : Nat) : Int)) ⟨by omega, by omega⟩]
      refine ⟨fun z => absurd z (by omega), fun _ => c_bits ?_⟩
      rw [wI (x := bc ((n + 1 : Nat) : Int)) ⟨by omega, by omega⟩, wI i1]
      refine ⟨fun z => go (-1) (Or.inl rfl) ⟨fun q => absurd q.1 (by omega), fun q => absurd rfl q⟩, fun z => c_tog hA I b ⟨by omega, by omega⟩ ?_⟩
      have et : tcS (σ 1) (6 + f) (σ 0 0).toNat ((n + 1 : Nat) : Int) = if okS (σ 1) ((n + 1 : Nat) : Int) (σ 0 0).toNat = 0 then -1 else if gS (σ 1) ((n + 1 : Nat) : Int) (σ 0 0).toNat = 0 then -1 else tgS (σ 1) (6 + f) (σ 0 0).toNat ((n + 1 : Nat) : Int) := rfl
      by_cases ok : okS (σ 1) ((n + 1 : Nat) : Int) (σ 0 0).toNat = 0
      · rw [if_pos ok] at et
        rw [et]
        exact go (-1) (Or.inl rfl) ⟨fun q => absurd ok q.2, fun q => absurd rfl q⟩
      · rw [if_neg ok, if_neg (fu ok)] at et
        rw [et]
        exact go _ (Or.inr rfl) ⟨fun _ => by omega, fun _ => ⟨z, ok⟩⟩
  have st := lp ((xshl 1 (σ 0 0)).toNat - 1) 0 (by omega)
  rw [show (xshl 1 (σ 0 0)).toNat - 1 + 1 = (xshl 1 (σ 0 0)).toNat from by omega, mo_1, tg_0 N12] at st
  exact st
theorem r_tog {σ M : gSt} {s f : Int} {k : Int → gSt → Prop} (hA : absR M = σ) (I : iN σ) (b : bOk (σ 1) (6 + f)) (hf : 0 ≤ f ∧ f ≤ 3) (h : k (tgS (σ 1) (6 + f) (σ 0 0).toNat s) M) : w_Rtogether f s M k := by
  unfold iN at I
  have n0 : M 1 0 = σ 0 0 := by rw [rdS M 0 (by decide) (by decide), hA]
  unfold w_Rtogether
  refine ⟨(σ 0 0).toNat + 1, ?_⟩
  have lp : ∀ (r n : Nat), n + r = (σ 0 0).toNat → wL_Rtogether_8 f s k (fun u3_8 u5_8 M8 => (¬ wrap (ycmp u3_8 0) = 0 → (wrapL u3_8 ≠ 0) ∧ (k (Int.tdiv (wrapL u5_8) (wrapL u3_8)) M8)) ∧ (wrap (ycmp u3_8 0) = 0 → k 0 M8)) (r + 1) (gS (σ 1) s n) (hS (σ 1) (6 + f) s n) n M := by
    intro r
    induction r with
    | zero =>
      intro n hn
      have rg := gh_rng (s := s) b n (by omega)
      unfold wL_Rtogether_8 wC_Rtogether_8
      rw [n0, wI (x := σ 0 0) ⟨by omega, by omega⟩, wI (x := (n : Int)) ⟨by omega, by omega⟩]
      refine ⟨fun _ => ?_, fun z => absurd z (by omega)⟩
      dsimp only
      rw [ycmpE ⟨by omega, by omega⟩ (by decide), wrapL_in (x := gS (σ 1) s n) (by omega) (by omega), wrapL_in (x := hS (σ 1) (6 + f) s n) (by omega) (by omega)]
      unfold tgS qz at h
      rw [show (σ 0 0).toNat = n from by omega] at h
      by_cases z : gS (σ 1) s n = 0
      · rw [if_pos z] at h
        rw [if_neg (by omega), if_pos z]
        exact ⟨fun y => absurd rfl y, fun _ => h⟩
      · rw [if_neg z] at h
        rw [if_pos (by omega)]
        exact ⟨fun _ => ⟨z, by rw [tdiv_pos rg.2.1]; exact h⟩, fun y => absurd y (by decide)⟩
    | succ r ih =>
      intro n hn
      obtain ⟨b1, b2⟩ := b n (by omega) (by omega)
      have nx := ih (n + 1) (by omega)
      rw [n1, hS_s, gS_s] at nx
      unfold wL_Rtogether_8 wC_Rtogether_8
      rw [n0, wI (x := σ 0 0) ⟨by omega, by omega⟩, wI (x := (n : Int)) ⟨by omega, by omega⟩]
      unfold wB_Rtogether_65
      refine ⟨fun z => absurd z (by omega), fun _ => ⟨fun z => ?_, fun z => sp_Rits ⟨by omega, by omega⟩ (by decide) (fun p ep => sp_Rits ⟨by omega, by omega⟩ (by decide) (sp_Rits ⟨by omega, by omega⟩ ⟨by omega, by omega⟩ (fun q eq => ?_)))⟩⟩
      · rw [if_neg z, if_neg z] at nx
        exact nx
      · rw [hA, wI (x := σ 1 (10 * (n : Int) + 2)) ⟨by omega, by omega⟩] at ep eq
        rw [wI (x := σ 1 (10 * (n : Int) + (6 + f))) ⟨by omega, by omega⟩] at eq
        rw [if_pos z, if_pos z] at nx
        subst ep; subst eq
        exact nx
  exact lp _ 0 (by omega)
theorem r_haveG {σ M : gSt} {s : Int} {k : Int → gSt → Prop} (hA : absR M = σ) (I : iN σ) (J : iB σ) (h : k (okS (σ 1) s (σ 0 0).toNat) M) : w_RhaveGrams s M k := by
  unfold iN at I
  have n0 : M 1 0 = σ 0 0 := by rw [rdS M 0 (by decide) (by decide), hA]
  unfold w_RhaveGrams
  refine ⟨(σ 0 0).toNat + 1, ?_⟩
  have lp : ∀ (r n : Nat), n + r = (σ 0 0).toNat → wL_RhaveGrams_4 s k (fun u2_4 M4 => (u2_4 = 0 ∨ u2_4 = 1) ∧ (k u2_4 M4)) (r + 1) (okS (σ 1) s n) n M := by
    intro r
    induction r with
    | zero =>
      intro n hn
      unfold wL_RhaveGrams_4 wC_RhaveGrams_4
      rw [n0, wI (x := σ 0 0) ⟨by omega, by omega⟩, wI (x := (n : Int)) ⟨by omega, by omega⟩]
      refine ⟨fun _ => ⟨okS_01 n, ?_⟩, fun z => absurd z (by omega)⟩
      rw [show n = (σ 0 0).toNat from by omega]
      exact h
    | succ r ih =>
      intro n hn
      have b1 := (J n (by omega) (by omega)).2.2.1
      have nx := ih (n + 1) (by omega)
      rw [n1, okS_s] at nx
      unfold wL_RhaveGrams_4 wC_RhaveGrams_4
      rw [n0, wI (x := σ 0 0) ⟨by omega, by omega⟩, wI (x := (n : Int)) ⟨by omega, by omega⟩]
      unfold wB_RhaveGrams_39 wB_RhaveGrams_35 wB_RhaveGrams_40
      refine ⟨fun z => absurd z (by omega), fun _ => ?_⟩
      rcases okS_01 (B := σ 1) (s := s) n with f | f
      · rw [f, if_pos rfl] at nx
        rw [f]
        exact z0 nx
      · rw [f, if_neg (by decide)] at nx
        rw [f]
        refine z1 ⟨fun z => ?_, fun z => sp_Rits ⟨by omega, by omega⟩ (by decide) ?_⟩
        · rw [if_neg (fun q => by have := q.1; unfold bitS at this; omega)] at nx
          exact nx
        · have z2 : bitS s n := (xand1 (xshr s n)).resolve_left z
          rw [hA, wI (x := σ 1 (10 * (n : Int) + 2)) ⟨by omega, by omega⟩]
          refine ⟨fun y => ?_, fun y => ?_⟩
          · rw [if_pos ⟨z2, by omega⟩] at nx; exact nx
          · rw [if_neg (fun q => by omega)] at nx; exact nx
  exact lp _ 0 (by omega)
theorem sR_most {f m w : Int} {M : gSt} {k : Int → gSt → Prop} (i0 : inI f) (i1 : inI m) (i2 : inI w) (I : iN (absR M)) (J : iB (absR M)) (hh : ∀ r M', wrap r = wrap (S_most f m w (absR M)) → absR M' = absR M → fr M M' → k r M') : w_Rmost f m w M k := by
  have I' := I
  unfold iN at I'
  generalize hA : absR M = σ at *
  have bd : ¬ ((0 ≤ f ∧ f ≤ 3) ∧ (0 ≤ m ∧ m ≤ 3) ∧ (0 ≤ w ∧ w ≤ 1)) → wB_Rmost_27 f m w k M := fun h => bad2R (S := S_most f m w σ) (by decide) (by decide) (if_pos h) (fun r M' a b c => hh r M' a (b.trans hA) c)
  unfold w_Rmost
  refine sp_Rin i0 (by constructor <;> decide) (by constructor <;> decide) (fun h0 => z1 ?_) (fun h0 => z0 (bd (by omega)))
  refine sp_Rin i1 (by constructor <;> decide) (by constructor <;> decide) (fun h1 => z1 ?_) (fun h1 => z0 (bd (by omega)))
  refine sp_Rin i2 (by constructor <;> decide) (by constructor <;> decide) (fun h2 => z1n ?_) (fun h2 => z0n (bd (by omega)))
  have hg : ¬ ¬ ((0 ≤ f ∧ f ≤ 3) ∧ (0 ≤ m ∧ m ≤ 3) ∧ (0 ≤ w ∧ w ≤ 1)) := fun q => q ⟨h0, h1, h2⟩
  have hS : S_most f m w σ = _ := if_neg hg
  rw [hS] at hh
  have n0 : M 1 0 = σ 0 0 := by rw [rdS M 0 (by decide) (by decide), hA]
  have b : bOk (σ 1) (6 + f) := bOk_of J ⟨by omega, by omega⟩
  have N12 : (σ 0 0).toNat ≤ 12 := by omega
  have eN : (((σ 0 0).toNat : Nat) : Int) = σ 0 0 := by omega
  have xp := xshl_pow (σ 0 0).toNat N12
  rw [eN] at xp
  have p12 : 2 ^ (σ 0 0).toNat ≤ 2 ^ 12 := Nat.pow_le_pow_right (by decide) N12
  have e12 : (2 : Nat) ^ 12 = 4096 := by decide
  have p0 : 0 < 2 ^ (σ 0 0).toNat := Nat.pow_pos (by decide)
  have xr : 1 ≤ xshl 1 (σ 0 0) ∧ xshl 1 (σ 0 0) ≤ 4096 := by omega
  clear xp p12 e12 p0
  refine ⟨(xshl 1 (σ 0 0)).toNat, ?_⟩
  have lp : ∀ (r n : Nat), n + 1 + r = (xshl 1 (σ 0 0)).toNat → wL_Rmost_39 f m w k (fun u4_39 M39 => (¬ wrap w = 0 → w_Rtogether f u4_39 M39 (fun r138c M138 => k r138c M138)) ∧ (wrap w = 0 → k u4_39 M39)) (r + 1) (moS (σ 1) (6 + f) m (σ 0 0).toNat (n + 1)) ((n + 1 : Nat) : Int) M := by
    intro r
    induction r with
    | zero =>
      intro n hn
      unfold wL_Rmost_39 wC_Rmost_39
      rw [n0, wI (x := xshl 1 (σ 0 0)) ⟨by omega, by omega⟩, wI (x := ((n + 1 : Nat) : Int)) ⟨by omega, by omega⟩]
      refine ⟨fun _ => ?_, fun z => absurd z (by omega)⟩
      dsimp only
      rw [wI i2]
      rw [show (xshl 1 (σ 0 0)).toNat = n + 1 from by omega] at hh
      refine ⟨fun z => r_tog hA I b h0 ?_, fun z => ?_⟩
      · rw [if_neg z] at hh
        exact hh _ M rfl hA fr_rf
      · rw [if_pos z] at hh
        exact hh _ M rfl hA fr_rf
    | succ r ih =>
      intro n hn
      have mr := mo_rng (m := m) b N12 (n + 1) (by rw [eN]; omega)
      have br := (bc_all (x := ((n + 1 : Nat) : Int)) ⟨by omega, by omega⟩).2.1
      have br2 := (bc_all (x := moS (σ 1) (6 + f) m (σ 0 0).toNat (n + 1)) ⟨by omega, by omega⟩).2.1
      have t1 := tg_rng (s := ((n + 1 : Nat) : Int)) b N12
      have t2 := tg_rng (s := moS (σ 1) (6 + f) m (σ 0 0).toNat (n + 1)) b N12
      have ms := moS_s (B := σ 1) (w := 6 + f) (m := m) (N := (σ 0 0).toNat) (s := n + 1)
      have nx := ih (n + 1) (by omega)
      rw [ms, show ((n + 1 + 1 : Nat) : Int) = ((n + 1 : Nat) : Int) + 1 from by omega] at nx
      clear ms ih
      generalize moS (σ 1) (6 + f) m (σ 0 0).toNat (n + 1) = b0 at *
      unfold wL_Rmost_39 wC_Rmost_39
      rw [n0, wI (x := xshl 1 (σ 0 0)) ⟨by omega, by omega⟩, wI (x := ((n + 1 : Nat) : Int)) ⟨by omega, by omega⟩]
      unfold wB_Rmost_110 wB_Rmost_115 wB_Rmost_117 wB_Rmost_119
      refine ⟨fun z => absurd z (by omega), fun _ => r_bits ⟨by omega, by omega⟩ ?_⟩
      rw [wI (x := bc ((n + 1 : Nat) : Int)) ⟨by omega, by omega⟩, wI i1]
      refine ⟨fun z => ?_, fun z => r_haveG hA I J ?_⟩
      · rw [if_neg (fun q => by omega)] at nx; exact nx
      · have o01 := okS_01 (B := σ 1) (s := ((n + 1 : Nat) : Int)) (σ 0 0).toNat
        rw [wI (x := okS (σ 1) ((n + 1 : Nat) : Int) (σ 0 0).toNat) ⟨by omega, by omega⟩]
        refine ⟨fun y => ?_, fun y => r_tog hA I b h0 (r_tog hA I b h0 (fun x ex => ?_))⟩
        · rw [if_neg (fun q => q.2.1 y)] at nx; exact nx
        · rw [wI (x := x) ⟨by omega, by omega⟩]
          refine ⟨fun a => ?_, fun a => ⟨fun c => ?_, fun c => r_bits ⟨by omega, by omega⟩ (r_bits ⟨by omega, by omega⟩ ?_)⟩⟩
          · rw [if_pos ⟨z, y, Or.inl (by omega)⟩] at nx; exact nx
          · rw [if_neg (fun q => by omega)] at nx; exact nx
          · rw [wI (x := bc ((n + 1 : Nat) : Int)) ⟨by omega, by omega⟩, wI (x := bc b0) ⟨by omega, by omega⟩]
            refine ⟨fun d => ?_, fun d => ?_⟩
            · rw [if_neg (fun q => by omega)] at nx; exact nx
            · rw [if_pos ⟨z, y, Or.inr ⟨by omega, d⟩⟩] at nx; exact nx
  have st := lp ((xshl 1 (σ 0 0)).toNat - 1) 0 (by omega)
  rw [show (xshl 1 (σ 0 0)).toNat - 1 + 1 = (xshl 1 (σ 0 0)).toNat from by omega, mo_1] at st
  exact st
