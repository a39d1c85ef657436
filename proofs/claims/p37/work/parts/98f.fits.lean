section
-- bits of a set; fits: both sides
def bcA (a : Int) : Int := a - (xand (xushr a 1) 1431655765)
def bcB (a : Int) : Int := (xand a 858993459) + (xand (xushr a 2) 858993459)
def bcD (a : Int) : Int := xand (a + (xushr a 4)) 252645135
def bcE (a : Int) : Int := a + (xushr a 8)
def bcF (a : Int) : Int := a + (xushr a 16)
/-- how many bits -/
def bc (a : Int) : Int := xand (bcF (bcE (bcD (bcB (bcA a))))) 63
def rbs : Nat → Int → Int → Option Int
  | 0, v, x => if wrap x = 0 then some v else none
  | n + 1, v, x => if wrap x = 0 then some v else rbs n (v + 1) (xand x (x - 1))
theorem ofInt_nat {a : Nat} (h : a < 2147483648) : (Int32.ofInt (a : Int)).toBitVec.toNat = a := by
  show (BitVec.ofInt 32 (a : Int)).toNat = a
  rw [BitVec.toNat_ofInt]
  omega
theorem xand_nat {a b : Nat} (ha : a < 2147483648) (hb : b < 2147483648) : xand (a : Int) (b : Int) = ((a &&& b : Nat) : Int) := by
  unfold xand
  have hn : (Int32.ofInt (a : Int) &&& Int32.ofInt (b : Int)).toBitVec.toNat = a &&& b := by
    rw [Int32.toBitVec_and, BitVec.toNat_and, ofInt_nat ha, ofInt_nat hb]
  have hl : a &&& b ≤ a := Nat.and_le_left
  show (Int32.ofInt (a : Int) &&& Int32.ofInt (b : Int)).toBitVec.toInt = _
  rw [BitVec.toInt_eq_toNat_of_lt (by rw [hn]; omega), hn]
theorem xushr_nat {a k : Nat} {s : Int} (ha : a < 2147483648) (hs : (((Int32.ofInt s).toUInt32 &&& Int32.toUInt32 31).toBitVec % 32).toNat = k) : xushr (a : Int) s = ((a / 2 ^ k : Nat) : Int) := by
  have h := pk_ushr (Int32.ofInt (a : Int)) (Int32.ofInt s) k hs
  unfold xushr
  generalize ((Int32.ofInt (a : Int)).toUInt32 >>> ((Int32.ofInt s).toUInt32 &&& Int32.toUInt32 31)).toInt32 = v at h ⊢
  rw [ofInt_nat ha] at h
  have hl : a / 2 ^ k ≤ a := Nat.div_le_self _ _
  show v.toBitVec.toInt = _
  rw [BitVec.toInt_eq_toNat_of_lt (by rw [h]; omega), h]
def nrbs : Nat → Nat → Nat → Option Nat
  | 0, v, x => if x = 0 then some v else none
  | n + 1, v, x => if x = 0 then some v else nrbs n (v + 1) (x &&& (x - 1))
def nA (x : Nat) : Nat := x - ((x / 2) &&& 1431655765)
def nB (x : Nat) : Nat := (x &&& 858993459) + ((x / 4) &&& 858993459)
def nD (x : Nat) : Nat := (x + x / 16) &&& 252645135
def nE (x : Nat) : Nat := x + x / 256
def nF (x : Nat) : Nat := x + x / 65536
def nbc (x : Nat) : Nat := nF (nE (nD (nB (nA x)))) &&& 63
theorem rbs_nat {r : Nat} : ∀ (n v x : Nat), x < 2147483648 → nrbs n v x = some r → rbs n (v : Int) (x : Int) = some (r : Int)
  | 0, v, x, hx, e => by
    unfold nrbs at e
    unfold rbs
    rw [wI (x := (x : Int)) ⟨by omega, by omega⟩]
    by_cases z : x = 0
    · rw [if_pos z] at e; cases e; rw [if_pos (by omega)]
    · rw [if_neg z] at e; cases e
  | n + 1, v, x, hx, e => by
    unfold nrbs at e
    unfold rbs
    rw [wI (x := (x : Int)) ⟨by omega, by omega⟩]
    by_cases z : x = 0
    · rw [if_pos z] at e; cases e; rw [if_pos (by omega)]
    · rw [if_neg z] at e
      rw [if_neg (by omega), show (x : Int) - 1 = ((x - 1 : Nat) : Int) from by omega, xand_nat hx (by omega)]
      have hl : x &&& (x - 1) ≤ x := Nat.and_le_left
      exact rbs_nat n (v + 1) _ (by omega) e
theorem bcA_nat {x : Nat} (h : x < 4096) : bcA (x : Int) = (nA x : Int) ∧ nA x < 4096 := by
  have a0 : (x / 2) &&& 1431655765 ≤ x / 2 := Nat.and_le_left
  have e := xand_nat (a := x / 2) (b := 1431655765) (by omega) (by decide)
  have s := xushr_nat (a := x) (s := 1) (k := 1) (by omega) (by decide)
  rw [show x / 2 ^ 1 = x / 2 from rfl] at s
  unfold bcA nA
  rw [s, show (1431655765 : Int) = ((1431655765 : Nat) : Int) from rfl, e]
  omega
theorem bcB_nat {x : Nat} (h : x < 4096) : bcB (x : Int) = (nB x : Int) ∧ nB x < 8192 := by
  have a0 : x &&& 858993459 ≤ x := Nat.and_le_left
  have a1 : (x / 4) &&& 858993459 ≤ x / 4 := Nat.and_le_left
  have e0 := xand_nat (a := x) (b := 858993459) (by omega) (by decide)
  have e1 := xand_nat (a := x / 4) (b := 858993459) (by omega) (by decide)
  have s := xushr_nat (a := x) (s := 2) (k := 2) (by omega) (by decide)
  rw [show x / 2 ^ 2 = x / 4 from rfl] at s
  unfold bcB nB
  rw [s, show (858993459 : Int) = ((858993459 : Nat) : Int) from rfl, e0, e1]
  omega
theorem bcD_nat {x : Nat} (h : x < 8192) : bcD (x : Int) = (nD x : Int) ∧ nD x < 16384 := by
  have a0 : (x + x / 16) &&& 252645135 ≤ x + x / 16 := Nat.and_le_left
  have e0 := xand_nat (a := x + x / 16) (b := 252645135) (by omega) (by decide)
  have s := xushr_nat (a := x) (s := 4) (k := 4) (by omega) (by decide)
  rw [show x / 2 ^ 4 = x / 16 from rfl] at s
  unfold bcD nD
  rw [s, show (x : Int) + ((x / 16 : Nat) : Int) = ((x + x / 16 : Nat) : Int) from by omega, show (252645135 : Int) = ((252645135 : Nat) : Int) from rfl, e0]
  omega
theorem bcE_nat {x : Nat} (h : x < 16384) : bcE (x : Int) = (nE x : Int) ∧ nE x < 32768 := by
  have s := xushr_nat (a := x) (s := 8) (k := 8) (by omega) (by decide)
  rw [show x / 2 ^ 8 = x / 256 from rfl] at s
  unfold bcE nE
  rw [s]
  omega
theorem bcF_nat {x : Nat} (h : x < 32768) : bcF (x : Int) = (nF x : Int) ∧ nF x < 65536 := by
  have s := xushr_nat (a := x) (s := 16) (k := 16) (by omega) (by decide)
  rw [show x / 2 ^ 16 = x / 65536 from rfl] at s
  unfold bcF nF
  rw [s]
  omega
theorem bc_nat {x : Nat} (h : x < 4096) : bc (x : Int) = (nbc x : Int) := by
  obtain ⟨a, la⟩ := bcA_nat h
  obtain ⟨b, lb⟩ := bcB_nat la
  obtain ⟨d, ld⟩ := bcD_nat lb
  obtain ⟨e, le⟩ := bcE_nat ld
  obtain ⟨f, lf⟩ := bcF_nat le
  unfold bc nbc
  rw [a, b, d, e, f]
  exact xand_nat (b := 63) (by omega) (by decide)
def bcT (x : Nat) : Bool := decide (nrbs 12 0 x = some (nbc x)) && decide (nbc x ≤ 12) && (decide (x = 0) || decide (wrap (xand (xshr (x : Int) ((Nat.log2 x : Nat) : Int)) 1) = 1))
def bcL : Nat → Nat → Bool
  | 0, _ => true
  | n + 1, b => bcT (b + n) && bcL n b
theorem bcL_s {n b : Nat} : bcL (n + 1) b = (bcT (b + n) && bcL n b) := rfl
theorem bcL_get {b : Nat} (n : Nat) (h : bcL n b = true) : ∀ j, j < n → bcT (b + j) = true := by
  induction n with
  | zero => intro j hj; exact absurd hj (Nat.not_lt_zero j)
  | succ n ih =>
    intro j hj
    rw [bcL_s, Bool.and_eq_true] at h
    by_cases e : j = n
    · rw [e]; exact h.1
    · exact ih h.2 j (by omega)
set_option maxRecDepth 100000 in
theorem bcL_0 : bcL 1024 0 = true := by decide +kernel
set_option maxRecDepth 100000 in
theorem bcL_1 : bcL 1024 1024 = true := by decide +kernel
set_option maxRecDepth 100000 in
theorem bcL_2 : bcL 1024 2048 = true := by decide +kernel
set_option maxRecDepth 100000 in
theorem bcL_3 : bcL 1024 3072 = true := by decide +kernel
theorem bc_all {x : Int} (h : 0 ≤ x ∧ x < 4096) : rbs 12 0 x = some (bc x) ∧ (0 ≤ bc x ∧ bc x ≤ 12) ∧ (x = 0 ∨ wrap (xand (xshr x ((Nat.log2 x.toNat : Nat) : Int)) 1) = 1) := by
  obtain ⟨n, rfl⟩ : ∃ n : Nat, x = (n : Int) := ⟨x.toNat, by omega⟩
  have t : bcT n = true := by
    by_cases a : n < 1024
    · have := bcL_get 1024 bcL_0 n a; rwa [Nat.zero_add] at this
    · by_cases b : n < 2048
      · have := bcL_get 1024 bcL_1 (n - 1024) (by omega); rwa [show 1024 + (n - 1024) = n from by omega] at this
      · by_cases d : n < 3072
        · have := bcL_get 1024 bcL_2 (n - 2048) (by omega); rwa [show 2048 + (n - 2048) = n from by omega] at this
        · have := bcL_get 1024 bcL_3 (n - 3072) (by omega); rwa [show 3072 + (n - 3072) = n from by omega] at this
  unfold bcT at t
  rw [Bool.and_eq_true, Bool.and_eq_true, Bool.or_eq_true] at t
  obtain ⟨⟨t1, t2⟩, t4⟩ := t
  have b := bc_nat (x := n) (by omega)
  have t1 := rbs_nat 12 0 n (by omega) (of_decide_eq_true t1)
  have t2 := of_decide_eq_true t2
  refine ⟨by rw [b]; exact t1, by omega, ?_⟩
  rw [show (n : Int).toNat = n from rfl]
  rcases t4 with t4 | t4
  · exact Or.inl (by have := of_decide_eq_true t4; omega)
  · exact Or.inr (of_decide_eq_true t4)
theorem c_bits {x : Int} {M : gSt} {k : Int → gSt → Prop} (h : k (bc x) M) : w_J6_bitCount_0f7a4 x M k := by
  unfold w_J6_bitCount_0f7a4
  intro a ea b eb c ec d ed e ee
  subst ea; subst eb; subst ec; subst ed; subst ee
  exact h
theorem rb_loop {x0 : Int} {M : gSt} {k : Int → gSt → Prop} {r : Int} (h : k r M) : ∀ (n : Nat) (v x : Int), rbs n v x = some r → wL_RbitsOf_4 x0 k (fun u1_4 M4 => k u1_4 M4) (n + 1) v x M
  | 0, v, x, e => by
    unfold wL_RbitsOf_4 wC_RbitsOf_4
    unfold rbs at e
    by_cases z : wrap x = 0
    · rw [if_pos z] at e
      cases e
      exact ⟨fun _ => h, fun n => absurd z n⟩
    · rw [if_neg z] at e; cases e
  | n + 1, v, x, e => by
    unfold wL_RbitsOf_4 wC_RbitsOf_4
    unfold rbs at e
    by_cases z : wrap x = 0
    · rw [if_pos z] at e
      cases e
      exact ⟨fun _ => h, fun n => absurd z n⟩
    · rw [if_neg z] at e
      exact ⟨fun y => absurd y z, fun _ y ey => by subst ey; exact rb_loop h n _ _ e⟩
theorem r_bits {x : Int} {M : gSt} {k : Int → gSt → Prop} (hx : 0 ≤ x ∧ x < 4096) (h : k (bc x) M) : w_RbitsOf x M k := by
  unfold w_RbitsOf
  exact ⟨13, rb_loop h 12 0 x (bc_all hx).1⟩
-- errors, any of them
theorem bad2 {M : gSt} {k : Int → gSt → Prop} {S j : Int} (h0 : 0 ≤ j) (h1 : j < 7) (hK : cK M) (hS : S = -1000000000 - j) (h : ∀ r M', wrap r = wrap S → absC M' = absC M → cK M' → k r M') : w_X8_refuse j M (fun r M' => k r M') :=
  sp_refuse h0 h1 (h _ _ (by rw [hS]) (ac_eq (fun o ho => wrO' (by unfold scr at ho; omega))) (cK_wr hK (Or.inr (by decide))))
theorem bad2R {M : gSt} {k : Int → gSt → Prop} {S j : Int} (h0 : 0 ≤ j) (h1 : j < 7) (hS : S = -1000000000 - j) (h : ∀ r M', wrap r = wrap S → absR M' = absR M → fr M M' → k r M') : w_Rerror j M (fun r M' => k r M') :=
  sp_Rerror h0 h1 (fun M' e f => h _ M' (by rw [hS]; rfl) e f)
-- the list that was found
def fC (σ : gSt) : Int := flC σ (xshl 1 (σ 0 3)).toNat
def fF (σ : gSt) : Int → Int := flF σ (xshl 1 (σ 0 3)).toNat
theorem fC_rng {σ : gSt} (I : iN σ) : 0 ≤ fC σ ∧ fC σ ≤ 64 := by
  unfold iN at I
  have p := pow_x (n := σ 0 3) ⟨by omega, by omega⟩
  have := flC_rng (σ := σ) (xshl 1 (σ 0 3)).toNat
  unfold fC
  omega
theorem fF_rng {σ : gSt} (I : iN σ) {j : Int} (h0 : 0 ≤ j) (h1 : j < fC σ) : 0 ≤ fF σ j ∧ fF σ j < 64 := by
  unfold iN at I
  have p := pow_x (n := σ 0 3) ⟨by omega, by omega⟩
  have := flF_rng (σ := σ) (xshl 1 (σ 0 3)).toNat j h0 h1
  unfold fF
  omega
def gFd (σ M0 M : gSt) : Prop := fndC σ (xshl 1 (σ 0 3)).toNat M0 M
def gRd (σ M0 M : gSt) : Prop := absR M = σ ∧ fr M0 M ∧ M 0 13 = fC σ ∧ ∀ j, 0 ≤ j → j < fC σ → M 8 j = fF σ j
theorem gRd_of {σ M0 M : gSt} (h : fndR σ (xshl 1 (σ 0 3)).toNat M0 M) : gRd σ M0 M := ⟨h.1, h.2.1, h.2.2.2.2.1, h.2.2.2.2.2⟩
theorem c_fit {σ M0 M : gSt} {j : Int} {k : Int → gSt → Prop} (I : iN σ) (g : gFd σ M0 M) (hj : 0 ≤ j ∧ j < fC σ) (h : k (fF σ j) M) : w_X2_fitting 41 j M k := by
  have r := fC_rng I
  obtain ⟨g1, g2, g3, g4, g5⟩ := g
  unfold w_X2_fitting
  refine ⟨pl_41, sp_at (W := 1) pl_44 g2 (by show 0 ≤ j ∧ j < M 44 3; rw [g4]; exact hj) ⟨by decide, by decide⟩ ⟨by show M 44 3 ≤ 1000; rw [g4]; show fC σ ≤ 1000; omega, by decide⟩ (by show j * 1 + 0 < 64; omega) (by decide) ?_⟩
  rw [show j * 1 + 0 = j from by omega]
  show k (M 45 j) M
  rw [(g5 j hj.1 hj.2).1]
  exact h
theorem c_many4 {σ M0 M : gSt} {k : Int → gSt → Prop} (g : gFd σ M0 M) (h : k (fC σ) M) : w_X4_size (41 + 3) M k := by
  refine sp_size4 pl_44 ?_
  rw [show M (41 + 3) 3 = fC σ from g.2.2.2.1]
  exact h
def andF (f : Int → Int) (a : Int) : Nat → Int
  | 0 => a
  | n + 1 => xand (andF f a n) (f n)
def orF (f : Int → Int) : Nat → Int
  | 0 => 0
  | n + 1 => xor2 (orF f n) (f n)
def mxF (f : Int → Int) : Nat → Int
  | 0 => 0
  | n + 1 => if mxF f n < bc (f n) then bc (f n) else mxF f n
theorem mxF_rng {σ : gSt} (I : iN σ) : ∀ n : Nat, (n : Int) ≤ fC σ → 0 ≤ mxF (fF σ) n ∧ mxF (fF σ) n ≤ 12
  | 0, _ => ⟨Int.le_refl _, show (0 : Int) ≤ 12 by decide⟩
  | n + 1, h => by
    have ih := mxF_rng I n (by omega)
    have f := fF_rng I (j := n) (by omega) (by omega)
    have b := (bc_all (x := fF σ n) ⟨f.1, by omega⟩).2.1
    show 0 ≤ (if mxF (fF σ) n < bc (fF σ n) then bc (fF σ n) else mxF (fF σ) n) ∧ (if mxF (fF σ) n < bc (fF σ n) then bc (fF σ n) else mxF (fF σ) n) ≤ 12
    split <;> omega
def S_fits (w : Int) (σ : gSt) : Int := if ¬ (0 ≤ w ∧ w ≤ 4) then -1000000000 - 1 else if fC σ = 0 ∧ (w = 1 ∨ w = 4) then -1000000000 - 2 else if w = 0 then fC σ else if w = 1 then fF σ 0 else if w = 2 then andF (fF σ) (xshl 1 (σ 0 3) - 1) (fC σ).toNat else if w = 3 then orF (fF σ) (fC σ).toNat else σ 0 3 - mxF (fF σ) (fC σ).toNat
theorem n1 (n : Nat) : ((n + 1 : Nat) : Int) = (n : Int) + 1 := by omega
theorem sC_fits {w : Int} {M : gSt} {k : Int → gSt → Prop} (i0 : inI w) (I : iN (absC M)) (J : iB (absC M)) (P : iP (absC M)) (G : iG (absC M)) (hK : cK M) (hh : ∀ r M', wrap r = wrap (S_fits w (absC M)) → absC M' = absC M → cK M' → k r M') : w_X8_fits w M k := by
  have I' := I
  unfold iN at I'
  generalize hA : absC M = σ at *
  have rC := fC_rng I
  unfold w_X8_fits
  refine sp_within i0 (by constructor <;> decide) (by constructor <;> decide) (fun h0 => z1n ?_) (fun h0 => z0n (bad2 (S := S_fits w σ) (by decide) (by decide) hK (if_pos h0) (fun r M' a b c => hh r M' a (b.trans hA) c)))
  refine c_find hA hK I J P G (fun M1 g => ?_)
  change gFd σ M M1 at g
  obtain ⟨a1, K1⟩ := fnd_abs g hK
  rw [hA] at a1
  have n3 := rc03 M1
  rw [a1] at n3
  unfold w_X8_allPapers
  refine sp_size4 pl_8 ?_
  dsimp only
  rw [← n3]
  unfold w_X2_size
  refine ⟨pl_41, c_many4 g ?_⟩
  dsimp only
  rw [wI (x := fC σ) ⟨by omega, by omega⟩, wI i0]
  have fin : ∀ r, wrap r = wrap (S_fits w σ) → k r M1 := fun r e => hh r M1 e a1 K1
  have main : ¬ (fC σ = 0 ∧ (w = 1 ∨ w = 4)) → wB_X8_fits_57 w k (xshl 1 (σ 0 3) - 1) M1 := by
    intro hn
    have hS : S_fits w σ = _ := (if_neg (fun q => q h0)).trans (if_neg hn)
    rw [hS] at fin
    unfold wB_X8_fits_57
    rw [wI i0]
    refine ⟨fun e => ?_, fun e => ?_, fun e => ?_, fun e => ?_, fun e => ?_⟩
    · rw [if_pos e] at fin
      unfold w_X2_size
      exact ⟨pl_41, c_many4 g (fin _ rfl)⟩
    · rw [if_neg (by omega), if_pos e] at fin
      exact c_fit I g ⟨by omega, by omega⟩ (fin _ rfl)
    · rw [if_neg (by omega), if_neg (by omega), if_pos e] at fin
      unfold w_X2_inAll
      refine ⟨pl_41, (fC σ).toNat + 1, ?_⟩
      have lp : ∀ (r n : Nat), n + r = (fC σ).toNat → wL_X2_inAll_4 41 (xshl 1 (σ 0 3) - 1) k (fun u2_4 M4 => k u2_4 M4) (r + 1) (andF (fF σ) (xshl 1 (σ 0 3) - 1) n) n M1 := by
        intro r
        induction r with
        | zero =>
          intro n hn
          unfold wL_X2_inAll_4 wC_X2_inAll_4
          refine c_many4 g ?_
          rw [wI (x := fC σ) ⟨by omega, by omega⟩, wI (x := (n : Int)) ⟨by omega, by omega⟩]
          refine ⟨fun _ => fin _ (by rw [show (fC σ).toNat = n from by omega]), fun z => absurd z (by omega)⟩
        | succ r ih =>
          intro n hn
          unfold wL_X2_inAll_4 wC_X2_inAll_4
          refine c_many4 g ?_
          rw [wI (x := fC σ) ⟨by omega, by omega⟩, wI (x := (n : Int)) ⟨by omega, by omega⟩]
          refine ⟨fun z => absurd z (by omega), fun _ => c_fit I g ⟨by omega, by omega⟩ (fun x ex => ?_)⟩
          subst ex
          have := ih (n + 1) (by omega)
          rw [n1] at this
          exact this
      exact lp _ 0 (by omega)
    · rw [if_neg (by omega), if_neg (by omega), if_neg (by omega), if_pos e] at fin
      unfold w_X2_inAny
      refine ⟨pl_41, (fC σ).toNat + 1, ?_⟩
      have lp : ∀ (r n : Nat), n + r = (fC σ).toNat → wL_X2_inAny_4 41 k (fun u1_4 M4 => k u1_4 M4) (r + 1) (orF (fF σ) n) n M1 := by
        intro r
        induction r with
        | zero =>
          intro n hn
          unfold wL_X2_inAny_4 wC_X2_inAny_4
          refine c_many4 g ?_
          rw [wI (x := fC σ) ⟨by omega, by omega⟩, wI (x := (n : Int)) ⟨by omega, by omega⟩]
          refine ⟨fun _ => fin _ (by rw [show (fC σ).toNat = n from by omega]), fun z => absurd z (by omega)⟩
        | succ r ih =>
          intro n hn
          unfold wL_X2_inAny_4 wC_X2_inAny_4
          refine c_many4 g ?_
          rw [wI (x := fC σ) ⟨by omega, by omega⟩, wI (x := (n : Int)) ⟨by omega, by omega⟩]
          refine ⟨fun z => absurd z (by omega), fun _ => c_fit I g ⟨by omega, by omega⟩ (fun x ex => ?_)⟩
          subst ex
          have := ih (n + 1) (by omega)
          rw [n1] at this
          exact this
      exact lp _ 0 (by omega)
    · rw [if_neg (by omega), if_neg (by omega), if_neg (by omega), if_neg (by omega)] at fin
      refine sp_size4 pl_8 ?_
      rw [← n3]
      unfold w_X2_mostPapers
      refine ⟨pl_41, (fC σ).toNat + 1, ?_⟩
      have lp : ∀ (r n : Nat), n + r = (fC σ).toNat → wL_X2_mostPapers_4 41 (fun r136c M136 => k (σ 0 3 - r136c) M136) (fun u1_4 M4 => k (σ 0 3 - u1_4) M4) (r + 1) (mxF (fF σ) n) n M1 := by
        intro r
        induction r with
        | zero =>
          intro n hn
          unfold wL_X2_mostPapers_4 wC_X2_mostPapers_4
          refine c_many4 g ?_
          rw [wI (x := fC σ) ⟨by omega, by omega⟩, wI (x := (n : Int)) ⟨by omega, by omega⟩]
          refine ⟨fun _ => fin _ (by rw [show (fC σ).toNat = n from by omega]), fun z => absurd z (by omega)⟩
        | succ r ih =>
          intro n hn
          have mr := mxF_rng I n (by omega)
          have fr := fF_rng I (j := n) (by omega) (by omega)
          have br := (bc_all (x := fF σ n) ⟨fr.1, by omega⟩).2.1
          unfold wL_X2_mostPapers_4 wC_X2_mostPapers_4
          refine c_many4 g ?_
          rw [wI (x := fC σ) ⟨by omega, by omega⟩, wI (x := (n : Int)) ⟨by omega, by omega⟩]
          refine ⟨fun z => absurd z (by omega), fun _ => c_fit I g ⟨by omega, by omega⟩ (c_bits (fun x ex => ?_))⟩
          rw [xmax_in ⟨by omega, by omega⟩ ⟨by omega, by omega⟩] at ex
          have := ih (n + 1) (by omega)
          rw [n1, show mxF (fF σ) (n + 1) = x from ex.symm] at this
          exact this
      exact lp _ 0 (by omega)
  have err : fC σ = 0 ∧ (w = 1 ∨ w = 4) → wB_X8_fits_51 w k M1 := by
    intro hn
    unfold wB_X8_fits_51
    exact bad2 (S := S_fits w σ) (by decide) (by decide) K1 ((if_neg (fun q => q h0)).trans (if_pos hn)) (fun r M' a b c => hh r M' a (b.trans a1) c)
  exact ⟨fun z => main (fun q => z q.1), fun z => ⟨fun e => err ⟨z, Or.inl e⟩, fun e => ⟨fun e2 => main (fun q => q.2.elim e e2), fun e2 => err ⟨z, Or.inr e2⟩⟩⟩⟩
theorem sR_fits {w : Int} {M : gSt} {k : Int → gSt → Prop} (i0 : inI w) (I : iN (absR M)) (J : iB (absR M)) (P : iP (absR M)) (G : iG (absR M)) (hh : ∀ r M', wrap r = wrap (S_fits w (absR M)) → absR M' = absR M → fr M M' → k r M') : w_Rfits w M k := by
  have I' := I
  unfold iN at I'
  generalize hA : absR M = σ at *
  have rC := fC_rng I
  unfold w_Rfits
  refine sp_Rin i0 (by constructor <;> decide) (by constructor <;> decide) (fun h0 => z1n ?_) (fun h0 => z0n (bad2R (S := S_fits w σ) (by decide) (by decide) (if_pos h0) (fun r M' a b c => hh r M' a (b.trans hA) c)))
  refine r_find hA I J P G (fun M1 f => ?_)
  obtain ⟨a1, F1, c1, l1⟩ := gRd_of f
  have n3 : M1 1 3 = σ 0 3 := by rw [rdS M1 3 (by decide) (by decide), a1]
  have fin : ∀ r, wrap r = wrap (S_fits w σ) → k r M1 := fun r e => hh r M1 e a1 F1
  unfold w_RallPapers
  dsimp only
  rw [n3]
  refine ⟨(fC σ).toNat + 1, ?_⟩
  have main : ¬ (fC σ = 0 ∧ (w = 1 ∨ w = 4)) → wB_Rfits_122 w k (andF (fF σ) (xshl 1 (σ 0 3) - 1) (fC σ).toNat) (orF (fF σ) (fC σ).toNat) (mxF (fF σ) (fC σ).toNat) M1 := by
    intro hn
    have hS : S_fits w σ = _ := (if_neg (fun q => q h0)).trans (if_neg hn)
    rw [hS] at fin
    unfold wB_Rfits_122
    rw [wI i0, c1, n3]
    refine ⟨fun e0 => ⟨fun e1 => ⟨fun e2 => ⟨fun e3 => ?_, fun e3 => ?_⟩, fun e2 => ?_⟩, fun e1 => ?_⟩, fun e0 => ?_⟩
    · rw [if_neg e0, if_neg e1, if_neg e2, if_neg e3] at fin; exact fin _ rfl
    · rw [if_neg e0, if_neg e1, if_neg (by omega), if_pos e3] at fin; exact fin _ rfl
    · rw [if_neg e0, if_neg e1, if_pos e2] at fin; exact fin _ rfl
    · rw [if_neg e0, if_pos e1] at fin
      rw [l1 0 (by decide) (by omega)]
      exact fin _ rfl
    · rw [if_pos e0] at fin; exact fin _ rfl
  have mid : (w = 1 ∨ w = 4) → wB_Rfits_109 w k (andF (fF σ) (xshl 1 (σ 0 3) - 1) (fC σ).toNat) (orF (fF σ) (fC σ).toNat) (mxF (fF σ) (fC σ).toNat) M1 := by
    intro hw
    unfold wB_Rfits_109
    rw [c1, wI (x := fC σ) ⟨by omega, by omega⟩]
    exact ⟨fun z => main (fun q => z q.1), fun z => bad2R (S := S_fits w σ) (by decide) (by decide) ((if_neg (fun q => q h0)).trans (if_pos ⟨z, hw⟩)) (fun r M' a b c => hh r M' a (b.trans a1) (fr_trans F1 c))⟩
  have lp : ∀ (r n : Nat), n + r = (fC σ).toNat → wL_Rfits_32 w k (fun u2_32 u3_32 u4_32 M32 => (wrap w = 1 → wB_Rfits_109 w k u2_32 u3_32 u4_32 M32) ∧ (¬ wrap w = 1 → (¬ wrap w = 4 → wB_Rfits_122 w k u2_32 u3_32 u4_32 M32) ∧ (wrap w = 4 → wB_Rfits_109 w k u2_32 u3_32 u4_32 M32))) (r + 1) (andF (fF σ) (xshl 1 (σ 0 3) - 1) n) (orF (fF σ) n) (mxF (fF σ) n) n M1 := by
    intro r
    induction r with
    | zero =>
      intro n hn
      unfold wL_Rfits_32 wC_Rfits_32
      rw [c1, wI (x := fC σ) ⟨by omega, by omega⟩, wI (x := (n : Int)) ⟨by omega, by omega⟩, wI i0, show n = (fC σ).toNat from by omega]
      refine ⟨fun _ => ⟨fun e => mid (Or.inl e), fun e => ⟨fun e2 => main (fun q => q.2.elim e e2), fun e2 => mid (Or.inr e2)⟩⟩, fun z => absurd z (by omega)⟩
    | succ r ih =>
      intro n hn
      have mr := mxF_rng I n (by omega)
      have fr := fF_rng I (j := n) (by omega) (by omega)
      have br := (bc_all (x := fF σ n) ⟨fr.1, by omega⟩).2.1
      have e8 := l1 n (by omega) (by omega)
      unfold wL_Rfits_32 wC_Rfits_32
      rw [c1, e8, wI (x := fC σ) ⟨by omega, by omega⟩, wI (x := (n : Int)) ⟨by omega, by omega⟩]
      refine ⟨fun z => absurd z (by omega), fun _ => ⟨⟨by omega, by omega⟩, fun x ex => ⟨⟨by omega, by omega⟩, fun y ey => ⟨⟨by omega, by omega⟩, r_bits ⟨fr.1, by omega⟩ ?_⟩⟩⟩⟩
      rw [e8, wI (x := bc (fF σ n)) ⟨by omega, by omega⟩, wI (x := mxF (fF σ) n) ⟨by omega, by omega⟩]
      have := ih (n + 1) (by omega)
      rw [n1, show andF (fF σ) (xshl 1 (σ 0 3) - 1) (n + 1) = x from ex.symm, show orF (fF σ) (n + 1) = y from ey.symm] at this
      have ms : mxF (fF σ) (n + 1) = if mxF (fF σ) n < bc (fF σ n) then bc (fF σ n) else mxF (fF σ) n := rfl
      unfold wB_Rfits_91
      refine ⟨fun z => ?_, fun z => ⟨⟨by omega, by omega⟩, r_bits ⟨fr.1, by omega⟩ ?_⟩⟩
      · rw [ms, if_neg (by omega)] at this; exact this
      · rw [ms, if_pos z] at this; exact this
  exact lp _ 0 (by omega)
end
section
-- span, next: both sides
theorem his_ok {σ : gSt} {h : Int} (I : iN σ) (J : iB σ) (P : iP σ) : ∀ t, 0 ≤ t → t ≤ 12 → thOk (hisB σ h) (10 * t) := by
  unfold iN at I
  exact byB_ok J P (σ 0 3).toNat (by omega)
theorem gC_fol {σ M0 M M' : gSt} {B : Int → Int} (g : gFd σ M0 M) (f : folC B M M') : gFd σ M0 M' := by
  obtain ⟨g1, g2, g3, g4, g5⟩ := g
  have m44 : M' 44 = M 44 := f.1 44 (by decide) (by decide)
  have m45 : M' 45 = M 45 := f.1 45 (by decide) (by decide)
  have m46 : M' 46 = M 46 := f.1 46 (by decide) (by decide)
  exact ⟨fun p hp => by rw [f.1 p (by omega) (by omega)]; exact g1 p hp, by rw [m44]; exact g2, by rw [m44]; exact g3, by rw [m44]; exact g4, fun j a b => by rw [m45, m46]; exact g5 j a b⟩
theorem r_after {σ M0 M : gSt} {h t w : Int} {k : Int → gSt → Prop} (I : iN σ) (J : iB σ) (P : iP σ) (g : gRd σ M0 M) (ht : 0 ≤ t ∧ t ≤ 12) (hw : 0 ≤ w ∧ w ≤ 9) (hk : ∀ M', gRd σ M0 M' → M' 9 = M 9 → k (hisB σ h (10 * t + w)) M') : w_Rafter h t w M k := by
  obtain ⟨a, F, c, l⟩ := g
  unfold w_Rafter
  refine sp_Rcarry (Or.inl rfl) (Or.inr (Or.inr rfl)) (by decide) (r_goes (aside.trans a) I J P (fun M1 A O F1 => sp_Rits ht hw ?_))
  refine r_back (M := M) (by rw [a]; exact I) rfl (fun p hp => O p hp) (fun M' a' f e => ?_)
  rw [A]
  exact hk M' ⟨a'.trans a, fr_trans F f, by rw [e 0 (by decide) (by decide)]; exact c, by rw [e 8 (by decide) (by decide)]; exact l⟩ (e 9 (by decide) (by decide))
def vH (σ : gSt) (t w j : Int) : Int := hisB σ (fF σ j) (10 * t + w)
def outF (v : Int → Int) (g : Int) : Nat → Int
  | 0 => 0
  | n + 1 => if n = 0 then v n else if g = 1 then (if outF v g n < v n then v n else outF v g n) else (if v n < outF v g n then v n else outF v g n)
theorem outF_s {v : Int → Int} {g : Int} {n : Nat} : outF v g (n + 1) = if n = 0 then v n else if g = 1 then (if outF v g n < v n then v n else outF v g n) else (if v n < outF v g n then v n else outF v g n) := rfl
theorem outF_rng {v : Int → Int} {g hi : Int} (h : 0 ≤ hi) : ∀ n : Nat, (∀ j : Nat, j < n → 0 ≤ v j ∧ v j ≤ hi) → 0 ≤ outF v g n ∧ outF v g n ≤ hi
  | 0, _ => ⟨Int.le_refl _, h⟩
  | n + 1, hv => by
    have ih := outF_rng (g := g) h n (fun j hj => hv j (by omega))
    have := hv n (by omega)
    rw [outF_s]
    split
    · exact this
    · split <;> split <;> first | exact this | exact ih
theorem vH_rng {σ : gSt} {t w j : Int} (I : iN σ) (J : iB σ) (P : iP σ) (ht : 0 ≤ t ∧ t ≤ 12) (hw : 6 ≤ w ∧ w ≤ 9) : 0 ≤ vH σ t w j ∧ vH σ t w j ≤ 1000000 := by
  have o := his_ok (h := fF σ j) I J P t ht.1 ht.2
  obtain ⟨o0, o1, o2, o3, o4, o5, o6, o7, o8, o9⟩ := o
  unfold vH
  rcases (show w = 6 ∨ w = 7 ∨ w = 8 ∨ w = 9 by omega) with rfl | rfl | rfl | rfl
  · exact o6
  · exact o7
  · exact o8
  · exact o9
def S_span (t f g : Int) (σ : gSt) : Int := if ¬ ((0 ≤ t ∧ t < σ 0 0) ∧ (0 ≤ f ∧ f ≤ 3) ∧ (0 ≤ g ∧ g ≤ 1)) then -1000000000 - 1 else if fC σ = 0 then -1000000000 - 2 else outF (vH σ t (6 + f)) g (fC σ).toNat
theorem sC_span {t f g : Int} {M : gSt} {k : Int → gSt → Prop} (i0 : inI t) (i1 : inI f) (i2 : inI g) (I : iN (absC M)) (J : iB (absC M)) (P : iP (absC M)) (G : iG (absC M)) (hK : cK M) (hh : ∀ r M', wrap r = wrap (S_span t f g (absC M)) → absC M' = absC M → cK M' → k r M') : w_X8_span t f g M k := by
  have I' := I
  unfold iN at I'
  have n0 := rc00 M
  generalize hA : absC M = σ at *
  have rC := fC_rng I
  have bd : ¬ ((0 ≤ t ∧ t < σ 0 0) ∧ (0 ≤ f ∧ f ≤ 3) ∧ (0 ≤ g ∧ g ≤ 1)) → wB_X8_span_32 t f g k M := fun h => bad2 (S := S_span t f g σ) (by decide) (by decide) hK (if_pos h) (fun r M' a b c => hh r M' a (b.trans hA) c)
  unfold w_X8_span
  refine sp_has0 pl_2 i0 ⟨by omega, by omega⟩ (fun h0 => z1 ?_) (fun h0 => z0 (bd (by omega)))
  refine sp_within i1 (by constructor <;> decide) (by constructor <;> decide) (fun h1 => z1 ?_) (fun h1 => z0 (bd (by omega)))
  refine sp_within i2 (by constructor <;> decide) (by constructor <;> decide) (fun h2 => z1n ?_) (fun h2 => z0n (bd (by omega)))
  have hg : ¬ ¬ ((0 ≤ t ∧ t < σ 0 0) ∧ (0 ≤ f ∧ f ≤ 3) ∧ (0 ≤ g ∧ g ≤ 1)) := fun q => q ⟨⟨h0.1, by omega⟩, h1, h2⟩
  refine c_find hA hK I J P G (fun M1 ga => ?_)
  change gFd σ M M1 at ga
  obtain ⟨a1, K1⟩ := fnd_abs ga hK
  rw [hA] at a1
  unfold w_X2_size
  refine ⟨pl_41, c_many4 ga ?_⟩
  dsimp only
  rw [wI (x := fC σ) ⟨by omega, by omega⟩, wI i2]
  have main : ∀ s0, inI s0 → (s0 = 1 ↔ g = 1) → (s0 = 0 ∨ s0 = 1) → ¬ fC σ = 0 → wB_X8_span_88 t f g k s0 (6 + f) t M1 := by
    intro s0 is0 hs hs2 hc
    have hS : S_span t f g σ = _ := (if_neg hg).trans (if_neg hc)
    rw [hS] at hh
    unfold wB_X8_span_88 w_X2_outermost
    refine ⟨pl_41, pl_1, (fC σ).toNat + 1, ?_⟩
    have lp : ∀ (r n : Nat) (M2 : gSt), n + r = (fC σ).toNat → gFd σ M M2 → wL_X2_outermost_6 41 1 t (6 + f) s0 (fun r88c M88 => k r88c M88) (fun u5_6 M6 => k u5_6 M6) (r + 1) (outF (vH σ t (6 + f)) g n) n M2 := by
      intro r
      induction r with
      | zero =>
        intro n M2 hn g2
        obtain ⟨a2, K2⟩ := fnd_abs g2 hK
        rw [hA] at a2
        unfold wL_X2_outermost_6 wC_X2_outermost_6
        refine c_many4 g2 ?_
        rw [wI (x := fC σ) ⟨by omega, by omega⟩, wI (x := (n : Int)) ⟨by omega, by omega⟩]
        refine ⟨fun _ => hh _ M2 (by rw [show (fC σ).toNat = n from by omega]) a2 K2, fun z => absurd z (by omega)⟩
      | succ r ih =>
        intro n M2 hn g2
        obtain ⟨a2, K2⟩ := fnd_abs g2 hK
        rw [hA] at a2
        have vr : ∀ j : Nat, 0 ≤ vH σ t (6 + f) j ∧ vH σ t (6 + f) j ≤ 1000000 := fun j => vH_rng I J P ⟨by omega, by omega⟩ ⟨by omega, by omega⟩
        have vn := vr n
        have on := outF_rng (v := vH σ t (6 + f)) (g := g) (hi := 1000000) (by decide) n (fun j _ => vr j)
        unfold wL_X2_outermost_6 wC_X2_outermost_6
        refine c_many4 g2 ?_
        rw [wI (x := fC σ) ⟨by omega, by omega⟩, wI (x := (n : Int)) ⟨by omega, by omega⟩]
        refine ⟨fun z => absurd z (by omega), fun _ => c_fit I g2 ⟨by omega, by omega⟩ (c_follow a2 K2 I J P (fun M3 fo => ?_))⟩
        have g3 := gC_fol g2 fo
        refine sp_number pl_42 rfl ⟨by omega, by omega⟩ ⟨by omega, by omega⟩ ?_
        have ev : M3 (41 + 1 + 1) (10 * t + (6 + f)) = vH σ t (6 + f) n := fo.2 _ (by omega) (by omega)
        rw [ev, wI (x := vH σ t (6 + f) n) ⟨by omega, by omega⟩, wI (x := outF (vH σ t (6 + f)) g n) ⟨by omega, by omega⟩, wI is0]
        have nx := ih (n + 1) M3 (by omega) g3
        rw [n1, outF_s] at nx
        unfold wB_X2_outermost_67 wB_X2_outermost_71
        refine ⟨fun e => ?_, fun e => ⟨fun e2 => ⟨fun e3 => ?_, fun e3 => ?_⟩, fun e2 => ⟨fun e3 => ?_, fun e3 => ?_⟩⟩⟩
        · rw [if_pos (by omega)] at nx; exact nx
        · rw [if_neg (by omega), if_neg (by omega), if_neg (by omega)] at nx; exact nx
        · rw [if_neg (by omega), if_neg (by omega), if_pos e3] at nx; exact nx
        · rw [if_neg (by omega), if_pos (by omega), if_neg (by omega)] at nx; exact nx
        · rw [if_neg (by omega), if_pos (by omega), if_pos e3] at nx; exact nx
    exact lp _ 0 M1 (by omega) ga
  refine ⟨fun z => ⟨fun e => main 0 (by constructor <;> decide) (by omega) (Or.inl rfl) z, fun e => main 1 (by constructor <;> decide) (by omega) (Or.inr rfl) z⟩, fun z => bad2 (S := S_span t f g σ) (by decide) (by decide) K1 ((if_neg hg).trans (if_pos z)) (fun r M' a b c => hh r M' a (b.trans a1) c)⟩
theorem sR_span {t f g : Int} {M : gSt} {k : Int → gSt → Prop} (i0 : inI t) (i1 : inI f) (i2 : inI g) (I : iN (absR M)) (J : iB (absR M)) (P : iP (absR M)) (G : iG (absR M)) (hh : ∀ r M', wrap r = wrap (S_span t f g (absR M)) → absR M' = absR M → fr M M' → k r M') : w_Rspan t f g M k := by
  have I' := I
  unfold iN at I'
  generalize hA : absR M = σ at *
  have rC := fC_rng I
  have bd : ¬ ((0 ≤ t ∧ t < σ 0 0) ∧ (0 ≤ f ∧ f ≤ 3) ∧ (0 ≤ g ∧ g ≤ 1)) → wB_Rspan_26 t f g k M := fun h => bad2R (S := S_span t f g σ) (by decide) (by decide) (if_pos h) (fun r M' a b c => hh r M' a (b.trans hA) c)
  unfold w_Rspan
  refine sp_RisThing i0 (by rw [hA]; exact ⟨by omega, by omega⟩) (fun h0 => z1 ?_) (fun h0 => z0 (bd (by rw [hA] at h0; omega)))
  rw [hA] at h0
  refine sp_Rin i1 (by constructor <;> decide) (by constructor <;> decide) (fun h1 => z1 ?_) (fun h1 => z0 (bd (by omega)))
  refine sp_Rin i2 (by constructor <;> decide) (by constructor <;> decide) (fun h2 => z1n ?_) (fun h2 => z0n (bd (by omega)))
  have hg : ¬ ¬ ((0 ≤ t ∧ t < σ 0 0) ∧ (0 ≤ f ∧ f ≤ 3) ∧ (0 ≤ g ∧ g ≤ 1)) := fun q => q ⟨h0, h1, h2⟩
  refine r_find hA I J P G (fun M1 fo => ?_)
  have ga := gRd_of fo
  rw [show M1 0 13 = fC σ from ga.2.2.1, wI (x := fC σ) ⟨by omega, by omega⟩]
  refine ⟨fun z => ?_, fun z => bad2R (S := S_span t f g σ) (by decide) (by decide) ((if_neg hg).trans (if_pos z)) (fun r M' a b c => hh r M' a (b.trans ga.1) (fr_trans ga.2.1 c))⟩
  have hS : S_span t f g σ = _ := (if_neg hg).trans (if_neg z)
  rw [hS] at hh
  rw [ga.2.2.2 0 (by decide) (by omega)]
  refine r_after I J P ga ⟨by omega, by omega⟩ ⟨by omega, by omega⟩ (fun M2 g2 _ => ⟨(fC σ).toNat, ?_⟩)
  have vr : ∀ j : Nat, 0 ≤ vH σ t (6 + f) j ∧ vH σ t (6 + f) j ≤ 1000000 := fun j => vH_rng I J P ⟨by omega, by omega⟩ ⟨by omega, by omega⟩
  have lp : ∀ (r n : Nat) (M3 : gSt), n + 1 + r = (fC σ).toNat → gRd σ M M3 → wL_Rspan_69 t f g k (fun u4_69 M69 => k u4_69 M69) (r + 1) (outF (vH σ t (6 + f)) g (n + 1)) ((n + 1 : Nat) : Int) M3 := by
    intro r
    induction r with
    | zero =>
      intro n M3 hn g3
      unfold wL_Rspan_69 wC_Rspan_69
      rw [g3.2.2.1, wI (x := fC σ) ⟨by omega, by omega⟩, wI (x := ((n + 1 : Nat) : Int)) ⟨by omega, by omega⟩]
      refine ⟨fun _ => hh _ M3 (by rw [show (fC σ).toNat = n + 1 from by omega]) g3.1 g3.2.1, fun z => absurd z (by omega)⟩
    | succ r ih =>
      intro n M3 hn g3
      have vn := vr (n + 1)
      have on := outF_rng (v := vH σ t (6 + f)) (g := g) (hi := 1000000) (by decide) (n + 1) (fun j _ => vr j)
      unfold wL_Rspan_69 wC_Rspan_69
      rw [g3.2.2.1, wI (x := fC σ) ⟨by omega, by omega⟩, wI (x := ((n + 1 : Nat) : Int)) ⟨by omega, by omega⟩, g3.2.2.2 _ (by omega) (by omega)]
      refine ⟨fun z => absurd z (by omega), fun _ => ⟨⟨by omega, by omega⟩, r_after I J P g3 ⟨by omega, by omega⟩ ⟨by omega, by omega⟩ (fun M4 g4 _ => ?_)⟩⟩
      have nx := ih (n + 1) M4 (by omega) g4
      rw [show ((n + 1 + 1 : Nat) : Int) = ((n + 1 : Nat) : Int) + 1 from by omega, outF_s, if_neg (by omega)] at nx
      rw [show hisB σ (fF σ ((n + 1 : Nat) : Int)) (10 * t + (6 + f)) = vH σ t (6 + f) ((n + 1 : Nat) : Int) from rfl, wI (x := vH σ t (6 + f) ((n + 1 : Nat) : Int)) ⟨by omega, by omega⟩, wI (x := outF (vH σ t (6 + f)) g (n + 1)) ⟨by omega, by omega⟩, wI i2]
      unfold wB_Rspan_132
      refine ⟨fun e2 => ⟨fun e3 => ?_, fun e3 => ?_⟩, fun e2 => ⟨fun e3 => ?_, fun e3 => ?_⟩⟩
      · rw [if_neg e2, if_neg (by omega)] at nx; exact nx
      · rw [if_neg e2, if_pos e3] at nx; exact nx
      · rw [if_pos e2, if_neg (by omega)] at nx; exact nx
      · rw [if_pos e2, if_pos e3] at nx; exact nx
  have st := lp ((fC σ).toNat - 1) 0 M2 (by omega) g2
  rw [show (fC σ).toNat - 1 + 1 = (fC σ).toNat from by omega] at st
  exact st
-- heaps
def cnt (g : Int → Int) (x : Int) : Nat → Int
  | 0 => 0
  | n + 1 => if g n = x then cnt g x n + 1 else cnt g x n
theorem cnt_s {g : Int → Int} {x : Int} {n : Nat} : cnt g x (n + 1) = if g n = x then cnt g x n + 1 else cnt g x n := rfl
theorem cnt_rng {g : Int → Int} {x : Int} : ∀ n : Nat, 0 ≤ cnt g x n ∧ cnt g x n ≤ n
  | 0 => ⟨Int.le_refl _, Int.le_refl _⟩
  | n + 1 => by
    have ih := cnt_rng (g := g) (x := x) n
    rw [cnt_s]
    split <;> omega
theorem cnt_mono {g : Int → Int} {x : Int} {n : Nat} : ∀ r : Nat, cnt g x n ≤ cnt g x (n + r)
  | 0 => Int.le_refl _
  | r + 1 => by
    have ih := cnt_mono (g := g) (x := x) (n := n) r
    show cnt g x n ≤ cnt g x (n + r + 1)
    rw [cnt_s]
    split <;> omega
theorem cnt_first {g : Int → Int} {x : Int} : ∀ n : Nat, cnt g x n = 0 ∨ ∃ k0 : Nat, k0 < n ∧ g k0 = x ∧ cnt g x k0 = 0
  | 0 => Or.inl rfl
  | n + 1 => by
    rcases cnt_first (g := g) (x := x) n with h | ⟨k0, a, b, c⟩
    · by_cases e : g n = x
      · exact Or.inr ⟨n, by omega, e, h⟩
      · left; rw [cnt_s, if_neg e]; exact h
    · exact Or.inr ⟨k0, by omega, b, c⟩
/-- the greatest heap, counted from all (the reference) and from each on (the class) -/
def hpA (g : Int → Int) (N : Nat) : Nat → Int
  | 0 => 0
  | n + 1 => if hpA g N n < cnt g (g n) N then cnt g (g n) N else hpA g N n
def hpF (g : Int → Int) (N : Nat) : Nat → Int
  | 0 => 0
  | n + 1 => if hpF g N n < cnt g (g n) N - cnt g (g n) n then cnt g (g n) N - cnt g (g n) n else hpF g N n
theorem hpA_s {g : Int → Int} {N n : Nat} : hpA g N (n + 1) = if hpA g N n < cnt g (g n) N then cnt g (g n) N else hpA g N n := rfl
theorem hpF_s {g : Int → Int} {N n : Nat} : hpF g N (n + 1) = if hpF g N n < cnt g (g n) N - cnt g (g n) n then cnt g (g n) N - cnt g (g n) n else hpF g N n := rfl
theorem hpA_rng {g : Int → Int} {N : Nat} : ∀ n : Nat, 0 ≤ hpA g N n ∧ hpA g N n ≤ N
  | 0 => ⟨Int.le_refl _, by show (0 : Int) ≤ N; omega⟩
  | n + 1 => by
    have ih := hpA_rng (g := g) (N := N) n
    have := cnt_rng (g := g) (x := g n) N
    rw [hpA_s]
    split <;> omega
theorem hpF_le {g : Int → Int} {N : Nat} : ∀ n : Nat, 0 ≤ hpF g N n ∧ hpF g N n ≤ hpA g N n
  | 0 => ⟨Int.le_refl _, Int.le_refl _⟩
  | n + 1 => by
    have ih := hpF_le (g := g) (N := N) n
    have := cnt_rng (g := g) (x := g n) n
    rw [hpF_s, hpA_s]
    split <;> split <;> omega
theorem hpF_ge {g : Int → Int} {N : Nat} : ∀ (n k : Nat), k < n → cnt g (g k) N - cnt g (g k) k ≤ hpF g N n
  | 0, k, h => absurd h (by omega)
  | n + 1, k, h => by
    rw [hpF_s]
    by_cases e : k = n
    · rw [e]; split <;> omega
    · have ih := hpF_ge (g := g) (N := N) n k (by omega)
      split <;> omega
theorem hpA_le {g : Int → Int} {N : Nat} {b : Int} (hb : 0 ≤ b) : ∀ n : Nat, (∀ k : Nat, k < n → cnt g (g k) N ≤ b) → hpA g N n ≤ b
  | 0, _ => hb
  | n + 1, h => by
    have ih := hpA_le (g := g) (N := N) hb n (fun k hk => h k (by omega))
    have := h n (by omega)
    rw [hpA_s]
    split <;> omega
theorem hp_eq {g : Int → Int} {N : Nat} : hpF g N N = hpA g N N := by
  refine Int.le_antisymm (hpF_le N).2 (hpA_le (hpF_le N).1 N (fun k hk => ?_))
  rcases cnt_first (g := g) (x := g k) (k + 1) with h | ⟨k0, a, b, c⟩
  · rw [cnt_s, if_pos rfl] at h
    have := cnt_rng (g := g) (x := g k) k
    omega
  · have := hpF_ge (g := g) (N := N) N k0 (by omega)
    rw [b, c] at this
    omega
def hp (σ : gSt) (t : Int) : Int := hpA (vH σ t 2) (fC σ).toNat (fC σ).toNat
def nxB (h : Int → Int) : Nat → Int
  | 0 => 0
  | n + 1 => if h n < h (nxB h n) then n else nxB h n
theorem nxB_s {h : Int → Int} {n : Nat} : nxB h (n + 1) = if h n < h (nxB h n) then (n : Int) else nxB h n := rfl
theorem nxB_rng {h : Int → Int} : ∀ n : Nat, 0 ≤ nxB h n ∧ nxB h n ≤ n
  | 0 => ⟨Int.le_refl _, Int.le_refl _⟩
  | n + 1 => by
    have := nxB_rng (h := h) n
    rw [nxB_s]
    split <;> omega
theorem v2_rng {σ : gSt} {t j : Int} (I : iN σ) (J : iB σ) (P : iP σ) (ht : 0 ≤ t ∧ t ≤ 12) : 0 ≤ vH σ t 2 j ∧ vH σ t 2 j ≤ 9999999 := (his_ok (h := fF σ j) I J P t ht.1 ht.2).2.2.1
theorem c_noted {σ M0 M : gSt} {j t : Int} {k : Int → gSt → Prop} (I : iN σ) (g : gFd σ M0 M) (hj : 0 ≤ j ∧ j < fC σ) (ht : 0 ≤ t ∧ t < 12) (h : k (vH σ t 2 j) M) : w_X2_notedGrams 41 j t M k := by
  have r := fC_rng I
  unfold w_X2_notedGrams
  refine ⟨pl_41, fun x ex => ?_⟩
  rw [show (wrap (lenC (41 + 5) : Int)) = 768 from by decide, show ((lenC (41 + 5) : Nat) : Int) = 768 from rfl, wI (x := x) ⟨by omega, by omega⟩]
  refine ⟨fun z => absurd z (by omega), fun _ => ⟨fun z => absurd z (by omega), fun _ => ⟨⟨by omega, by omega⟩, ?_⟩⟩⟩
  rw [ex, show j * 12 + t = 12 * j + t from by omega]
  show k (M 46 (12 * j + t)) M
  rw [(g.2.2.2.2 j hj.1 hj.2).2 t ht.1 ht.2]
  exact h
theorem c_heap {σ M0 M : gSt} {t : Int} {k : Int → gSt → Prop} (I : iN σ) (J : iB σ) (P : iP σ) (g : gFd σ M0 M) (ht : 0 ≤ t ∧ t < 12) (h : k (hp σ t) M) : w_X2_greatestHeap 41 t M k := by
  have r := fC_rng I
  unfold w_X2_greatestHeap
  refine ⟨pl_41, (fC σ).toNat + 1, ?_⟩
  have lp : ∀ (r n : Nat), n + r = (fC σ).toNat → wL_X2_greatestHeap_4 41 t k (fun u2_4 M4 => k u2_4 M4) (r + 1) (hpF (vH σ t 2) (fC σ).toNat n) n M := by
    intro r
    induction r with
    | zero =>
      intro n hn
      unfold wL_X2_greatestHeap_4 wC_X2_greatestHeap_4
      refine c_many4 g ?_
      rw [wI (x := fC σ) ⟨by omega, by omega⟩, wI (x := (n : Int)) ⟨by omega, by omega⟩]
      refine ⟨fun _ => ?_, fun z => absurd z (by omega)⟩
      rw [show n = (fC σ).toNat from by omega, hp_eq]
      exact h
    | succ r ih =>
      intro n hn
      unfold wL_X2_greatestHeap_4 wC_X2_greatestHeap_4
      refine c_many4 g ?_
      rw [wI (x := fC σ) ⟨by omega, by omega⟩, wI (x := (n : Int)) ⟨by omega, by omega⟩]
      refine ⟨fun z => absurd z (by omega), fun _ => ⟨(fC σ).toNat - n + 1, ?_⟩⟩
      have fr := hpF_le (g := vH σ t 2) (N := (fC σ).toNat) n
      have ar := hpA_rng (g := vH σ t 2) (N := (fC σ).toNat) n
      have cr := cnt_rng (g := vH σ t 2) (x := vH σ t 2 n) (fC σ).toNat
      have cn := cnt_rng (g := vH σ t 2) (x := vH σ t 2 n) n
      have fin : ∀ x, x = xmax (hpF (vH σ t 2) (fC σ).toNat n) (cnt (vH σ t 2) (vH σ t 2 n) (fC σ).toNat - cnt (vH σ t 2) (vH σ t 2 n) n) → wL_X2_greatestHeap_4 41 t k (fun u2_4 M4 => k u2_4 M4) (r + 1) x ((n : Int) + 1) M := by
        intro x ex
        have := ih (n + 1) (by omega)
        rw [n1, hpF_s] at this
        rw [xmax_in ⟨by omega, by omega⟩ ⟨by omega, by omega⟩] at ex
        rw [ex]
        exact this
      have l2 : ∀ (q m : Nat), m + q = (fC σ).toNat → n ≤ m → wL_X2_greatestHeap_21 41 t k (wL_X2_greatestHeap_4 41 t k (fun u2_4 M4 => k u2_4 M4) (r + 1)) (fun u2_4 M4 => k u2_4 M4) (fun u2_21 u3_21 u4_21 M21 => ∀ x2_64 : Int, x2_64 = xmax u2_21 u4_21 → (wL_X2_greatestHeap_4 41 t k (fun u2_4 M4 => k u2_4 M4) (r + 1) x2_64 (u3_21 + 1) M21)) (q + 1) (hpF (vH σ t 2) (fC σ).toNat n) n (cnt (vH σ t 2) (vH σ t 2 n) m - cnt (vH σ t 2) (vH σ t 2 n) n) m M := by
        intro q
        induction q with
        | zero =>
          intro m hm _
          unfold wL_X2_greatestHeap_21 wC_X2_greatestHeap_21
          refine c_many4 g ?_
          rw [wI (x := fC σ) ⟨by omega, by omega⟩, wI (x := (m : Int)) ⟨by omega, by omega⟩]
          refine ⟨fun _ => ?_, fun z => absurd z (by omega)⟩
          rw [show m = (fC σ).toNat from by omega]
          exact fin
        | succ q iq =>
          intro m hm hnm
          have va := v2_rng (j := m) I J P (t := t) ⟨by omega, by omega⟩
          have vb := v2_rng (j := n) I J P (t := t) ⟨by omega, by omega⟩
          unfold wL_X2_greatestHeap_21 wC_X2_greatestHeap_21
          refine c_many4 g ?_
          rw [wI (x := fC σ) ⟨by omega, by omega⟩, wI (x := (m : Int)) ⟨by omega, by omega⟩]
          refine ⟨fun z => absurd z (by omega), fun _ => c_noted I g ⟨by omega, by omega⟩ ht (c_noted I g ⟨by omega, by omega⟩ ht ?_)⟩
          rw [wI (x := vH σ t 2 m) ⟨by omega, by omega⟩, wI (x := vH σ t 2 n) ⟨by omega, by omega⟩]
          have nx := iq (m + 1) (by omega) (by omega)
          rw [n1, cnt_s] at nx
          unfold wB_X2_greatestHeap_52
          refine ⟨fun e => ?_, fun e => ?_⟩
          · rw [if_neg e] at nx; exact nx
          · rw [if_pos e, show cnt (vH σ t 2) (vH σ t 2 n) m + 1 - cnt (vH σ t 2) (vH σ t 2 n) n = cnt (vH σ t 2) (vH σ t 2 n) m - cnt (vH σ t 2) (vH σ t 2 n) n + 1 from by omega] at nx
            exact nx
      have s0 := l2 ((fC σ).toNat - n) n (by omega) (Nat.le_refl _)
      rw [show cnt (vH σ t 2) (vH σ t 2 n) n - cnt (vH σ t 2) (vH σ t 2 n) n = 0 from by omega] at s0
      exact s0
  exact lp _ 0 (by omega)
theorem hp_rng {σ : gSt} (I : iN σ) (t : Int) : 0 ≤ hp σ t ∧ hp σ t ≤ 64 := by
  have r := fC_rng I
  have := hpA_rng (g := vH σ t 2) (N := (fC σ).toNat) (fC σ).toNat
  unfold hp
  omega
def S_next (σ : gSt) : Int := if fC σ = 0 ∨ σ 0 0 = 0 then -1000000000 - 2 else nxB (hp σ) (σ 0 0).toNat
theorem sC_next {M : gSt} {k : Int → gSt → Prop} (I : iN (absC M)) (J : iB (absC M)) (P : iP (absC M)) (G : iG (absC M)) (hK : cK M) (hh : ∀ r M', wrap r = wrap (S_next (absC M)) → absC M' = absC M → cK M' → k r M') : w_X8_next M k := by
  have I' := I
  unfold iN at I'
  generalize hA : absC M = σ at *
  have rC := fC_rng I
  unfold w_X8_next
  refine c_find hA hK I J P G (fun M1 ga => ?_)
  change gFd σ M M1 at ga
  obtain ⟨a1, K1⟩ := fnd_abs ga hK
  rw [hA] at a1
  have n0 := rc00 M1
  rw [a1] at n0
  have er : fC σ = 0 ∨ σ 0 0 = 0 → wB_X8_next_34 k M1 := fun z => bad2 (S := S_next σ) (by decide) (by decide) K1 (if_pos z) (fun r M' a b c => hh r M' a (b.trans a1) c)
  unfold w_X2_size
  refine ⟨pl_41, c_many4 ga ?_⟩
  dsimp only
  rw [wI (x := fC σ) ⟨by omega, by omega⟩]
  refine ⟨fun z => er (Or.inl z), fun z => ?_⟩
  unfold w_X0_size
  refine ⟨pl_2, ?_⟩
  dsimp only
  rw [← n0, wI (x := σ 0 0) ⟨by omega, by omega⟩]
  refine ⟨fun y => ⟨pl_2, ?_⟩, fun y => er (Or.inr y)⟩
  have hS : S_next σ = _ := if_neg (fun q => q.elim z y)
  rw [hS] at hh
  unfold w_X2_bestParted
  refine ⟨pl_41, (σ 0 0).toNat + 1, ?_⟩
  have lp : ∀ (r n : Nat) (b : Int), n + r = (σ 0 0).toNat → ((n = 0 ∧ b = 65) ∨ (1 ≤ n ∧ b = hp σ (nxB (hp σ) n))) → wL_X2_bestParted_8 41 (σ 0 0) (fun r54c M54 => k r54c M54) (fun u2_8 M8 => k u2_8 M8) (r + 1) (nxB (hp σ) n) b n M1 := by
    intro r
    induction r with
    | zero =>
      intro n b hn hb
      unfold wL_X2_bestParted_8 wC_X2_bestParted_8
      rw [wI (x := σ 0 0) ⟨by omega, by omega⟩, wI (x := (n : Int)) ⟨by omega, by omega⟩]
      refine ⟨fun _ => hh _ M1 (by rw [show (σ 0 0).toNat = n from by omega]) a1 K1, fun z => absurd z (by omega)⟩
    | succ r ih =>
      intro n b hn hb
      have h1 := hp_rng I (nxB (hp σ) n)
      have h2 := hp_rng I (n : Int)
      unfold wL_X2_bestParted_8 wC_X2_bestParted_8
      rw [wI (x := σ 0 0) ⟨by omega, by omega⟩, wI (x := (n : Int)) ⟨by omega, by omega⟩]
      refine ⟨fun z => absurd z (by omega), fun _ => c_heap I J P ga ⟨by omega, by omega⟩ ?_⟩
      rw [wI (x := hp σ n) ⟨by omega, by omega⟩, wI (x := b) ⟨by omega, by omega⟩]
      have ns := nxB_s (h := hp σ) (n := n)
      unfold wB_X2_bestParted_34
      refine ⟨fun e => ?_, fun e => ?_⟩
      · rw [if_neg (by omega)] at ns
        have nx := ih (n + 1) b (by omega) (Or.inr ⟨by omega, by rw [ns]; omega⟩)
        rw [n1, ns] at nx
        exact nx
      · have ex : nxB (hp σ) (n + 1) = (n : Int) := by
          rw [ns]
          by_cases q : hp σ n < hp σ (nxB (hp σ) n)
          · rw [if_pos q]
          · rw [if_neg q]
            rcases hb with ⟨q0, _⟩ | ⟨_, q1⟩
            · subst q0; rfl
            · exact absurd e (by omega)
        have nx := ih (n + 1) (hp σ n) (by omega) (Or.inr ⟨by omega, by rw [ex]⟩)
        rw [n1, ex] at nx
        exact nx
  exact lp _ 0 65 (by omega) (Or.inl ⟨rfl, rfl⟩)
theorem gR_9 {σ M0 M M' : gSt} {i x : Int} (g : gRd σ M0 M) (e : M' = wr M 9 i x) : gRd σ M0 M' := by
  obtain ⟨a, F, c, l⟩ := g
  have o : ∀ p, p ≠ 9 → M' p = M p := fun p hp => by rw [e]; exact wrO' hp
  exact ⟨(absR_eq (o 1 (by decide)) (o 2 (by decide)) (by rw [o 0 (by decide)]) (o 11 (by decide)) (o 12 (by decide)) (o 13 (by decide))).trans a, fr_trans F ⟨fun j _ _ => by rw [o 1 (by decide)], o 2 (by decide), by rw [o 0 (by decide)]⟩, by rw [o 0 (by decide)]; exact c, by rw [o 8 (by decide)]; exact l⟩
theorem r_heap {σ M0 M : gSt} {t : Int} {k : Int → gSt → Prop} (I : iN σ) (J : iB σ) (P : iP σ) (g : gRd σ M0 M) (ht : 0 ≤ t ∧ t < 12) (h : ∀ M', gRd σ M0 M' → k (hp σ t) M') : w_Rheap t M k := by
  have rC := fC_rng I
  unfold w_Rheap
  refine ⟨(fC σ).toNat + 1, ?_⟩
  have fill : ∀ (r n : Nat) (M1 : gSt) (X : gSt → Prop), n + r = (fC σ).toNat → gRd σ M0 M1 → (∀ j, 0 ≤ j → j < (n : Int) → M1 9 j = vH σ t 2 j) → (∀ M2, gRd σ M0 M2 → (∀ j, 0 ≤ j → j < fC σ → M2 9 j = vH σ t 2 j) → X M2) → wL_Rheap_2 t k X (r + 1) n M1 := by
    intro r
    induction r with
    | zero =>
      intro n M1 X hn g1 s1 hX
      unfold wL_Rheap_2 wC_Rheap_2
      rw [g1.2.2.1, wI (x := fC σ) ⟨by omega, by omega⟩, wI (x := (n : Int)) ⟨by omega, by omega⟩]
      exact ⟨fun _ => hX M1 g1 (fun j a b => s1 j a (by omega)), fun z => absurd z (by omega)⟩
    | succ r ih =>
      intro n M1 X hn g1 s1 hX
      unfold wL_Rheap_2 wC_Rheap_2
      rw [g1.2.2.1, wI (x := fC σ) ⟨by omega, by omega⟩, wI (x := (n : Int)) ⟨by omega, by omega⟩, g1.2.2.2 _ (by omega) (by omega)]
      refine ⟨fun z => absurd z (by omega), fun _ => ⟨⟨by omega, by omega⟩, r_after I J P g1 ⟨by omega, by omega⟩ (by decide) (fun M2 g2 e2 => ⟨⟨by omega, by omega⟩, fun M3 e3 => ?_⟩)⟩⟩
      have nx := ih (n + 1) M3 X (by omega) (gR_9 g2 e3) (fun j a b => by
        rw [e3]
        by_cases e : j = n
        · rw [e]; exact wrI
        · rw [wrN e, e2]; exact s1 j a (by omega)) hX
      rw [n1] at nx
      exact nx
  refine fill _ 0 M _ (by omega) g (fun j a b => absurd b (by omega)) (fun M2 g2 s2 => ⟨(fC σ).toNat + 1, ?_⟩)
  have lp : ∀ (r n : Nat), n + r = (fC σ).toNat → wL_Rheap_38 t k (fun u2_38 M38 => k u2_38 M38) (r + 1) (hpA (vH σ t 2) (fC σ).toNat n) n M2 := by
    intro r
    induction r with
    | zero =>
      intro n hn
      unfold wL_Rheap_38 wC_Rheap_38
      rw [g2.2.2.1, wI (x := fC σ) ⟨by omega, by omega⟩, wI (x := (n : Int)) ⟨by omega, by omega⟩]
      refine ⟨fun _ => ?_, fun z => absurd z (by omega)⟩
      rw [show n = (fC σ).toNat from by omega]
      exact h M2 g2
    | succ r ih =>
      intro n hn
      have ar := hpA_rng (g := vH σ t 2) (N := (fC σ).toNat) n
      have cr := cnt_rng (g := vH σ t 2) (x := vH σ t 2 n) (fC σ).toNat
      have nx := ih (n + 1) (by omega)
      rw [n1, hpA_s] at nx
      unfold wL_Rheap_38 wC_Rheap_38
      rw [g2.2.2.1, wI (x := fC σ) ⟨by omega, by omega⟩, wI (x := (n : Int)) ⟨by omega, by omega⟩]
      refine ⟨fun z => absurd z (by omega), fun _ => ⟨(fC σ).toNat + 1, ?_⟩⟩
      have l2 : ∀ (q m : Nat), m + q = (fC σ).toNat → wL_Rheap_52 t k (wL_Rheap_38 t k (fun u2_38 M38 => k u2_38 M38) (r + 1)) (fun u2_38 M38 => k u2_38 M38) (fun u2_52 u3_52 u4_52 M52 => (wrap u4_52 ≤ wrap u2_52 → wB_Rheap_105 t k (wL_Rheap_38 t k (fun u2_38 M38 => k u2_38 M38) (r + 1)) (fun u2_38 M38 => k u2_38 M38) u3_52 u2_52 M52) ∧ (wrap u2_52 < wrap u4_52 → wB_Rheap_105 t k (wL_Rheap_38 t k (fun u2_38 M38 => k u2_38 M38) (r + 1)) (fun u2_38 M38 => k u2_38 M38) u3_52 u4_52 M52)) (q + 1) (hpA (vH σ t 2) (fC σ).toNat n) n (cnt (vH σ t 2) (vH σ t 2 n) m) m M2 := by
        intro q
        induction q with
        | zero =>
          intro m hm
          unfold wL_Rheap_52 wC_Rheap_52
          rw [g2.2.2.1, wI (x := fC σ) ⟨by omega, by omega⟩, wI (x := (m : Int)) ⟨by omega, by omega⟩, show m = (fC σ).toNat from by omega]
          refine ⟨fun _ => ?_, fun z => absurd z (by omega)⟩
          dsimp only
          rw [wI (x := cnt (vH σ t 2) (vH σ t 2 n) (fC σ).toNat) ⟨by omega, by omega⟩, wI (x := hpA (vH σ t 2) (fC σ).toNat n) ⟨by omega, by omega⟩]
          unfold wB_Rheap_105
          refine ⟨fun e => ?_, fun e => ?_⟩
          · rw [if_neg (by omega)] at nx; exact nx
          · rw [if_pos e] at nx; exact nx
        | succ q iq =>
          intro m hm
          have va := v2_rng (j := m) I J P (t := t) ⟨by omega, by omega⟩
          have vb := v2_rng (j := n) I J P (t := t) ⟨by omega, by omega⟩
          have ns := iq (m + 1) (by omega)
          rw [n1, cnt_s] at ns
          unfold wL_Rheap_52 wC_Rheap_52
          rw [g2.2.2.1, wI (x := fC σ) ⟨by omega, by omega⟩, wI (x := (m : Int)) ⟨by omega, by omega⟩, s2 m (by omega) (by omega), s2 n (by omega) (by omega), wI (x := vH σ t 2 m) ⟨by omega, by omega⟩, wI (x := vH σ t 2 n) ⟨by omega, by omega⟩]
          unfold wB_Rheap_84
          refine ⟨fun z => absurd z (by omega), fun _ => ⟨⟨by omega, by omega⟩, ⟨by omega, by omega⟩, fun e x ex => ?_, fun e x ex => ?_⟩⟩
          · rw [if_neg e] at ns; rw [ex, Int.add_zero]; exact ns
          · rw [if_pos e] at ns; rw [ex]; exact ns
      exact l2 _ 0 (by omega)
  exact lp _ 0 (by omega)
theorem sR_next {M : gSt} {k : Int → gSt → Prop} (I : iN (absR M)) (J : iB (absR M)) (P : iP (absR M)) (G : iG (absR M)) (hh : ∀ r M', wrap r = wrap (S_next (absR M)) → absR M' = absR M → fr M M' → k r M') : w_Rnext M k := by
  have I' := I
  unfold iN at I'
  generalize hA : absR M = σ at *
  have rC := fC_rng I
  unfold w_Rnext
  refine r_find hA I J P G (fun M1 fo => ?_)
  have ga := gRd_of fo
  have n0 : M1 1 0 = σ 0 0 := by rw [rdS M1 0 (by decide) (by decide), ga.1]
  have er : fC σ = 0 ∨ σ 0 0 = 0 → wB_Rnext_20 k M1 := fun z => bad2R (S := S_next σ) (by decide) (by decide) (if_pos z) (fun r M' a b c => hh r M' a (b.trans ga.1) (fr_trans ga.2.1 c))
  rw [ga.2.2.1, n0, wI (x := fC σ) ⟨by omega, by omega⟩, wI (x := σ 0 0) ⟨by omega, by omega⟩]
  refine ⟨fun z => er (Or.inl z), fun z => ⟨fun y => ⟨(σ 0 0).toNat, ?_⟩, fun y => er (Or.inr y)⟩⟩
  have hS : S_next σ = _ := if_neg (fun q => q.elim z y)
  rw [hS] at hh
  have lp : ∀ (r n : Nat) (M2 : gSt), n + 1 + r = (σ 0 0).toNat → gRd σ M M2 → wL_Rnext_30 k (fun u1_30 M30 => k u1_30 M30) (r + 1) (nxB (hp σ) (n + 1)) ((n + 1 : Nat) : Int) M2 := by
    intro r
    induction r with
    | zero =>
      intro n M2 hn g2
      unfold wL_Rnext_30 wC_Rnext_30
      rw [rdS M2 0 (by decide) (by decide), g2.1, wI (x := σ 0 0) ⟨by omega, by omega⟩, wI (x := ((n + 1 : Nat) : Int)) ⟨by omega, by omega⟩]
      refine ⟨fun _ => hh _ M2 (by rw [show (σ 0 0).toNat = n + 1 from by omega]) g2.1 g2.2.1, fun z => absurd z (by omega)⟩
    | succ r ih =>
      intro n M2 hn g2
      have br := nxB_rng (h := hp σ) n
      have ns0 := nxB_s (h := hp σ) (n := n)
      have bb : 0 ≤ nxB (hp σ) (n + 1) ∧ nxB (hp σ) (n + 1) < 12 := by
        rw [ns0]
        split <;> omega
      have h1 := hp_rng I (nxB (hp σ) (n + 1))
      have h2 := hp_rng I ((n + 1 : Nat) : Int)
      unfold wL_Rnext_30 wC_Rnext_30
      rw [rdS M2 0 (by decide) (by decide), g2.1, wI (x := σ 0 0) ⟨by omega, by omega⟩, wI (x := ((n + 1 : Nat) : Int)) ⟨by omega, by omega⟩]
      refine ⟨fun z => absurd z (by omega), fun _ => r_heap I J P g2 ⟨by omega, by omega⟩ (fun M3 g3 => r_heap I J P g3 bb (fun M4 g4 => ?_))⟩
      rw [wI (x := hp σ ((n + 1 : Nat) : Int)) ⟨by omega, by omega⟩, wI (x := hp σ (nxB (hp σ) (n + 1))) ⟨by omega, by omega⟩]
      have nx := ih (n + 1) M4 (by omega) g4
      rw [show ((n + 1 + 1 : Nat) : Int) = ((n + 1 : Nat) : Int) + 1 from by omega, nxB_s] at nx
      unfold wB_Rnext_58
      refine ⟨fun e => ?_, fun e => ?_⟩
      · rw [if_neg (by omega)] at nx; exact nx
      · rw [if_pos e] at nx; exact nx
  have st := lp ((σ 0 0).toNat - 1) 0 M1 (by omega) ga
  rw [show (σ 0 0).toNat - 1 + 1 = (σ 0 0).toNat from by omega] at st
  have z1' : nxB (hp σ) (0 + 1) = 0 := by rw [nxB_s]; split <;> rfl
  rw [z1'] at st
  exact st
end
section
-- judge, check: both sides
def jdS (σ : gSt) (q : Int) (B : Int → Int) : Nat → Nat → Int
  | 0, n => n
  | r + 1, n => if (n : Int) < σ 24 q ∧ σ 25 (24 * q + n) = B (10 * n + 2) then jdS σ q B r (n + 1) else n
theorem jdS_s {σ : gSt} {q : Int} {B : Int → Int} {r n : Nat} : jdS σ q B (r + 1) n = if (n : Int) < σ 24 q ∧ σ 25 (24 * q + n) = B (10 * n + 2) then jdS σ q B r (n + 1) else (n : Int) := rfl
def S_judge (q h : Int) (σ : gSt) : Int := if ¬ ((0 ≤ q ∧ q < 4) ∧ (0 ≤ h ∧ h ≤ xshl 1 (σ 0 3) - 1)) then -1000000000 - 1 else if σ 23 q = 0 then -1000000000 - 2 else jdS σ q (hisB σ h) (σ 0 0).toNat 0
theorem c_isHis {σ M : gSt} {h : Int} {k : Int → gSt → Prop} (hA : absC M = σ) (I : iN σ) (i0 : inI h) (k1 : 0 ≤ h ∧ h ≤ xshl 1 (σ 0 3) - 1 → k 1 M) (k0 : ¬ (0 ≤ h ∧ h ≤ xshl 1 (σ 0 3) - 1) → k 0 M) : w_X8_isHistory h M k := by
  unfold iN at I
  have n3 := rc03 M
  rw [hA] at n3
  have ar := allP_rng (n := σ 0 3) ⟨by omega, by omega⟩
  unfold w_X8_isHistory w_X8_allPapers
  refine sp_size4 pl_8 ?_
  dsimp only
  rw [← n3]
  exact sp_within i0 (by constructor <;> decide) ⟨by omega, by omega⟩ (fun h0 => ⟨Or.inr rfl, k1 h0⟩) (fun h0 => ⟨Or.inl rfl, k0 h0⟩)
theorem sC_judge {q h : Int} {M : gSt} {k : Int → gSt → Prop} (i0 : inI q) (i1 : inI h) (I : iN (absC M)) (J : iB (absC M)) (P : iP (absC M)) (S : iSh (absC M)) (hK : cK M) (hh : ∀ r M', wrap r = wrap (S_judge q h (absC M)) → absC M' = absC M → cK M' → k r M') : w_X8_judge q h M k := by
  have I' := I
  unfold iN at I'
  generalize hA : absC M = σ at *
  have bd : ¬ ((0 ≤ q ∧ q < 4) ∧ (0 ≤ h ∧ h ≤ xshl 1 (σ 0 3) - 1)) → wB_X8_judge_18 q h k M := fun z => bad2 (S := S_judge q h σ) (by decide) (by decide) hK (if_pos z) (fun r M' a b c => hh r M' a (b.trans hA) c)
  unfold w_X8_judge
  refine shC i0 (fun o ho hq => ⟨fun z => absurd z (by simp), fun o2 e2 => ?_⟩) (fun hq => ⟨fun _ => bd (fun z => hq z.1), fun o2 e2 => by cases e2⟩)
  cases e2
  refine c_isHis hA I i1 (fun hz => z1n ?_) (fun hz => z0n (bd (fun z => hz z.2)))
  have hg : ¬ ¬ ((0 ≤ q ∧ q < 4) ∧ (0 ≤ h ∧ h ≤ xshl 1 (σ 0 3) - 1)) := fun z => z ⟨hq, hz⟩
  obtain ⟨p1, p2, p3⟩ := pl_sh (o := o) (by omega)
  obtain ⟨b1, b2, b3⟩ := S q hq.1 hq.2
  have eb := rB M hq ho
  have es := rS M hq ho
  rw [hA] at eb es
  refine sp_missing p1 ⟨by omega, by omega⟩ (fun z => z1 (bad2 (S := S_judge q h σ) (by decide) (by decide) hK ((if_neg hg).trans (if_pos (by omega))) (fun r M' a b c => hh r M' a (b.trans hA) c))) (fun nz => z0 ?_)
  have hS : S_judge q h σ = _ := (if_neg hg).trans (if_neg (by omega))
  rw [hS] at hh
  refine c_follow hA hK I J P (fun M1 f => ?_)
  have a1 : absC M1 = σ := (ac_eq (fun o ho => f.1 o (by unfold scr at ho; omega) (by unfold scr at ho; omega))).trans hA
  have K1 : cK M1 := cK_eq hK (fun o a b c d i hi => by rw [f.1 o (by omega) (by omega)])
  have ok := his_ok (h := h) I J P
  have n0 := rc00 M1
  rw [a1] at n0
  have mo : M1 o = M o := f.1 o (by omega) (by omega)
  have mo1 : M1 (o + 1) = M (o + 1) := f.1 (o + 1) (by omega) (by omega)
  unfold w_X0_size
  refine ⟨pl_2, ?_⟩
  dsimp only
  rw [← n0]
  refine ⟨(σ 0 0).toNat + 1, ?_⟩
  have lp : ∀ (r n : Nat), n + r = (σ 0 0).toNat → (∀ x, wrap x = wrap (jdS σ q (hisB σ h) r n) → k x M1) → wL_X8_judge_64 q h k (fun u5_64 M64 => k u5_64 M64) (fun u4_64 M64 => k u4_64 M64) (r + 1) o (σ 0 0) n M1 := by
    intro r
    induction r with
    | zero =>
      intro n hn fin
      unfold wL_X8_judge_64 wC_X8_judge_64
      rw [wI (x := σ 0 0) ⟨by omega, by omega⟩, wI (x := (n : Int)) ⟨by omega, by omega⟩]
      exact ⟨fun _ => fin _ (by rw [show σ 0 0 = (n : Int) from by omega]; rfl), fun z => absurd z (by omega)⟩
    | succ r ih =>
      intro n hn fin
      have o2 := (ok n (by omega) (by omega)).2.2.1
      unfold wL_X8_judge_64 wC_X8_judge_64
      rw [wI (x := σ 0 0) ⟨by omega, by omega⟩, wI (x := (n : Int)) ⟨by omega, by omega⟩]
      refine ⟨fun z => absurd z (by omega), fun _ => sp_has5 p1 ⟨by omega, by omega⟩ (by rw [mo]; exact ⟨by omega, by omega⟩) (fun z => z1 ?_) (fun z => z0 ?_)⟩
      · rw [mo, ← es] at z
        refine sp_at5 p1 p3 (by rw [mo, ← es]; exact z) (by rw [mo, ← es]; omega) ?_
        unfold w_X2_numberBehind
        refine ⟨pl_41, sp_number pl_42 rfl ⟨by omega, by omega⟩ (by decide) ?_⟩
        have en := rN M hq ho (j := n) (by omega) (by omega)
        rw [hA] at en
        have ib := b3 n (by omega) (by omega)
        rw [mo1, ← en, show M1 (41 + 1 + 1) (10 * (n : Int) + 2) = hisB σ h (10 * n + 2) from f.2 _ (by omega) (by omega), wI ib]
        dsimp only
        rw [wI (x := hisB σ h (10 * n + 2)) ⟨by omega, by omega⟩]
        rw [jdS_s] at fin
        refine ⟨fun e => ?_, fun e => ?_⟩
        · rw [if_pos ⟨z.2, e⟩] at fin
          have := ih (n + 1) (by omega) fin
          rw [n1] at this
          exact this
        · rw [if_neg (fun y => e y.2)] at fin
          exact fin _ rfl
      · rw [mo, ← es] at z
        rw [jdS_s, if_neg (fun y => z ⟨by omega, y.1⟩)] at fin
        exact fin _ rfl
  exact lp _ 0 (by omega) (fun x e => hh x M1 e a1 K1)
theorem r_isHis {σ M : gSt} {h : Int} {k : Int → gSt → Prop} (hA : absR M = σ) (I : iN σ) (i0 : inI h) (k1 : 0 ≤ h ∧ h ≤ xshl 1 (σ 0 3) - 1 → k 1 M) (k0 : ¬ (0 ≤ h ∧ h ≤ xshl 1 (σ 0 3) - 1) → k 0 M) : w_RisHistory h M k := by
  unfold iN at I
  have ar := allP_rng (n := σ 0 3) ⟨by omega, by omega⟩
  unfold w_RisHistory w_RallPapers
  rw [rdS M 3 (by decide) (by decide), hA]
  exact sp_Rin i0 (by constructor <;> decide) ⟨by omega, by omega⟩ (fun h0 => ⟨Or.inr rfl, k1 h0⟩) (fun h0 => ⟨Or.inl rfl, k0 h0⟩)
theorem sR_judge {q h : Int} {M : gSt} {k : Int → gSt → Prop} (i0 : inI q) (i1 : inI h) (I : iN (absR M)) (J : iB (absR M)) (P : iP (absR M)) (S : iSh (absR M)) (hh : ∀ r M', wrap r = wrap (S_judge q h (absR M)) → absR M' = absR M → fr M M' → k r M') : w_Rjudge q h M k := by
  have I' := I
  unfold iN at I'
  generalize hA : absR M = σ at *
  have bd : ¬ ((0 ≤ q ∧ q < 4) ∧ (0 ≤ h ∧ h ≤ xshl 1 (σ 0 3) - 1)) → wB_Rjudge_17 q h k 1 M := fun z => ⟨fun y => absurd y (by decide), fun _ => bad2R (S := S_judge q h σ) (by decide) (by decide) (if_pos z) (fun r M' a b c => hh r M' a (b.trans hA) c)⟩
  unfold w_Rjudge
  refine r_isHis hA I i1 (fun hz => z1 ?_) (fun hz => z0 (bd (fun z => hz z.2)))
  unfold w_Rlacks
  refine sp_RisSheet i0 (fun hq => z1n ⟨hq, ?_⟩) (fun hq => z0n (bd (fun z => hq z.1)))
  have hg : ¬ ¬ ((0 ≤ q ∧ q < 4) ∧ (0 ≤ h ∧ h ≤ xshl 1 (σ 0 3) - 1)) := fun z => z ⟨hq, hz⟩
  obtain ⟨b1, b2, b3⟩ := S q hq.1 hq.2
  rw [rdBits M q hq.1 hq.2, hA, wI (x := σ 23 q) ⟨by omega, by omega⟩]
  unfold wB_Rjudge_17
  refine ⟨fun nz => ⟨fun _ => ?_, fun y => absurd y (by decide)⟩, fun z => ⟨fun y => absurd y (by decide), fun _ => bad2R (S := S_judge q h σ) (by decide) (by decide) ((if_neg hg).trans (if_pos z)) (fun r M' a b c => hh r M' a (b.trans hA) c)⟩⟩
  have hS : S_judge q h σ = _ := (if_neg hg).trans (if_neg nz)
  rw [hS] at hh
  have ok := his_ok (h := h) I J P
  refine sp_Rcarry (Or.inl rfl) (Or.inr (Or.inr rfl)) (by decide) (r_goes (aside.trans hA) I J P (fun M1 A O F => ⟨(σ 0 0).toNat + 1, ?_⟩))
  change absR M1 = cellS σ (hisB σ h) at A
  have fin : ∀ v, wrap v = wrap (jdS σ q (hisB σ h) (σ 0 0).toNat 0) → wB_Rjudge_97 q h k v M1 := fun v hv => by
    unfold wB_Rjudge_97
    exact r_back (M := M) (by rw [hA]; exact I) rfl (fun p hp => O p hp) (fun M' a f e => hh _ M' hv (a.trans hA) f)
  have lp : ∀ (r n : Nat), n + r = (σ 0 0).toNat → (∀ x, wrap x = wrap (jdS σ q (hisB σ h) r n) → wB_Rjudge_97 q h k x M1) → wL_Rjudge_47 q h k (fun u4_47 M47 => wB_Rjudge_97 q h k u4_47 M47) (r + 1) n M1 := by
    intro r
    induction r with
    | zero =>
      intro n hn fin
      unfold wL_Rjudge_47 wC_Rjudge_47
      rw [rdS M1 0 (by decide) (by decide), A, show cellS σ (hisB σ h) 0 0 = σ 0 0 from rfl, wI (x := σ 0 0) ⟨by omega, by omega⟩, wI (x := (n : Int)) ⟨by omega, by omega⟩]
      exact ⟨fun _ => fin _ rfl, fun z => absurd z (by omega)⟩
    | succ r ih =>
      intro n hn fin
      have o2 := (ok n (by omega) (by omega)).2.2.1
      unfold wL_Rjudge_47 wC_Rjudge_47
      rw [rdS M1 0 (by decide) (by decide), rdSize M1 q hq.1 hq.2, A, show cellS σ (hisB σ h) 0 0 = σ 0 0 from rfl, show cellS σ (hisB σ h) 24 q = σ 24 q from rfl, wI (x := σ 0 0) ⟨by omega, by omega⟩, wI (x := (n : Int)) ⟨by omega, by omega⟩, wI (x := σ 24 q) ⟨by omega, by omega⟩]
      rw [jdS_s] at fin
      refine ⟨fun z => absurd z (by omega), fun _ => ⟨hq, fun z => ?_, fun z => ⟨⟨by omega, by omega⟩, sp_Rits ⟨by omega, by omega⟩ (by decide) ?_⟩⟩⟩
      · rw [if_neg (fun y => absurd y.1 (by omega))] at fin
        exact fin _ rfl
      · have ib := b3 n (by omega) (by omega)
        rw [rdNum M1 _ (by omega) (by omega), A, show cellS σ (hisB σ h) 25 (24 * q + (n : Int)) = σ 25 (24 * q + n) from rfl, show cellS σ (hisB σ h) 1 (10 * (n : Int) + 2) = hisB σ h (10 * n + 2) from rfl, wI ib, wI (x := hisB σ h (10 * n + 2)) ⟨by omega, by omega⟩]
        refine ⟨fun e => ?_, fun e => ?_⟩
        · rw [if_neg (fun y => e y.2)] at fin
          exact fin _ rfl
        · rw [if_pos ⟨z, e⟩] at fin
          have := ih (n + 1) (by omega) fin
          rw [n1] at this
          exact this
  exact lp _ 0 (by omega) fin
-- what finding reads
theorem byB_cg {σ σ' : gSt} {h : Int} (h1 : σ' 1 = σ 1) (h3 : σ' 3 = σ 3) : ∀ n : Nat, byB σ' h n = byB σ h n
  | 0 => h1
  | n + 1 => by rw [byB_s, byB_s, h3, byB_cg h1 h3 n]
theorem fitS_cg {σ σ' : gSt} {B : Int → Int} (h4 : σ' 4 = σ 4) : ∀ n : Nat, fitS σ' B n = fitS σ B n
  | 0 => rfl
  | n + 1 => by
    rw [fitS_s, fitS_s, fitS_cg h4 n]
    unfold wOk
    rw [h4]
theorem fl_cg {σ σ' : gSt} (h1 : σ' 1 = σ 1) (h3 : σ' 3 = σ 3) (h4 : σ' 4 = σ 4) (n3 : σ' 0 3 = σ 0 3) (n4 : σ' 0 4 = σ 0 4) : ∀ n : Nat, flC σ' n = flC σ n ∧ flF σ' n = flF σ n
  | 0 => ⟨rfl, rfl⟩
  | n + 1 => by
    obtain ⟨a, b⟩ := fl_cg h1 h3 h4 n3 n4 n
    have e : fitH σ' n = fitH σ n := by
      unfold fitH hisB
      rw [n3, n4, byB_cg h1 h3, fitS_cg h4]
    refine ⟨by rw [flC_s, flC_s, e, a], ?_⟩
    funext j
    rw [flF_s, flF_s, e, a, b]
def ckS (σ : gSt) : Nat → Nat → Int
  | 0, _ => 0
  | r + 1, n => if (n : Int) < σ 0 7 ∧ (n : Int) < fC σ ∧ wrap (σ 6 n) = wrap (fF σ n) then ckS σ r (n + 1) else 1 + n
theorem ckS_s {σ : gSt} {r n : Nat} : ckS σ (r + 1) n = if (n : Int) < σ 0 7 ∧ (n : Int) < fC σ ∧ wrap (σ 6 n) = wrap (fF σ n) then ckS σ r (n + 1) else 1 + (n : Int) := rfl
def ckM (σ : gSt) : Int := if σ 0 7 < fC σ then fC σ else σ 0 7
def S_check (σ : gSt) : Int × gSt := (ckS σ (ckM σ).toNat 0, up1 σ 0 7 0)
theorem sC_check {M : gSt} {k : Int → gSt → Prop} (I : iN (absC M)) (J : iB (absC M)) (P : iP (absC M)) (G : iG (absC M)) (hK : cK M) (hh : ∀ r M', wrap r = wrap (S_check (absC M)).1 → absC M' = (S_check (absC M)).2 → cK M' → k r M') : w_X8_check M k := by
  have I' := I
  unfold iN at I'
  generalize hA : absC M = σ at *
  have rC := fC_rng I
  have mr : ckM σ = if σ 0 7 < fC σ then fC σ else σ 0 7 := rfl
  have m2 : 0 ≤ ckM σ ∧ ckM σ ≤ 64 := by rw [mr]; split <;> omega
  unfold w_X8_check
  refine c_find hA hK I J P G (fun M1 ga => ?_)
  change gFd σ M M1 at ga
  obtain ⟨a1, K1⟩ := fnd_abs ga hK
  rw [hA] at a1
  have n7 := rc07 M1
  rw [a1] at n7
  have k12 := (cK_12 K1).1
  have fin : ∀ r, wrap (r + 1) = wrap (ckS σ (ckM σ).toNat 0) → w_X4_clear 12 M1 (fun M33 => k (r + 1) M33) := fun r e => sp_clear pl_12 (hh _ _ e (by rw [ac_12_3, a1]; rfl) (cK_wr K1 (Or.inl (by decide))))
  unfold w_X2_firstUnlike
  refine ⟨pl_41, pl_12, sp_size4 pl_12 (c_many4 ga (fun x ex => ⟨(ckM σ).toNat + 1, ?_⟩))⟩
  rw [← n7, xmax_in (x := σ 0 7) (y := fC σ) ⟨by omega, by omega⟩ ⟨by omega, by omega⟩] at ex
  rw [show x = ckM σ from ex]
  have lp : ∀ (r n : Nat), n + r = (ckM σ).toNat → (∀ r', wrap (r' + 1) = wrap (ckS σ r n) → w_X4_clear 12 M1 (fun M33 => k (r' + 1) M33)) → wL_X2_firstUnlike_17 41 12 (fun r22c M22 => w_X4_clear 12 M22 (fun M33 => k (r22c + 1) M33)) (fun u3_17 M17 => w_X4_clear 12 M17 (fun M33 => k (u3_17 + 1) M33)) (fun M17 => w_X4_clear 12 M17 (fun M33 => k (-1 + 1) M33)) (r + 1) (ckM σ) n M1 := by
    intro r
    induction r with
    | zero =>
      intro n hn f
      unfold wL_X2_firstUnlike_17 wC_X2_firstUnlike_17
      rw [wI (x := ckM σ) ⟨by omega, by omega⟩, wI (x := (n : Int)) ⟨by omega, by omega⟩]
      exact ⟨fun _ => f (-1) rfl, fun z => absurd z (by omega)⟩
    | succ r ih =>
      intro n hn f
      rw [ckS_s] at f
      have no : ¬ ((n : Int) < σ 0 7 ∧ (n : Int) < fC σ ∧ wrap (σ 6 n) = wrap (fF σ n)) → w_X4_clear 12 M1 (fun M33 => k ((n : Int) + 1) M33) := fun z => by
        rw [if_neg z] at f
        exact f n (by rw [Int.add_comm])
      unfold wL_X2_firstUnlike_17 wC_X2_firstUnlike_17
      rw [wI (x := ckM σ) ⟨by omega, by omega⟩, wI (x := (n : Int)) ⟨by omega, by omega⟩]
      refine ⟨fun z => absurd z (by omega), fun _ => sp_has4 pl_12 ⟨by omega, by omega⟩ (by rw [← n7]; exact ⟨by omega, by omega⟩) (fun z => z1 ?_) (fun z => z0 (no (fun y => z (by rw [← n7]; exact ⟨by omega, y.1⟩))))⟩
      rw [← n7] at z
      refine sp_has4 pl_44 ⟨by omega, by omega⟩ (by rw [show M1 44 3 = fC σ from ga.2.2.2.1]; exact ⟨by omega, by omega⟩) (fun y => z1 ?_) (fun y => z0 (no (fun q => y (by rw [show M1 44 3 = fC σ from ga.2.2.2.1]; exact ⟨by omega, q.2.1⟩))))
      rw [show M1 44 3 = fC σ from ga.2.2.2.1] at y
      refine sp_at (W := 1) pl_12 k12 (by rw [← n7]; exact z) (by decide) (by rw [← n7]; exact ⟨by omega, by decide⟩) (by show (n : Int) * 1 + 0 < 24; omega) (by decide) (c_fit I ga y ?_)
      have e6 : M1 (12 + 1) ((n : Int) * 1 + 0) = σ 6 n := by
        rw [show (n : Int) * 1 + 0 = n from by omega, ← a1]
        simp [absC, msk]
        omega
      rw [e6]
      refine ⟨fun e => ?_, fun e => no (fun q => e q.2.2)⟩
      rw [if_pos ⟨z.2, y.2, e⟩] at f
      have := ih (n + 1) (by omega) f
      rw [n1] at this
      exact this
  exact lp _ 0 (by omega) fin
theorem sR_check {M : gSt} {k : Int → gSt → Prop} (I : iN (absR M)) (J : iB (absR M)) (P : iP (absR M)) (G : iG (absR M)) (hh : ∀ r M', wrap r = wrap (S_check (absR M)).1 → absR M' = (S_check (absR M)).2 → fr M M' → k r M') : w_Rcheck M k := by
  have I' := I
  unfold iN at I'
  have hx := iN_t I
  unfold w_Rcheck
  intro W eW M0 e0
  have F0 : fr M M0 := by rw [e0]; exact fr_wr (by decide) (fun _ => by omega)
  have a0 : absR M0 = up1 (absR M) 0 7 0 := by rw [e0]; exact sp_Rsc (by decide) (by decide) hx
  rw [rdS M 7 (by decide) (by decide)] at eW
  generalize hA : absR M = σ at *
  have s1 : (up1 σ 0 7 0) 1 = σ 1 := wrO' (by decide)
  have s3 : (up1 σ 0 7 0) 3 = σ 3 := wrO' (by decide)
  have s4 : (up1 σ 0 7 0) 4 = σ 4 := wrO' (by decide)
  have s0 : ∀ i, i ≠ 7 → (up1 σ 0 7 0) 0 i = σ 0 i := fun i h => wrN h
  have t7 : (up1 σ 0 7 0) 0 7 = 0 := wrI
  have I2 : iN (up1 σ 0 7 0) := by
    unfold iN
    rw [s0 0 (by decide), s0 1 (by decide), s0 2 (by decide), s0 3 (by decide), s0 4 (by decide), s0 5 (by decide), s0 6 (by decide), s0 9 (by decide), s0 10 (by decide), t7]
    omega
  have J2 : iB (up1 σ 0 7 0) := by unfold iB; rw [s1]; exact J
  have P2 : iP (up1 σ 0 7 0) := by unfold iP; rw [s3, s0 3 (by decide)]; exact P
  have G2 : iG (up1 σ 0 7 0) := by unfold iG; rw [s4, s0 4 (by decide)]; exact G
  have q3 := s0 3 (by decide)
  have fc : fC (up1 σ 0 7 0) = fC σ := by
    unfold fC
    rw [q3]
    exact (fl_cg s1 s3 s4 q3 (s0 4 (by decide)) _).1
  have ff : fF (up1 σ 0 7 0) = fF σ := by
    unfold fF
    rw [q3]
    exact (fl_cg s1 s3 s4 q3 (s0 4 (by decide)) _).2
  refine r_find a0 I2 J2 P2 G2 (fun M1 fo => ?_)
  obtain ⟨a1, F1, c1, l1⟩ := gRd_of fo
  rw [fc] at c1 l1
  rw [ff] at l1
  have rC := fC_rng I
  have mr : ckM σ = if σ 0 7 < fC σ then fC σ else σ 0 7 := rfl
  have m2 : 0 ≤ ckM σ ∧ ckM σ ≤ 64 ∧ σ 0 7 ≤ ckM σ ∧ fC σ ≤ ckM σ ∧ (ckM σ = σ 0 7 ∨ ckM σ = fC σ) := by rw [mr]; split <;> omega
  have fin : ∀ r, wrap r = wrap (ckS σ (ckM σ).toNat 0) → k r M1 := fun r e => hh r M1 e a1 (fr_trans F0 F1)
  have e6 : ∀ n : Int, 0 ≤ n → n < 24 → M1 1 (512 + n) = σ 6 n := fun n x y => by
    have : M1 1 (512 + n) = absR M1 6 n := by simp [absR, absS, msk, x, y]
    rw [this, a1]
    rfl
  refine ⟨(ckM σ).toNat + 1, ?_⟩
  subst eW
  have lp : ∀ (r n : Nat), n + r = (ckM σ).toNat → (n : Int) ≤ σ 0 7 → (n : Int) ≤ fC σ → (∀ r', wrap r' = wrap (ckS σ r n) → k r' M1) → wL_Rcheck_22 k (fun u1_22 u2_22 M22 => wB_Rcheck_60 k u1_22 u2_22 M22) (r + 1) (σ 0 7) n M1 := by
    intro r
    induction r with
    | zero =>
      intro n hn hw hc f
      have e0 : wB_Rcheck_60 k (σ 0 7) n M1 := by
        unfold wB_Rcheck_60
        rw [c1, wI (x := σ 0 7) ⟨by omega, by omega⟩, wI (x := (n : Int)) ⟨by omega, by omega⟩, wI (x := fC σ) ⟨by omega, by omega⟩]
        exact ⟨fun z => absurd z (by omega), fun _ => ⟨fun z => absurd z (by omega), fun _ => f 0 rfl⟩⟩
      unfold wL_Rcheck_22 wC_Rcheck_22
      rw [wI (x := σ 0 7) ⟨by omega, by omega⟩, wI (x := (n : Int)) ⟨by omega, by omega⟩]
      exact ⟨fun _ => e0, fun z => absurd z (by omega)⟩
    | succ r ih =>
      intro n hn hw hc f
      rw [ckS_s] at f
      have no : ¬ ((n : Int) < σ 0 7 ∧ (n : Int) < fC σ ∧ wrap (σ 6 n) = wrap (fF σ n)) → wB_Rcheck_60 k (σ 0 7) n M1 := fun z => by
        rw [if_neg z] at f
        unfold wB_Rcheck_60
        rw [c1, wI (x := σ 0 7) ⟨by omega, by omega⟩, wI (x := (n : Int)) ⟨by omega, by omega⟩, wI (x := fC σ) ⟨by omega, by omega⟩]
        exact ⟨fun _ => f _ rfl, fun a => ⟨fun _ => f _ rfl, fun b => absurd a (by omega)⟩⟩
      unfold wL_Rcheck_22 wC_Rcheck_22
      rw [c1, wI (x := σ 0 7) ⟨by omega, by omega⟩, wI (x := (n : Int)) ⟨by omega, by omega⟩, wI (x := fC σ) ⟨by omega, by omega⟩]
      refine ⟨fun z => no (fun y => absurd y.1 (by omega)), fun hw2 => ⟨fun z => no (fun y => absurd y.2.1 (by omega)), fun hc2 => ⟨⟨by omega, by omega⟩, ⟨by omega, by omega⟩, ?_⟩⟩⟩
      rw [e6 n (by omega) (by omega), l1 n (by omega) hc2]
      refine ⟨fun e => no (fun q => e q.2.2), fun e => ?_⟩
      rw [if_pos ⟨hw2, hc2, e⟩] at f
      have := ih (n + 1) (by omega) (by omega) (by omega) f
      rw [n1] at this
      exact this
  exact lp _ 0 (by omega) (by omega) (by omega) fin
end
