-- bits of a set; fits: both sides
def bcA (a : Int) : Int := a - (xand (xushr a 1) 1431655765)
def bcB (a : Int) : Int := (xand a 858993459) + (xand (xushr a 2) 858993459)
def bcD (a : Int) : Int := xand (a + (xushr a 4)) 252645135
def bcE (a : Int) : Int := a + (xushr a 8)
def bcF (a : Int) : Int := a + (xushr a 16)
/-- how many bits -/
def bc (a : Int) : Int := xand (bcF (bcE (bcD (bcB (bcA a))))) 63
def rbs : Nat → Int → Int → Option Int
  | 0, v, x => if wrap x = 0 then some v else none
  | n + 1, v, x => if wrap x = 0 then some v else rbs n (v + 1) (xand x (x - 1))
theorem ofInt_nat {a : Nat} (h : a < 2147483648) : (Int32.ofInt (a : Int)).toBitVec.toNat = a := by
  show (BitVec.ofInt 32 (a : Int)).toNat = a
  rw [BitVec.toNat_ofInt]
  omega
theorem xand_nat {a b : Nat} (ha : a < 2147483648) (hb : b < 2147483648) : xand (a : Int) (b : Int) = ((a &&& b : Nat) : Int) := by
  unfold xand
  have hn : (Int32.ofInt (a : Int) &&& Int32.ofInt (b : Int)).toBitVec.toNat = a &&& b := by
    rw [Int32.toBitVec_and, BitVec.toNat_and, ofInt_nat ha, ofInt_nat hb]
  have hl : a &&& b ≤ a := Nat.and_le_left
  show (Int32.ofInt (a : Int) &&& Int32.ofInt (b : Int)).toBitVec.toInt = _
  rw [BitVec.toInt_eq_toNat_of_lt (by rw [hn]; omega), hn]
theorem xushr_nat {a k : Nat} {s : Int} (ha : a < 2147483648) (hs : (((Int32.ofInt s).toUInt32 &&& Int32.toUInt32 31).toBitVec % 32).toNat = k) : xushr (a : Int) s = ((a / 2 ^ k : Nat) : Int) := by
  have h := pk_ushr (Int32.ofInt (a : Int)) (Int32.ofInt s) k hs
  unfold xushr
  generalize ((Int32.ofInt (a : Int)).toUInt32 >>> ((Int32.ofInt s).toUInt32 &&& Int32.toUInt32 31)).toInt32 = v at h ⊢
  rw [ofInt_nat ha] at h
  have hl : a / 2 ^ k ≤ a := Nat.div_le_self _ _
  show v.toBitVec.toInt = _
  rw [BitVec.toInt_eq_toNat_of_lt (by rw [h]; omega), h]
def nrbs : Nat → Nat → Nat → Option Nat
  | 0, v, x => if x = 0 then some v else none
  | n + 1, v, x => if x = 0 then some v else nrbs n (v + 1) (x &&& (x - 1))
def nA (x : Nat) : Nat := x - ((x / 2) &&& 1431655765)
def nB (x : Nat) : Nat := (x &&& 858993459) + ((x / 4) &&& 858993459)
def nD (x : Nat) : Nat := (x + x / 16) &&& 252645135
def nE (x : Nat) : Nat := x + x / 256
def nF (x : Nat) : Nat := x + x / 65536
def nbc (x : Nat) : Nat := nF (nE (nD (nB (nA x)))) &&& 63
theorem rbs_nat {r : Nat} : ∀ (n v x : Nat), x < 2147483648 → nrbs n v x = some r → rbs n (v : Int) (x : Int) = some (r : Int)
  | 0, v, x, hx, e => by
    unfold nrbs at e
    unfold rbs
    rw [wI (x := (x : Int)) ⟨by omega, by omega⟩]
    by_cases z : x = 0
    · rw [if_pos z] at e; cases e; rw [if_pos (by omega)]
    · rw [if_neg z] at e; cases e
  | n + 1, v, x, hx, e => by
    unfold nrbs at e
    unfold rbs
    rw [wI (x := (x : Int)) ⟨by omega, by omega⟩]
    by_cases z : x = 0
    · rw [if_pos z] at e; cases e; rw [if_pos (by omega)]
    · rw [if_neg z] at e
      rw [if_neg (by omega), show (x : Int) - 1 = ((x - 1 : Nat) : Int) from by omega, xand_nat hx (by omega)]
      have hl : x &&& (x - 1) ≤ x := Nat.and_le_left
      exact rbs_nat n (v + 1) _ (by omega) e
theorem bcA_nat {x : Nat} (h : x < 4096) : bcA (x : Int) = (nA x : Int) ∧ nA x < 4096 := by
  have a0 : (x / 2) &&& 1431655765 ≤ x / 2 := Nat.and_le_left
  have e := xand_nat (a := x / 2) (b := 1431655765) (by omega) (by decide)
  have s := xushr_nat (a := x) (s := 1) (k := 1) (by omega) (by decide)
  rw [show x / 2 ^ 1 = x / 2 from rfl] at s
  unfold bcA nA
  rw [s, show (1431655765 : Int) = ((1431655765 : Nat) : Int) from rfl, e]
  omega
theorem bcB_nat {x : Nat} (h : x < 4096) : bcB (x : Int) = (nB x : Int) ∧ nB x < 8192 := by
  have a0 : x &&& 858993459 ≤ x := Nat.and_le_left
  have a1 : (x / 4) &&& 858993459 ≤ x / 4 := Nat.and_le_left
  have e0 := xand_nat (a := x) (b := 858993459) (by omega) (by decide)
  have e1 := xand_nat (a := x / 4) (b := 858993459) (by omega) (by decide)
  have s := xushr_nat (a := x) (s := 2) (k := 2) (by omega) (by decide)
  rw [show x / 2 ^ 2 = x / 4 from rfl] at s
  unfold bcB nB
  rw [s, show (858993459 : Int) = ((858993459 : Nat) : Int) from rfl, e0, e1]
  omega
theorem bcD_nat {x : Nat} (h : x < 8192) : bcD (x : Int) = (nD x : Int) ∧ nD x < 16384 := by
  have a0 : (x + x / 16) &&& 252645135 ≤ x + x / 16 := Nat.and_le_left
  have e0 := xand_nat (a := x + x / 16) (b := 252645135) (by omega) (by decide)
  have s := xushr_nat (a := x) (s := 4) (k := 4) (by omega) (by decide)
  rw [show x / 2 ^ 4 = x / 16 from rfl] at s
  unfold bcD nD
  rw [s, show (x : Int) + ((x / 16 : Nat) : Int) = ((x + x / 16 : Nat) : Int) from by omega, show (252645135 : Int) = ((252645135 : Nat) : Int) from rfl, e0]
  omega
theorem bcE_nat {x : Nat} (h : x < 16384) : bcE (x : Int) = (nE x : Int) ∧ nE x < 32768 := by
  have s := xushr_nat (a := x) (s := 8) (k := 8) (by omega) (by decide)
  rw [show x / 2 ^ 8 = x / 256 from rfl] at s
  unfold bcE nE
  rw [s]
  omega
theorem bcF_nat {x : Nat} (h : x < 32768) : bcF (x : Int) = (nF x : Int) ∧ nF x < 65536 := by
  have s := xushr_nat (a := x) (s := 16) (k := 16) (by omega) (by decide)
  rw [show x / 2 ^ 16 = x / 65536 from rfl] at s
  unfold bcF nF
  rw [s]
  omega
theorem bc_nat {x : Nat} (h : x < 4096) : bc (x : Int) = (nbc x : Int) := by
  obtain ⟨a, la⟩ := bcA_nat h
  obtain ⟨b, lb⟩ := bcB_nat la
  obtain ⟨d, ld⟩ := bcD_nat lb
  obtain ⟨e, le⟩ := bcE_nat ld
  obtain ⟨f, lf⟩ := bcF_nat le
  unfold bc nbc
  rw [a, b, d, e, f]
  exact xand_nat (b := 63) (by omega) (by decide)
def bcT (x : Nat) : Bool := decide (nrbs 12 0 x = some (nbc x)) && decide (nbc x ≤ 12) && (decide (x = 0) || decide (wrap (xand (xshr (x : Int) ((Nat.log2 x : Nat) : Int)) 1) = 1))
def bcL : Nat → Nat → Bool
  | 0, _ => true
  | n + 1, b => bcT (b + n) && bcL n b
theorem bcL_s {n b : Nat} : bcL (n + 1) b = (bcT (b + n) && bcL n b) := rfl
theorem bcL_get {b : Nat} (n : Nat) (h : bcL n b = true) : ∀ j, j < n → bcT (b + j) = true := by
  induction n with
  | zero => intro j hj; exact absurd hj (Nat.not_lt_zero j)
  | succ n ih =>
    intro j hj
    rw [bcL_s, Bool.and_eq_true] at h
    by_cases e : j = n
    · rw [e]; exact h.1
    · exact ih h.2 j (by omega)
set_option maxRecDepth 100000 in
theorem bcL_0 : bcL 1024 0 = true := by decide +kernel
set_option maxRecDepth 100000 in
theorem bcL_1 : bcL 1024 1024 = true := by decide +kernel
set_option maxRecDepth 100000 in
theorem bcL_2 : bcL 1024 2048 = true := by decide +kernel
set_option maxRecDepth 100000 in
theorem bcL_3 : bcL 1024 3072 = true := by decide +kernel
theorem bc_all {x : Int} (h : 0 ≤ x ∧ x < 4096) : rbs 12 0 x = some (bc x) ∧ (0 ≤ bc x ∧ bc x ≤ 12) ∧ (x = 0 ∨ wrap (xand (xshr x ((Nat.log2 x.toNat : Nat) : Int)) 1) = 1) := by
  obtain ⟨n, rfl⟩ : ∃ n : Nat, x = (n : Int) := ⟨x.toNat, by omega⟩
  have t : bcT n = true := by
    by_cases a : n < 1024
    · have := bcL_get 1024 bcL_0 n a; rwa [Nat.zero_add] at this
    · by_cases b : n < 2048
      · have := bcL_get 1024 bcL_1 (n - 1024) (by omega); rwa [show 1024 + (n - 1024) = n from by omega] at this
      · by_cases d : n < 3072
        · have := bcL_get 1024 bcL_2 (n - 2048) (by omega); rwa [show 2048 + (n - 2048) = n from by omega] at this
        · have := bcL_get 1024 bcL_3 (n - 3072) (by omega); rwa [show 3072 + (n - 3072) = n from by omega] at this
  unfold bcT at t
  rw [Bool.and_eq_true, Bool.and_eq_true, Bool.or_eq_true] at t
  obtain ⟨⟨t1, t2⟩, t4⟩ := t
  have b := bc_nat (x := n) (by omega)
  have t1 := rbs_nat 12 0 n (by omega) (of_decide_eq_true t1)
  have t2 := of_decide_eq_true t2
  refine ⟨by rw [b]; exact t1, by omega, ?_⟩
  rw [show (n : Int).toNat = n from rfl]
  rcases t4 with t4 | t4
  · exact Or.inl (by have := of_decide_eq_true t4; omega)
  · exact Or.inr (of_decide_eq_true t4)
theorem c_bits {x : Int} {M : gSt} {k : Int → gSt → Prop} (h : k (bc x) M) : w_J6_bitCount_0f7a4 x M k := by
  unfold w_J6_bitCount_0f7a4
  intro a ea b eb c ec d ed e ee
  subst ea; subst eb; subst ec; subst ed; subst ee
  exact h
theorem rb_loop {x0 : Int} {M : gSt} {k : Int → gSt → Prop} {r : Int} (h : k r M) : ∀ (n : Nat) (v x : Int), rbs n v x = some r → wL_RbitsOf_4 x0 k (fun u1_4 M4 => k u1_4 M4) (n + 1) v x M
  | 0, v, x, e => by
    unfold wL_RbitsOf_4 wC_RbitsOf_4
    unfold rbs at e
    by_cases z : wrap x = 0
    · rw [if_pos z] at e
      cases e
      exact ⟨fun _ => h, fun n => absurd z n⟩
    · rw [if_neg z] at e; cases e
  | n + 1, v, x, e => by
    unfold wL_RbitsOf_4 wC_RbitsOf_4
    unfold rbs at e
    by_cases z : wrap x = 0
    · rw [if_pos z] at e
      cases e
      exact ⟨fun _ => h, fun n => absurd z n⟩
    · rw [if_neg z] at e
      exact ⟨fun y => absurd y z, fun _ y ey => by subst ey; exact rb_loop h n _ _ e⟩
theorem r_bits {x : Int} {M : gSt} {k : Int → gSt → Prop} (hx : 0 ≤ x ∧ x < 4096) (h : k (bc x) M) : w_RbitsOf x M k := by
  unfold w_RbitsOf
  exact ⟨13, rb_loop h 12 0 x (bc_all hx).1⟩
-- errors, any of them
theorem bad2 {M : gSt} {k : Int → gSt → Prop} {S j : Int} (h0 : 0 ≤ j) (h1 : j < 7) (hK : cK M) (hS : S = -1000000000 - j) (h : ∀ r M', wrap r = wrap S → absC M' = absC M → cK M' → k r M') : w_X8_refuse j M (fun r M' => k r M') :=
  sp_refuse h0 h1 (h _ _ (by rw [hS]) (ac_eq (fun o ho => wrO' (by unfold scr at ho; omega))) (cK_wr hK (Or.inr (by decide))))
theorem bad2R {M : gSt} {k : Int → gSt → Prop} {S j : Int} (h0 : 0 ≤ j) (h1 : j < 7) (hS : S = -1000000000 - j) (h : ∀ r M', wrap r = wrap S → absR M' = absR M → fr M M' → k r M') : w_Rerror j M (fun r M' => k r M') :=
  sp_Rerror h0 h1 (fun M' e f => h _ M' (by rw [hS]; rfl) e f)
-- the list that was found
def fC (σ : gSt) : Int := flC σ (xshl 1 (σ 0 3)).toNat
def fF (σ : gSt) : Int → Int := flF σ (xshl 1 (σ 0 3)).toNat
theorem fC_rng {σ : gSt} (I : iN σ) : 0 ≤ fC σ ∧ fC σ ≤ 64 := by
  unfold iN at I
  have p := pow_x (n := σ 0 3) ⟨by omega, by omega⟩
  have := flC_rng (σ := σ) (xshl 1 (σ 0 3)).toNat
  unfold fC
  omega
theorem fF_rng {σ : gSt} (I : iN σ) {j : Int} (h0 : 0 ≤ j) (h1 : j < fC σ) : 0 ≤ fF σ j ∧ fF σ j < 64 := by
  unfold iN at I
  have p := pow_x (n := σ 0 3) ⟨by omega, by omega⟩
  have := flF_rng (σ := σ) (xshl 1 (σ 0 3)).toNat j h0 h1
  unfold fF
  omega
def gFd (σ M0 M : gSt) : Prop := fndC σ (xshl 1 (σ 0 3)).toNat M0 M
def gRd (σ M0 M : gSt) : Prop := absR M = σ ∧ fr M0 M ∧ M 0 13 = fC σ ∧ ∀ j, 0 ≤ j → j < fC σ → M 8 j = fF σ j
theorem gRd_of {σ M0 M : gSt} (h : fndR σ (xshl 1 (σ 0 3)).toNat M0 M) : gRd σ M0 M := ⟨h.1, h.2.1, h.2.2.2.2.1, h.2.2.2.2.2⟩
theorem c_fit {σ M0 M : gSt} {j : Int} {k : Int → gSt → Prop} (I : iN σ) (g : gFd σ M0 M) (hj : 0 ≤ j ∧ j < fC σ) (h : k (fF σ j) M) : w_X2_fitting 41 j M k := by
  have r := fC_rng I
  obtain ⟨g1, g2, g3, g4, g5⟩ := g
  unfold w_X2_fitting
  refine ⟨pl_41, sp_at (W := 1) pl_44 g2 (by show 0 ≤ j ∧ j < M 44 3; rw [g4]; exact hj) ⟨by decide, by decide⟩ ⟨by show M 44 3 ≤ 1000; rw [g4]; show fC σ ≤ 1000; omega, by decide⟩ (by show j * 1 + 0 < 64; omega) (by decide) ?_⟩
  rw [show j * 1 + 0 = j from by omega]
  show k (M 45 j) M
  rw [(g5 j hj.1 hj.2).1]
  exact h
theorem c_many4 {σ M0 M : gSt} {k : Int → gSt → Prop} (g : gFd σ M0 M) (h : k (fC σ) M) : w_X4_size (41 + 3) M k := by
  refine sp_size4 pl_44 ?_
  rw [show M (41 + 3) 3 = fC σ from g.2.2.2.1]
  exact h
def andF (f : Int → Int) (a : Int) : Nat → Int
  | 0 => a
  | n + 1 => xand (andF f a n) (f n)
def orF (f : Int → Int) : Nat → Int
  | 0 => 0
  | n + 1 => xor2 (orF f n) (f n)
def mxF (f : Int → Int) : Nat → Int
  | 0 => 0
  | n + 1 => if mxF f n < bc (f n) then bc (f n) else mxF f n
theorem mxF_rng {σ : gSt} (I : iN σ) : ∀ n : Nat, (n : Int) ≤ fC σ → 0 ≤ mxF (fF σ) n ∧ mxF (fF σ) n ≤ 12
  | 0, _ => ⟨Int.le_refl _, show (0 : Int) ≤ 12 by decide⟩
  | n + 1, h => by
    have ih := mxF_rng I n (by omega)
    have f := fF_rng I (j := n) (by omega) (by omega)
    have b := (bc_all (x := fF σ n) ⟨f.1, by omega⟩).2.1
    show 0 ≤ (if mxF (fF σ) n < bc (fF σ n) then bc (fF σ n) else mxF (fF σ) n) ∧ (if mxF (fF σ) n < bc (fF σ n) then bc (fF σ n) else mxF (fF σ) n) ≤ 12
    split <;> omega
def S_fits (w : Int) (σ : gSt) : Int := if ¬ (0 ≤ w ∧ w ≤ 4) then -1000000000 - 1 else if fC σ = 0 ∧ (w = 1 ∨ w = 4) then -1000000000 - 2 else if w = 0 then fC σ else if w = 1 then fF σ 0 else if w = 2 then andF (fF σ) (xshl 1 (σ 0 3) - 1) (fC σ).toNat else if w = 3 then orF (fF σ) (fC σ).toNat else σ 0 3 - mxF (fF σ) (fC σ).toNat
theorem n1 (n : Nat) : ((n + 1 : Nat) : Int) = (n : Int) + 1 := by omega
theorem sC_fits {w : Int} {M : gSt} {k : Int → gSt → Prop} (i0 : inI w) (I : iN (absC M)) (J : iB (absC M)) (P : iP (absC M)) (G : iG (absC M)) (hK : cK M) (hh : ∀ r M', wrap r = wrap (S_fits w (absC M)) → absC M' = absC M → cK M' → k r M') : w_X8_fits w M k := by
  have I' := I
  unfold iN at I'
  generalize hA : absC M = σ at *
  have rC := fC_rng I
  unfold w_X8_fits
  refine sp_within i0 (by constructor <;> decide) (by constructor <;> decide) (fun h0 => z1n ?_) (fun h0 => z0n (bad2 (S := S_fits w σ) (by decide) (by decide) hK (if_pos h0) (fun r M' a b c => hh r M' a (b.trans hA) c)))
  refine c_find hA hK I J P G (fun M1 g => ?_)
  change gFd σ M M1 at g
  obtain ⟨a1, K1⟩ := fnd_abs g hK
  rw [hA] at a1
  have n3 := rc03 M1
  rw [a1] at n3
  unfold w_X8_allPapers
  refine sp_size4 pl_8 ?_
  dsimp only
  rw [← n3]
  unfold w_X2_size
  refine ⟨pl_41, c_many4 g ?_⟩
  dsimp only
  rw [wI (x := fC σ) ⟨by omega, by omega⟩, wI i0]
  have fin : ∀ r, wrap r = wrap (S_fits w σ) → k r M1 := fun r e => hh r M1 e a1 K1
  have main : ¬ (fC σ = 0 ∧ (w = 1 ∨ w = 4)) → wB_X8_fits_57 w k (xshl 1 (σ 0 3) - 1) M1 := by
    intro hn
    have hS : S_fits w σ = _ := (if_neg (fun q => q h0)).trans (if_neg hn)
    rw [hS] at fin
    unfold wB_X8_fits_57
    rw [wI i0]
    refine ⟨fun e => ?_, fun e => ?_, fun e => ?_, fun e => ?_, fun e => ?_⟩
    · rw [if_pos e] at fin
      unfold w_X2_size
      exact ⟨pl_41, c_many4 g (fin _ rfl)⟩
    · rw [if_neg (by omega), if_pos e] at fin
      exact c_fit I g ⟨by omega, by omega⟩ (fin _ rfl)
    · rw [if_neg (by omega), if_neg (by omega), if_pos e] at fin
      unfold w_X2_inAll
      refine ⟨pl_41, (fC σ).toNat + 1, ?_⟩
      have lp : ∀ (r n : Nat), n + r = (fC σ).toNat → wL_X2_inAll_4 41 (xshl 1 (σ 0 3) - 1) k (fun u2_4 M4 => k u2_4 M4) (r + 1) (andF (fF σ) (xshl 1 (σ 0 3) - 1) n) n M1 := by
        intro r
        induction r with
        | zero =>
          intro n hn
          unfold wL_X2_inAll_4 wC_X2_inAll_4
          refine c_many4 g ?_
          rw [wI (x := fC σ) ⟨by omega, by omega⟩, wI (x := (n : Int)) ⟨by omega, by omega⟩]
          refine ⟨fun _ => fin _ (by rw [show (fC σ).toNat = n from by omega]), fun z => absurd z (by omega)⟩
        | succ r ih =>
          intro n hn
          unfold wL_X2_inAll_4 wC_X2_inAll_4
          refine c_many4 g ?_
          rw [wI (x := fC σ) ⟨by omega, by omega⟩, wI (x := (n : Int)) ⟨by omega, by omega⟩]
          refine ⟨fun z => absurd z (by omega), fun _ => c_fit I g ⟨by omega, by omega⟩ (fun x ex => ?_)⟩
          subst ex
          have := ih (n + 1) (by omega)
          rw [n1] at this
          exact this
      exact lp _ 0 (by omega)
    · rw [if_neg (by omega), if_neg (by omega), if_neg (by omega), if_pos e] at fin
      unfold w_X2_inAny
      refine ⟨pl_41, (fC σ).toNat + 1, ?_⟩
      have lp : ∀ (r n : Nat), n + r = (fC σ).toNat → wL_X2_inAny_4 41 k (fun u1_4 M4 => k u1_4 M4) (r + 1) (orF (fF σ) n) n M1 := by
        intro r
        induction r with
        | zero =>
          intro n hn
          unfold wL_X2_inAny_4 wC_X2_inAny_4
          refine c_many4 g ?_
          rw [wI (x := fC σ) ⟨by omega, by omega⟩, wI (x := (n : Int)) ⟨by omega, by omega⟩]
          refine ⟨fun _ => fin _ (by rw [show (fC σ).toNat = n from by omega]), fun z => absurd z (by omega)⟩
        | succ r ih =>
          intro n hn
          unfold wL_X2_inAny_4 wC_X2_inAny_4
          refine c_many4 g ?_
          rw [wI (x := fC σ) ⟨by omega, by omega⟩, wI (x := (n : Int)) ⟨by omega, by omega⟩]
          refine ⟨fun z => absurd z (by omega), fun _ => c_fit I g ⟨by omega, by omega⟩ (fun x ex => ?_)⟩
          subst ex
          have := ih (n + 1) (by omega)
          rw [n1] at this
          exact this
      exact lp _ 0 (by omega)
    · rw [if_neg (by omega), if_neg (by omega), if_neg (by omega), if_neg (by omega)] at fin
      refine sp_size4 pl_8 ?_
      rw [← n3]
      unfold w_X2_mostPapers
      refine ⟨pl_41, (fC σ).toNat + 1, ?_⟩
      have lp : ∀ (r n : Nat), n + r = (fC σ).toNat → wL_X2_mostPapers_4 41 (fun r136c M136 => k (σ 0 3 - r136c) M136) (fun u1_4 M4 => k (σ 0 3 - u1_4) M4) (r + 1) (mxF (fF σ) n) n M1 := by
        intro r
        induction r with
        | zero =>
          intro n hn
          unfold wL_X2_mostPapers_4 wC_X2_mostPapers_4
          refine c_many4 g ?_
          rw [wI (x := fC σ) ⟨by omega, by omega⟩, wI (x := (n : Int)) ⟨by omega, by omega⟩]
          refine ⟨fun _ => fin _ (by rw [show (fC σ).toNat = n from by omega]), fun z => absurd z (by omega)⟩
        | succ r ih =>
          intro n hn
          have mr := mxF_rng I n (by omega)
          have fr := fF_rng I (j := n) (by omega) (by omega)
          have br := (bc_all (x := fF σ n) ⟨fr.1, by omega⟩).2.1
          unfold wL_X2_mostPapers_4 wC_X2_mostPapers_4
          refine c_many4 g ?_
          rw [wI (x := fC σ) ⟨by omega, by omega⟩, wI (x := (n : Int)) ⟨by omega, by omega⟩]
          refine ⟨fun z => absurd z (by omega), fun _ => c_fit I g ⟨by omega, by omega⟩ (c_bits (fun x ex => ?_))⟩
          rw [xmax_in ⟨by omega, by omega⟩ ⟨by omega, by omega⟩] at ex
          have := ih (n + 1) (by omega)
          rw [n1, show mxF (fF σ) (n + 1) = x from ex.symm] at this
          exact this
      exact lp _ 0 (by omega)
  have err : fC σ = 0 ∧ (w = 1 ∨ w = 4) → wB_X8_fits_51 w k M1 := by
    intro hn
    unfold wB_X8_fits_51
    exact bad2 (S := S_fits w σ) (by decide) (by decide) K1 ((if_neg (fun q => q h0)).trans (if_pos hn)) (fun r M' a b c => hh r M' a (b.trans a1) c)
  exact ⟨fun z => main (fun q => z q.1), fun z => ⟨fun e => err ⟨z, Or.inl e⟩, fun e => ⟨fun e2 => main (fun q => q.2.elim e e2), fun e2 => err ⟨z, Or.inr e2⟩⟩⟩⟩
theorem sR_fits {w : Int} {M : gSt} {k : Int → gSt → Prop} (i0 : inI w) (I : iN (absR M)) (J : iB (absR M)) (P : iP (absR M)) (G : iG (absR M)) (hh : ∀ r M', wrap r = wrap (S_fits w (absR M)) → absR M' = absR M → fr M M' → k r M') : w_Rfits w M k := by
  have I' := I
  unfold iN at I'
  generalize hA : absR M = σ at *
  have rC := fC_rng I
  unfold w_Rfits
  refine sp_Rin i0 (by constructor <;> decide) (by constructor <;> decide) (fun h0 => z1n ?_) (fun h0 => z0n (bad2R (S := S_fits w σ) (by decide) (by decide) (if_pos h0) (fun r M' a b c => hh r M' a (b.trans hA) c)))
  refine r_find hA I J P G (fun M1 f => ?_)
  obtain ⟨a1, F1, c1, l1⟩ := gRd_of f
  have n3 : M1 1 3 = σ 0 3 := by rw [rdS M1 3 (by decide) (by decide), a1]
  have fin : ∀ r, wrap r = wrap (S_fits w σ) → k r M1 := fun r e => hh r M1 e a1 F1
  unfold w_RallPapers
  dsimp only
  rw [n3]
  refine ⟨(fC σ).toNat + 1, ?_⟩
  have main : ¬ (fC σ = 0 ∧ (w = 1 ∨ w = 4)) → wB_Rfits_122 w k (andF (fF σ) (xshl 1 (σ 0 3) - 1) (fC σ).toNat) (orF (fF σ) (fC σ).toNat) (mxF (fF σ) (fC σ).toNat) M1 := by
    intro hn
    have hS : S_fits w σ = _ := (if_neg (fun q => q h0)).trans (if_neg hn)
    rw [hS] at fin
    unfold wB_Rfits_122
    rw [wI i0, c1, n3]
    refine ⟨fun e0 => ⟨fun e1 => ⟨fun e2 => ⟨fun e3 => ?_, fun e3 => ?_⟩, fun e2 => ?_⟩, fun e1 => ?_⟩, fun e0 => ?_⟩
    · rw [if_neg e0, if_neg e1, if_neg e2, if_neg e3] at fin; exact fin _ rfl
    · rw [if_neg e0, if_neg e1, if_neg (by omega), if_pos e3] at fin; exact fin _ rfl
    · rw [if_neg e0, if_neg e1, if_pos e2] at fin; exact fin _ rfl
    · rw [if_neg e0, if_pos e1] at fin
      rw [l1 0 (by decide) (by omega)]
      exact fin _ rfl
    · rw [if_pos e0] at fin; exact fin _ rfl
  have mid : (w = 1 ∨ w = 4) → wB_Rfits_109 w k (andF (fF σ) (xshl 1 (σ 0 3) - 1) (fC σ).toNat) (orF (fF σ) (fC σ).toNat) (mxF (fF σ) (fC σ).toNat) M1 := by
    intro hw
    unfold wB_Rfits_109
    rw [c1, wI (x := fC σ) ⟨by omega, by omega⟩]
    exact ⟨fun z => main (fun q => z q.1), fun z => bad2R (S := S_fits w σ) (by decide) (by decide) ((if_neg (fun q => q h0)).trans (if_pos ⟨z, hw⟩)) (fun r M' a b c => hh r M' a (b.trans a1) (fr_trans F1 c))⟩
  have lp : ∀ (r n : Nat), n + r = (fC σ).toNat → wL_Rfits_32 w k (fun u2_32 u3_32 u4_32 M32 => (wrap w = 1 → wB_Rfits_109 w k u2_32 u3_32 u4_32 M32) ∧ (¬ wrap w = 1 → (¬ wrap w = 4 → wB_Rfits_122 w k u2_32 u3_32 u4_32 M32) ∧ (wrap w = 4 → wB_Rfits_109 w k u2_32 u3_32 u4_32 M32))) (r + 1) (andF (fF σ) (xshl 1 (σ 0 3) - 1) n) (orF (fF σ) n) (mxF (fF σ) n) n M1 := by
    intro r
    induction r with
    | zero =>
      intro n hn
      unfold wL_Rfits_32 wC_Rfits_32
      rw [c1, wI (x := fC σ) ⟨by omega, by omega⟩, wI (x := (n : Int)) ⟨by omega, by omega⟩, wI i0, show n = (fC σ).toNat from by omega]
      refine ⟨fun _ => ⟨fun e => mid (Or.inl e), fun e => ⟨fun e2 => main (fun q => q.2.elim e e2), fun e2 => mid (Or.inr e2)⟩⟩, fun z => absurd z (by omega)⟩
    | succ r ih =>
      intro n hn
      have mr := mxF_rng I n (by omega)
      have fr := fF_rng I (j := n) (by omega) (by omega)
      have br := (bc_all (x := fF σ n) ⟨fr.1, by omega⟩).2.1
      have e8 := l1 n (by omega) (by omega)
      unfold wL_Rfits_32 wC_Rfits_32
      rw [c1, e8, wI (x := fC σ) ⟨by omega, by omega⟩, wI (x := (n : Int)) ⟨by omega, by omega⟩]
      refine ⟨fun z => absurd z (by omega), fun _ => ⟨⟨by omega, by omega⟩, fun x ex => ⟨⟨by omega, by omega⟩, fun y ey => ⟨⟨by omega, by omega⟩, r_bits ⟨fr.1, by omega⟩ ?_⟩⟩⟩⟩
      rw [e8, wI (x := bc (fF σ n)) ⟨by omega, by omega⟩, wI (x := mxF (fF σ) n) ⟨by omega, by omega⟩]
      have := ih (n + 1) (by omega)
      rw [n1, show andF (fF σ) (xshl 1 (σ 0 3) - 1) (n + 1) = x from ex.symm, show orF (fF σ) (n + 1) = y from ey.symm] at this
      have ms : mxF (fF σ) (n + 1) = if mxF (fF σ) n < bc (fF σ n) then bc (fF σ n) else mxF (fF σ) n := rfl
      unfold wB_Rfits_91
      refine ⟨fun z => ?_, fun z => ⟨⟨by omega, by omega⟩, r_bits ⟨fr.1, by omega⟩ ?_⟩⟩
      · rw [ms, if_neg (by omega)] at this; exact this
      · rw [ms, if_pos z] at this; exact this
  exact lp _ 0 (by omega)
