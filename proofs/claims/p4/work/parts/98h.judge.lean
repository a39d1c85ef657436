-- judge, check: both sides
def jdS (σ : gSt) (q : Int) (B : Int → Int) : Nat → Nat → Int
  | 0, n => n
  | r + 1, n => if (n : Int) < σ 24 q ∧ σ 25 (24 * q + n) = B (10 * n + 2) then jdS σ q B r (n + 1) else n
theorem jdS_s {σ : gSt} {q : Int} {B : Int → Int} {r n : Nat} : jdS σ q B (r + 1) n = if (n : Int) < σ 24 q ∧ σ 25 (24 * q + n) = B (10 * n + 2) then jdS σ q B r (n + 1) else (n : Int) := rfl
def S_judge (q h : Int) (σ : gSt) : Int := if ¬ ((0 ≤ q ∧ q < 4) ∧ (0 ≤ h ∧ h ≤ xshl 1 (σ 0 3) - 1)) then -1000000000 - 1 else if σ 23 q = 0 then -1000000000 - 2 else jdS σ q (hisB σ h) (σ 0 0).toNat 0
theorem c_isHis {σ M : gSt} {h : Int} {k : Int → gSt → Prop} (hA : absC M = σ) (I : iN σ) (i0 : inI h) (k1 : 0 ≤ h ∧ h ≤ xshl 1 (σ 0 3) - 1 → k 1 M) (k0 : ¬ (0 ≤ h ∧ h ≤ xshl 1 (σ 0 3) - 1) → k 0 M) : w_X8_isHistory h M k := by
  unfold iN at I
  have n3 := rc03 M
  rw [hA] at n3
  have ar := allP_rng (n := σ 0 3) ⟨by omega, by omega⟩
  unfold w_X8_isHistory w_X8_allPapers
  refine sp_size4 pl_8 ?_
  dsimp only
  rw [← n3]
  exact sp_within i0 (by constructor <;> decide) ⟨by omega, by omega⟩ (fun h0 => ⟨Or.inr rfl, k1 h0⟩) (fun h0 => ⟨Or.inl rfl, k0 h0⟩)
theorem sC_judge {q h : Int} {M : gSt} {k : Int → gSt → Prop} (i0 : inI q) (i1 : inI h) (I : iN (absC M)) (J : iB (absC M)) (P : iP (absC M)) (S : iSh (absC M)) (hK : cK M) (hh : ∀ r M', wrap r = wrap (S_judge q h (absC M)) → absC M' = absC M → cK M' → k r M') : w_X8_judge q h M k := by
  have I' := I
  unfold iN at I'
  generalize hA : absC M = σ at *
  have bd : ¬ ((0 ≤ q ∧ q < 4) ∧ (0 ≤ h ∧ h ≤ xshl 1 (σ 0 3) - 1)) → wB_X8_judge_18 q h k M := fun z => bad2 (S := S_judge q h σ) (by decide) (by decide) hK (if_pos z) (fun r M' a b c => hh r M' a (b.trans hA) c)
  unfold w_X8_judge
  refine shC i0 (fun o ho hq => ⟨fun z => absurd z (by simp), fun o2 e2 => ?_⟩) (fun hq => ⟨fun _ => bd (fun z => hq z.1), fun o2 e2 => by cases e2⟩)
  cases e2
  refine c_isHis hA I i1 (fun hz => z1n ?_) (fun hz => z0n (bd (fun z => hz z.2)))
  have hg : ¬ ¬ ((0 ≤ q ∧ q < 4) ∧ (0 ≤ h ∧ h ≤ xshl 1 (σ 0 3) - 1)) := fun z => z ⟨hq, hz⟩
  obtain ⟨p1, p2, p3⟩ := pl_sh (o := o) (by omega)
  obtain ⟨b1, b2, b3⟩ := S q hq.1 hq.2
  have eb := rB M hq ho
  have es := rS M hq ho
  rw [hA] at eb es
  refine sp_missing p1 ⟨by omega, by omega⟩ (fun z => z1 (bad2 (S := S_judge q h σ) (by decide) (by decide) hK ((if_neg hg).trans (if_pos (by omega))) (fun r M' a b c => hh r M' a (b.trans hA) c))) (fun nz => z0 ?_)
  have hS : S_judge q h σ = _ := (if_neg hg).trans (if_neg (by omega))
  rw [hS] at hh
  refine c_follow hA hK I J P (fun M1 f => ?_)
  have a1 : absC M1 = σ := (ac_eq (fun o ho => f.1 o (by unfold scr at ho; omega) (by unfold scr at ho; omega))).trans hA
  have K1 : cK M1 := cK_eq hK (fun o a b c d i hi => by rw [f.1 o (by omega) (by omega)])
  have ok := his_ok (h := h) I J P
  have n0 := rc00 M1
  rw [a1] at n0
  have mo : M1 o = M o := f.1 o (by omega) (by omega)
  have mo1 : M1 (o + 1) = M (o + 1) := f.1 (o + 1) (by omega) (by omega)
  unfold w_X0_size
  refine ⟨pl_2, ?_⟩
  dsimp only
  rw [← n0]
  refine ⟨(σ 0 0).toNat + 1, ?_⟩
  have lp : ∀ (r n : Nat), n + r = (σ 0 0).toNat → (∀ x, wrap x = wrap (jdS σ q (hisB σ h) r n) → k x M1) → wL_X8_judge_64 q h k (fun u5_64 M64 => k u5_64 M64) (fun u4_64 M64 => k u4_64 M64) (r + 1) o (σ 0 0) n M1 := by
    intro r
    induction r with
    | zero =>
      intro n hn fin
      unfold wL_X8_judge_64 wC_X8_judge_64
      rw [wI (x := σ 0 0) ⟨by omega, by omega⟩, wI (x := (n : Int)) ⟨by omega, by omega⟩]
      exact ⟨fun _ => fin _ (by rw [show σ 0 0 = (n : Int) from by omega]; rfl), fun z => absurd z (by omega)⟩
    | succ r ih =>
      intro n hn fin
      have o2 := (ok n (by omega) (by omega)).2.2.1
      unfold wL_X8_judge_64 wC_X8_judge_64
      rw [wI (x := σ 0 0) ⟨by omega, by omega⟩, wI (x := (n : Int)) ⟨by omega, by omega⟩]
      refine ⟨fun z => absurd z (by omega), fun _ => sp_has5 p1 ⟨by omega, by omega⟩ (by rw [mo]; exact ⟨by omega, by omega⟩) (fun z => z1 ?_) (fun z => z0 ?_)⟩
      · rw [mo, ← es] at z
        refine sp_at5 p1 p3 (by rw [mo, ← es]; exact z) (by rw [mo, ← es]; omega) ?_
        unfold w_X2_numberBehind
        refine ⟨pl_41, sp_number pl_42 rfl ⟨by omega, by omega⟩ (by decide) ?_⟩
        have en := rN M hq ho (j := n) (by omega) (by omega)
        rw [hA] at en
        have ib := b3 n (by omega) (by omega)
        rw [mo1, ← en, show M1 (41 + 1 + 1) (10 * (n : Int) + 2) = hisB σ h (10 * n + 2) from f.2 _ (by omega) (by omega), wI ib]
        dsimp only
        rw [wI (x := hisB σ h (10 * n + 2)) ⟨by omega, by omega⟩]
        rw [jdS_s] at fin
        refine ⟨fun e => ?_, fun e => ?_⟩
        · rw [if_pos ⟨z.2, e⟩] at fin
          have := ih (n + 1) (by omega) fin
          rw [n1] at this
          exact this
        · rw [if_neg (fun y => e y.2)] at fin
          exact fin _ rfl
      · rw [mo, ← es] at z
        rw [jdS_s, if_neg (fun y => z ⟨by omega, y.1⟩)] at fin
        exact fin _ rfl
  exact lp _ 0 (by omega) (fun x e => hh x M1 e a1 K1)
theorem r_isHis {σ M : gSt} {h : Int} {k : Int → gSt → Prop} (hA : absR M = σ) (I : iN σ) (i0 : inI h) (k1 : 0 ≤ h ∧ h ≤ xshl 1 (σ 0 3) - 1 → k 1 M) (k0 : ¬ (0 ≤ h ∧ h ≤ xshl 1 (σ 0 3) - 1) → k 0 M) : w_RisHistory h M k := by
  unfold iN at I
  have ar := allP_rng (n := σ 0 3) ⟨by omega, by omega⟩
  unfold w_RisHistory w_RallPapers
  rw [rdS M 3 (by decide) (by decide), hA]
  exact sp_Rin i0 (by constructor <;> decide) ⟨by omega, by omega⟩ (fun h0 => ⟨Or.inr rfl, k1 h0⟩) (fun h0 => ⟨Or.inl rfl, k0 h0⟩)
theorem sR_judge {q h : Int} {M : gSt} {k : Int → gSt → Prop} (i0 : inI q) (i1 : inI h) (I : iN (absR M)) (J : iB (absR M)) (P : iP (absR M)) (S : iSh (absR M)) (hh : ∀ r M', wrap r = wrap (S_judge q h (absR M)) → absR M' = absR M → fr M M' → k r M') : w_Rjudge q h M k := by
  have I' := I
  unfold iN at I'
  generalize hA : absR M = σ at *
  have bd : ¬ ((0 ≤ q ∧ q < 4) ∧ (0 ≤ h ∧ h ≤ xshl 1 (σ 0 3) - 1)) → wB_Rjudge_17 q h k 1 M := fun z => ⟨fun y => absurd y (by decide), fun _ => bad2R (S := S_judge q h σ) (by decide) (by decide) (if_pos z) (fun r M' a b c => hh r M' a (b.trans hA) c)⟩
  unfold w_Rjudge
  refine r_isHis hA I i1 (fun hz => z1 ?_) (fun hz => z0 (bd (fun z => hz z.2)))
  unfold w_Rlacks
  refine sp_RisSheet i0 (fun hq => z1n ⟨hq, ?_⟩) (fun hq => z0n (bd (fun z => hq z.1)))
  have hg : ¬ ¬ ((0 ≤ q ∧ q < 4) ∧ (0 ≤ h ∧ h ≤ xshl 1 (σ 0 3) - 1)) := fun z => z ⟨hq, hz⟩
  obtain ⟨b1, b2, b3⟩ := S q hq.1 hq.2
  rw [rdBits M q hq.1 hq.2, hA, wI (x := σ 23 q) ⟨by omega, by omega⟩]
  unfold wB_Rjudge_17
  refine ⟨fun nz => ⟨fun _ => ?_, fun y => absurd y (by decide)⟩, fun z => ⟨fun y => absurd y (by decide), fun _ => bad2R (S := S_judge q h σ) (by decide) (by decide) ((if_neg hg).trans (if_pos z)) (fun r M' a b c => hh r M' a (b.trans hA) c)⟩⟩
  have hS : S_judge q h σ = _ := (if_neg hg).trans (if_neg nz)
  rw [hS] at hh
  have ok := his_ok (h := h) I J P
  refine sp_Rcarry (Or.inl rfl) (Or.inr (Or.inr rfl)) (by decide) (r_goes (aside.trans hA) I J P (fun M1 A O F => ⟨(σ 0 0).toNat + 1, ?_⟩))
  change absR M1 = cellS σ (hisB σ h) at A
  have fin : ∀ v, wrap v = wrap (jdS σ q (hisB σ h) (σ 0 0).toNat 0) → wB_Rjudge_97 q h k v M1 := fun v hv => by
    unfold wB_Rjudge_97
    exact r_back (M := M) (by rw [hA]; exact I) rfl (fun p hp => O p hp) (fun M' a f e => hh _ M' hv (a.trans hA) f)
  have lp : ∀ (r n : Nat), n + r = (σ 0 0).toNat → (∀ x, wrap x = wrap (jdS σ q (hisB σ h) r n) → wB_Rjudge_97 q h k x M1) → wL_Rjudge_47 q h k (fun u4_47 M47 => wB_Rjudge_97 q h k u4_47 M47) (r + 1) n M1 := by
    intro r
    induction r with
    | zero =>
      intro n hn fin
      unfold wL_Rjudge_47 wC_Rjudge_47
      rw [rdS M1 0 (by decide) (by decide), A, show cellS σ (hisB σ h) 0 0 = σ 0 0 from rfl, wI (x := σ 0 0) ⟨by omega, by omega⟩, wI (x := (n : Int)) ⟨by omega, by omega⟩]
      exact ⟨fun _ => fin _ rfl, fun z => absurd z (by omega)⟩
    | succ r ih =>
      intro n hn fin
      have o2 := (ok n (by omega) (by omega)).2.2.1
      unfold wL_Rjudge_47 wC_Rjudge_47
      rw [rdS M1 0 (by decide) (by decide), rdSize M1 q hq.1 hq.2, A, show cellS σ (hisB σ h) 0 0 = σ 0 0 from rfl, show cellS σ (hisB σ h) 24 q = σ 24 q from rfl, wI (x := σ 0 0) ⟨by omega, by omega⟩, wI (x := (n : Int)) ⟨by omega, by omega⟩, wI (x := σ 24 q) ⟨by omega, by omega⟩]
      rw [jdS_s] at fin
      refine ⟨fun z => absurd z (by omega), fun _ => ⟨hq, fun z => ?_, fun z => ⟨⟨by omega, by omega⟩, sp_Rits ⟨by omega, by omega⟩ (by decide) ?_⟩⟩⟩
      · rw [if_neg (fun y => absurd y.1 (by omega))] at fin
        exact fin _ rfl
      · have ib := b3 n (by omega) (by omega)
        rw [rdNum M1 _ (by omega) (by omega), A, show cellS σ (hisB σ h) 25 (24 * q + (n : Int)) = σ 25 (24 * q + n) from rfl, show cellS σ (hisB σ h) 1 (10 * (n : Int) + 2) = hisB σ h (10 * n + 2) from rfl, wI ib, wI (x := hisB σ h (10 * n + 2)) ⟨by omega, by omega⟩]
        refine ⟨fun e => ?_, fun e => ?_⟩
        · rw [if_neg (fun y => e y.2)] at fin
          exact fin _ rfl
        · rw [if_pos ⟨z, e⟩] at fin
          have := ih (n + 1) (by omega) fin
          rw [n1] at this
          exact this
  exact lp _ 0 (by omega) fin
-- what finding reads
theorem byB_cg {σ σ' : gSt} {h : Int} (h1 : σ' 1 = σ 1) (h3 : σ' 3 = σ 3) : ∀ n : Nat, byB σ' h n = byB σ h n
  | 0 => h1
  | n + 1 => by rw [byB_s, byB_s, h3, byB_cg h1 h3 n]
theorem fitS_cg {σ σ' : gSt} {B : Int → Int} (h4 : σ' 4 = σ 4) : ∀ n : Nat, fitS σ' B n = fitS σ B n
  | 0 => rfl
  | n + 1 => by
    rw [fitS_s, fitS_s, fitS_cg h4 n]
    unfold wOk
    rw [h4]
theorem fl_cg {σ σ' : gSt} (h1 : σ' 1 = σ 1) (h3 : σ' 3 = σ 3) (h4 : σ' 4 = σ 4) (n3 : σ' 0 3 = σ 0 3) (n4 : σ' 0 4 = σ 0 4) : ∀ n : Nat, flC σ' n = flC σ n ∧ flF σ' n = flF σ n
  | 0 => ⟨rfl, rfl⟩
  | n + 1 => by
    obtain ⟨a, b⟩ := fl_cg h1 h3 h4 n3 n4 n
    have e : fitH σ' n = fitH σ n := by
      unfold fitH hisB
      rw [n3, n4, byB_cg h1 h3, fitS_cg h4]
    refine ⟨by rw [flC_s, flC_s, e, a], ?_⟩
    funext j
    rw [flF_s, flF_s, e, a, b]
def ckS (σ : gSt) : Nat → Nat → Int
  | 0, _ => 0
  | r + 1, n => if (n : Int) < σ 0 7 ∧ (n : Int) < fC σ ∧ wrap (σ 6 n) = wrap (fF σ n) then ckS σ r (n + 1) else 1 + n
theorem ckS_s {σ : gSt} {r n : Nat} : ckS σ (r + 1) n = if (n : Int) < σ 0 7 ∧ (n : Int) < fC σ ∧ wrap (σ 6 n) = wrap (fF σ n) then ckS σ r (n + 1) else 1 + (n : Int) := rfl
def ckM (σ : gSt) : Int := if σ 0 7 < fC σ then fC σ else σ 0 7
def S_check (σ : gSt) : Int × gSt := (ckS σ (ckM σ).toNat 0, up1 σ 0 7 0)
theorem sC_check {M : gSt} {k : Int → gSt → Prop} (I : iN (absC M)) (J : iB (absC M)) (P : iP (absC M)) (G : iG (absC M)) (hK : cK M) (hh : ∀ r M', wrap r = wrap (S_check (absC M)).1 → absC M' = (S_check (absC M)).2 → cK M' → k r M') : w_X8_check M k := by
  have I' := I
  unfold iN at I'
  generalize hA : absC M = σ at *
  have rC := fC_rng I
  have mr : ckM σ = if σ 0 7 < fC σ then fC σ else σ 0 7 := rfl
  have m2 : 0 ≤ ckM σ ∧ ckM σ ≤ 64 := by rw [mr]; split <;> omega
  unfold w_X8_check
  refine c_find hA hK I J P G (fun M1 ga => ?_)
  change gFd σ M M1 at ga
  obtain ⟨a1, K1⟩ := fnd_abs ga hK
  rw [hA] at a1
  have n7 := rc07 M1
  rw [a1] at n7
  have k12 := (cK_12 K1).1
  have fin : ∀ r, wrap (r + 1) = wrap (ckS σ (ckM σ).toNat 0) → w_X4_clear 12 M1 (fun M33 => k (r + 1) M33) := fun r e => sp_clear pl_12 (hh _ _ e (by rw [ac_12_3, a1]; rfl) (cK_wr K1 (Or.inl (by decide))))
  unfold w_X2_firstUnlike
  refine ⟨pl_41, pl_12, sp_size4 pl_12 (c_many4 ga (fun x ex => ⟨(ckM σ).toNat + 1, ?_⟩))⟩
  rw [← n7, xmax_in (x := σ 0 7) (y := fC σ) ⟨by omega, by omega⟩ ⟨by omega, by omega⟩] at ex
  rw [show x = ckM σ from ex]
  have lp : ∀ (r n : Nat), n + r = (ckM σ).toNat → (∀ r', wrap (r' + 1) = wrap (ckS σ r n) → w_X4_clear 12 M1 (fun M33 => k (r' + 1) M33)) → wL_X2_firstUnlike_17 41 12 (fun r22c M22 => w_X4_clear 12 M22 (fun M33 => k (r22c + 1) M33)) (fun u3_17 M17 => w_X4_clear 12 M17 (fun M33 => k (u3_17 + 1) M33)) (fun M17 => w_X4_clear 12 M17 (fun M33 => k (-1 + 1) M33)) (r + 1) (ckM σ) n M1 := by
    intro r
    induction r with
    | zero =>
      intro n hn f
      unfold wL_X2_firstUnlike_17 wC_X2_firstUnlike_17
      rw [wI (x := ckM σ) ⟨by omega, by omega⟩, wI (x := (n : Int)) ⟨by omega, by omega⟩]
      exact ⟨fun _ => f (-1) rfl, fun z => absurd z (by omega)⟩
    | succ r ih =>
      intro n hn f
      rw [ckS_s] at f
      have no : ¬ ((n : Int) < σ 0 7 ∧ (n : Int) < fC σ ∧ wrap (σ 6 n) = wrap (fF σ n)) → w_X4_clear 12 M1 (fun M33 => k ((n : Int) + 1) M33) := fun z => by
        rw [if_neg z] at f
        exact f n (by rw [Int.add_comm])
      unfold wL_X2_firstUnlike_17 wC_X2_firstUnlike_17
      rw [wI (x := ckM σ) ⟨by omega, by omega⟩, wI (x := (n : Int)) ⟨by omega, by omega⟩]
      refine ⟨fun z => absurd z (by omega), fun _ => sp_has4 pl_12 ⟨by omega, by omega⟩ (by rw [← n7]; exact ⟨by omega, by omega⟩) (fun z => z1 ?_) (fun z => z0 (no (fun y => z (by rw [← n7]; exact ⟨by omega, y.1⟩))))⟩
      rw [← n7] at z
      refine sp_has4 pl_44 ⟨by omega, by omega⟩ (by rw [show M1 44 3 = fC σ from ga.2.2.2.1]; exact ⟨by omega, by omega⟩) (fun y => z1 ?_) (fun y => z0 (no (fun q => y (by rw [show M1 44 3 = fC σ from ga.2.2.2.1]; exact ⟨by omega, q.2.1⟩))))
      rw [show M1 44 3 = fC σ from ga.2.2.2.1] at y
      refine sp_at (W := 1) pl_12 k12 (by rw [← n7]; exact z) (by decide) (by rw [← n7]; exact ⟨by omega, by decide⟩) (by show (n : Int) * 1 + 0 < 24; omega) (by decide) (c_fit I ga y ?_)
      have e6 : M1 (12 + 1) ((n : Int) * 1 + 0) = σ 6 n := by
        rw [show (n : Int) * 1 + 0 = n from by omega, ← a1]
        simp [absC, msk]
        omega
      rw [e6]
      refine ⟨fun e => ?_, fun e => no (fun q => e q.2.2)⟩
      rw [if_pos ⟨z.2, y.2, e⟩] at f
      have := ih (n + 1) (by omega) f
      rw [n1] at this
      exact this
  exact lp _ 0 (by omega) fin
theorem sR_check {M : gSt} {k : Int → gSt → Prop} (I : iN (absR M)) (J : iB (absR M)) (P : iP (absR M)) (G : iG (absR M)) (hh : ∀ r M', wrap r = wrap (S_check (absR M)).1 → absR M' = (S_check (absR M)).2 → fr M M' → k r M') : w_Rcheck M k := by
  have I' := I
  unfold iN at I'
  have hx := iN_t I
  unfold w_Rcheck
  intro W eW M0 e0
  have F0 : fr M M0 := by rw [e0]; exact fr_wr (by decide) (fun _ => by omega)
  have a0 : absR M0 = up1 (absR M) 0 7 0 := by rw [e0]; exact sp_Rsc (by decide) (by decide) hx
  rw [rdS M 7 (by decide) (by decide)] at eW
  generalize hA : absR M = σ at *
  have s1 : (up1 σ 0 7 0) 1 = σ 1 := wrO' (by decide)
  have s3 : (up1 σ 0 7 0) 3 = σ 3 := wrO' (by decide)
  have s4 : (up1 σ 0 7 0) 4 = σ 4 := wrO' (by decide)
  have s0 : ∀ i, i ≠ 7 → (up1 σ 0 7 0) 0 i = σ 0 i := fun i h => wrN h
  have t7 : (up1 σ 0 7 0) 0 7 = 0 := wrI
  have I2 : iN (up1 σ 0 7 0) := by
    unfold iN
    rw [s0 0 (by decide), s0 1 (by decide), s0 2 (by decide), s0 3 (by decide), s0 4 (by decide), s0 5 (by decide), s0 6 (by decide), s0 9 (by decide), s0 10 (by decide), t7]
    omega
  have J2 : iB (up1 σ 0 7 0) := by unfold iB; rw [s1]; exact J
  have P2 : iP (up1 σ 0 7 0) := by unfold iP; rw [s3, s0 3 (by decide)]; exact P
  have G2 : iG (up1 σ 0 7 0) := by unfold iG; rw [s4, s0 4 (by decide)]; exact G
  have q3 := s0 3 (by decide)
  have fc : fC (up1 σ 0 7 0) = fC σ := by
    unfold fC
    rw [q3]
    exact (fl_cg s1 s3 s4 q3 (s0 4 (by decide)) _).1
  have ff : fF (up1 σ 0 7 0) = fF σ := by
    unfold fF
    rw [q3]
    exact (fl_cg s1 s3 s4 q3 (s0 4 (by decide)) _).2
  refine r_find a0 I2 J2 P2 G2 (fun M1 fo => ?_)
  obtain ⟨a1, F1, c1, l1⟩ := gRd_of fo
  rw [fc] at c1 l1
  rw [ff] at l1
  have rC := fC_rng I
  have mr : ckM σ = if σ 0 7 < fC σ then fC σ else σ 0 7 := rfl
  have m2 : 0 ≤ ckM σ ∧ ckM σ ≤ 64 ∧ σ 0 7 ≤ ckM σ ∧ fC σ ≤ ckM σ ∧ (ckM σ = σ 0 7 ∨ ckM σ = fC σ) := by rw [mr]; split <;> omega
  have fin : ∀ r, wrap r = wrap (ckS σ (ckM σ).toNat 0) → k r M1 := fun r e => hh r M1 e a1 (fr_trans F0 F1)
  have e6 : ∀ n : Int, 0 ≤ n → n < 24 → M1 1 (512 + n) = σ 6 n := fun n x y => by
    have : M1 1 (512 + n) = absR M1 6 n := by simp [absR, absS, msk, x, y]
    rw [this, a1]
    rfl
  refine ⟨(ckM σ).toNat + 1, ?_⟩
  subst eW
  have lp : ∀ (r n : Nat), n + r = (ckM σ).toNat → (n : Int) ≤ σ 0 7 → (n : Int) ≤ fC σ → (∀ r', wrap r' = wrap (ckS σ r n) → k r' M1) → wL_Rcheck_22 k (fun u1_22 u2_22 M22 => wB_Rcheck_60 k u1_22 u2_22 M22) (r + 1) (σ 0 7) n M1 := by
    intro r
    induction r with
    | zero =>
      intro n hn hw hc f
      have e0 : wB_Rcheck_60 k (σ 0 7) n M1 := by
        unfold wB_Rcheck_60
        rw [c1, wI (x := σ 0 7) ⟨by omega, by omega⟩, wI (x := (n : Int)) ⟨by omega, by omega⟩, wI (x := fC σ) ⟨by omega, by omega⟩]
        exact ⟨fun z => absurd z (by omega), fun _ => ⟨fun z => absurd z (by omega), fun _ => f 0 rfl⟩⟩
      unfold wL_Rcheck_22 wC_Rcheck_22
      rw [wI (x := σ 0 7) ⟨by omega, by omega⟩, wI (x := (n : Int)) ⟨by omega, by omega⟩]
      exact ⟨fun _ => e0, fun z => absurd z (by omega)⟩
    | succ r ih =>
      intro n hn hw hc f
      rw [ckS_s] at f
      have no : ¬ ((n : Int) < σ 0 7 ∧ (n : Int) < fC σ ∧ wrap (σ 6 n) = wrap (fF σ n)) → wB_Rcheck_60 k (σ 0 7) n M1 := fun z => by
        rw [if_neg z] at f
        unfold wB_Rcheck_60
        rw [c1, wI (x := σ 0 7) ⟨by omega, by omega⟩, wI (x := (n : Int)) ⟨by omega, by omega⟩, wI (x := fC σ) ⟨by omega, by omega⟩]
        exact ⟨fun _ => f _ rfl, fun a => ⟨fun _ => f _ rfl, fun b => absurd a (by omega)⟩⟩
      unfold wL_Rcheck_22 wC_Rcheck_22
      rw [c1, wI (x := σ 0 7) ⟨by omega, by omega⟩, wI (x := (n : Int)) ⟨by omega, by omega⟩, wI (x := fC σ) ⟨by omega, by omega⟩]
      refine ⟨fun z => no (fun y => absurd y.1 (by omega)), fun hw2 => ⟨fun z => no (fun y => absurd y.2.1 (by omega)), fun hc2 => ⟨⟨by omega, by omega⟩, ⟨by omega, by omega⟩, ?_⟩⟩⟩
      rw [e6 n (by omega) (by omega), l1 n (by omega) hc2]
      refine ⟨fun e => no (fun q => e q.2.2), fun e => ?_⟩
      rw [if_pos ⟨hw2, hc2, e⟩] at f
      have := ih (n + 1) (by omega) (by omega) (by omega) f
      rw [n1] at this
      exact this
  exact lp _ 0 (by omega) (by omega) (by omega) fin
