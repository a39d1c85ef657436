-- the reference's reader: it comes to the abstract one
def tpR (T : Int → Int) (L u : Int) (M : gSt) : Prop := M 1 6 = L ∧ 0 ≤ L ∧ L ≤ 60 ∧ M 0 8 = u ∧ ∀ j, 0 ≤ j → j < L → M 1 (452 + j) = T j ∧ inI (T j)
def rdR (u : Int) (M0 τ M : gSt) : Prop := (∀ p, p ≠ 0 → p ≠ 5 → M p = M0 p) ∧ (∀ j, j ≠ 5 → j ≠ 6 → j ≠ 7 → M 0 j = M0 0 j) ∧ M 0 5 = τ 0 0 ∧ M 0 7 = τ 0 1 ∧ ∀ j, 0 ≤ j → j < τ 0 1 → M 5 (2 * j) = τ 1 j ∧ M 5 (2 * j + 1) = τ 2 j
theorem pkR {T : Int → Int} {L u : Int} {τ M : gSt} (h : tpR T L u M) (h0 : 0 ≤ τ 0 0) : inI (pk T L τ) := by
  unfold pk
  by_cases w : τ 0 0 < L
  · rw [if_pos w]; exact (h.2.2.2.2 _ h0 w).2
  · rw [if_neg w]; constructor <;> decide
theorem r_look {T : Int → Int} {L u : Int} {M0 τ M : gSt} {k : Int → gSt → Prop} (hT : tpR T L u M0) (hp : pOK L τ) (hg : rdR u M0 τ M) (h : k (pk T L τ) M) : w_Rlook M k := by
  obtain ⟨t1, t2, t3, t4, t5⟩ := hT
  obtain ⟨g1, g2, g3, g4, g5⟩ := hg
  obtain ⟨p1, p2, p3⟩ := hp
  have e1 := g1 1 (by decide) (by decide)
  unfold w_Rlook
  rw [e1, t1, g3, wI (x := L) ⟨by omega, by omega⟩, wI (x := τ 0 0) ⟨by omega, by omega⟩]
  unfold pk at h
  refine ⟨fun w => ?_, fun w => ⟨⟨by omega, by omega⟩, ?_⟩⟩
  · rw [if_neg (by omega)] at h; exact h
  · rw [if_pos w] at h
    rw [(t5 _ (by omega) w).1]; exact h
theorem rdR_adv {u : Int} {M0 τ M : gSt} (hg : rdR u M0 τ M) : rdR u M0 (adv τ) (wr M 0 5 (M 0 5 + 1)) := by
  obtain ⟨g1, g2, g3, g4, g5⟩ := hg
  refine ⟨fun p a b => by rw [wrO' a]; exact g1 p a b, fun j a b c => by rw [wrN a]; exact g2 j a b c, by rw [wrI, g3, adv_i], by rw [wrN (by decide), adv_c]; exact g4, fun j a b => ?_⟩
  rw [adv_c] at b
  rw [wrO (by decide), wrO (by decide), adv_o (by decide), adv_o (by decide)]
  exact g5 j a b
theorem rdR_6 {u x : Int} {M0 τ M : gSt} (hg : rdR u M0 τ M) : rdR u M0 τ (wr M 0 6 x) := by
  obtain ⟨g1, g2, g3, g4, g5⟩ := hg
  exact ⟨fun p a b => by rw [wrO' a]; exact g1 p a b, fun j a b c => by rw [wrN b]; exact g2 j a b c, by rw [wrN (by decide)]; exact g3, by rw [wrN (by decide)]; exact g4, fun j a b => by rw [wrO (by decide), wrO (by decide)]; exact g5 j a b⟩
theorem r_emt {u a b : Int} {M0 τ M : gSt} {k : gSt → Prop} (h0 : 0 ≤ τ 0 1 ∧ τ 0 1 < 60) (hg : rdR u M0 τ M) (h : ∀ M', rdR u M0 (emt a b τ) M' → M' 0 6 = M 0 6 → k M') : w_Rlays a b M k := by
  obtain ⟨g1, g2, g3, g4, g5⟩ := hg
  unfold w_Rlays
  rw [g4]
  refine ⟨⟨by omega, by omega⟩, fun M1 e1 => ?_⟩
  have c1 : M1 0 7 = τ 0 1 := by rw [e1, wrO (by decide)]; exact g4
  rw [c1]
  refine ⟨⟨by omega, by omega⟩, fun M2 e2 => ?_⟩
  have c2 : M2 0 7 = τ 0 1 := by rw [e2, wrO (by decide)]; exact c1
  rw [c2]
  intro M3 e3
  refine h M3 ⟨fun p x y => ?_, fun j x y z => ?_, ?_, ?_, fun j x y => ?_⟩ ?_
  · rw [e3, wrO' x, e2, wrO' y, e1, wrO' y]; exact g1 p x y
  · rw [e3, wrN z, e2, wrO (by decide), e1, wrO (by decide)]; exact g2 j x y z
  · rw [e3, wrN (by decide), e2, wrO (by decide), e1, wrO (by decide), emt_i]; exact g3
  · rw [e3, wrI, emt_c]
  · rw [emt_c] at y
    rw [e3, wrO (by decide), wrO (by decide), e2, emt_1, emt_2]
    by_cases hj : j = τ 0 1
    · rw [if_pos hj, if_pos hj, hj]
      exact ⟨by rw [wrN (by omega), e1]; exact wrI, wrI⟩
    · rw [if_neg hj, if_neg hj, wrN (by omega), wrN (by omega), e1, wrN (by omega), wrN (by omega)]
      exact g5 j x (by omega)
  · rw [e3, wrN (by decide), e2, wrO (by decide), e1, wrO (by decide)]
theorem r_name {u c : Int} {M : gSt} {k : Int → gSt → Prop} (hu : M 0 8 = u) (hu' : u = 0 ∨ u = 1) (hc : inI c) (k1 : isNm u c → k 1 M) (k0 : ¬ isNm u c → k 0 M) : w_RisName c M k := by
  unfold w_RisName
  rw [hu, wI hc, wI (x := u) ⟨by omega, by omega⟩]
  refine ⟨fun a => ⟨fun b => ⟨fun d => k1 (by omega), fun d => ⟨fun e => k0 (by omega), fun e => k1 (by omega)⟩⟩, fun b => ⟨fun d => k1 (by omega), fun d => ⟨fun e => k0 (by omega), fun e => k1 (by omega)⟩⟩⟩, fun a => k1 (Or.inl a)⟩
/-- a piece of the reference's reader comes to the abstract one, with o brackets left to open -/
def runR (u L : Int) (M0 : gSt) (o : Int) (S : gSt → Int × gSt) (P : gSt → (Int → gSt → Prop) → Prop) : Prop := ∀ τ M k, pOK L τ → rdR u M0 τ M → M 0 6 = 5 - o → (∀ M', rdR u M0 (S τ).2 M' → ((S τ).1 ≠ 0 → M' 0 6 = 5 - o) → k (S τ).1 M') → P M k
theorem r_num {T : Int → Int} {L u : Int} {M0 : gSt} {rc : Nat → List Int → gSt → (Int → gSt → Prop) → Prop} {k : Int → gSt → Prop} (hT : tpR T L u M0) : ∀ (n : Nat) (x v : Int) (τ M : gSt), n ≤ 4 → v = 4 - (n : Int) → pOK L τ → τ 0 1 < 60 → rdR u M0 τ M → (∀ M', rdR u M0 (pNum T L n x τ) M' → M' 0 6 = M 0 6 → k 1 M') → wL_Rone_46 rc k (fun u2_46 M46 => wB_Rone_94 rc k u2_46 M46) (n + 1) x v M := by
  intro n
  induction n with
  | zero =>
    intro x v τ M hn hv hp hc hg h
    unfold wL_Rone_46 wC_Rone_46 wB_Rone_94
    rw [wI (x := v) ⟨by omega, by omega⟩]
    exact ⟨fun _ => r_emt ⟨hp.1, hc⟩ hg h, fun z => absurd z (by omega)⟩
  | succ n ih =>
    intro x v τ M hn hv hp hc hg h
    have hp' := hp
    obtain ⟨p1, p2, p3⟩ := hp'
    have pi := pkR hT (τ := τ) (by omega)
    unfold pNum at h
    unfold wL_Rone_46 wC_Rone_46
    rw [wI (x := v) ⟨by omega, by omega⟩]
    refine ⟨fun z => absurd z (by omega), fun _ => r_look hT hp hg (sp_Rin pi (by constructor <;> decide) (by constructor <;> decide) (fun w => z1 ?_) (fun w => z0 ?_))⟩
    · rw [if_pos w] at h
      have l := pkL (T := T) (L := L) (τ := τ) (by omega)
      refine r_look hT hp hg (fun x1 e1 M1 e2 => ?_)
      subst e1; subst e2
      exact ih _ _ (adv τ) _ (by omega) (by omega) ⟨by rw [adv_c]; omega, by rw [adv_c, adv_i]; omega, by rw [adv_i]; omega⟩ (by rw [adv_c]; exact hc) (rdR_adv hg) (fun M' g' o' => h M' g' (o'.trans (wrN (by decide))))
    · rw [if_neg w] at h
      unfold wB_Rone_94
      exact r_emt ⟨p1, hc⟩ hg h
theorem r_lpwhole {T : Int → Int} {L u o : Int} {M0 : gSt} {rc : Nat → List Int → gSt → (Int → gSt → Prop) → Prop} {kk k : Int → gSt → Prop} {sub : gSt → Int × gSt} (hT : tpR T L u M0) (hg : good L u sub) (hs : runR u L M0 o sub (rc 1 [])) : ∀ (n : Nat) (τ M : gSt), L - τ 0 0 ≤ (n : Int) → pOK L τ → rdR u M0 τ M → M 0 6 = 5 - o → (∀ M', rdR u M0 (pLoop T L sub 0 n τ).2 M' → ((pLoop T L sub 0 n τ).1 ≠ 0 → M' 0 6 = 5 - o) → k (pLoop T L sub 0 n τ).1 M') → wL_Rwhole_9 rc kk (fun M9 => k 0 M9) (fun M9 => k 1 M9) (n + 1) M := by
  intro n
  induction n with
  | zero =>
    intro τ M hn hp gg ho h
    have pe : pk T L τ = -1 := by unfold pk; rw [if_neg (by omega)]
    unfold wL_Rwhole_9 wC_Rwhole_9
    refine r_look hT hp gg ?_
    rw [pe]
    exact ⟨fun _ => h M gg (fun _ => ho), fun z => absurd z (by decide)⟩
  | succ n ih =>
    intro τ M hn hp gg ho h
    have hp' := hp
    obtain ⟨p1, p2, p3⟩ := hp'
    have t4 := hT.2.2.1
    have pi := pkR hT (τ := τ) (by omega)
    unfold pLoop at h
    unfold wL_Rwhole_9 wC_Rwhole_9
    refine r_look hT hp gg ?_
    rw [wI pi]
    have out : ¬ lvl (pk T L τ) = 0 → k 1 M := fun w => by
      rw [if_neg w] at h; exact h M gg (fun _ => ho)
    have go : lvl (pk T L τ) = 0 → rc 1 [] (wr M 0 5 (M 0 5 + 1)) (fun r M2 => (¬ wrap r = 0 → w_Rlays 3 (pk T L τ) M2 (fun M3 => wL_Rwhole_9 rc kk (fun M9 => k 0 M9) (fun M9 => k 1 M9) (n + 1) M3)) ∧ (wrap r = 0 → k 0 M2)) := fun w => by
      rw [if_pos w] at h
      have l : τ 0 0 < L := by
        refine pkL (T := T) ?_
        unfold lvl at w
        omega
      have pa : pOK L (adv τ) := ⟨by rw [adv_c]; omega, by rw [adv_c, adv_i]; omega, by rw [adv_i]; omega⟩
      obtain ⟨q1, q2, q3⟩ := hg (adv τ) pa
      rw [adv_i, adv_c] at q2
      refine hs (adv τ) _ _ pa (rdR_adv gg) ((wrN (by decide)).trans ho) (fun M2 g2 o2 => ?_)
      by_cases z : (sub (adv τ)).1 = 0
      · rw [if_pos z] at h
        rw [z]
        exact z0n (h M2 g2 (fun q => absurd rfl q))
      · rw [if_neg z] at h
        rcases q3 with q3 | ⟨q3, -⟩
        · exact absurd q3 z
        rw [q3]
        obtain ⟨r1, r2, r3⟩ := q1
        refine z1n (r_emt (u := u) (M0 := M0) ⟨r1, by omega⟩ g2 (fun M3 g3 o3 => ?_))
        exact ih _ M3 (by rw [emt_i]; omega) ⟨by rw [emt_c]; omega, by rw [emt_c, emt_i]; omega, by rw [emt_i]; omega⟩ g3 (o3.trans (o2 z)) h
    exact ⟨fun z => out (by unfold lvl; omega), fun z M1 e1 => by subst e1; rw [z] at go; exact go (by decide)⟩
theorem r_lpboth {T : Int → Int} {L u o : Int} {M0 : gSt} {rc : Nat → List Int → gSt → (Int → gSt → Prop) → Prop} {kk k : Int → gSt → Prop} {sub : gSt → Int × gSt} (hT : tpR T L u M0) (hg : good L u sub) (hs : runR u L M0 o sub (rc 2 [])) : ∀ (n : Nat) (τ M : gSt), L - τ 0 0 ≤ (n : Int) → pOK L τ → rdR u M0 τ M → M 0 6 = 5 - o → (∀ M', rdR u M0 (pLoop T L sub 1 n τ).2 M' → ((pLoop T L sub 1 n τ).1 ≠ 0 → M' 0 6 = 5 - o) → k (pLoop T L sub 1 n τ).1 M') → wL_Rboth_9 rc kk (fun M9 => k 0 M9) (fun M9 => k 1 M9) (n + 1) M := by
  intro n
  induction n with
  | zero =>
    intro τ M hn hp gg ho h
    have pe : pk T L τ = -1 := by unfold pk; rw [if_neg (by omega)]
    unfold wL_Rboth_9 wC_Rboth_9
    refine r_look hT hp gg ?_
    rw [pe]
    exact ⟨fun _ => h M gg (fun _ => ho), fun z => absurd z (by decide)⟩
  | succ n ih =>
    intro τ M hn hp gg ho h
    have hp' := hp
    obtain ⟨p1, p2, p3⟩ := hp'
    have t4 := hT.2.2.1
    have pi := pkR hT (τ := τ) (by omega)
    unfold pLoop at h
    unfold wL_Rboth_9 wC_Rboth_9
    refine r_look hT hp gg ?_
    rw [wI pi]
    have out : ¬ lvl (pk T L τ) = 1 → k 1 M := fun w => by
      rw [if_neg w] at h; exact h M gg (fun _ => ho)
    have go : lvl (pk T L τ) = 1 → rc 2 [] (wr M 0 5 (M 0 5 + 1)) (fun r M2 => (¬ wrap r = 0 → w_Rlays 3 (pk T L τ) M2 (fun M3 => wL_Rboth_9 rc kk (fun M9 => k 0 M9) (fun M9 => k 1 M9) (n + 1) M3)) ∧ (wrap r = 0 → k 0 M2)) := fun w => by
      rw [if_pos w] at h
      have l : τ 0 0 < L := by
        refine pkL (T := T) ?_
        unfold lvl at w
        omega
      have pa : pOK L (adv τ) := ⟨by rw [adv_c]; omega, by rw [adv_c, adv_i]; omega, by rw [adv_i]; omega⟩
      obtain ⟨q1, q2, q3⟩ := hg (adv τ) pa
      rw [adv_i, adv_c] at q2
      refine hs (adv τ) _ _ pa (rdR_adv gg) ((wrN (by decide)).trans ho) (fun M2 g2 o2 => ?_)
      by_cases z : (sub (adv τ)).1 = 0
      · rw [if_pos z] at h
        rw [z]
        exact z0n (h M2 g2 (fun q => absurd rfl q))
      · rw [if_neg z] at h
        rcases q3 with q3 | ⟨q3, -⟩
        · exact absurd q3 z
        rw [q3]
        obtain ⟨r1, r2, r3⟩ := q1
        refine z1n (r_emt (u := u) (M0 := M0) ⟨r1, by omega⟩ g2 (fun M3 g3 o3 => ?_))
        exact ih _ M3 (by rw [emt_i]; omega) ⟨by rw [emt_c]; omega, by rw [emt_c, emt_i]; omega, by rw [emt_i]; omega⟩ g3 (o3.trans (o2 z)) h
    exact ⟨fun z => out (by unfold lvl; omega), fun z M1 e1 => by subst e1; rw [z] at go; exact go (by decide)⟩
theorem r_lpsum {T : Int → Int} {L u o : Int} {M0 : gSt} {rc : Nat → List Int → gSt → (Int → gSt → Prop) → Prop} {kk k : Int → gSt → Prop} {sub : gSt → Int × gSt} (hT : tpR T L u M0) (hg : good L u sub) (hs : runR u L M0 o sub (rc 4 [])) : ∀ (n : Nat) (τ M : gSt), L - τ 0 0 ≤ (n : Int) → pOK L τ → rdR u M0 τ M → M 0 6 = 5 - o → (∀ M', rdR u M0 (pLoop T L sub 3 n τ).2 M' → ((pLoop T L sub 3 n τ).1 ≠ 0 → M' 0 6 = 5 - o) → k (pLoop T L sub 3 n τ).1 M') → wL_Rsum_9 rc kk (fun M9 => k 0 M9) (fun M9 => k 1 M9) (n + 1) M := by
  intro n
  induction n with
  | zero =>
    intro τ M hn hp gg ho h
    have pe : pk T L τ = -1 := by unfold pk; rw [if_neg (by omega)]
    unfold wL_Rsum_9 wC_Rsum_9
    refine r_look hT hp gg ?_
    rw [pe]
    refine ⟨fun z => absurd z (by decide), fun _ => r_look hT hp gg ?_⟩
    rw [pe]
    exact ⟨fun _ => h M gg (fun _ => ho), fun z => absurd z (by decide)⟩
  | succ n ih =>
    intro τ M hn hp gg ho h
    have hp' := hp
    obtain ⟨p1, p2, p3⟩ := hp'
    have t4 := hT.2.2.1
    have pi := pkR hT (τ := τ) (by omega)
    unfold pLoop at h
    unfold wL_Rsum_9 wC_Rsum_9
    refine r_look hT hp gg ?_
    rw [wI pi]
    have out : ¬ lvl (pk T L τ) = 3 → k 1 M := fun w => by
      rw [if_neg w] at h; exact h M gg (fun _ => ho)
    have go : lvl (pk T L τ) = 3 → rc 4 [] (wr M 0 5 (M 0 5 + 1)) (fun r M2 => (¬ wrap r = 0 → w_Rlays 3 (pk T L τ) M2 (fun M3 => wL_Rsum_9 rc kk (fun M9 => k 0 M9) (fun M9 => k 1 M9) (n + 1) M3)) ∧ (wrap r = 0 → k 0 M2)) := fun w => by
      rw [if_pos w] at h
      have l : τ 0 0 < L := by
        refine pkL (T := T) ?_
        unfold lvl at w
        omega
      have pa : pOK L (adv τ) := ⟨by rw [adv_c]; omega, by rw [adv_c, adv_i]; omega, by rw [adv_i]; omega⟩
      obtain ⟨q1, q2, q3⟩ := hg (adv τ) pa
      rw [adv_i, adv_c] at q2
      refine hs (adv τ) _ _ pa (rdR_adv gg) ((wrN (by decide)).trans ho) (fun M2 g2 o2 => ?_)
      by_cases z : (sub (adv τ)).1 = 0
      · rw [if_pos z] at h
        rw [z]
        exact z0n (h M2 g2 (fun q => absurd rfl q))
      · rw [if_neg z] at h
        rcases q3 with q3 | ⟨q3, -⟩
        · exact absurd q3 z
        rw [q3]
        obtain ⟨r1, r2, r3⟩ := q1
        refine z1n (r_emt (u := u) (M0 := M0) ⟨r1, by omega⟩ g2 (fun M3 g3 o3 => ?_))
        exact ih _ M3 (by rw [emt_i]; omega) ⟨by rw [emt_c]; omega, by rw [emt_c, emt_i]; omega, by rw [emt_i]; omega⟩ g3 (o3.trans (o2 z)) h
    have go2 : lvl (pk T L τ) = 3 → wB_Rsum_27 rc kk (wL_Rsum_9 rc kk (fun M9 => k 0 M9) (fun M9 => k 1 M9) (n + 1)) (fun M9 => k 0 M9) (fun M9 => k 1 M9) M := fun w => by
      unfold wB_Rsum_27
      refine r_look hT hp gg (fun M1 e1 => ?_)
      subst e1
      exact go w
    refine ⟨fun z => go2 (by unfold lvl; omega), fun z1 => r_look hT hp gg ?_⟩
    rw [wI pi]
    exact ⟨fun z => out (by unfold lvl; omega), fun z => go2 (by unfold lvl; omega)⟩
theorem r_lpproduct {T : Int → Int} {L u o : Int} {M0 : gSt} {rc : Nat → List Int → gSt → (Int → gSt → Prop) → Prop} {kk k : Int → gSt → Prop} {sub : gSt → Int × gSt} (hT : tpR T L u M0) (hg : good L u sub) (hs : runR u L M0 o sub (rc 5 [])) : ∀ (n : Nat) (τ M : gSt), L - τ 0 0 ≤ (n : Int) → pOK L τ → rdR u M0 τ M → M 0 6 = 5 - o → (∀ M', rdR u M0 (pLoop T L sub 4 n τ).2 M' → ((pLoop T L sub 4 n τ).1 ≠ 0 → M' 0 6 = 5 - o) → k (pLoop T L sub 4 n τ).1 M') → wL_Rproduct_9 rc kk (fun M9 => k 0 M9) (fun M9 => k 1 M9) (n + 1) M := by
  intro n
  induction n with
  | zero =>
    intro τ M hn hp gg ho h
    have pe : pk T L τ = -1 := by unfold pk; rw [if_neg (by omega)]
    unfold wL_Rproduct_9 wC_Rproduct_9
    refine r_look hT hp gg ?_
    rw [pe]
    refine ⟨fun z => absurd z (by decide), fun _ => r_look hT hp gg ?_⟩
    rw [pe]
    refine ⟨fun z => absurd z (by decide), fun _ => r_look hT hp gg ?_⟩
    rw [pe]
    exact ⟨fun _ => h M gg (fun _ => ho), fun z => absurd z (by decide)⟩
  | succ n ih =>
    intro τ M hn hp gg ho h
    have hp' := hp
    obtain ⟨p1, p2, p3⟩ := hp'
    have t4 := hT.2.2.1
    have pi := pkR hT (τ := τ) (by omega)
    unfold pLoop at h
    unfold wL_Rproduct_9 wC_Rproduct_9
    refine r_look hT hp gg ?_
    rw [wI pi]
    have out : ¬ lvl (pk T L τ) = 4 → k 1 M := fun w => by
      rw [if_neg w] at h; exact h M gg (fun _ => ho)
    have go : lvl (pk T L τ) = 4 → rc 5 [] (wr M 0 5 (M 0 5 + 1)) (fun r M2 => (¬ wrap r = 0 → w_Rlays 3 (pk T L τ) M2 (fun M3 => wL_Rproduct_9 rc kk (fun M9 => k 0 M9) (fun M9 => k 1 M9) (n + 1) M3)) ∧ (wrap r = 0 → k 0 M2)) := fun w => by
      rw [if_pos w] at h
      have l : τ 0 0 < L := by
        refine pkL (T := T) ?_
        unfold lvl at w
        omega
      have pa : pOK L (adv τ) := ⟨by rw [adv_c]; omega, by rw [adv_c, adv_i]; omega, by rw [adv_i]; omega⟩
      obtain ⟨q1, q2, q3⟩ := hg (adv τ) pa
      rw [adv_i, adv_c] at q2
      refine hs (adv τ) _ _ pa (rdR_adv gg) ((wrN (by decide)).trans ho) (fun M2 g2 o2 => ?_)
      by_cases z : (sub (adv τ)).1 = 0
      · rw [if_pos z] at h
        rw [z]
        exact z0n (h M2 g2 (fun q => absurd rfl q))
      · rw [if_neg z] at h
        rcases q3 with q3 | ⟨q3, -⟩
        · exact absurd q3 z
        rw [q3]
        obtain ⟨r1, r2, r3⟩ := q1
        refine z1n (r_emt (u := u) (M0 := M0) ⟨r1, by omega⟩ g2 (fun M3 g3 o3 => ?_))
        exact ih _ M3 (by rw [emt_i]; omega) ⟨by rw [emt_c]; omega, by rw [emt_c, emt_i]; omega, by rw [emt_i]; omega⟩ g3 (o3.trans (o2 z)) h
    have go2 : lvl (pk T L τ) = 4 → wB_Rproduct_36 rc kk (wL_Rproduct_9 rc kk (fun M9 => k 0 M9) (fun M9 => k 1 M9) (n + 1)) (fun M9 => k 0 M9) (fun M9 => k 1 M9) M := fun w => by
      unfold wB_Rproduct_36
      refine r_look hT hp gg (fun M1 e1 => ?_)
      subst e1
      exact go w
    refine ⟨fun z => go2 (by unfold lvl; omega), fun z1 => r_look hT hp gg ?_⟩
    rw [wI pi]
    refine ⟨fun z => go2 (by unfold lvl; omega), fun z2 => r_look hT hp gg ?_⟩
    rw [wI pi]
    exact ⟨fun z => out (by unfold lvl; omega), fun z => go2 (by unfold lvl; omega)⟩
theorem r_stwhole {T : Int → Int} {L u o : Int} {D : Nat} {M0 : gSt} {S R : gSt → Int × gSt} (hT : tpR T L u M0) (hR : ∀ τ, R τ = if (S τ).1 = 0 then (0, (S τ).2) else pLoop T L S 0 60 (S τ).2) (hg : good L u S) (hs : ∀ d, D ≤ d → runR u L M0 o S (wg_Rparse d 1 [])) : ∀ d, D + 1 ≤ d → runR u L M0 o R (wg_Rparse d 0 []) := by
  intro d hd τ M k hp gg ho h
  obtain ⟨d', rfl⟩ : ∃ d', d = d' + 1 := ⟨d - 1, by omega⟩
  show wb_Rwhole (wg_Rparse d') M k
  rw [hR] at h
  unfold wb_Rwhole
  refine hs d' (by omega) τ M _ hp gg ho (fun M' g' o' => ?_)
  obtain ⟨q1, q2, q3⟩ := hg τ hp
  by_cases z : (S τ).1 = 0
  · rw [if_pos z] at h
    rw [z]
    exact z0n (h M' g' (fun q => absurd rfl q))
  · rw [if_neg z] at h
    rcases q3 with q3 | ⟨q3, -⟩
    · exact absurd q3 z
    rw [q3]
    have t4 := hT.2.2.1
    obtain ⟨p1, p2, p3⟩ := hp
    exact z1n ⟨60 + 1, r_lpwhole hT hg (hs d' (by omega)) 60 _ M' (by have := q1.1; have := q1.2.1; omega) q1 g' (o' z) h⟩
theorem r_stboth {T : Int → Int} {L u o : Int} {D : Nat} {M0 : gSt} {S R : gSt → Int × gSt} (hT : tpR T L u M0) (hR : ∀ τ, R τ = if (S τ).1 = 0 then (0, (S τ).2) else pLoop T L S 1 60 (S τ).2) (hg : good L u S) (hs : ∀ d, D ≤ d → runR u L M0 o S (wg_Rparse d 2 [])) : ∀ d, D + 1 ≤ d → runR u L M0 o R (wg_Rparse d 1 []) := by
  intro d hd τ M k hp gg ho h
  obtain ⟨d', rfl⟩ : ∃ d', d = d' + 1 := ⟨d - 1, by omega⟩
  show wb_Rboth (wg_Rparse d') M k
  rw [hR] at h
  unfold wb_Rboth
  refine hs d' (by omega) τ M _ hp gg ho (fun M' g' o' => ?_)
  obtain ⟨q1, q2, q3⟩ := hg τ hp
  by_cases z : (S τ).1 = 0
  · rw [if_pos z] at h
    rw [z]
    exact z0n (h M' g' (fun q => absurd rfl q))
  · rw [if_neg z] at h
    rcases q3 with q3 | ⟨q3, -⟩
    · exact absurd q3 z
    rw [q3]
    have t4 := hT.2.2.1
    obtain ⟨p1, p2, p3⟩ := hp
    exact z1n ⟨60 + 1, r_lpboth hT hg (hs d' (by omega)) 60 _ M' (by have := q1.1; have := q1.2.1; omega) q1 g' (o' z) h⟩
theorem r_stsum {T : Int → Int} {L u o : Int} {D : Nat} {M0 : gSt} {S R : gSt → Int × gSt} (hT : tpR T L u M0) (hR : ∀ τ, R τ = if (S τ).1 = 0 then (0, (S τ).2) else pLoop T L S 3 60 (S τ).2) (hg : good L u S) (hs : ∀ d, D ≤ d → runR u L M0 o S (wg_Rparse d 4 [])) : ∀ d, D + 1 ≤ d → runR u L M0 o R (wg_Rparse d 3 []) := by
  intro d hd τ M k hp gg ho h
  obtain ⟨d', rfl⟩ : ∃ d', d = d' + 1 := ⟨d - 1, by omega⟩
  show wb_Rsum (wg_Rparse d') M k
  rw [hR] at h
  unfold wb_Rsum
  refine hs d' (by omega) τ M _ hp gg ho (fun M' g' o' => ?_)
  obtain ⟨q1, q2, q3⟩ := hg τ hp
  by_cases z : (S τ).1 = 0
  · rw [if_pos z] at h
    rw [z]
    exact z0n (h M' g' (fun q => absurd rfl q))
  · rw [if_neg z] at h
    rcases q3 with q3 | ⟨q3, -⟩
    · exact absurd q3 z
    rw [q3]
    have t4 := hT.2.2.1
    obtain ⟨p1, p2, p3⟩ := hp
    exact z1n ⟨60 + 1, r_lpsum hT hg (hs d' (by omega)) 60 _ M' (by have := q1.1; have := q1.2.1; omega) q1 g' (o' z) h⟩
theorem r_stproduct {T : Int → Int} {L u o : Int} {D : Nat} {M0 : gSt} {S R : gSt → Int × gSt} (hT : tpR T L u M0) (hR : ∀ τ, R τ = if (S τ).1 = 0 then (0, (S τ).2) else pLoop T L S 4 60 (S τ).2) (hg : good L u S) (hs : ∀ d, D ≤ d → runR u L M0 o S (wg_Rparse d 5 [])) : ∀ d, D + 1 ≤ d → runR u L M0 o R (wg_Rparse d 4 []) := by
  intro d hd τ M k hp gg ho h
  obtain ⟨d', rfl⟩ : ∃ d', d = d' + 1 := ⟨d - 1, by omega⟩
  show wb_Rproduct (wg_Rparse d') M k
  rw [hR] at h
  unfold wb_Rproduct
  refine hs d' (by omega) τ M _ hp gg ho (fun M' g' o' => ?_)
  obtain ⟨q1, q2, q3⟩ := hg τ hp
  by_cases z : (S τ).1 = 0
  · rw [if_pos z] at h
    rw [z]
    exact z0n (h M' g' (fun q => absurd rfl q))
  · rw [if_neg z] at h
    rcases q3 with q3 | ⟨q3, -⟩
    · exact absurd q3 z
    rw [q3]
    have t4 := hT.2.2.1
    obtain ⟨p1, p2, p3⟩ := hp
    exact z1n ⟨60 + 1, r_lpproduct hT hg (hs d' (by omega)) 60 _ M' (by have := q1.1; have := q1.2.1; omega) q1 g' (o' z) h⟩
theorem r_stcompared {T : Int → Int} {L u o : Int} {D : Nat} {M0 : gSt} {S R : gSt → Int × gSt} (hT : tpR T L u M0) (hR : ∀ τ, R τ = if (S τ).1 = 0 then (0, (S τ).2) else pLoop T L S 2 1 (S τ).2) (hg : good L u S) (hs : ∀ d, D ≤ d → runR u L M0 o S (wg_Rparse d 3 [])) : ∀ d, D + 1 ≤ d → runR u L M0 o R (wg_Rparse d 2 []) := by
  intro d hd τ M k hp gg ho h
  obtain ⟨d', rfl⟩ : ∃ d', d = d' + 1 := ⟨d - 1, by omega⟩
  show wb_Rcompared (wg_Rparse d') M k
  rw [hR] at h
  unfold wb_Rcompared
  refine hs d' (by omega) τ M _ hp gg ho (fun M' g' o' => ?_)
  obtain ⟨q1, q2, q3⟩ := hg τ hp
  by_cases z : (S τ).1 = 0
  · rw [if_pos z] at h
    rw [z]
    exact z0n (h M' g' (fun q => absurd rfl q))
  · rw [if_neg z] at h
    rcases q3 with q3 | ⟨q3, -⟩
    · exact absurd q3 z
    rw [q3]
    have t4 := hT.2.2.1
    have q1' := q1
    obtain ⟨r1, r2, r3⟩ := q1'
    have pi := pkR hT (τ := (S τ).2) (by omega)
    refine z1n (r_look hT q1 g' ?_)
    rw [wI pi]
    unfold pLoop at h
    have go : lvl (pk T L (S τ).2) = 2 → wB_Rcompared_34 (wg_Rparse d') k (pk T L (S τ).2) M' := fun w => by
      rw [if_pos w] at h
      have l : (S τ).2 0 0 < L := by
        refine pkL (T := T) ?_
        unfold lvl at w
        omega
      have pa : pOK L (adv (S τ).2) := ⟨by rw [adv_c]; omega, by rw [adv_c, adv_i]; omega, by rw [adv_i]; omega⟩
      obtain ⟨s1, s2, s3⟩ := hg (adv (S τ).2) pa
      rw [adv_i, adv_c] at s2
      unfold wB_Rcompared_34
      intro M1 e1
      subst e1
      refine hs d' (by omega) (adv (S τ).2) _ _ pa (rdR_adv g') ((wrN (by decide)).trans (o' z)) (fun M2 g2 o2 => ?_)
      by_cases z2 : (S (adv (S τ).2)).1 = 0
      · rw [if_pos z2] at h
        rw [z2]
        exact z0n (h M2 g2 (fun q => absurd rfl q))
      · rw [if_neg z2] at h
        rcases s3 with s3 | ⟨s3, -⟩
        · exact absurd s3 z2
        rw [s3]
        obtain ⟨v1, v2, v3⟩ := s1
        exact z1n (r_emt (u := u) (M0 := M0) ⟨v1, by omega⟩ g2 (fun M3 g3 o3 => h M3 g3 (fun _ => o3.trans (o2 z2))))
    have out : ¬ lvl (pk T L (S τ).2) = 2 → k 1 M' := fun w => by
      rw [if_neg w] at h; exact h M' g' (fun _ => o' z)
    exact ⟨fun z => go (by unfold lvl; omega), fun z1 => ⟨fun z => go (by unfold lvl; omega), fun z2 => ⟨fun z => go (by unfold lvl; omega), fun z3 => out (by unfold lvl; omega)⟩⟩⟩
theorem r_lev {T : Int → Int} {L u o : Int} {D : Nat} {M0 : gSt} {W : gSt → Int × gSt} (hT : tpR T L u M0) (hg : good L u W) (hW : ∀ d, D ≤ d → runR u L M0 o W (wg_Rparse d 5 [])) : ∀ d, D + 5 ≤ d → runR u L M0 o (pLev T L W 5) (wg_Rparse d 0 []) := by
  have s1 := r_stproduct (R := pLev T L W 1) hT (fun τ => rfl) hg hW
  have s2 := r_stsum (R := pLev T L W 2) hT (fun τ => rfl) (good_lev hg 1 (by decide)) s1
  have s3 := r_stcompared (R := pLev T L W 3) hT (fun τ => rfl) (good_lev hg 2 (by decide)) s2
  have s4 := r_stboth (R := pLev T L W 4) hT (fun τ => rfl) (good_lev hg 3 (by decide)) s3
  exact r_stwhole (R := pLev T L W 5) hT (fun τ => rfl) (good_lev hg 4 (by decide)) s4
theorem wgR5 {d : Nat} {M : gSt} {k : Int → gSt → Prop} : wg_Rparse (d + 1) 5 [] M k = wb_Rone (wg_Rparse d) M k := rfl
theorem r_val {T : Int → Int} {L u : Int} {M0 : gSt} (hT : tpR T L u M0) (hu : u = 0 ∨ u = 1) : ∀ o : Nat, o ≤ 5 → ∀ d : Nat, 6 * o + 1 ≤ d → runR u L M0 (o : Int) (pVal T L u o) (wg_Rparse d 5 []) := by
  have t4 := hT.2.2.1
  intro o
  induction o with
  | zero =>
    intro ho d hd τ M k hp gg o6 h
    obtain ⟨d', rfl⟩ : ∃ d', d = d' + 1 := ⟨d - 1, by omega⟩
    rw [wgR5]
    have hp' := hp
    obtain ⟨p1, p2, p3⟩ := hp'
    have pi := pkR hT (τ := τ) (by omega)
    have e8 : M 0 8 = u := (gg.2.1 8 (by decide) (by decide) (by decide)).trans hT.2.2.2.1
    unfold pVal at h
    unfold wb_Rone
    refine r_look hT hp gg (r_name e8 hu pi (fun w => z1 (fun M1 e1 => ?_)) (fun w => z0 (sp_Rin pi (by constructor <;> decide) (by constructor <;> decide) (fun w2 => z1 ?_) (fun w2 => z0 ?_))))
    · subst e1
      rw [if_pos w] at h
      have l := pkL (T := T) (L := L) (τ := τ) (by omega)
      exact r_emt ⟨by rw [adv_c]; omega, by rw [adv_c]; omega⟩ (rdR_adv gg) (fun M' g' o' => h M' g' (fun _ => o'.trans ((wrN (by decide)).trans o6)))
    · rw [if_neg w, if_pos w2] at h
      have l := pkL (T := T) (L := L) (τ := τ) (by omega)
      exact ⟨4 + 1, r_num hT 4 0 0 τ M (by decide) (by decide) hp (by omega) gg (fun M' g' o' => h M' g' (fun _ => o'.trans o6))⟩
    · rw [if_neg w, if_neg w2] at h
      have h0 := h M gg (fun q => absurd rfl q)
      rw [wI pi]
      have op : w_Ropens M (fun r109c M109 => (wrap r109c = 0 → k 0 M109) ∧ (¬ wrap r109c = 0 → False)) := by
        unfold w_Ropens
        rw [o6]
        exact ⟨fun z => absurd (by decide) z, fun _ => z0 h0⟩
      unfold w_Ropens at op ⊢
      rw [o6] at op ⊢
      exact ⟨fun _ => ⟨fun _ => h0, fun _ => ⟨fun z => absurd (by decide) z, fun _ => z0 h0⟩⟩, fun _ => ⟨fun z => absurd (by decide) z, fun _ => z0 h0⟩⟩
  | succ o ih =>
    intro ho d hd τ M k hp gg o6 h
    obtain ⟨d', rfl⟩ : ∃ d', d = d' + 1 := ⟨d - 1, by omega⟩
    rw [wgR5]
    have hp' := hp
    obtain ⟨p1, p2, p3⟩ := hp'
    have pi := pkR hT (τ := τ) (by omega)
    have e8 : M 0 8 = u := (gg.2.1 8 (by decide) (by decide) (by decide)).trans hT.2.2.2.1
    have gv := good_val (T := T) (L := L) (u := u) o
    unfold pVal at h
    unfold wb_Rone
    refine r_look hT hp gg (r_name e8 hu pi (fun w => z1 (fun M1 e1 => ?_)) (fun w => z0 (sp_Rin pi (by constructor <;> decide) (by constructor <;> decide) (fun w2 => z1 ?_) (fun w2 => z0 ?_))))
    · subst e1
      rw [if_pos w] at h
      have l := pkL (T := T) (L := L) (τ := τ) (by omega)
      exact r_emt ⟨by rw [adv_c]; omega, by rw [adv_c]; omega⟩ (rdR_adv gg) (fun M' g' o' => h M' g' (fun _ => o'.trans ((wrN (by decide)).trans o6)))
    · rw [if_neg w, if_pos w2] at h
      have l := pkL (T := T) (L := L) (τ := τ) (by omega)
      exact ⟨4 + 1, r_num hT 4 0 0 τ M (by decide) (by decide) hp (by omega) gg (fun M' g' o' => h M' g' (fun _ => o'.trans o6))⟩
    · rw [if_neg w, if_neg w2] at h
      rw [wI pi]
      have n5 : ¬ wrap (M 0 6) = 5 := by rw [o6, wI ⟨by omega, by omega⟩]; omega
      have opn : ∀ kk : Int → gSt → Prop, (∀ M2, rdR u M0 (adv τ) M2 → M2 0 6 = 5 - (o : Int) → kk 1 M2) → w_Ropens M kk := fun kk hk => by
        unfold w_Ropens
        refine ⟨fun _ M1 e1 M2 e2 => ?_, fun z => absurd z n5⟩
        subst e1; subst e2
        exact hk _ (rdR_adv (rdR_6 gg)) (by rw [wrN (by decide), wrI, o6]; omega)
      refine ⟨fun w3 => ⟨fun w4 => ?_, fun w4 => ?_⟩, fun w3 => ?_⟩
      · rw [if_neg w3, if_neg w4] at h
        exact h M gg (fun q => absurd rfl q)
      · rw [if_neg w3, if_pos w4] at h
        have l := pkL (T := T) (L := L) (τ := τ) (by omega)
        have pa : pOK L (adv τ) := ⟨by rw [adv_c]; omega, by rw [adv_c, adv_i]; omega, by rw [adv_i]; omega⟩
        refine opn _ (fun M2 g2 o2 => z1 (r_lev (T := T) (D := 6 * o + 1) hT gv (fun d2 h2 => ih (by omega) d2 h2) d' (by omega) (adv τ) M2 _ pa g2 o2 (fun M3 g3 o3 => ?_)))
        obtain ⟨q1, q2, q3⟩ := good_lev (T := T) gv 5 (by decide) (adv τ) pa
        generalize (pLev T L (pVal T L u o) 5 (adv τ)) = R at q1 q2 q3 h g3 o3 ⊢
        by_cases z : R.1 = 0
        · rw [if_pos z] at h
          rw [z]
          exact z0 (h M3 g3 (fun q => absurd rfl q))
        · rw [if_neg z] at h
          rcases q3 with q3 | ⟨q3, -⟩
          · exact absurd q3 z
          rw [q3]
          refine z1 (r_look hT q1 g3 ?_)
          rw [wI (pkR hT (by have := q1.1; have := q1.2.1; omega))]
          refine ⟨fun w5 M4 e4 M5 e5 => ?_, fun w5 => ?_⟩
          · rw [if_pos w5] at h
            subst e4; subst e5
            exact h _ (rdR_6 (rdR_adv g3)) (fun _ => by rw [wrI, wrN (by decide), o3 z]; omega)
          · rw [if_neg w5] at h
            exact h M3 g3 (fun q => absurd rfl q)
      · rw [if_pos w3] at h
        have l := pkL (T := T) (L := L) (τ := τ) (by omega)
        have pa : pOK L (adv τ) := ⟨by rw [adv_c]; omega, by rw [adv_c, adv_i]; omega, by rw [adv_i]; omega⟩
        refine opn _ (fun M2 g2 o2 => z1 (ih (by omega) d' (by omega) (adv τ) M2 _ pa g2 o2 (fun M3 g3 o3 => ?_)))
        obtain ⟨q1, q2, q3⟩ := gv (adv τ) pa
        rw [adv_i, adv_c] at q2
        by_cases z : (pVal T L u o (adv τ)).1 = 0
        · rw [if_pos z] at h
          rw [z]
          exact z0n (h M3 g3 (fun q => absurd rfl q))
        · rw [if_neg z] at h
          rcases q3 with q3 | ⟨q3, -⟩
          · exact absurd q3 z
          rw [q3]
          obtain ⟨r1, r2, r3⟩ := q1
          refine z1n (fun M4 e4 => ?_)
          subst e4
          exact r_emt ⟨r1, by omega⟩ (rdR_6 g3) (fun M5 g5 o5 => h M5 g5 (fun _ => by rw [o5, wrI, o3 z]; omega))
