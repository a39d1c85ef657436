-- the class's reader: it comes to the abstract one
def tpC (T : Int → Int) (L : Int) (M : gSt) : Prop := M 48 0 = 1 ∧ M 48 3 = L ∧ 0 ≤ L ∧ L ≤ 60 ∧ ∀ j, 0 ≤ j → j < L → M 49 j = T j ∧ inI (T j)
def rdC (u : Int) (M0 τ M : gSt) : Prop := (∀ p, p ≠ 47 → p ≠ 50 → p ≠ 51 → M p = M0 p) ∧ M 47 2 = u ∧ M 47 3 = τ 0 0 ∧ M 50 0 = 1 ∧ M 50 2 = 60 ∧ M 50 3 = τ 0 1 ∧ ∀ j, 0 ≤ j → j < τ 0 1 → M 51 j = encT u (τ 1 j) (τ 2 j)
theorem pkI {T : Int → Int} {L : Int} {τ M : gSt} (h : tpC T L M) (h0 : 0 ≤ τ 0 0) : inI (pk T L τ) := by
  unfold pk
  by_cases w : τ 0 0 < L
  · rw [if_pos w]; exact (h.2.2.2.2 _ h0 w).2
  · rw [if_neg w]; constructor <;> decide
theorem c_peek {T : Int → Int} {L u : Int} {M0 τ M : gSt} {k : Int → gSt → Prop} (hT : tpC T L M0) (hp : pOK L τ) (hg : rdC u M0 τ M) (h : k (pk T L τ) M) : w_X3_peek 47 M k := by
  obtain ⟨t1, t2, t3, t4, t5⟩ := hT
  obtain ⟨g1, g2, g3, g4, g5, g6, g7⟩ := hg
  obtain ⟨p1, p2, p3⟩ := hp
  have e48 := g1 48 (by decide) (by decide) (by decide)
  have e49 := g1 49 (by decide) (by decide) (by decide)
  unfold w_X3_peek
  refine ⟨pl_47, ?_⟩
  rw [g3]
  refine sp_has4 pl_48 ⟨by omega, by omega⟩ (by rw [e48, t2]; exact ⟨by omega, by omega⟩) (fun a => z1 ?_) (fun a => z0 ?_)
  · rw [e48, t2] at a
    rw [g3]
    refine sp_at (W := 1) pl_48 (by rw [e48]; exact t1) (by rw [e48, t2]; exact a) (by decide) ⟨by rw [e48, t2]; omega, by decide⟩ (by show τ 0 0 * 1 + 0 < 60; omega) (by decide) ?_
    rw [show τ 0 0 * 1 + 0 = τ 0 0 from by omega, e49, (t5 _ a.1 a.2).1]
    unfold pk at h
    rw [if_pos a.2] at h
    exact h
  · rw [e48, t2] at a
    unfold pk at h
    rw [if_neg (by omega)] at h
    exact h
theorem rdC_adv {u : Int} {M0 τ M : gSt} (hg : rdC u M0 τ M) : rdC u M0 (adv τ) (wr M 47 3 (M 47 3 + 1)) := by
  obtain ⟨g1, g2, g3, g4, g5, g6, g7⟩ := hg
  refine ⟨fun p a b c => by rw [wrO' a]; exact g1 p a b c, by rw [wrN (by decide)]; exact g2, by rw [wrI, g3, adv_i], by rw [wrO (by decide)]; exact g4, by rw [wrO (by decide)]; exact g5, by rw [wrO (by decide), adv_c]; exact g6, fun j a b => ?_⟩
  rw [adv_c] at b
  rw [wrO (by decide), adv_o (by decide), adv_o (by decide)]
  exact g7 j a b
theorem c_emt {L u a b x y z : Int} {M0 τ M : gSt} {k : gSt → Prop} (h0 : 0 ≤ τ 0 1 ∧ τ 0 1 < 60) (hg : rdC u M0 τ M) (hx : x = encT u a b) (h : ∀ M', rdC u M0 (emt a b τ) M' → k M') : w_X4_append 50 x y z M (fun _ M' => k M') := by
  obtain ⟨g1, g2, g3, g4, g5, g6, g7⟩ := hg
  refine sp_app1 (L := 60) pl_50 g4 g5 (by rw [g6]; exact h0) (by decide) rfl (h _ ?_)
  refine ⟨fun p a b c => by rw [wrO' b, wrO' c]; exact g1 p a b c, by rw [wrO (by decide), wrO (by decide)]; exact g2, by rw [wrO (by decide), wrO (by decide), emt_i]; exact g3, by rw [wrN (by decide), wrO (by decide)]; exact g4, by rw [wrN (by decide), wrO (by decide)]; exact g5, by rw [wrI, emt_c, g6], fun j a1 b1 => ?_⟩
  rw [emt_c] at b1
  rw [wrO (by decide), emt_1, emt_2, g6]
  by_cases hj : j = τ 0 1
  · rw [if_pos hj, if_pos hj, hj, ← hx]; exact wrI
  · rw [if_neg hj, if_neg hj]
    exact (wrN hj).trans (g7 j a1 (by omega))
theorem c_lvl {c : Int} {M : gSt} {k : Int → gSt → Prop} (hc : inI c) (h : k (lvl c) M) : w_X3_levelOf c M k := by
  unfold w_X3_levelOf
  unfold lvl at h
  rw [wI hc]
  refine ⟨fun e => ?_, fun e => ?_, fun e => ?_, fun e => ?_, fun e => ?_, fun e => ?_, fun e => ?_, fun e => ?_, fun e => ?_, fun e => ?_, fun e => ?_⟩
  all_goals first | (subst e; exact h) | (rw [if_neg (by omega), if_neg (by omega), if_neg (by omega), if_neg (by omega), if_neg (by omega)] at h; exact h)
theorem c_digit {c : Int} {M : gSt} {k : Int → gSt → Prop} (hc : inI c) (k1 : 48 ≤ c ∧ c ≤ 57 → k 1 M) (k0 : ¬ (48 ≤ c ∧ c ≤ 57) → k 0 M) : w_X3_isDigit c M k := by
  unfold w_X3_isDigit
  rw [wI hc]
  exact ⟨fun z => k0 (by omega), fun z => ⟨fun z2 => k0 (by omega), fun z2 => k1 (by omega)⟩⟩
theorem c_num {T : Int → Int} {L u : Int} {M0 : gSt} {k : gSt → Prop} (hT : tpC T L M0) : ∀ (n : Nat) (x v : Int) (τ M : gSt), n ≤ 4 → v = 4 - (n : Int) → pOK L τ → τ 0 1 < 60 → rdC u M0 τ M → (∀ M', rdC u M0 (pNum T L n x τ) M' → k M') → wL_X3_readNumber_4 47 k (fun u1_4 M4 => wB_X3_readNumber_48 47 k u1_4 M4) (n + 1) x v M := by
  intro n
  induction n with
  | zero =>
    intro x v τ M hn hv hp hc hg h
    unfold wL_X3_readNumber_4 wC_X3_readNumber_4 wB_X3_readNumber_48
    rw [wI (x := v) ⟨by omega, by omega⟩]
    exact ⟨fun _ => c_emt (L := L) (a := 0) (b := x) ⟨hp.1, hc⟩ hg rfl h, fun z => absurd z (by omega)⟩
  | succ n ih =>
    intro x v τ M hn hv hp hc hg h
    have hp' := hp
    obtain ⟨p1, p2, p3⟩ := hp'
    unfold pNum at h
    unfold wL_X3_readNumber_4 wC_X3_readNumber_4
    rw [wI (x := v) ⟨by omega, by omega⟩]
    refine ⟨fun z => absurd z (by omega), fun _ => c_peek hT hp hg (c_digit (pkI hT (by omega)) (fun w => z1 ?_) (fun w => z0 ?_))⟩
    · rw [if_pos w] at h
      have l := pkL (T := T) (L := L) (τ := τ) (by omega)
      refine c_peek hT hp hg (fun x1 e1 M1 e2 => ?_)
      rw [show x * 10 + pk T L τ - 48 = 10 * x + pk T L τ - 48 from by omega] at e1
      subst e1; subst e2
      exact ih _ _ (adv τ) _ (by omega) (by omega) ⟨by rw [adv_c]; omega, by rw [adv_c, adv_i]; omega, by rw [adv_i]; omega⟩ (by rw [adv_c]; exact hc) (rdC_adv hg) h
    · rw [if_neg w] at h
      unfold wB_X3_readNumber_48
      exact c_emt (L := L) (a := 0) (b := x) ⟨p1, hc⟩ hg rfl h
theorem c_name {u c : Int} {M : gSt} {k : Int → gSt → Prop} (hu : M 47 2 = u) (hu' : u = 0 ∨ u = 1) (hc : inI c) (k1 : ∀ j, isNm u c → (-1) - j = encT u 1 c → 0 ≤ j ∧ j < 3 → k j M) (k0 : ¬ isNm u c → k (-1) M) : w_X3_nameOf 47 c M k := by
  unfold w_X3_nameOf
  have b0 : wrap 0 = 0 := rfl
  have b1 : wrap 1 = 1 := by decide
  have b2 : wrap 2 = 2 := by decide
  have b3 : wrap 3 = 3 := by decide
  have b4 : wrap 4 = 4 := by decide
  have b5 : wrap 5 = 5 := by decide
  refine ⟨pl_47, 4, ?_⟩
  rcases hu' with rfl | rfl
  · unfold wL_X3_nameOf_2 wC_X3_nameOf_2 wB_X3_nameOf_39
    refine ⟨fun z => absurd z (by decide), fun _ x ex => ?_⟩
    rw [hu] at ex
    have ex : x = 0 := by omega
    subst ex
    refine ⟨fun z => absurd z (by decide), fun _ => ⟨fun z => absurd z (by decide), fun _ => ⟨by decide, ?_⟩⟩⟩
    rw [show wrap (tb_NAMES 0) = 103 from by decide, wI hc]
    refine ⟨fun n1 => ?_, fun e => k1 0 (Or.inl e.symm) (by rw [← e]; decide) (by decide)⟩
    unfold wL_X3_nameOf_2 wC_X3_nameOf_2 wB_X3_nameOf_39
    refine ⟨fun z => absurd z (by decide), fun _ x ex => ?_⟩
    rw [hu] at ex
    have ex : x = 1 := by omega
    subst ex
    refine ⟨fun z => absurd z (by decide), fun _ => ⟨fun z => absurd z (by decide), fun _ => ⟨by decide, ?_⟩⟩⟩
    rw [show wrap (tb_NAMES 1) = 115 from by decide, wI hc]
    refine ⟨fun n2 => ?_, fun e => k1 1 (Or.inr (Or.inl ⟨rfl, Or.inl e.symm⟩)) (by rw [← e]; decide) (by decide)⟩
    unfold wL_X3_nameOf_2 wC_X3_nameOf_2 wB_X3_nameOf_39
    refine ⟨fun z => absurd z (by decide), fun _ x ex => ?_⟩
    rw [hu] at ex
    have ex : x = 2 := by omega
    subst ex
    refine ⟨fun z => absurd z (by decide), fun _ => ⟨fun z => absurd z (by decide), fun _ => ⟨by decide, ?_⟩⟩⟩
    rw [show wrap (tb_NAMES 2) = 109 from by decide, wI hc]
    refine ⟨fun n3 => ?_, fun e => k1 2 (Or.inr (Or.inl ⟨rfl, Or.inr e.symm⟩)) (by rw [← e]; decide) (by decide)⟩
    unfold wL_X3_nameOf_2 wC_X3_nameOf_2
    exact ⟨fun _ => k0 (by omega), fun z => absurd z (by decide)⟩
  · unfold wL_X3_nameOf_2 wC_X3_nameOf_2 wB_X3_nameOf_39
    refine ⟨fun z => absurd z (by decide), fun _ x ex => ?_⟩
    rw [hu] at ex
    have ex : x = 3 := by omega
    subst ex
    refine ⟨fun z => absurd z (by decide), fun _ => ⟨fun z => absurd z (by decide), fun _ => ⟨by decide, ?_⟩⟩⟩
    rw [show wrap (tb_NAMES 3) = 99 from by decide, wI hc]
    refine ⟨fun n1 => ?_, fun e => k1 0 (Or.inr (Or.inr ⟨by decide, Or.inl e.symm⟩)) (by rw [← e]; decide) (by decide)⟩
    unfold wL_X3_nameOf_2 wC_X3_nameOf_2 wB_X3_nameOf_39
    refine ⟨fun z => absurd z (by decide), fun _ x ex => ?_⟩
    rw [hu] at ex
    have ex : x = 4 := by omega
    subst ex
    refine ⟨fun z => absurd z (by decide), fun _ => ⟨fun z => absurd z (by decide), fun _ => ⟨by decide, ?_⟩⟩⟩
    rw [show wrap (tb_NAMES 4) = 103 from by decide, wI hc]
    refine ⟨fun n2 => ?_, fun e => k1 1 (Or.inl e.symm) (by rw [← e]; decide) (by decide)⟩
    unfold wL_X3_nameOf_2 wC_X3_nameOf_2 wB_X3_nameOf_39
    refine ⟨fun z => absurd z (by decide), fun _ x ex => ?_⟩
    rw [hu] at ex
    have ex : x = 5 := by omega
    subst ex
    refine ⟨fun z => absurd z (by decide), fun _ => ⟨fun z => absurd z (by decide), fun _ => ⟨by decide, ?_⟩⟩⟩
    rw [show wrap (tb_NAMES 5) = 110 from by decide, wI hc]
    refine ⟨fun n3 => ?_, fun e => k1 2 (Or.inr (Or.inr ⟨by decide, Or.inr e.symm⟩)) (by rw [← e]; decide) (by decide)⟩
    unfold wL_X3_nameOf_2 wC_X3_nameOf_2
    exact ⟨fun _ => k0 (by omega), fun z => absurd z (by decide)⟩
theorem wg2 {d : Nat} {a b : Int} {M : gSt} {k : Int → gSt → Prop} : wg_X3_readLevel 47 (d + 1) 2 [a, b] M k = wb_X3_readOpened (wg_X3_readLevel 47 d) 47 a b M k := rfl
/-- a piece of the class's reader comes to the abstract one -/
def runC (u L : Int) (M0 : gSt) (S : gSt → Int × gSt) (P : gSt → (Int → gSt → Prop) → Prop) : Prop := ∀ τ M k, pOK L τ → rdC u M0 τ M → (∀ M', rdC u M0 (S τ).2 M' → k (S τ).1 M') → P M k
theorem c_loop {T : Int → Int} {L u lev a2 : Int} {M0 : gSt} {rc : Nat → List Int → gSt → (Int → gSt → Prop) → Prop} {kk k : Int → gSt → Prop} {sub : gSt → Int × gSt} (hT : tpC T L M0) (hu : u = 0 ∨ u = 1) (hl : 0 ≤ lev ∧ lev ≤ 4) (hg : good L u sub) (hs : runC u L M0 sub (rc 0 [lev + 1, a2])) : ∀ (n : Nat) (v3 v4 : Int) (τ M : gSt), v3 - v4 = (n : Int) → v3 ≤ 60 → 0 ≤ v4 → pOK L τ → rdC u M0 τ M → (∀ M', rdC u M0 (pLoop T L sub lev n τ).2 M' → k (pLoop T L sub lev n τ).1 M') → wL_X3_readLevel_39 rc 47 lev a2 kk (fun M39 => k 0 M39) (fun M39 => k 1 M39) (n + 1) v3 v4 M := by
  intro n
  induction n with
  | zero =>
    intro v3 v4 τ M hn b3 b4 hp gg h
    unfold wL_X3_readLevel_39 wC_X3_readLevel_39
    rw [wI (x := v3) ⟨by omega, by omega⟩, wI (x := v4) ⟨by omega, by omega⟩]
    exact ⟨fun _ => h M gg, fun z => absurd z (by omega)⟩
  | succ n ih =>
    intro v3 v4 τ M hn b3 b4 hp gg h
    have hp' := hp
    obtain ⟨p1, p2, p3⟩ := hp'
    have t4 := hT.2.2.2.1
    have pi := pkI hT (τ := τ) (by omega)
    unfold pLoop at h
    unfold wL_X3_readLevel_39 wC_X3_readLevel_39
    rw [wI (x := v3) ⟨by omega, by omega⟩, wI (x := v4) ⟨by omega, by omega⟩]
    refine ⟨fun z => absurd z (by omega), fun _ => c_peek hT hp gg (c_lvl pi ?_)⟩
    have lb : -1 ≤ lvl (pk T L τ) ∧ lvl (pk T L τ) ≤ 4 := by unfold lvl; omega
    rw [wI (x := lvl (pk T L τ)) ⟨by omega, by omega⟩, wI (x := lev) ⟨by omega, by omega⟩]
    refine ⟨fun w => ?_, fun w => ?_⟩
    · rw [if_neg w] at h; exact h M gg
    · rw [if_pos w] at h
      have l : τ 0 0 < L := by
        refine pkL (T := T) ?_
        unfold lvl at w
        omega
      have pa : pOK L (adv τ) := ⟨by rw [adv_c]; omega, by rw [adv_c, adv_i]; omega, by rw [adv_i]; omega⟩
      refine c_peek hT hp gg (fun M1 e1 => ?_)
      subst e1
      obtain ⟨q1, q2, q3⟩ := hg (adv τ) pa
      rw [adv_i, adv_c] at q2
      refine hs (adv τ) _ _ pa (rdC_adv gg) (fun M2 g2 => ?_)
      by_cases z : (sub (adv τ)).1 = 0
      · rw [if_pos z] at h
        rw [z]
        exact z0n (h M2 g2)
      · rw [if_neg z] at h
        rcases q3 with q3 | ⟨q3, -⟩
        · exact absurd q3 z
        rw [q3]
        obtain ⟨r1, r2, r3⟩ := q1
        refine z1n (c_emt (L := L) (a := 3) (b := pk T L τ) ⟨r1, by omega⟩ g2 rfl (fun M3 g3 => ?_))
        exact ih v3 (v4 + 1) _ M3 (by omega) b3 (by omega) ⟨by rw [emt_c]; omega, by rw [emt_c, emt_i]; omega, by rw [emt_i]; omega⟩ g3 h
theorem c_lev {T : Int → Int} {L u a2 : Int} {D : Nat} {M0 : gSt} {W : gSt → Int × gSt} (hT : tpC T L M0) (hu : u = 0 ∨ u = 1) (hg : good L u W) (hW : ∀ d, D ≤ d → runC u L M0 W (wg_X3_readLevel 47 d 1 [a2])) : ∀ (n : Nat), n ≤ 5 → ∀ (lev : Int) (d : Nat), lev = 5 - (n : Int) → D + n + 1 ≤ d → runC u L M0 (pLev T L W n) (wg_X3_readLevel 47 d 0 [lev, a2]) := by
  intro n
  induction n with
  | zero =>
    intro hn lev d hl hd τ M k hp gg h
    obtain ⟨d', rfl⟩ : ∃ d', d = d' + 1 := ⟨d - 1, by omega⟩
    show wb_X3_readLevel (wg_X3_readLevel 47 d') 47 lev a2 M k
    unfold wb_X3_readLevel
    rw [wI (x := lev) ⟨by omega, by omega⟩]
    refine ⟨pl_47, fun z => absurd z (by omega), fun _ => hW d' (by omega) τ M _ hp gg (fun M' g' => ⟨?_, h M' g'⟩)⟩
    rcases (hg τ hp).2.2 with e | e
    · exact Or.inl e
    · exact Or.inr e.1
  | succ n ih =>
    intro hn lev d hl hd τ M k hp gg h
    obtain ⟨d', rfl⟩ : ∃ d', d = d' + 1 := ⟨d - 1, by omega⟩
    show wb_X3_readLevel (wg_X3_readLevel 47 d') 47 lev a2 M k
    have gl := good_lev (T := T) hg n (by omega)
    have ih' := ih (by omega) (lev + 1) d' (by omega) (by omega)
    unfold wb_X3_readLevel wB_X3_readLevel_35
    rw [wI (x := lev) ⟨by omega, by omega⟩]
    unfold pLev at h
    refine ⟨pl_47, fun _ => ih' τ M _ hp gg (fun M' g' => ?_), fun z => absurd z (by omega)⟩
    obtain ⟨q1, q2, q3⟩ := gl τ hp
    by_cases z : (pLev T L W n τ).1 = 0
    · rw [if_pos z] at h
      rw [z]
      exact z0n (h M' g')
    · rw [if_neg z] at h
      rcases q3 with q3 | ⟨q3, -⟩
      · exact absurd q3 z
      rw [q3]
      have el : (4 : Int) - (n : Int) = lev := by omega
      rw [el] at h
      refine z1n ⟨fun w => ?_, fun w => ?_⟩
      · rw [if_neg (by omega)] at h
        exact ⟨60 + 1, c_loop hT hu ⟨by omega, by omega⟩ gl ih' 60 60 0 _ M' (by decide) (by decide) (by decide) q1 g' h⟩
      · rw [if_pos (by omega)] at h
        exact ⟨1 + 1, c_loop hT hu ⟨by omega, by omega⟩ gl ih' 1 1 0 _ M' (by decide) (by decide) (by decide) q1 g' h⟩
theorem c_val {T : Int → Int} {L u : Int} {M0 : gSt} (hT : tpC T L M0) (hu : u = 0 ∨ u = 1) : ∀ o : Nat, o ≤ 5 → ∀ (a : Int) (d : Nat), a = 5 - (o : Int) → 8 * o + 1 ≤ d → runC u L M0 (pVal T L u o) (wg_X3_readLevel 47 d 1 [a]) := by
  have nm : ∀ (τ M : gSt) (k : Int → gSt → Prop), pOK L τ → rdC u M0 τ M → isNm u (pk T L τ) → (∀ M', rdC u M0 (emt 1 (pk T L τ) (adv τ)) M' → k 1 M') → w_X3_nameOf 47 (pk T L τ) M (fun r54c M54 => (0 ≤ wrap r54c → ∀ M71 : gSt, M71 = wr M54 47 3 ((M54 47 3) + 1) → (w_X4_append (47 + 3) ((-1) - r54c) 0 0 M71 (fun r83c M83 => k 1 M83))) ∧ (wrap r54c < 0 → k 0 M54)) := by
    intro τ M k hp gg w h
    obtain ⟨p1, p2, p3⟩ := hp
    have t4 := hT.2.2.2.1
    have l : τ 0 0 < L := pkL (T := T) (by omega)
    refine c_name gg.2.1 hu (pkI hT (by omega)) (fun j _ ej bj => ⟨fun _ M1 e1 => ?_, fun z => ?_⟩) (fun z => absurd w z)
    · subst e1
      exact c_emt (L := L) (a := 1) (b := pk T L τ) ⟨by rw [adv_c]; omega, by rw [adv_c]; omega⟩ (rdC_adv gg) ej h
    · rw [wI (x := j) ⟨by omega, by omega⟩] at z; omega
  have nn : ∀ (τ M : gSt) (k : Int → gSt → Prop), pOK L τ → rdC u M0 τ M → ¬ isNm u (pk T L τ) → k 0 M → w_X3_nameOf 47 (pk T L τ) M (fun r54c M54 => (0 ≤ wrap r54c → ∀ M71 : gSt, M71 = wr M54 47 3 ((M54 47 3) + 1) → (w_X4_append (47 + 3) ((-1) - r54c) 0 0 M71 (fun r83c M83 => k 1 M83))) ∧ (wrap r54c < 0 → k 0 M54)) := by
    intro τ M k hp gg w h
    obtain ⟨p1, p2, p3⟩ := hp
    refine c_name gg.2.1 hu (pkI hT (by omega)) (fun j z _ _ => absurd z w) (fun _ => ⟨fun z => absurd z (by decide), fun _ => h⟩)
  have dg : ∀ (τ M : gSt) (k : Int → gSt → Prop), pOK L τ → rdC u M0 τ M → 48 ≤ pk T L τ ∧ pk T L τ ≤ 57 → (∀ M', rdC u M0 (pNum T L 4 0 τ) M' → k 1 M') → w_X3_readNumber 47 M (fun M13 => k 1 M13) := by
    intro τ M k hp gg w h
    obtain ⟨p1, p2, p3⟩ := hp
    have t4 := hT.2.2.2.1
    have l := pkL (T := T) (L := L) (τ := τ) (by omega)
    unfold w_X3_readNumber
    exact ⟨pl_47, 4 + 1, c_num hT 4 0 0 τ M (by decide) (by decide) ⟨p1, p2, p3⟩ (by omega) gg h⟩
  intro o
  induction o with
  | zero =>
    intro ho a d ha hd τ M k hp gg h
    obtain ⟨d', rfl⟩ : ∃ d', d = d' + 1 := ⟨d - 1, by omega⟩
    show wb_X3_readValue (wg_X3_readLevel 47 d') 47 a M k
    have pi := pkI hT (τ := τ) (by have := hp.1; have := hp.2.1; omega)
    unfold pVal at h
    unfold wb_X3_readValue wB_X3_readValue_30
    refine ⟨pl_47, c_peek hT hp gg (c_digit pi (fun w => z1 ?_) (fun w => z0 ?_))⟩
    · rw [if_neg (by omega), if_pos w] at h
      exact dg τ M k hp gg w h
    · rw [wI pi, wI (x := a) ⟨by omega, by omega⟩]
      by_cases w2 : isNm u (pk T L τ)
      · rw [if_pos w2] at h
        exact ⟨fun z => absurd z (by omega), fun _ => ⟨fun _ => nm τ M k hp gg w2 h, fun z => absurd z (by omega)⟩⟩
      · rw [if_neg w2, if_neg w] at h
        exact ⟨fun _ => ⟨fun _ => h M gg, fun z => absurd z (by omega)⟩, fun _ => ⟨fun _ => nn τ M k hp gg w2 (h M gg), fun _ => ⟨fun _ => h M gg, fun z => absurd z (by omega)⟩⟩⟩
  | succ o ih =>
    intro ho a d ha hd τ M k hp gg h
    obtain ⟨d', rfl⟩ : ∃ d', d = d' + 1 + 1 := ⟨d - 2, by omega⟩
    show wb_X3_readValue (wg_X3_readLevel 47 (d' + 1)) 47 a M k
    have t4 := hT.2.2.2.1
    have hp' := hp
    obtain ⟨p1, p2, p3⟩ := hp'
    have pi := pkI hT (τ := τ) (by omega)
    unfold pVal at h
    unfold wb_X3_readValue wB_X3_readValue_30
    refine ⟨pl_47, c_peek hT hp gg (c_digit pi (fun w => z1 ?_) (fun w => z0 ?_))⟩
    · rw [if_neg (by omega), if_pos w] at h
      exact dg τ M k hp gg w h
    · rw [wI pi, wI (x := a) ⟨by omega, by omega⟩]
      by_cases w2 : isNm u (pk T L τ)
      · rw [if_pos w2] at h
        exact ⟨fun z => absurd z (by omega), fun _ => ⟨fun _ => nm τ M k hp gg w2 h, fun z => absurd z (by omega)⟩⟩
      · rw [if_neg w2, if_neg w] at h
        have gv := good_val (T := T) (L := L) (u := u) o
        by_cases w3 : pk T L τ = 33
        · rw [if_pos w3] at h
          have l := pkL (T := T) (L := L) (τ := τ) (by omega)
          have pa : pOK L (adv τ) := ⟨by rw [adv_c]; omega, by rw [adv_c, adv_i]; omega, by rw [adv_i]; omega⟩
          refine ⟨fun _ => ⟨fun z => absurd z (by omega), fun _ => ?_⟩, fun z => absurd w3 z⟩
          rw [wg2]
          unfold wb_X3_readOpened
          refine ⟨pl_47, fun M1 e1 => ?_⟩
          subst e1
          rw [wI pi]
          refine ⟨fun z => absurd w3 z, fun _ => ih (by omega) (a + 1) d' (by omega) (by omega) (adv τ) _ _ pa (rdC_adv gg) (fun M2 g2 => ?_)⟩
          obtain ⟨q1, q2, q3⟩ := gv (adv τ) pa
          rw [adv_i, adv_c] at q2
          by_cases z : (pVal T L u o (adv τ)).1 = 0
          · rw [if_pos z] at h
            rw [z]
            exact z0n (z0 (h M2 g2))
          · rw [if_neg z] at h
            rcases q3 with q3 | ⟨q3, -⟩
            · exact absurd q3 z
            rw [q3]
            obtain ⟨r1, r2, r3⟩ := q1
            exact z1n (c_emt (L := L) (a := 2) (b := 0) ⟨r1, by omega⟩ g2 (by rw [w3]; rfl) (fun M3 g3 => z1 (h M3 g3)))
        · rw [if_neg w3] at h
          by_cases w4 : pk T L τ = 40
          · rw [if_pos w4] at h
            have l := pkL (T := T) (L := L) (τ := τ) (by omega)
            have pa : pOK L (adv τ) := ⟨by rw [adv_c]; omega, by rw [adv_c, adv_i]; omega, by rw [adv_i]; omega⟩
            refine ⟨fun z => absurd z w3, fun _ => ⟨fun z => absurd w4 z, fun _ => ⟨fun z => absurd z (by omega), fun _ => ?_⟩⟩⟩
            rw [wg2]
            unfold wb_X3_readOpened
            refine ⟨pl_47, fun M1 e1 => ?_⟩
            subst e1
            rw [wI pi]
            refine ⟨fun _ => c_lev (T := T) (D := 8 * o + 1) hT hu gv (fun d2 h2 => ih (by omega) (a + 1) d2 (by omega) h2) 5 (by decide) 0 d' (by decide) (by omega) (adv τ) _ _ pa (rdC_adv gg) (fun M2 g2 => ?_), fun z => absurd z w3⟩
            obtain ⟨q1, q2, q3⟩ := good_lev (T := T) gv 5 (by decide) (adv τ) pa
            generalize (pLev T L (pVal T L u o) 5 (adv τ)) = R at q1 q2 q3 h g2 ⊢
            by_cases z : R.1 = 0
            · rw [if_pos z] at h
              rw [z]
              exact z0 (z0 (h M2 g2))
            · rw [if_neg z] at h
              rcases q3 with q3 | ⟨q3, -⟩
              · exact absurd q3 z
              rw [q3]
              refine z1 (c_peek hT q1 g2 ?_)
              rw [wI (pkI hT (by have := q1.1; have := q1.2.1; omega))]
              refine ⟨fun w5 M3 e3 => ?_, fun w5 => ?_⟩
              · rw [if_pos w5] at h
                subst e3
                exact z1 (h _ (rdC_adv g2))
              · rw [if_neg w5] at h
                exact z0 (h M2 g2)
          · rw [if_neg w4] at h
            exact ⟨fun z => absurd z w3, fun _ => ⟨fun _ => nn τ M k hp gg w2 (h M gg), fun z => absurd z w4⟩⟩
