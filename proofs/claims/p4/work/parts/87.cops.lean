-- the class's public methods on the abstract state (the same S_ as the reference's)
theorem sp_addFirst {km g : Int} {M : gSt} {k : Int → gSt → Prop} (hk : 0 ≤ km ∧ km ≤ 699) (hn : 0 ≤ M 2 1 ∧ M 2 1 ≤ 11) (hf : 0 ≤ M 2 2 ∧ M 2 2 ≤ 4) (hK : cK M) (h : ∀ M', absC M' = (if absC M 0 1 < 4 then up1 (up1 (up1 (addT (absC M) km) 1 (10 * absC M 0 0 + 2) g) 1 (10 * absC M 0 0 + (6 + absC M 0 1)) 1000000) 0 1 (absC M 0 1 + 1) else up1 (addT (absC M) km) 1 (10 * absC M 0 0 + 2) g) → cK M' → k (M 2 1) M') : w_X0_addFirst 2 km g M k := by
  unfold w_X0_addFirst
  refine ⟨pl_2, sp_add hk hn hK (fun M1 e1 K1 => ?_)⟩
  refine sp_become pl_2 rfl ⟨by omega, by omega⟩ (by decide) ?_
  have r1 : wr M1 (2 + 1) (10 * M 2 1 + 2) g 2 2 = M 2 2 := by
    rw [wrO (by decide), ← rc01 M1, e1, ← rc01 M]
    simp [addT]
  rw [r1, wI (x := M 2 2) ⟨by omega, by omega⟩]
  rw [rc01, rc00] at h
  refine ⟨fun q => ?_, fun q => ?_⟩
  · rw [if_neg (by omega)] at h
    exact h _ (by rw [ac_3 (by omega) (by omega), e1]) (cK_wr K1 (Or.inr (by decide)))
  · rw [if_pos q] at h
    refine sp_become pl_2 rfl ⟨by omega, by omega⟩ ⟨by omega, by omega⟩ ?_
    intro M2 e2
    have r2 : wr (wr M1 (2 + 1) (10 * M 2 1 + 2) g) (2 + 1) (10 * M 2 1 + (6 + M 2 2)) 1000000 2 2 = M 2 2 := by
      rw [wrO (by decide)]; exact r1
    rw [r2] at e2
    subst e2
    refine h _ ?_ (cK_wr (cK_wr (cK_wr K1 (Or.inr (by decide))) (Or.inr (by decide))) (Or.inr (by decide)))
    rw [ac_2_2, ac_3 (by omega) (by omega), ac_3 (by omega) (by omega), e1]
theorem sC_thing {a1 a2 : Int} {M : gSt} {k : Int → gSt → Prop} (i1 : inI a1) (i2 : inI a2) (I : iN (absC M)) (hK : cK M) (h : ∀ M', absC M' = (S_thing a1 a2 (absC M)).2 → cK M' → k (S_thing a1 a2 (absC M)).1 M') : w_X8_thing a1 a2 M k := by
  unfold iN at I
  unfold w_X8_thing wB_X8_thing_17
  refine isKM i1 (fun h1 => z1 ?_) (fun h1 => z0 (errC (by decide) (by decide) hK (if_pos (fun q => h1 q.1)) h))
  refine sp_within i2 (by constructor <;> decide) (by constructor <;> decide) (fun h2 => z1n ?_) (fun h2 => z0n (errC (by decide) (by decide) hK (if_pos (fun q => h2 q.2)) h))
  have hc : ¬ ¬ ((0 ≤ a1 ∧ a1 ≤ 699) ∧ (0 ≤ a2 ∧ a2 ≤ 9999999)) := fun q => q ⟨h1, h2⟩
  have n0 := rc00 M
  have n1 := rc01 M
  unfold w_X0_room
  dsimp only
  rw [wI (x := 12 - M 2 1) ⟨by omega, by omega⟩]
  refine ⟨pl_2, fun h3 => ?_, fun h3 => errC (by decide) (by decide) hK ((if_neg hc).trans (if_pos (by omega))) h⟩
  have hS : S_thing a1 a2 (absC M) = _ := (if_neg hc).trans (if_neg (by omega))
  rw [hS, n0, n1] at h
  refine sp_addFirst h1 ⟨by omega, by omega⟩ ⟨by omega, by omega⟩ hK (fun M1 e1 K1 => h M1 ?_ K1)
  rw [e1, n0, n1]
theorem sp_above {x : Int} {M : gSt} {k : Int → gSt → Prop} (hx : inI x) (h : k (if x = 4 then 1 else if x = 5 then 2 else if x = 6 then 3 else 0) M) : w_X8_above x M k := by
  unfold w_X8_above
  rw [wI hx]
  refine ⟨fun q => ?_, fun q => ⟨fun q2 => ?_, fun q2 => ⟨⟨by omega, by omega⟩, ?_⟩⟩⟩
  · rw [if_neg (by omega), if_neg (by omega), if_neg (by omega)] at h; exact h
  · rw [if_neg (by omega), if_neg (by omega), if_neg (by omega)] at h; exact h
  · rcases (show x = 0 ∨ x = 1 ∨ x = 2 ∨ x = 3 ∨ x = 4 ∨ x = 5 ∨ x = 6 by omega) with rfl | rfl | rfl | rfl | rfl | rfl | rfl <;> exact h
theorem iu0 {a b v j : Int} {f : Nat} {M : gSt} {k : Int → gSt → Prop} (hv : 0 ≤ v ∧ v ≤ 3) (hj : 0 ≤ j ∧ j ≤ 3) (hb : 0 ≤ b ∧ b ≤ 6) (k1 : v = b ∨ b = 0 → k 1 M) (k0 : ¬ (v = b ∨ b = 0) → k 0 M) : wL_X8_isUnder_4 a b k (fun u2_4 M4 => wB_X8_isUnder_30 a b k u2_4 M4) (f + 2) v j M := by
  simp only [wL_X8_isUnder_4, wC_X8_isUnder_4, wB_X8_isUnder_30]
  rw [wI (x := v) ⟨by omega, by omega⟩, wI (x := b) ⟨by omega, by omega⟩, wI (x := j) ⟨by omega, by omega⟩]
  refine ⟨fun q => absurd q (by omega), fun _ => ⟨fun e => ⟨fun n => absurd e n, fun _ => k1 (Or.inl e)⟩, fun n => ⟨fun z => ⟨fun _ => k0 (by omega), fun e => absurd e n⟩, fun nz => sp_above ⟨by omega, by omega⟩ ?_⟩⟩⟩
  rw [if_neg (by omega), if_neg (by omega), if_neg (by omega), wI (x := j + 1) ⟨by omega, by omega⟩, wrap_0]
  exact ⟨fun q => absurd q (by omega), fun _ => ⟨fun e => ⟨fun n => absurd e n, fun _ => k1 (Or.inr e.symm)⟩, fun n0 => ⟨fun _ => ⟨fun _ => k0 (by omega), fun e => absurd e n0⟩, fun q => absurd rfl q⟩⟩⟩
theorem sp_isUnder {a b : Int} {M : gSt} {k : Int → gSt → Prop} (ha : 0 ≤ a ∧ a ≤ 6) (hb : 0 ≤ b ∧ b ≤ 6) (k1 : under a b → k 1 M) (k0 : ¬ under a b → k 0 M) : w_X8_isUnder a b M k := by
  unfold w_X8_isUnder
  unfold under at k1 k0
  by_cases h3 : a ≤ 3
  · exact ⟨2, iu0 (f := 0) ⟨ha.1, h3⟩ (by decide) hb (fun q => k1 (by omega)) (fun q => k0 (by omega))⟩
  · refine ⟨3, ?_⟩
    rw [wL_X8_isUnder_4]
    unfold wC_X8_isUnder_4
    dsimp only
    rw [wI (x := a) ⟨by omega, by omega⟩, wI (x := b) ⟨by omega, by omega⟩, wrap_0]
    refine ⟨fun q => absurd q (by decide), fun _ => ⟨fun e => ?_, fun n => ⟨fun z => absurd z (by omega), fun nz => sp_above ⟨by omega, by omega⟩ ?_⟩⟩⟩
    · unfold wB_X8_isUnder_30
      rw [wI (x := a) ⟨by omega, by omega⟩, wI (x := b) ⟨by omega, by omega⟩]
      exact ⟨fun n => absurd e n, fun _ => k1 (by omega)⟩
    · rcases (show a = 4 ∨ a = 5 ∨ a = 6 by omega) with rfl | rfl | rfl
      · exact iu0 (f := 0) (v := 1) (by decide) (by decide) hb (fun q => k1 (by omega)) (fun q => k0 (by omega))
      · exact iu0 (f := 0) (v := 2) (by decide) (by decide) hb (fun q => k1 (by omega)) (fun q => k0 (by omega))
      · exact iu0 (f := 0) (v := 3) (by decide) (by decide) hb (fun q => k1 (by omega)) (fun q => k0 (by omega))
theorem sC_as {a1 a2 : Int} {M : gSt} {k : Int → gSt → Prop} (i1 : inI a1) (i2 : inI a2) (I : iN (absC M)) (J : iB (absC M)) (hK : cK M) (h : ∀ M', absC M' = (S_as a1 a2 (absC M)).2 → cK M' → k (S_as a1 a2 (absC M)).1 M') : w_X8_as a1 a2 M k := by
  unfold iN at I
  have n0 := rc00 M
  unfold w_X8_as wB_X8_as_24
  refine sp_has0 pl_2 i1 ⟨by omega, by omega⟩ (fun h1 => z1 ?_) (fun h1 => z0 (errC (by decide) (by decide) hK (if_pos (fun q => h1 (by omega))) h))
  refine sp_within i2 (by constructor <;> decide) (by constructor <;> decide) (fun h2 => z1n ?_) (fun h2 => z0n (errC (by decide) (by decide) hK (if_pos (fun q => h2 q.2)) h))
  have hc : ¬ ¬ ((0 ≤ a1 ∧ a1 < absC M 0 0) ∧ (0 ≤ a2 ∧ a2 ≤ 6)) := fun q => q ⟨by omega, h2⟩
  have T := J a1 (by omega) (by omega)
  unfold thOk at T
  refine sp_number pl_2 rfl ⟨by omega, by omega⟩ (by decide) ?_
  rw [← rc1 M (i := 10 * a1 + 0) (by omega) (by omega)]
  refine sp_isUnder T.1 h2 (fun h3 => z1n ?_) (fun h3 => z0n (errC (by decide) (by decide) hK ((if_neg hc).trans (if_neg (by unfold under at h3; omega))) h))
  refine sp_number pl_2 rfl ⟨by omega, by omega⟩ (by decide) ?_
  have hS : S_as a1 a2 (absC M) = _ := (if_neg hc).trans (if_pos (by unfold under at h3; omega))
  rw [hS] at h
  have := h M rfl hK
  rw [rc1 M (by omega) (by omega)] at this
  exact this
theorem sC_set {a1 a2 a3 : Int} {M : gSt} {k : Int → gSt → Prop} (i1 : inI a1) (i2 : inI a2) (i3 : inI a3) (I : iN (absC M)) (J : iB (absC M)) (hK : cK M) (h : ∀ M', absC M' = (S_set a1 a2 a3 (absC M)).2 → cK M' → k (S_set a1 a2 a3 (absC M)).1 M') : w_X8_set a1 a2 a3 M k := by
  unfold iN at I
  have n0 := rc00 M
  unfold w_X8_set wB_X8_set_34
  refine sp_has0 pl_2 i1 ⟨by omega, by omega⟩ (fun h1 => z1 ?_) (fun h1 => z0 (errC (by decide) (by decide) hK (if_pos (fun q => h1 (by omega))) h))
  have T := J a1 (by omega) (by omega)
  unfold thOk at T
  have fin : ∀ s : Int, inI s → (0 ≤ a2 ∧ a2 ≤ 5 ∧ ¬ a2 = 2) → s = (if a2 = 0 then 6 else if a2 = 1 then 99 else absC M 1 (10 * a1 + 2)) → w_X8_within a3 0 s M (fun r28c M28 => (¬ wrap r28c = 0 → w_X0_number 2 a1 a2 M28 (fun r49c M49 => w_X0_become 2 a1 a2 a3 M49 (fun M64 => k r49c M64))) ∧ (wrap r28c = 0 → w_X8_refuse 1 M28 (fun r36c M36 => k r36c M36))) := by
    intro s hs h2 es
    refine sp_within i3 (by constructor <;> decide) hs (fun h3 => z1n ?_) (fun h3 => z0n (errC (by decide) (by decide) hK (if_pos (fun q => h3 (by rw [es]; exact q.2.2))) h))
    have hS : S_set a1 a2 a3 (absC M) = _ := if_neg (fun q => q ⟨by omega, h2, by rw [← es]; exact h3⟩)
    rw [hS, rc1 M (by omega) (by omega)] at h
    refine sp_number pl_2 rfl ⟨by omega, by omega⟩ ⟨by omega, by omega⟩ (sp_become pl_2 rfl ⟨by omega, by omega⟩ ⟨by omega, by omega⟩ ?_)
    exact h _ (ac_3 (by omega) (by omega)) (cK_wr hK (Or.inr (by decide)))
  unfold w_X0_mostSettable
  rw [wI i2]
  refine ⟨pl_2, fun n0 => ⟨fun n1 => ?_, fun e1 => fin 99 (by constructor <;> decide) (by omega) (by rw [if_neg n0, if_pos e1])⟩, fun e0 => fin 6 (by constructor <;> decide) (by omega) (by rw [if_pos e0])⟩
  refine sp_within i2 (by constructor <;> decide) (by constructor <;> decide) (fun h2 => z1 ?_) (fun h2 => z0 ?_)
  · refine sp_number pl_2 rfl ⟨by omega, by omega⟩ (by decide) ?_
    rw [← rc1 M (i := 10 * a1 + 2) (by omega) (by omega)]
    exact fin _ ⟨by omega, by omega⟩ (by omega) (by rw [if_neg n0, if_neg n1])
  · refine sp_within i3 (by constructor <;> decide) (by constructor <;> decide) (fun h3 => absurd h3 (by omega)) (fun h3 => z0n (errC (by decide) (by decide) hK (if_pos (fun q => h2 (by omega))) h))
theorem sC_crucible {a1 : Int} {M : gSt} {k : Int → gSt → Prop} (i1 : inI a1) (hK : cK M) (h : ∀ M', absC M' = (S_crucible a1 (absC M)).2 → cK M' → k (S_crucible a1 (absC M)).1 M') : w_X8_crucible a1 M k := by
  unfold w_X8_crucible
  refine sp_within i1 (by constructor <;> decide) (by constructor <;> decide) (fun h1 => z1n ?_) (fun h1 => z0n (errC (by decide) (by decide) hK (if_pos h1) h))
  have hS : S_crucible a1 (absC M) = _ := if_neg (fun q => q h1)
  rw [hS] at h
  refine sp_number pl_2 rfl (by decide) ⟨by omega, by omega⟩ ?_
  have := h M rfl hK
  rw [rc1 M (by omega) (by omega)] at this
  exact this
theorem sC_seed {a1 : Int} {M : gSt} {k : Int → gSt → Prop} (hK : cK M) (h : ∀ M', absC M' = (S_seed a1 (absC M)).2 → cK M' → k (S_seed a1 (absC M)).1 M') : w_X8_seed a1 M k := by
  unfold w_X8_seed w_X0_reseed
  refine ⟨pl_2, fun x e M1 e1 => ?_⟩
  subst e; subst e1
  have := h (wr M 2 4 a1) ac_2_4 (cK_wr hK (Or.inr (by decide)))
  simp only [S_seed] at this
  rw [rc08] at this
  exact this
theorem sC_claim {a1 a2 : Int} {M : gSt} {k : Int → gSt → Prop} (i1 : inI a1) (i2 : inI a2) (I : iN (absC M)) (hK : cK M) (h : ∀ M', absC M' = (S_claim a1 a2 (absC M)).2 → cK M' → k (S_claim a1 a2 (absC M)).1 M') : w_X8_claim a1 a2 M k := by
  unfold iN at I
  have n0 := rc00 M
  have n2 := rc02 M
  obtain ⟨w0, w2⟩ := cK_6 hK
  unfold w_X8_claim wB_X8_claim_24
  refine sp_has0 pl_2 i1 ⟨by omega, by omega⟩ (fun h1 => z1 ?_) (fun h1 => z0 (errC (by decide) (by decide) hK (if_pos (fun q => h1 (by omega))) h))
  refine sp_within i2 (by constructor <;> decide) (by constructor <;> decide) (fun h2 => z1n ?_) (fun h2 => z0n (errC (by decide) (by decide) hK (if_pos (fun q => h2 q.2)) h))
  have hc : ¬ ¬ ((0 ≤ a1 ∧ a1 < absC M 0 0) ∧ (1 ≤ a2 ∧ a2 ≤ 99999)) := fun q => q ⟨by omega, h2⟩
  refine sp_room4 pl_6 ?_
  rw [w2, wI (x := 10 - M 6 3) ⟨by omega, by omega⟩]
  refine ⟨fun h3 => ?_, fun h3 => errC (by decide) (by decide) hK ((if_neg hc).trans (if_pos (by omega))) h⟩
  have hS : S_claim a1 a2 (absC M) = _ := (if_neg hc).trans (if_neg (by omega))
  rw [hS, n2] at h
  refine sp_app2 (L := 10) pl_6 w0 w2 ⟨by omega, by omega⟩ (by decide) rfl (h _ ?_ (cK_wr (cK_wr (cK_wr hK (Or.inr (by decide))) (Or.inr (by decide))) (Or.inl (by decide))))
  rw [ac_6_3, ac_7 (by omega) (by omega), ac_7 (by omega) (by omega)]
theorem sp_isPaper {a b d : Int} {M : gSt} {k : Int → gSt → Prop} (ia : inI a) (ib : inI b) (id : inI d) (hn : 0 ≤ M 2 1 ∧ M 2 1 ≤ 12) (k1 : ((0 ≤ a ∧ a < M 2 1) ∧ (0 ≤ b ∧ b < M 2 1) ∧ ¬ a = b ∧ (1 ≤ d ∧ d ≤ 8)) → k 1 M) (k0 : ¬ ((0 ≤ a ∧ a < M 2 1) ∧ (0 ≤ b ∧ b < M 2 1) ∧ ¬ a = b ∧ (1 ≤ d ∧ d ≤ 8)) → k 0 M) : w_X8_isPaper a b d M k := by
  unfold w_X8_isPaper
  refine sp_has0 pl_2 ia hn (fun h1 => z1 ?_) (fun h1 => z0 (k0 (fun q => h1 q.1)))
  refine sp_has0 pl_2 ib hn (fun h2 => z1 ?_) (fun h2 => z0 (k0 (fun q => h2 q.2.1)))
  rw [wI ia, wI ib]
  refine ⟨fun e => k0 (fun q => q.2.2.1 e), fun e => ?_⟩
  exact sp_within id (by constructor <;> decide) (by constructor <;> decide) (fun h4 => z1 (k1 ⟨h1, h2, e, h4⟩)) (fun h4 => z0 (k0 (fun q => h4 q.2.2.2)))
theorem sC_paper {a1 a2 a3 : Int} {M : gSt} {k : Int → gSt → Prop} (i1 : inI a1) (i2 : inI a2) (i3 : inI a3) (I : iN (absC M)) (hK : cK M) (h : ∀ M', absC M' = (S_paper a1 a2 a3 (absC M)).2 → cK M' → k (S_paper a1 a2 a3 (absC M)).1 M') : w_X8_paper a1 a2 a3 M k := by
  unfold iN at I
  have n0 := rc00 M
  have n3 := rc03 M
  obtain ⟨w0, w2⟩ := cK_8 hK
  unfold w_X8_paper
  refine sp_isPaper i1 i2 i3 ⟨by omega, by omega⟩ (fun h1 => z1n ?_) (fun h1 => z0n (errC (by decide) (by decide) hK (if_pos (by rw [n0]; exact h1)) h))
  have hc : ¬ ¬ ((0 ≤ a1 ∧ a1 < absC M 0 0) ∧ (0 ≤ a2 ∧ a2 < absC M 0 0) ∧ ¬ a1 = a2 ∧ (1 ≤ a3 ∧ a3 ≤ 8)) := fun q => q (by rw [n0]; exact h1)
  refine sp_room4 pl_8 ?_
  rw [w2, wI (x := 6 - M 8 3) ⟨by omega, by omega⟩]
  refine ⟨fun h3 => ?_, fun h3 => errC (by decide) (by decide) hK ((if_neg hc).trans (if_pos (by omega))) h⟩
  have hS : S_paper a1 a2 a3 (absC M) = _ := (if_neg hc).trans (if_neg (by omega))
  rw [hS] at h
  simp only [add3] at h
  rw [n3] at h
  refine sp_app3 (L := 6) pl_8 w0 w2 ⟨by omega, by omega⟩ (by decide) rfl (h _ ?_ (cK_wr (cK_wr (cK_wr (cK_wr hK (Or.inr (by decide))) (Or.inr (by decide))) (Or.inr (by decide))) (Or.inl (by decide))))
  rw [ac_8_3, ac_9 (by omega) (by omega), ac_9 (by omega) (by omega), ac_9 (by omega) (by omega)]
theorem sC_weigh {a1 a2 a3 : Int} {M : gSt} {k : Int → gSt → Prop} (i1 : inI a1) (i2 : inI a2) (i3 : inI a3) (I : iN (absC M)) (hK : cK M) (h : ∀ M', absC M' = (S_weigh a1 a2 a3 (absC M)).2 → cK M' → k (S_weigh a1 a2 a3 (absC M)).1 M') : w_X8_weigh a1 a2 a3 M k := by
  unfold iN at I
  have n0 := rc00 M
  have n4 := rc04 M
  obtain ⟨w0, w2⟩ := cK_10 hK
  unfold w_X8_weigh wB_X8_weigh_34
  refine sp_has0 pl_2 i1 ⟨by omega, by omega⟩ (fun h1 => z1 ?_) (fun h1 => z0 (errC (by decide) (by decide) hK (if_pos (fun q => h1 (by omega))) h))
  refine sp_within i2 (by constructor <;> decide) (by constructor <;> decide) (fun h2 => z1 ?_) (fun h2 => z0 (errC (by decide) (by decide) hK (if_pos (fun q => h2 q.2.1)) h))
  refine sp_within i3 (by constructor <;> decide) (by constructor <;> decide) (fun h3 => z1n ?_) (fun h3 => z0n (errC (by decide) (by decide) hK (if_pos (fun q => h3 q.2.2)) h))
  have hc : ¬ ¬ ((0 ≤ a1 ∧ a1 < absC M 0 0) ∧ (0 ≤ a2 ∧ a2 ≤ 9999999) ∧ (0 ≤ a3 ∧ a3 ≤ 99)) := fun q => q ⟨by omega, h2, h3⟩
  refine sp_room4 pl_10 ?_
  rw [w2, wI (x := 8 - M 10 3) ⟨by omega, by omega⟩]
  refine ⟨fun h4 => ?_, fun h4 => errC (by decide) (by decide) hK ((if_neg hc).trans (if_pos (by omega))) h⟩
  have hS : S_weigh a1 a2 a3 (absC M) = _ := (if_neg hc).trans (if_neg (by omega))
  rw [hS] at h
  simp only [add3] at h
  rw [n4] at h
  refine sp_app3 (L := 8) pl_10 w0 w2 ⟨by omega, by omega⟩ (by decide) rfl (h _ ?_ (cK_wr (cK_wr (cK_wr (cK_wr hK (Or.inr (by decide))) (Or.inr (by decide))) (Or.inr (by decide))) (Or.inl (by decide))))
  rw [ac_10_3, ac_11 (by omega) (by omega), ac_11 (by omega) (by omega), ac_11 (by omega) (by omega)]
theorem sC_forget {a1 : Int} {M : gSt} {k : Int → gSt → Prop} (i1 : inI a1) (hK : cK M) (h : ∀ M', absC M' = (S_forget a1 (absC M)).2 → cK M' → k (S_forget a1 (absC M)).1 M') : w_X8_forget a1 M k := by
  unfold w_X8_forget wB_X8_forget_36
  refine sp_within i1 (by constructor <;> decide) (by constructor <;> decide) (fun h1 => z1n ?_) (fun h1 => z0n (errC (by decide) (by decide) hK (if_pos h1) h))
  have hS : S_forget a1 (absC M) = _ := if_neg (fun q => q h1)
  rw [hS] at h
  rw [wI i1]
  refine ⟨fun n => ?_, fun e => ?_⟩
  · have e : a1 = 1 := by omega
    subst e
    refine sp_size4 pl_10 (sp_clear pl_10 ?_)
    have := h (wr M 10 3 0) ac_10_3 (cK_wr hK (Or.inl (by decide)))
    rw [show (3 : Int) + 1 = 4 from rfl, rc04] at this
    exact this
  · subst e
    refine sp_size4 pl_8 (sp_clear pl_8 ?_)
    have := h (wr M 8 3 0) ac_8_3 (cK_wr hK (Or.inl (by decide)))
    rw [show (3 : Int) + 0 = 3 from rfl, rc03] at this
    exact this
theorem sC_tell {a1 : Int} {M : gSt} {k : Int → gSt → Prop} (I : iN (absC M)) (hK : cK M) (h : ∀ M', absC M' = (S_tell a1 (absC M)).2 → cK M' → k (S_tell a1 (absC M)).1 M') : w_X8_tell a1 M k := by
  unfold iN at I
  have n7 := rc07 M
  obtain ⟨w0, w2⟩ := cK_12 hK
  unfold w_X8_tell
  refine sp_room4 pl_12 ?_
  rw [w2, wI (x := 24 - M 12 3) ⟨by omega, by omega⟩]
  refine ⟨fun h3 => ?_, fun h3 => errC (S := S_tell a1 (absC M)) (by decide) (by decide) hK (if_pos (by omega)) h⟩
  have hS : S_tell a1 (absC M) = _ := if_neg (by omega)
  rw [hS, n7] at h
  refine sp_app1 (L := 24) pl_12 w0 w2 ⟨by omega, by omega⟩ (by decide) rfl (sp_size4 pl_12 ?_)
  rw [wrI]
  refine h _ ?_ (cK_wr (cK_wr hK (Or.inr (by decide))) (Or.inl (by decide)))
  rw [ac_12_3, ac_13 (by omega) (by omega)]
theorem tC_err {j : Int} {M : gSt} {k : Int → gSt → Prop} (h0 : 0 ≤ j) (h1 : j < 7) (hK : cK M) (h : ∀ r M', absC M' = absC M → cK M' → k r M') : w_X8_refuse j M k :=
  errC (S := S_err (absC M) j) h0 h1 hK rfl (fun M' e K => h _ M' e K)
theorem sC_told {a1 : Int} {M : gSt} {k : Int → gSt → Prop} (i1 : inI a1) (hK : cK M) (h : ∀ r M', absC M' = absC M → cK M' → k r M') : w_X8_told a1 M k := by
  unfold w_X8_told wB_X8_told_23
  rw [wI i1]
  exact ⟨fun q => tC_err (by decide) (by decide) hK h, fun q => ⟨fun q2 => tC_err (by decide) (by decide) hK h, fun q2 => ⟨⟨by omega, by omega⟩, h _ M rfl hK⟩⟩⟩
theorem sC_body {a1 : Int} {M : gSt} {k : Int → gSt → Prop} (i1 : inI a1) (hK : cK M) (h : ∀ r M', absC M' = absC M → cK M' → k r M') : w_X8_body a1 M k := by
  have I := hK.2
  obtain ⟨w0, w2⟩ := cK_53 hK
  unfold w_X8_body w_X6_trace
  refine ⟨pl_52, 53, rfl, ?_⟩
  refine sp_has4 pl_53 i1 ⟨by omega, by omega⟩ (fun h1 => z1 ?_) (fun h1 => z0 (tC_err (by decide) (by decide) hK h))
  refine ⟨pl_52, 53, rfl, ?_⟩
  have hl : (lenC (53 + 1) : Int) = 30 := rfl
  exact sp_at pl_53 w0 h1 (by decide) ⟨by omega, by decide⟩ (by omega) (by omega) (h _ M rfl hK)
theorem sumT_congr {f g : Int → Int} : ∀ n : Nat, (∀ j : Nat, j < n → f (j : Int) = g (j : Int)) → sumT f n = sumT g n
  | 0, _ => rfl
  | n + 1, h => by
    show sumT f n + f n = sumT g n + g n
    rw [sumT_congr n (fun j hj => h j (by omega)), h n (by omega)]
theorem sp_allGrams {M : gSt} {k : Int → gSt → Prop} (hn : 0 ≤ M 2 1 ∧ M 2 1 ≤ 12) (h : k (sumT (fun t => absC M 1 (10 * t + 2)) (M 2 1).toNat) M) : w_X0_allGrams 2 M k := by
  unfold w_X0_allGrams
  refine ⟨pl_2, 14, ?_⟩
  have loop : ∀ (d : Nat) (j : Int), (d : Int) = M 2 1 - j → 0 ≤ j → ∀ f : Nat, d < f → wL_X0_allGrams_4 2 k (fun u1_4 M4 => k u1_4 M4) f (sumT (fun t => absC M 1 (10 * t + 2)) j.toNat) j M := by
    intro d
    induction d with
    | zero =>
      intro j hd hj f hf
      obtain ⟨f, rfl⟩ : ∃ g, f = g + 1 := ⟨f - 1, by omega⟩
      simp only [wL_X0_allGrams_4, wC_X0_allGrams_4]
      rw [wI (x := j) ⟨by omega, by omega⟩, wI (x := M 2 1) ⟨by omega, by omega⟩]
      refine ⟨fun _ => ?_, fun h => absurd h (by omega)⟩
      rw [show j = M 2 1 from by omega]
      exact h
    | succ d ih =>
      intro j hd hj f hf
      obtain ⟨f, rfl⟩ : ∃ g, f = g + 1 := ⟨f - 1, by omega⟩
      simp only [wL_X0_allGrams_4, wC_X0_allGrams_4]
      rw [wI (x := j) ⟨by omega, by omega⟩, wI (x := M 2 1) ⟨by omega, by omega⟩]
      refine ⟨fun h => absurd h (by omega), fun _ => sp_number pl_2 rfl ⟨by omega, by omega⟩ (by decide) (fun x ex => ?_)⟩
      have e : x = sumT (fun t => absC M 1 (10 * t + 2)) (j + 1).toNat := by
        rw [ex, show (j + 1).toNat = j.toNat + 1 from by omega]
        show _ = sumT _ j.toNat + absC M 1 (10 * (j.toNat : Int) + 2)
        rw [show (j.toNat : Int) = j from by omega, rc1 M (by omega) (by omega)]
      rw [e]
      exact ih (j + 1) (by omega) (by omega) f (by omega)
  exact loop (M 2 1).toNat 0 (by omega) (by omega) 14 (by omega)
theorem sC_count {a1 : Int} {M : gSt} {k : Int → gSt → Prop} (i1 : inI a1) (I : iN (absC M)) (hK : cK M) (h : ∀ r M', (a1 = 9 ∨ r = (S_count a1 (absC M)).1) → absC M' = (S_count a1 (absC M)).2 → cK M' → k r M') : w_X8_count a1 M k := by
  unfold iN at I
  have n0 := rc00 M
  unfold w_X8_count w_X0_size w_X0_firstsThatCount w_X0_yearsSoFar w_X0_lastDraw w_X6_trace
  rw [wI i1]
  refine ⟨fun e => ⟨pl_2, ?_⟩, fun e => ⟨pl_2, ?_⟩, fun e => sp_size4 pl_6 ?_, fun e => sp_size4 pl_8 ?_, fun e => sp_size4 pl_10 ?_, fun e => sp_allGrams ⟨by omega, by omega⟩ ?_, fun e => ⟨pl_2, ?_⟩, fun e => sp_size4 pl_4 ?_, fun e => sp_size4 pl_12 ?_, fun e => ⟨pl_52, 53, rfl, sp_size4 pl_53 ?_⟩, fun e => ⟨pl_2, ?_⟩, fun e => ?_⟩
  · subst e; exact h _ M (Or.inr (rc00 M).symm) rfl hK
  · subst e; exact h _ M (Or.inr (rc01 M).symm) rfl hK
  · subst e; exact h _ M (Or.inr (rc02 M).symm) rfl hK
  · subst e; exact h _ M (Or.inr (rc03 M).symm) rfl hK
  · subst e; exact h _ M (Or.inr (rc04 M).symm) rfl hK
  · subst e; exact h _ M (Or.inr (by rw [← n0]; rfl)) rfl hK
  · subst e; exact h _ M (Or.inr (rc05 M).symm) rfl hK
  · subst e; exact h _ M (Or.inr (rc06 M).symm) rfl hK
  · subst e; exact h _ M (Or.inr (rc07 M).symm) rfl hK
  · subst e; exact h _ M (Or.inl rfl) rfl hK
  · subst e; exact h _ M (Or.inr (rc08 M).symm) rfl hK
  · obtain ⟨n0, n1, n2, n3, n4, n5, n6, n7, n8, n9, n10⟩ := e
    have e : S_count a1 (absC M) = S_err (absC M) 1 := by
      unfold S_count
      rw [if_neg n0, if_neg n1, if_neg n2, if_neg n3, if_neg n4, if_neg n5, if_neg n6, if_neg n7, if_neg n8, if_neg n9, if_neg n10]
    exact errC (S := S_err (absC M) 1) (by decide) (by decide) hK rfl (fun M' a K => h _ M' (Or.inr (by rw [e])) (by rw [e]; exact a) K)
theorem shC {q : Int} {M : gSt} {k : Option Nat → gSt → Prop} (iq : inI q) (k1 : ∀ o : Nat, (o : Int) = 56 + 2 * q → 0 ≤ q ∧ q < 4 → k (some o) M) (k0 : ¬ (0 ≤ q ∧ q < 4) → k none M) : w_X8_sheetAt q M k := by
  unfold w_X8_sheetAt
  rw [wI iq]
  refine ⟨fun h => k0 (by omega), fun h => ⟨fun h2 => k0 (by omega), fun h2 => ?_⟩⟩
  rcases (show q = 0 ∨ q = 1 ∨ q = 2 ∨ q = 3 by omega) with rfl | rfl | rfl | rfl
  · exact ⟨56, ⟨by omega, by omega⟩, rfl, k1 56 (by omega) (by omega)⟩
  · exact ⟨58, ⟨by omega, by omega⟩, rfl, k1 58 (by omega) (by omega)⟩
  · exact ⟨60, ⟨by omega, by omega⟩, rfl, k1 60 (by omega) (by omega)⟩
  · exact ⟨62, ⟨by omega, by omega⟩, rfl, k1 62 (by omega) (by omega)⟩
theorem pl_sh {o : Nat} (h : o = 56 ∨ o = 58 ∨ o = 60 ∨ o = 62) : isSheet o ∧ isAr (o + 1) ∧ lenC (o + 1) = 24 := by
  rcases h with rfl | rfl | rfl | rfl
  · exact ⟨pl_56, pl_57, rfl⟩
  · exact ⟨pl_58, pl_59, rfl⟩
  · exact ⟨pl_60, pl_61, rfl⟩
  · exact ⟨pl_62, pl_63, rfl⟩
/-- a row of numbers is filled with 0 -/
theorem sp_Jfill {p : Nat} {M : gSt} {k : gSt → Prop} (ha : isAr p) (hl : lenC p = 24) (h : ∀ M', (∀ o, o ≠ p → M' o = M o) → (∀ j, M' p j = if 0 ≤ j ∧ j < 24 then 0 else M p j) → k M') : w_J7_fill_53178 p 0 M k := by
  unfold w_J7_fill_53178
  refine ⟨ha, fun x ex => ⟨25, ?_⟩⟩
  rw [hl] at ex
  subst ex
  have loop : ∀ (d : Nat) (t : Int) (M1 : gSt), (d : Int) = 24 - t → 0 ≤ t → (∀ o, o ≠ p → M1 o = M o) → (∀ j, M1 p j = if 0 ≤ j ∧ j < t then 0 else M p j) → ∀ g : Nat, d < g → wL_J7_fill_53178_5 p 0 k (fun M5 => k M5) g t ((24 : Nat) : Int) M1 := by
    intro d
    induction d with
    | zero =>
      intro t M1 hd ht h1 h2 g hg
      obtain ⟨g, rfl⟩ : ∃ q, g = q + 1 := ⟨g - 1, by omega⟩
      have e : t = 24 := by omega
      subst e
      simp only [wL_J7_fill_53178_5, wC_J7_fill_53178_5]
      exact ⟨fun _ => h M1 h1 h2, fun q => absurd q (by decide)⟩
    | succ d ih =>
      intro t M1 hd ht h1 h2 g hg
      obtain ⟨g, rfl⟩ : ∃ q, g = q + 1 := ⟨g - 1, by omega⟩
      simp only [wL_J7_fill_53178_5, wC_J7_fill_53178_5]
      rw [wI (x := t) ⟨by omega, by omega⟩, show wrap ((24 : Nat) : Int) = 24 from by decide, hl]
      refine ⟨fun q => absurd q (by omega), fun _ => ⟨⟨by omega, by omega⟩, fun M2 e2 => ?_⟩⟩
      subst e2
      refine ih (t + 1) _ (by omega) (by omega) (fun o ho => by rw [wrO' ho]; exact h1 o ho) (fun j => ?_) g (by omega)
      by_cases hj : j = t
      · subst hj; rw [wrI, if_pos ⟨by omega, by omega⟩]
      · rw [wrN hj, h2 j]
        by_cases c : 0 ≤ j ∧ j < t
        · rw [if_pos c, if_pos ⟨c.1, by omega⟩]
        · rw [if_neg c, if_neg (fun z => c ⟨z.1, by omega⟩)]
  exact loop 24 0 M (by omega) (by omega) (fun _ _ => rfl) (fun j => by rw [if_neg (fun z => by omega)]) 25 (by omega)
