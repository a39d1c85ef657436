-- one call on the two new objects
theorem cK0 : cK M0c := by
  intro q hq
  simp only [cRows, List.mem_cons, List.not_mem_nil, or_false] at hq
  rcases hq with rfl | rfl | rfl | rfl | rfl | rfl | rfl | rfl | rfl | rfl | rfl | rfl | rfl | rfl | rfl | rfl | rfl | rfl <;> exact ⟨rfl, rfl⟩
theorem refF {j : Int} {M : gSt} {k : Int → gSt → Prop} (h0 : 0 ≤ j) (h1 : j < 7) (h : ∀ M', k (-1000000000 - j) M') : w_X8_refuse j M k := sp_refuse h0 h1 (h _)
theorem errF {j : Int} {M : gSt} {k : Int → gSt → Prop} (h0 : 0 ≤ j) (h1 : j < 7) (h : ∀ M', k (-1000000000 - j) M') : w_Rerror j M k := sp_Rerror h0 h1 (fun M' _ _ => h M')
theorem hasF {t : Int} {k : Int → gSt → Prop} (ht : inI t) (h : k 0 M0c) : w_X0_has 2 t M0c k := by
  have e : M0c 2 1 = 0 := rfl
  exact sp_has0 pl_2 ht (by omega) (fun q => absurd q (by omega)) (fun _ => h)
theorem thF {t : Int} {k : Int → gSt → Prop} (ht : inI t) (h : k 0 M0r) : w_RisThing t M0r k := by
  have e : absR M0r 0 0 = 0 := rfl
  exact sp_RisThing ht (by omega) (fun q => absurd q (by omega)) (fun _ => h)
theorem fC_thingIs {a b : Int} {k : Int → gSt → Prop} (i1 : inI a) (h : ∀ M', k (-1000000000 - 1) M') : w_X8_thingIs a b M0c k := by
  unfold w_X8_thingIs wB_X8_thingIs_24
  exact hasF i1 (z0 (refF (by decide) (by decide) h))
theorem fR_thingIs {a b : Int} {k : Int → gSt → Prop} (i1 : inI a) (h : ∀ M', k (-1000000000 - 1) M') : w_RthingIs a b M0r k := by
  unfold w_RthingIs wB_RthingIs_27
  exact thF i1 (z0 (errF (by decide) (by decide) h))
theorem fC_melt {a b : Int} {k : Int → gSt → Prop} (i1 : inI a) (h : ∀ M', k (-1000000000 - 1) M') : w_X8_melt a b M0c k := by
  unfold w_X8_melt wB_X8_melt_24
  exact hasF i1 (z0 (refF (by decide) (by decide) h))
theorem fR_melt {a b : Int} {k : Int → gSt → Prop} (i1 : inI a) (h : ∀ M', k (-1000000000 - 1) M') : w_Rmelt a b M0r k := by
  unfold w_Rmelt wB_Rmelt_18
  exact thF i1 (z0 (errF (by decide) (by decide) h))
def vCast (a b c : Int) : Prop := (0 ≤ a ∧ a ≤ 699) ∧ (0 ≤ b ∧ b ≤ 9999) ∧ (0 ≤ c ∧ c ≤ 990) ∧ c % 10 = 0
theorem fC_cast {a b c : Int} {k : Int → gSt → Prop} (i1 : inI a) (i2 : inI b) (i3 : inI c) (h0 : ¬ vCast a b c → ∀ M', k (-1000000000 - 1) M') (h1 : vCast a b c → ∀ M', k (-1000000000 - 3) M') : w_X8_cast a b c M0c k := by
  unfold vCast at h0 h1
  unfold w_X8_cast wB_X8_cast_36
  refine isKM i1 (fun q1 => z1 ?_) (fun q => z0 (refF (by decide) (by decide) (h0 (fun z => q z.1))))
  refine sp_within i2 (by constructor <;> decide) (by constructor <;> decide) (fun q2 => z1 ?_) (fun q => z0 (refF (by decide) (by decide) (h0 (fun z => q z.2.1))))
  refine sp_within i3 (by constructor <;> decide) (by constructor <;> decide) (fun q3 => z1 ?_) (fun q => z0 (refF (by decide) (by decide) (h0 (fun z => q z.2.2.1))))
  rw [wI i3, tmod_pos q3.1, wI (x := c % 10) ⟨by omega, by omega⟩]
  refine ⟨fun e => ?_, fun e => refF (by decide) (by decide) (h0 (fun z => e z.2.2.2))⟩
  refine sp_number pl_2 rfl (by decide) (by decide) ?_
  exact z0n (refF (by decide) (by decide) (h1 ⟨q1, q2, q3, e⟩))
theorem fR_cast {a b c : Int} {k : Int → gSt → Prop} (i1 : inI a) (i2 : inI b) (i3 : inI c) (h0 : ¬ vCast a b c → ∀ M', k (-1000000000 - 1) M') (h1 : vCast a b c → ∀ M', k (-1000000000 - 3) M') : w_Rcast a b c M0r k := by
  unfold vCast at h0 h1
  unfold w_Rcast wB_Rcast_44 wB_Rcast_45
  refine sp_Rin i1 (by constructor <;> decide) (by constructor <;> decide) (fun q1 => z1 ?_) (fun q => z0 (z0n (errF (by decide) (by decide) (h0 (fun z => q z.1)))))
  refine sp_Rin i2 (by constructor <;> decide) (by constructor <;> decide) (fun q2 => z1 ?_) (fun q => z0 (z0n (errF (by decide) (by decide) (h0 (fun z => q z.2.1)))))
  refine sp_Rin i3 (by constructor <;> decide) (by constructor <;> decide) (fun q3 => z1 ?_) (fun q => z0 (z0n (errF (by decide) (by decide) (h0 (fun z => q z.2.2.1)))))
  rw [wI i3, tmod_pos q3.1, wI (x := c % 10) ⟨by omega, by omega⟩]
  refine ⟨fun e => z0n (errF (by decide) (by decide) (h0 (fun z => e z.2.2.2))), fun e => z1n (fun x _ y _ => ?_)⟩
  refine sp_Rits (by decide) (by decide) ?_
  exact z0n (errF (by decide) (by decide) (h1 ⟨q1, q2, q3, e⟩))
-- years over no things
theorem fyC {M : gSt} {k : gSt → Prop} (e : M 2 1 = 0) (h : ∀ M', M' 2 1 = 0 → k M') : w_X0_passYear 2 M k := by
  unfold w_X0_passYear
  refine ⟨pl_2, fun M1 e1 => ⟨1, ?_⟩⟩
  have z : M1 2 1 = 0 := by rw [e1, wrN (by decide)]; exact e
  simp only [wL_X0_passYear_12, wC_X0_passYear_12]
  rw [z, wrap_0]
  exact ⟨fun _ => h M1 z, fun q => absurd q (by decide)⟩
theorem fysC {n : Int} {M : gSt} {k : gSt → Prop} (hn : 0 ≤ n ∧ n ≤ 60) (e : M 2 1 = 0) (h : ∀ M', M' 2 1 = 0 → k M') : w_X0_passYears 2 n M k := by
  unfold w_X0_passYears
  refine ⟨pl_2, 62, ?_⟩
  have loop : ∀ (d : Nat) (j : Int) (M1 : gSt), (d : Int) = n - j → 0 ≤ j → M1 2 1 = 0 → ∀ f : Nat, d < f → wL_X0_passYears_2 2 n k (fun M2 => k M2) f j M1 := by
    intro d
    induction d with
    | zero =>
      intro j M1 hd hj h1 f hf
      obtain ⟨f, rfl⟩ : ∃ g, f = g + 1 := ⟨f - 1, by omega⟩
      simp only [wL_X0_passYears_2, wC_X0_passYears_2]
      rw [wI (x := j) ⟨by omega, by omega⟩, wI (x := n) ⟨by omega, by omega⟩]
      exact ⟨fun _ => h M1 h1, fun q => absurd q (by omega)⟩
    | succ d ih =>
      intro j M1 hd hj h1 f hf
      obtain ⟨f, rfl⟩ : ∃ g, f = g + 1 := ⟨f - 1, by omega⟩
      simp only [wL_X0_passYears_2, wC_X0_passYears_2]
      rw [wI (x := j) ⟨by omega, by omega⟩, wI (x := n) ⟨by omega, by omega⟩]
      exact ⟨fun q => absurd q (by omega), fun _ => fyC h1 (fun M2 h2 => ih (j + 1) M2 (by omega) (by omega) h2 f (by omega))⟩
  exact loop n.toNat 0 M (by omega) (by omega) e 62 (by omega)
theorem fagC {M : gSt} {k : Int → gSt → Prop} (e : M 2 1 = 0) (h : k 0 M) : w_X0_allGrams 2 M k := by
  unfold w_X0_allGrams
  refine ⟨pl_2, 1, ?_⟩
  simp only [wL_X0_allGrams_4, wC_X0_allGrams_4]
  rw [e, wrap_0]
  exact ⟨fun _ => h, fun q => absurd q (by decide)⟩
theorem fC_years {n : Int} {k : Int → gSt → Prop} (i1 : inI n) (h0 : ¬ (1 ≤ n ∧ n ≤ 60) → ∀ M', k (-1000000000 - 1) M') (h1 : (1 ≤ n ∧ n ≤ 60) → ∀ M', k 0 M') : w_X8_years n M0c k := by
  unfold w_X8_years
  refine sp_within i1 (by constructor <;> decide) (by constructor <;> decide) (fun q => z1n ?_) (fun q => z0n (refF (by decide) (by decide) (h0 q)))
  unfold w_X0_yearsSoFar
  refine ⟨pl_2, ?_⟩
  have e : M0c 2 3 = 0 := rfl
  dsimp only
  rw [e, wI (x := 0 + n) ⟨by omega, by omega⟩]
  refine ⟨fun _ => ?_, fun z => absurd z (by omega)⟩
  exact fysC ⟨by omega, by omega⟩ rfl (fun M' h' => fagC h' (h1 q M'))
theorem fyR {M : gSt} {k : gSt → Prop} (e : M 1 0 = 0) (h : ∀ M', M' 1 0 = 0 → k M') : w_Ryear M k := by
  unfold w_Ryear
  refine ⟨1, ?_⟩
  simp only [wL_Ryear_2, wC_Ryear_2]
  rw [e, wrap_0]
  refine ⟨fun _ M1 e1 => h M1 ?_, fun q => absurd q (by decide)⟩
  rw [e1, wrN (by decide)]; exact e
theorem fysR {n : Int} {M : gSt} {k : gSt → Prop} (hn : 0 ≤ n ∧ n ≤ 60) (e : M 1 0 = 0) (h : ∀ M', M' 1 0 = 0 → k M') : w_Rgo n M k := by
  unfold w_Rgo
  refine ⟨62, ?_⟩
  have loop : ∀ (d : Nat) (j : Int) (M1 : gSt), (d : Int) = n - j → 0 ≤ j → M1 1 0 = 0 → ∀ f : Nat, d < f → wL_Rgo_2 n k (fun M2 => k M2) f j M1 := by
    intro d
    induction d with
    | zero =>
      intro j M1 hd hj h1 f hf
      obtain ⟨f, rfl⟩ : ∃ g, f = g + 1 := ⟨f - 1, by omega⟩
      simp only [wL_Rgo_2, wC_Rgo_2]
      rw [wI (x := j) ⟨by omega, by omega⟩, wI (x := n) ⟨by omega, by omega⟩]
      exact ⟨fun _ => h M1 h1, fun q => absurd q (by omega)⟩
    | succ d ih =>
      intro j M1 hd hj h1 f hf
      obtain ⟨f, rfl⟩ : ∃ g, f = g + 1 := ⟨f - 1, by omega⟩
      simp only [wL_Rgo_2, wC_Rgo_2]
      rw [wI (x := j) ⟨by omega, by omega⟩, wI (x := n) ⟨by omega, by omega⟩]
      exact ⟨fun q => absurd q (by omega), fun _ => fyR h1 (fun M2 h2 => ih (j + 1) M2 (by omega) (by omega) h2 f (by omega))⟩
  exact loop n.toNat 0 M (by omega) (by omega) e 62 (by omega)
theorem fagR {M : gSt} {k : Int → gSt → Prop} (e : M 1 0 = 0) (h : k 0 M) : w_RallGrams M k := by
  unfold w_RallGrams
  refine ⟨1, ?_⟩
  simp only [wL_RallGrams_4, wC_RallGrams_4]
  rw [e, wrap_0]
  exact ⟨fun _ => h, fun q => absurd q (by decide)⟩
theorem fR_years {n : Int} {k : Int → gSt → Prop} (i1 : inI n) (h0 : ¬ (1 ≤ n ∧ n ≤ 60) → ∀ M', k (-1000000000 - 1) M') (h1 : (1 ≤ n ∧ n ≤ 60) → ∀ M', k 0 M') : w_Ryears n M0r k := by
  unfold w_Ryears
  refine sp_Rin i1 (by constructor <;> decide) (by constructor <;> decide) (fun q => z1n ?_) (fun q => z0n (errF (by decide) (by decide) (h0 q)))
  have e : M0r 1 5 = 0 := rfl
  rw [e, wI (x := 0 + n) ⟨by omega, by omega⟩]
  refine ⟨fun _ => ?_, fun z => absurd z (by omega)⟩
  exact fysR ⟨by omega, by omega⟩ rfl (fun M' h' => fagR h' (h1 q M'))
theorem fC_then {a b c : Int} {k : Int → gSt → Prop} (i1 : inI a) (i2 : inI b) (h : ∀ M', k (-1000000000 - 1) M') : w_X8_then a b c M0c k := by
  unfold w_X8_then wB_X8_then_34
  refine sp_within i1 (by constructor <;> decide) (by constructor <;> decide) (fun _ => z1 ?_) (fun _ => z0 (refF (by decide) (by decide) h))
  exact hasF i2 (z0 (refF (by decide) (by decide) h))
theorem fR_then {a b c : Int} {k : Int → gSt → Prop} (i1 : inI a) (i2 : inI b) (h : ∀ M', k (-1000000000 - 1) M') : w_Rthen a b c M0r k := by
  unfold w_Rthen wB_Rthen_28
  refine sp_Rin i1 (by constructor <;> decide) (by constructor <;> decide) (fun _ => z1 ?_) (fun _ => z0 (errF (by decide) (by decide) h))
  exact thF i2 (z0 (errF (by decide) (by decide) h))
-- bytes
theorem fC_feed {w n : Int} {k : Int → gSt → Prop} (i2 : inI n) (h0 : ¬ (1 ≤ n ∧ n ≤ 8) → ∀ M', k (-1000000000 - 1) M') (h1 : (1 ≤ n ∧ n ≤ 8) → ∀ M', k n M') : w_X8_feed w n M0c k := by
  unfold w_X8_feed
  refine sp_within i2 (by constructor <;> decide) (by constructor <;> decide) (fun q => z1n ?_) (fun q => z0n (refF (by decide) (by decide) (h0 q)))
  refine sp_room4 pl_4 ?_
  have e1 : M0c 4 2 = 60 := rfl
  have e2 : M0c 4 3 = 0 := rfl
  rw [e1, e2, wI i2, wI (x := 60 - 0) (by constructor <;> decide)]
  refine ⟨fun _ => ⟨10, ?_⟩, fun z => absurd z (by omega)⟩
  have loop : ∀ (d : Nat) (j : Int) (M1 : gSt), (d : Int) = n - j → 0 ≤ j → M1 4 0 = 1 → M1 4 2 = 60 → M1 4 3 = j → ∀ f : Nat, d < f → wL_X8_feed_39 w n k (fun M39 => w_X4_size 4 M39 (fun r83c M83 => k r83c M83)) f j M1 := by
    intro d
    induction d with
    | zero =>
      intro j M1 hd hj a1 a2 a3 f hf
      obtain ⟨f, rfl⟩ : ∃ g, f = g + 1 := ⟨f - 1, by omega⟩
      simp only [wL_X8_feed_39, wC_X8_feed_39]
      rw [wI (x := j) ⟨by omega, by omega⟩, wI (x := n) ⟨by omega, by omega⟩]
      refine ⟨fun _ => sp_size4 pl_4 ?_, fun z => absurd z (by omega)⟩
      rw [a3, show j = n from by omega]
      exact h1 q M1
    | succ d ih =>
      intro j M1 hd hj a1 a2 a3 f hf
      obtain ⟨f, rfl⟩ : ∃ g, f = g + 1 := ⟨f - 1, by omega⟩
      simp only [wL_X8_feed_39, wC_X8_feed_39]
      rw [wI (x := j) ⟨by omega, by omega⟩, wI (x := n) ⟨by omega, by omega⟩]
      refine ⟨fun z => absurd z (by omega), fun _ => sp_app1 (L := 60) pl_4 a1 a2 ⟨by omega, by omega⟩ (by decide) rfl ?_⟩
      refine ih (j + 1) _ (by omega) (by omega) ?_ ?_ ?_ f (by omega)
      · rw [wrN (by decide), wrO (by decide)]; exact a1
      · rw [wrN (by decide), wrO (by decide)]; exact a2
      · rw [wrI, a3]
  exact loop n.toNat 0 M0c (by omega) (by omega) rfl rfl rfl 10 (by omega)
theorem fR_feed {w n : Int} {k : Int → gSt → Prop} (i2 : inI n) (h0 : ¬ (1 ≤ n ∧ n ≤ 8) → ∀ M', k (-1000000000 - 1) M') (h1 : (1 ≤ n ∧ n ≤ 8) → ∀ M', k n M') : w_Rfeed w n M0r k := by
  unfold w_Rfeed
  refine sp_Rin i2 (by constructor <;> decide) (by constructor <;> decide) (fun q => z1n ?_) (fun q => z0n (errF (by decide) (by decide) (h0 q)))
  have e2 : M0r 1 6 = 0 := rfl
  rw [e2, wI (x := 0 + n) ⟨by omega, by omega⟩]
  refine ⟨fun _ => ⟨10, ?_⟩, fun z => absurd z (by omega)⟩
  have loop : ∀ (d : Nat) (j : Int) (M1 : gSt), (d : Int) = n - j → 0 ≤ j → M1 1 6 = j → ∀ f : Nat, d < f → wL_Rfeed_39 w n k (fun M39 => k (M39 1 6) M39) f j M1 := by
    intro d
    induction d with
    | zero =>
      intro j M1 hd hj a3 f hf
      obtain ⟨f, rfl⟩ : ∃ g, f = g + 1 := ⟨f - 1, by omega⟩
      simp only [wL_Rfeed_39, wC_Rfeed_39]
      rw [wI (x := j) ⟨by omega, by omega⟩, wI (x := n) ⟨by omega, by omega⟩]
      refine ⟨fun _ => ?_, fun z => absurd z (by omega)⟩
      rw [a3, show j = n from by omega]
      exact h1 q M1
    | succ d ih =>
      intro j M1 hd hj a3 f hf
      obtain ⟨f, rfl⟩ : ∃ g, f = g + 1 := ⟨f - 1, by omega⟩
      simp only [wL_Rfeed_39, wC_Rfeed_39]
      rw [wI (x := j) ⟨by omega, by omega⟩, wI (x := n) ⟨by omega, by omega⟩, a3]
      refine ⟨fun z => absurd z (by omega), fun _ => ⟨⟨by omega, by omega⟩, fun M2 e2 M3 e3 => ?_⟩⟩
      refine ih (j + 1) M3 (by omega) (by omega) ?_ f (by omega)
      rw [e3, wrI, e2, wrN (by omega), a3]
  exact loop n.toNat 0 M0r (by omega) (by omega) rfl 10 (by omega)
-- texts: an empty tape
def tcF (u : Int) (M : gSt) : Prop := M 47 2 = u ∧ M 47 3 = 0 ∧ M 48 3 = 0
theorem fpeek {u : Int} {M : gSt} {k : Int → gSt → Prop} (T : tcF u M) (h : k (-1) M) : w_X3_peek 47 M k := by
  obtain ⟨t1, t2, t3⟩ := T
  unfold w_X3_peek
  refine ⟨pl_47, ?_⟩
  rw [t2]
  refine sp_has4 pl_48 (by constructor <;> decide) (by rw [t3]; constructor <;> decide) (fun q => ?_) (fun _ => z0 h)
  rw [t3] at q
  omega
theorem fname {u : Int} {M : gSt} {k : Int → gSt → Prop} (T : tcF u M) (hu : u = 0 ∨ u = 1) (h : k (-1) M) : w_X3_nameOf 47 (-1) M k := by
  obtain ⟨t1, t2, t3⟩ := T
  unfold w_X3_nameOf
  refine ⟨pl_47, 4, ?_⟩
  simp only [wL_X3_nameOf_2, wC_X3_nameOf_2, wB_X3_nameOf_39]
  rw [t1]
  have step : ∀ (v : Int) (P Q S : Prop), (0 ≤ v ∧ v < 3) → Q → ((3 ≤ wrap v → P) ∧ (wrap v < 3 → ∀ x : Int, x = u * 3 + v → (wrap x < 0 → Q) ∧ (0 ≤ wrap x → (6 ≤ wrap x → Q) ∧ (wrap x < 6 → (0 ≤ x ∧ x < 6) ∧ (¬ wrap (tb_NAMES x) = wrap (-1) → Q) ∧ (wrap (tb_NAMES x) = wrap (-1) → S))))) := by
    intro v P Q S hv hQ
    rw [wI (x := v) ⟨by omega, by omega⟩]
    refine ⟨fun q => absurd q (by omega), fun _ x e => ?_⟩
    rw [wI (x := x) ⟨by omega, by omega⟩]
    refine ⟨fun _ => hQ, fun _ => ⟨fun _ => hQ, fun _ => ⟨⟨by omega, by omega⟩, fun _ => hQ, fun z => ?_⟩⟩⟩
    exfalso
    rcases (show x = 0 ∨ x = 1 ∨ x = 2 ∨ x = 3 ∨ x = 4 ∨ x = 5 by omega) with r | r | r | r | r | r <;> (rw [r] at z; exact absurd z (by decide))
  refine step 0 _ _ _ (by decide) (step (0 + 1) _ _ _ (by decide) (step (0 + 1 + 1) _ _ _ (by decide) ?_))
  exact ⟨fun _ => h, fun q => absurd q (by decide)⟩
theorem fval {u op : Int} {M : gSt} {k : Int → gSt → Prop} {d : Nat} (T : tcF u M) (hu : u = 0 ∨ u = 1) (h : k 0 M) : wg_X3_readLevel 47 (d + 1) 1 [op] M k := by
  show wb_X3_readValue (wg_X3_readLevel 47 d) 47 op M k
  unfold wb_X3_readValue
  refine ⟨pl_47, fpeek T ?_⟩
  unfold w_X3_isDigit
  rw [show wrap (-1) = -1 from by decide]
  refine ⟨fun _ => z0 ⟨fun q => absurd q (by decide), fun _ => ⟨fun _ => ?_, fun q => absurd q (by decide)⟩⟩, fun q => absurd q (by decide)⟩
  refine fname T hu ⟨fun q => absurd q (by decide), fun _ => h⟩
theorem flev {u : Int} {M : gSt} {k : Int → gSt → Prop} (T : tcF u M) (hu : u = 0 ∨ u = 1) (h : k 0 M) : w_X3_readLevel 47 0 0 M k := by
  have step : ∀ (n : Nat), n ≤ 5 → ∀ (lv : Int), lv = 5 - n → ∀ (d : Nat) (k : Int → gSt → Prop), k 0 M → wg_X3_readLevel 47 (d + 2 + n) 0 [lv, 0] M k := by
    intro n
    induction n with
    | zero =>
      intro _ lv hl d k hk
      show wb_X3_readLevel (wg_X3_readLevel 47 (d + 1)) 47 lv 0 M k
      unfold wb_X3_readLevel
      rw [wI (x := lv) ⟨by omega, by omega⟩]
      exact ⟨pl_47, fun q => absurd q (by omega), fun _ => fval T hu ⟨Or.inl rfl, hk⟩⟩
    | succ n ih =>
      intro hn lv hl d k hk
      show wb_X3_readLevel (wg_X3_readLevel 47 (d + 2 + n)) 47 lv 0 M k
      unfold wb_X3_readLevel
      rw [wI (x := lv) ⟨by omega, by omega⟩]
      exact ⟨pl_47, fun _ => ih (by omega) (lv + 1) (by omega) d _ (z0n hk), fun q => absurd q (by omega)⟩
  exact ⟨pl_47, step 5 (by omega) 0 (by omega) 53 k h⟩
theorem fC_text {u : Int} {k : Int → gSt → Prop} (i1 : inI u) (h0 : ¬ (0 ≤ u ∧ u ≤ 1) → ∀ M', k (-1000000000 - 1) M') (h1 : (0 ≤ u ∧ u ≤ 1) → ∀ M', k (-10 - 0) M') : w_X8_text u M0c k := by
  unfold w_X8_text
  refine sp_within i1 (by constructor <;> decide) (by constructor <;> decide) (fun q => z1n ?_) (fun q => z0n (refF (by decide) (by decide) (h0 q)))
  unfold w_X3_read
  refine ⟨pl_47, pl_4, sp_copy4 pl_48 pl_4 rfl (by decide) (sp_clear pl_50 (fun M1 e1 M2 e2 => ?_))⟩
  have T : tcF u M2 := by
    refine ⟨?_, ?_, ?_⟩
    · rw [e2, wrN (by decide), e1, wrI]
    · rw [e2, wrI]
    · rw [e2, wrO (by decide), e1, wrO (by decide), wrO (by decide), wrI]; rfl
  refine flev T (by omega) (z0 ?_)
  unfold wB_X3_read_52 wB_X3_read_53
  rw [T.2.1]
  refine z0 (sp_clear pl_4 ?_)
  rw [wrap_0]
  exact ⟨fun z => absurd z (by decide), fun _ => h1 q _⟩
theorem fR_text {u : Int} {k : Int → gSt → Prop} (i1 : inI u) (h0 : ¬ (0 ≤ u ∧ u ≤ 1) → ∀ M', k (-1000000000 - 1) M') (h1 : (0 ≤ u ∧ u ≤ 1) → ∀ M', k (-10 - 0) M') : w_Rtext u M0r k := by
  unfold w_Rtext
  refine sp_Rin i1 (by constructor <;> decide) (by constructor <;> decide) (fun q => z1n ?_) (fun q => z0n (errF (by decide) (by decide) (h0 q)))
  intro M1 e1 M2 e2 M3 e3 M4 e4
  have a5 : M4 0 5 = 0 := by rw [e4, wrN (by decide), e3, wrN (by decide), e2, wrI]
  have a8 : M4 0 8 = u := by rw [e4, wrN (by decide), e3, wrN (by decide), e2, wrN (by decide), e1, wrI]
  have b6 : M4 1 6 = 0 := by rw [e4, wrO (by decide), e3, wrO (by decide), e2, wrO (by decide), e1, wrO (by decide)]; rfl
  have one : ∀ (d : Nat) (k : Int → gSt → Prop), k 0 M4 → wg_Rparse (d + 1) 5 [] M4 k := by
    intro d k hk
    show wb_Rone (wg_Rparse d) M4 k
    unfold wb_Rone w_Rlook
    rw [a5, b6]
    refine ⟨fun _ => ?_, fun z => absurd z (by decide)⟩
    unfold w_RisName
    dsimp only
    have fin : (wrap 0 = 0 → w_Rin (-1) 48 57 M4 (fun r36c M36 => (wrap r36c = 0 → (¬ wrap (-1) = 33 → (¬ wrap (-1) = 40 → k 0 M36) ∧ (wrap (-1) = 40 → w_Ropens M36 (fun r149c M149 => (wrap r149c = 0 → k 0 M149) ∧ (¬ wrap r149c = 0 → wg_Rparse d 0 [] M149 (fun r156c M156 => (wrap r156c = 0 → k 0 M156) ∧ (¬ wrap r156c = 0 → w_Rlook M156 (fun r163c M163 => (wrap r163c = 41 → ∀ M180 : gSt, M180 = wr M163 0 5 ((M163 0 5) + 1) → (∀ M190 : gSt, M190 = wr M180 0 6 ((M180 0 6) - 1) → (k 1 M190))) ∧ (¬ wrap r163c = 41 → k 0 M163)))))))) ∧ (wrap (-1) = 33 → w_Ropens M36 (fun r109c M109 => (wrap r109c = 0 → k 0 M109) ∧ (¬ wrap r109c = 0 → wg_Rparse d 5 [] M109 (fun r116c M116 => (¬ wrap r116c = 0 → ∀ M131 : gSt, M131 = wr M116 0 6 ((M116 0 6) - 1) → (w_Rlays 2 0 M131 (fun M137 => k 1 M137))) ∧ (wrap r116c = 0 → k 0 M116)))))) ∧ (¬ wrap r36c = 0 → ∃ n, wL_Rone_46 (wg_Rparse d) k (fun u2_46 M46 => wB_Rone_94 (wg_Rparse d) k u2_46 M46) n 0 0 M36))) := by
      intro _
      refine sp_Rin (by constructor <;> decide) (by constructor <;> decide) (by constructor <;> decide) (fun z => absurd z (by decide)) (fun _ => z0 ⟨fun _ => ⟨fun _ => hk, fun z => absurd z (by decide)⟩, fun z => absurd z (by decide)⟩)
    refine ⟨fun _ => ⟨fun _ => ⟨fun z => absurd z (by decide), fun _ => ⟨fun _ => ⟨fin, fun z => absurd wrap_0 z⟩, fun z => absurd z (by decide)⟩⟩, fun _ => ⟨fun z => absurd z (by decide), fun _ => ⟨fun _ => ⟨fin, fun z => absurd wrap_0 z⟩, fun z => absurd z (by decide)⟩⟩⟩, fun z => absurd z (by decide)⟩
  unfold w_Rwhole
  show wb_Rwhole (wg_Rparse 59) M4 _
  unfold wb_Rwhole
  show wb_Rboth (wg_Rparse 58) M4 _
  unfold wb_Rboth
  show wb_Rcompared (wg_Rparse 57) M4 _
  unfold wb_Rcompared
  show wb_Rsum (wg_Rparse 56) M4 _
  unfold wb_Rsum
  show wb_Rproduct (wg_Rparse 55) M4 _
  unfold wb_Rproduct
  refine one 54 _ (z0n (z0n (z0n (z0n (z0n (z0 ?_))))))
  unfold wB_Rtext_60 wB_Rtext_61
  intro M5 e5
  refine z0n ?_
  have : M5 0 5 = 0 := by rw [e5, wrO (by decide)]; exact a5
  rw [this]
  exact h1 q M5
theorem fC_untell {u : Int} {k : Int → gSt → Prop} (i1 : inI u) (h0 : ¬ (0 ≤ u ∧ u ≤ 1) → ∀ M', k (-1000000000 - 1) M') (h1 : (0 ≤ u ∧ u ≤ 1) → ∀ M', k 0 M') : w_X8_untell u M0c k := by
  unfold w_X8_untell w_X1_textOf wB_X8_untell_34 w_X1_textOf
  refine sp_within i1 (by constructor <;> decide) (by constructor <;> decide) (fun q => z1n ?_) (fun q => z0n (refF (by decide) (by decide) (h0 q)))
  have e1 : M0c (1 + 13) 3 = 0 := rfl
  have e2 : M0c (1 + 15) 3 = 0 := rfl
  refine ⟨pl_1, fun n => ⟨_, rfl, sp_size4 pl_16 ?_⟩, fun n => ⟨_, rfl, sp_size4 pl_14 ?_⟩⟩
  · rw [e2, wrap_0]
    exact ⟨fun _ => ⟨pl_1, fun _ => ⟨_, rfl, sp_clear pl_16 (h1 q _)⟩, fun z => absurd z n⟩, fun z => absurd z (by decide)⟩
  · rw [e1, wrap_0]
    exact ⟨fun _ => ⟨pl_1, fun z => absurd n z, fun _ => ⟨_, rfl, sp_clear pl_14 (h1 q _)⟩⟩, fun z => absurd z (by decide)⟩
theorem fR_untell {u : Int} {k : Int → gSt → Prop} (i1 : inI u) (h0 : ¬ (0 ≤ u ∧ u ≤ 1) → ∀ M', k (-1000000000 - 1) M') (h1 : (0 ≤ u ∧ u ≤ 1) → ∀ M', k 0 M') : w_Runtell u M0r k := by
  unfold w_Runtell w_RhasText wB_Runtell_28
  refine sp_Rin i1 (by constructor <;> decide) (by constructor <;> decide) (fun q => z1n ?_) (fun q => z0n (errF (by decide) (by decide) (h0 q)))
  refine ⟨⟨by omega, by omega⟩, ?_⟩
  have e : M0r 1 (202 + 125 * u) = 0 := by
    show (if 202 + 125 * u = 8 then (1 : Int) else 0) = 0
    rw [if_neg (by omega)]
  rw [e, wrap_0]
  exact ⟨fun _ => z0 ⟨⟨by omega, by omega⟩, fun M1 _ => h1 q M1⟩, fun z => absurd z (by decide)⟩
theorem clF {c : Int} {k : Int → gSt → Prop} (ic : inI c) (h : k 0 M0c) : w_X4_has 6 c M0c k := by
  have e : M0c 6 3 = 0 := rfl
  exact sp_has4 pl_6 ic (by rw [e]; constructor <;> decide) (fun q => absurd q (by omega)) (fun _ => h)
theorem clR {c : Int} {k : Int → gSt → Prop} (ic : inI c) (h : k 0 M0r) : w_RisClaim c M0r k := by
  have e : M0r 1 2 = 0 := rfl
  unfold w_RisClaim
  rw [e]
  exact sp_Rin ic (by constructor <;> decide) (by constructor <;> decide) (fun q => absurd q (by omega)) (fun _ => ⟨Or.inl rfl, h⟩)
theorem fC_claimIs {a b : Int} {k : Int → gSt → Prop} (i1 : inI a) (h : ∀ M', k (-1000000000 - 1) M') : w_X8_claimIs a b M0c k := by
  unfold w_X8_claimIs wB_X8_claimIs_23
  exact clF i1 (z0 (refF (by decide) (by decide) h))
theorem fR_claimIs {a b : Int} {k : Int → gSt → Prop} (i1 : inI a) (h : ∀ M', k (-1000000000 - 1) M') : w_RclaimIs a b M0r k := by
  unfold w_RclaimIs wB_RclaimIs_17
  exact clR i1 (z0 (errF (by decide) (by decide) h))
theorem fC_share {a b : Int} {k : Int → gSt → Prop} (i1 : inI a) (h : ∀ M', k (-1000000000 - 1) M') : w_X8_share a b M0c k := by
  unfold w_X8_share wB_X8_share_23
  exact clF i1 (z0 (refF (by decide) (by decide) h))
theorem fR_share {a b : Int} {k : Int → gSt → Prop} (i1 : inI a) (h : ∀ M', k (-1000000000 - 1) M') : w_Rshare a b M0r k := by
  unfold w_Rshare wB_Rshare_24
  exact clR i1 (z0 (errF (by decide) (by decide) h))
theorem fC_left {a b : Int} {k : Int → gSt → Prop} (i1 : inI a) (h : ∀ M', k (-1000000000 - 1) M') : w_X8_left a b M0c k := by
  unfold w_X8_left wB_X8_left_23
  exact hasF i1 (z0 (refF (by decide) (by decide) h))
theorem fR_left {a b : Int} {k : Int → gSt → Prop} (i1 : inI a) (h : ∀ M', k (-1000000000 - 1) M') : w_Rleft a b M0r k := by
  unfold w_Rleft wB_Rleft_15
  exact thF i1 (z0 (errF (by decide) (by decide) h))
-- histories: of no papers there is one
theorem hisC {a : Int} {k : Int → gSt → Prop} (i1 : inI a) (k0 : ¬ a = 0 → k 0 M0c) (k1 : a = 0 → k 1 M0c) : w_X8_isHistory a M0c k := by
  unfold w_X8_isHistory w_X8_allPapers
  have e : M0c 8 3 = 0 := rfl
  refine sp_size4 pl_8 ?_
  rw [e, show xshl 1 0 - 1 = 0 from by decide]
  exact sp_within i1 (by constructor <;> decide) (by constructor <;> decide) (fun q => ⟨Or.inr rfl, k1 (by omega)⟩) (fun q => ⟨Or.inl rfl, k0 (by omega)⟩)
theorem hisR {a : Int} {k : Int → gSt → Prop} (i1 : inI a) (k0 : ¬ a = 0 → k 0 M0r) (k1 : a = 0 → k 1 M0r) : w_RisHistory a M0r k := by
  unfold w_RisHistory w_RallPapers
  have e : M0r 1 3 = 0 := rfl
  rw [e, show xshl 1 0 - 1 = 0 from by decide]
  exact sp_Rin i1 (by constructor <;> decide) (by constructor <;> decide) (fun q => ⟨Or.inr rfl, k1 (by omega)⟩) (fun q => ⟨Or.inl rfl, k0 (by omega)⟩)
theorem fC_by {a b c : Int} {k : Int → gSt → Prop} (i1 : inI a) (i2 : inI b) (h : ∀ M', k (-1000000000 - 1) M') : w_X8_by a b c M0c k := by
  unfold w_X8_by wB_X8_by_32
  exact hisC i1 (fun _ => z0 (refF (by decide) (by decide) h)) (fun _ => z1 (hasF i2 (z0 (refF (by decide) (by decide) h))))
theorem fR_by {a b c : Int} {k : Int → gSt → Prop} (i1 : inI a) (i2 : inI b) (h : ∀ M', k (-1000000000 - 1) M') : w_Rby a b c M0r k := by
  unfold w_Rby wB_Rby_26
  exact hisR i1 (fun _ => z0 (errF (by decide) (by decide) h)) (fun _ => z1 (thF i2 (z0 (errF (by decide) (by decide) h))))
theorem findC {M : gSt} {k : gSt → Prop} (h8 : M 8 3 = 0) (h10 : M 10 3 = 0) (w0 : M 44 0 = 1) (w2 : M 44 2 = 64) (h : ∀ M', M' 44 3 = 1 → M' 45 0 = 0 → (∀ o, ¬ scr o → M' o = M o) → M' 44 0 = 1 → k M') : w_X2_find 41 1 M k := by
  unfold w_X2_find
  refine ⟨pl_41, pl_1, sp_clear pl_44 ⟨2, ?_⟩⟩
  simp only [wL_X2_find_9, wC_X2_find_9, wB_X2_find_53]
  refine sp_size4 pl_8 ?_
  rw [show wr M (41 + 3) 3 0 (1 + 7) 3 = 0 from by rw [wrO (by decide)]; exact h8, show wrap (xshl 1 0) = 1 from by decide, wrap_0]
  refine ⟨fun z => absurd z (by decide), fun _ => ?_⟩
  unfold w_X2_follow
  refine ⟨pl_41, pl_1, sp_copy0 pl_42 pl_2 rfl (by decide) ⟨1, ?_⟩⟩
  simp only [wL_X2_follow_19, wC_X2_follow_19]
  generalize hM1 : (wr (wr (wr (wr (cpy (wr M (41 + 3) 3 0) (1 + 1 + 1) 0 (41 + 1 + 1) 0 (lenC (41 + 1 + 1) : Int)) (41 + 1) 1 (wr M (41 + 3) 3 0 (1 + 1) 1)) (41 + 1) 2 (wr M (41 + 3) 3 0 (1 + 1) 2)) (41 + 1) 3 (wr M (41 + 3) 3 0 (1 + 1) 3)) (41 + 1) 4 (wr M (41 + 3) 3 0 (1 + 1) 4)) = M1
  have f1 : ∀ o, o ≠ 42 → o ≠ 43 → o ≠ 44 → M1 o = M o := fun o a b c => by
    rw [← hM1, wrO' a, wrO' a, wrO' a, wrO' a, cpyO b, wrO' c]
  have g1 : M1 44 3 = 0 := by rw [← hM1, wrO (by decide), wrO (by decide), wrO (by decide), wrO (by decide), cpyO (by decide), wrI]
  have g2 : M1 44 0 = 1 := by rw [← hM1, wrO (by decide), wrO (by decide), wrO (by decide), wrO (by decide), cpyO (by decide), wrN (by decide)]; exact w0
  have g3 : M1 44 2 = 64 := by rw [← hM1, wrO (by decide), wrO (by decide), wrO (by decide), wrO (by decide), cpyO (by decide), wrN (by decide)]; exact w2
  refine sp_size4 pl_8 ?_
  rw [show M1 (1 + 7) 3 = 0 from by rw [f1 8 (by decide) (by decide) (by decide)]; exact h8, wrap_0]
  refine ⟨fun _ => ?_, fun z => absurd z (by decide)⟩
  unfold w_X2_isSo
  refine ⟨pl_41, pl_10, 1, ?_⟩
  simp only [wL_X2_isSo_2, wC_X2_isSo_2]
  refine sp_size4 pl_10 ?_
  rw [show M1 (1 + 9) 3 = 0 from by rw [f1 10 (by decide) (by decide) (by decide)]; exact h10, wrap_0]
  refine ⟨fun _ => z1 ?_, fun z => absurd z (by decide)⟩
  refine sp_app1 (L := 64) pl_44 g2 g3 ⟨by rw [g1]; decide, by rw [g1]; decide⟩ (by decide) rfl ?_
  rw [show M1 (41 + 3) 3 = 0 from g1]
  refine sp_noteGrams (by decide) (fun M2 e2 _ => ?_)
  refine sp_size4 pl_8 ?_
  have f2 : ∀ o, o ≠ 42 → o ≠ 43 → o ≠ 44 → o ≠ 45 → o ≠ 46 → M2 o = M o := fun o a b c d q => by
    rw [e2 o q, wrO' c, wrO' d]; exact f1 o a b c
  rw [show M2 (1 + 7) 3 = 0 from by rw [f2 8 (by decide) (by decide) (by decide) (by decide) (by decide)]; exact h8, show wrap (xshl 1 0) = 1 from by decide]
  refine ⟨fun _ => h M2 ?_ ?_ (fun o ho => ?_) ?_, fun z => absurd z (by decide)⟩
  · rw [e2 44 (by decide), wrI]; rfl
  · rw [e2 45 (by decide), wrO (by decide), wrI]
  · unfold scr at ho; exact f2 o (by omega) (by omega) (by omega) (by omega) (by omega)
  · rw [e2 44 (by decide), wrN (by decide), wrO (by decide)]; exact g2
theorem findR {M : gSt} {k : gSt → Prop} (h3 : M 1 3 = 0) (h4 : M 1 4 = 0) (h : ∀ M', M' 0 13 = 1 → M' 8 0 = 0 → (∀ j, 0 ≤ j → j < 536 → M' 1 j = M 1 j) → k M') : w_RfindFits M k := by
  unfold w_RfindFits
  intro M1 e1
  refine ⟨2, ?_⟩
  have a3 : M1 1 3 = 0 := by rw [e1, wrO (by decide)]; exact h3
  have a4 : M1 1 4 = 0 := by rw [e1, wrO (by decide)]; exact h4
  have a13 : M1 0 13 = 0 := by rw [e1, wrI]
  simp only [wL_RfindFits_7, wC_RfindFits_7, wB_RfindFits_43, w_RallPapers]
  rw [a3, show xshl 1 0 - 1 = 0 from by decide]
  refine ⟨fun z => absurd z (by decide), fun _ => ?_⟩
  unfold w_RdoesFit
  refine sp_Rcarry (Or.inl rfl) (Or.inr (Or.inr rfl)) (by decide) ?_
  have c1 : ∀ o, o ≠ 3 → cpyA M1 1 3 o = M1 o := fun o ho => by funext i; simp [cpyA, ho]
  have c3 : ∀ j, 0 ≤ j → j < 536 → cpyA M1 1 3 3 j = M1 1 j := fun j p q => by simp [cpyA, p, q]
  generalize cpyA M1 1 3 = M2 at c1 c3
  unfold w_RgoesBy
  refine ⟨1, ?_⟩
  simp only [wL_RgoesBy_2, wC_RgoesBy_2]
  rw [c1 1 (by decide), a3, wrap_0]
  refine ⟨fun _ => ⟨1, ?_⟩, fun z => absurd z (by decide)⟩
  simp only [wL_RdoesFit_20, wC_RdoesFit_20]
  rw [c1 1 (by decide), a4, wrap_0]
  refine ⟨fun _ => ?_, fun z => absurd z (by decide)⟩
  unfold wB_RdoesFit_101
  refine sp_Rcarry (Or.inr (Or.inr rfl)) (Or.inl rfl) (by decide) ⟨Or.inr rfl, z1 ?_⟩
  have d1 : ∀ o, o ≠ 1 → cpyA M2 3 1 o = M2 o := fun o ho => by funext i; simp [cpyA, ho]
  have d3 : ∀ j, 0 ≤ j → j < 536 → cpyA M2 3 1 1 j = M2 3 j := fun j p q => by simp [cpyA, p, q]
  generalize cpyA M2 3 1 = M3 at d1 d3
  have b13 : M3 0 13 = 0 := by rw [d1 0 (by decide), c1 0 (by decide)]; exact a13
  rw [b13]
  refine ⟨by decide, fun M4 e4 M5 e5 => ?_⟩
  have b1 : M5 1 = M3 1 := by rw [e5, wrO' (by decide), e4, wrO' (by decide)]
  have b3 : M5 1 3 = 0 := by rw [b1, d3 3 (by decide) (by decide), c3 3 (by decide) (by decide)]; exact a3
  rw [b3, show xshl 1 0 - 1 = 0 from by decide]
  refine ⟨fun _ => h M5 ?_ ?_ (fun j p q => ?_), fun z => absurd z (by decide)⟩
  · rw [e5, wrI, e4, wrO (by decide), b13]; rfl
  · rw [e5, wrO (by decide), e4, wrI]
  · rw [b1, d3 j p q, c3 j p q, e1, wrO (by decide)]

theorem bits0 {M : gSt} {k : Int → gSt → Prop} (h : k 0 M) : w_J6_bitCount_0f7a4 0 M k := by
  unfold w_J6_bitCount_0f7a4
  intro a ea b eb c ec d ed e ee
  have a0 : a = 0 := by rw [ea]; decide
  have b0 : b = 0 := by rw [eb, a0]; decide
  have c0 : c = 0 := by rw [ec, b0]; decide
  have d0 : d = 0 := by rw [ed, c0]; decide
  have e0 : e = 0 := by rw [ee, d0]; decide
  rw [e0, show xand 0 63 = 0 from by decide]
  exact h
theorem fC_fits {a : Int} {k : Int → gSt → Prop} (i1 : inI a) (h0 : ¬ (0 ≤ a ∧ a ≤ 4) → ∀ M', k (-1000000000 - 1) M') (h1 : (0 ≤ a ∧ a ≤ 4) → ∀ M', k (if a = 0 then 1 else 0) M') : w_X8_fits a M0c k := by
  unfold w_X8_fits
  refine sp_within i1 (by constructor <;> decide) (by constructor <;> decide) (fun q => z1n ?_) (fun q => z0n (refF (by decide) (by decide) (h0 q)))
  refine findC rfl rfl rfl rfl (fun M1 s1 s0 fr w0 => ?_)
  unfold w_X8_allPapers
  have e8 : M1 8 3 = 0 := by rw [fr 8 (by unfold scr; omega)]; rfl
  refine sp_size4 pl_8 ?_
  unfold w_X2_size
  dsimp only
  refine ⟨pl_41, sp_size4 pl_44 ?_⟩
  rw [show M1 (41 + 3) 3 = 1 from s1, e8, show xshl 1 0 - 1 = 0 from by decide]
  have one : ∀ (M : gSt) (k : Int → gSt → Prop), M 44 3 = 1 → M 45 0 = 0 → M 44 0 = 1 → k 0 M → w_X2_fitting 41 0 M k := by
    intro M k a1 a2 a3 hk
    unfold w_X2_fitting
    refine ⟨pl_41, sp_at (W := 1) pl_44 a3 ⟨by decide, by rw [a1]; decide⟩ (by decide) ⟨by rw [a1]; decide, by decide⟩ (by decide) (by decide) ?_⟩
    rw [show M (41 + 3 + 1) (0 * 1 + 0) = 0 from a2]
    exact hk
  refine z1n ?_
  unfold wB_X8_fits_57
  rw [wI i1]
  refine ⟨fun e => ?_, fun e => ?_, fun e => ?_, fun e => ?_, fun e => ?_⟩
  · unfold w_X2_size
    refine ⟨pl_41, sp_size4 pl_44 ?_⟩
    rw [show M1 (41 + 3) 3 = 1 from s1]
    have := h1 q M1
    rw [if_pos e] at this
    exact this
  · refine one M1 _ s1 s0 w0 ?_
    have := h1 q M1
    rw [if_neg (by omega)] at this
    exact this
  · unfold w_X2_inAll
    refine ⟨pl_41, 2, ?_⟩
    simp only [wL_X2_inAll_4, wC_X2_inAll_4]
    refine sp_size4 pl_44 ?_
    rw [show M1 (41 + 3) 3 = 1 from s1, wrap_0, show wrap 1 = 1 from by decide]
    refine ⟨fun z => absurd z (by decide), fun _ => one M1 _ s1 s0 w0 (fun x ex => ?_)⟩
    refine sp_size4 pl_44 ?_
    rw [show M1 (41 + 3) 3 = 1 from s1, ex, show xand 0 0 = 0 from by decide]
    refine ⟨fun _ => ?_, fun z => absurd z (by decide)⟩
    have := h1 q M1
    rw [if_neg (by omega)] at this
    exact this
  · unfold w_X2_inAny
    refine ⟨pl_41, 2, ?_⟩
    simp only [wL_X2_inAny_4, wC_X2_inAny_4]
    refine sp_size4 pl_44 ?_
    rw [show M1 (41 + 3) 3 = 1 from s1, wrap_0, show wrap 1 = 1 from by decide]
    refine ⟨fun z => absurd z (by decide), fun _ => one M1 _ s1 s0 w0 (fun x ex => ?_)⟩
    refine sp_size4 pl_44 ?_
    rw [show M1 (41 + 3) 3 = 1 from s1, ex, show xor2 0 0 = 0 from by decide]
    refine ⟨fun _ => ?_, fun z => absurd z (by decide)⟩
    have := h1 q M1
    rw [if_neg (by omega)] at this
    exact this
  · refine sp_size4 pl_8 ?_
    unfold w_X2_mostPapers
    refine ⟨pl_41, 2, ?_⟩
    simp only [wL_X2_mostPapers_4, wC_X2_mostPapers_4]
    refine sp_size4 pl_44 ?_
    rw [show M1 (41 + 3) 3 = 1 from s1, wrap_0, show wrap 1 = 1 from by decide]
    refine ⟨fun z => absurd z (by decide), fun _ => one M1 _ s1 s0 w0 ?_⟩
    refine bits0 (fun x ex => ?_)
    refine sp_size4 pl_44 ?_
    rw [show M1 (41 + 3) 3 = 1 from s1, ex, e8, show xmax 0 0 = 0 from by decide]
    refine ⟨fun _ => ?_, fun z => absurd z (by decide)⟩
    have := h1 q M1
    rw [if_neg (by omega)] at this
    exact this
theorem fR_fits {a : Int} {k : Int → gSt → Prop} (i1 : inI a) (h0 : ¬ (0 ≤ a ∧ a ≤ 4) → ∀ M', k (-1000000000 - 1) M') (h1 : (0 ≤ a ∧ a ≤ 4) → ∀ M', k (if a = 0 then 1 else 0) M') : w_Rfits a M0r k := by
  unfold w_Rfits
  refine sp_Rin i1 (by constructor <;> decide) (by constructor <;> decide) (fun q => z1n ?_) (fun q => z0n (errF (by decide) (by decide) (h0 q)))
  refine findR rfl rfl (fun M1 m1 f0 fr => ?_)
  have e3 : M1 1 3 = 0 := by rw [fr 3 (by decide) (by decide)]; rfl
  unfold w_RallPapers
  dsimp only
  rw [e3, show xshl 1 0 - 1 = 0 from by decide]
  refine ⟨2, ?_⟩
  simp only [wL_Rfits_32, wC_Rfits_32, wB_Rfits_91]
  rw [m1, wrap_0, show wrap 1 = 1 from by decide, f0]
  refine ⟨fun z => absurd z (by decide), fun _ => ⟨by decide, fun x ex => ⟨by decide, fun y ey => ⟨by decide, ?_⟩⟩⟩⟩
  unfold w_RbitsOf
  refine ⟨1, ?_⟩
  simp only [wL_RbitsOf_4, wC_RbitsOf_4]
  rw [wrap_0]
  refine ⟨fun _ => ⟨fun _ => ?_, fun z => absurd z (by decide)⟩, fun z => absurd rfl z⟩
  rw [m1, show wrap 1 = 1 from by decide]
  refine ⟨fun _ => ?_, fun z => absurd z (by decide)⟩
  have ex0 : x = 0 := by rw [ex]; decide
  have ey0 : y = 0 := by rw [ey]; decide
  have fin : wB_Rfits_122 a k x y 0 M1 := by
    unfold wB_Rfits_122
    rw [wI i1, ex0, ey0, f0, m1, e3]
    have := h1 q M1
    refine ⟨fun n0 => ?_, fun e => by rw [if_pos e] at this; exact this⟩
    rw [if_neg n0] at this
    exact ⟨fun _ => ⟨fun _ => ⟨fun _ => this, fun _ => this⟩, fun _ => this⟩, fun _ => this⟩
  have fin2 : wB_Rfits_109 a k x y 0 M1 := by
    unfold wB_Rfits_109
    rw [m1]
    exact ⟨fun _ => fin, fun z => absurd z (by decide)⟩
  exact ⟨fun _ => fin2, fun _ => ⟨fun _ => fin, fun _ => fin2⟩⟩
theorem fC_span {a b c : Int} {k : Int → gSt → Prop} (i1 : inI a) (h : ∀ M', k (-1000000000 - 1) M') : w_X8_span a b c M0c k := by
  unfold w_X8_span wB_X8_span_32
  exact hasF i1 (z0 (refF (by decide) (by decide) h))
theorem fR_span {a b c : Int} {k : Int → gSt → Prop} (i1 : inI a) (h : ∀ M', k (-1000000000 - 1) M') : w_Rspan a b c M0r k := by
  unfold w_Rspan wB_Rspan_26
  exact thF i1 (z0 (errF (by decide) (by decide) h))
theorem fC_next {k : Int → gSt → Prop} (h : ∀ M', k (-1000000000 - 2) M') : w_X8_next M0c k := by
  unfold w_X8_next
  refine findC rfl rfl rfl rfl (fun M1 s1 s0 fr w0 => ?_)
  unfold w_X2_size
  refine ⟨pl_41, sp_size4 pl_44 ?_⟩
  rw [show M1 (41 + 3) 3 = 1 from s1]
  refine z1 ?_
  unfold w_X0_size wB_X8_next_34
  refine ⟨pl_2, ?_⟩
  dsimp only
  rw [show M1 2 1 = 0 from by rw [fr 2 (by unfold scr; omega)]; rfl]
  exact z0n (refF (by decide) (by decide) h)
theorem fR_next {k : Int → gSt → Prop} (h : ∀ M', k (-1000000000 - 2) M') : w_Rnext M0r k := by
  unfold w_Rnext wB_Rnext_20
  refine findR rfl rfl (fun M1 m1 f0 fr => ?_)
  rw [m1, show M1 1 0 = 0 from by rw [fr 0 (by decide) (by decide)]; rfl]
  exact z1 (z0n (errF (by decide) (by decide) h))
def vMost (a b c : Int) : Prop := (0 ≤ a ∧ a ≤ 3) ∧ (0 ≤ b ∧ b ≤ 3) ∧ (0 ≤ c ∧ c ≤ 1)
theorem fC_most {a b c : Int} {k : Int → gSt → Prop} (i1 : inI a) (i2 : inI b) (i3 : inI c) (h0 : ¬ vMost a b c → ∀ M', k (-1000000000 - 1) M') (h1 : vMost a b c → ∀ M', k 0 M') : w_X8_most a b c M0c k := by
  unfold vMost at h0 h1
  unfold w_X8_most wB_X8_most_27
  refine sp_within i1 (by constructor <;> decide) (by constructor <;> decide) (fun q1 => z1 ?_) (fun q => z0 (refF (by decide) (by decide) (h0 (fun z => q z.1))))
  refine sp_within i2 (by constructor <;> decide) (by constructor <;> decide) (fun q2 => z1 ?_) (fun q => z0 (refF (by decide) (by decide) (h0 (fun z => q z.2.1))))
  refine sp_within i3 (by constructor <;> decide) (by constructor <;> decide) (fun q3 => z1n ?_) (fun q => z0n (refF (by decide) (by decide) (h0 (fun z => q z.2.2))))
  unfold w_X0_mostOf
  refine ⟨pl_2, 1, ?_⟩
  simp only [wL_X0_mostOf_8, wC_X0_mostOf_8]
  rw [show M0c 2 1 = 0 from rfl, show wrap (xshl 1 0) = 1 from by decide, show wrap 1 = 1 from by decide, wI i3]
  refine ⟨fun _ => ⟨fun _ => ?_, fun _ => h1 ⟨q1, q2, q3⟩ _⟩, fun z => absurd z (by decide)⟩
  unfold w_X0_together
  refine ⟨pl_2, 1, ?_⟩
  simp only [wL_X0_together_8, wC_X0_together_8]
  rw [show M0c 2 1 = 0 from rfl, wrap_0]
  refine ⟨fun _ => ⟨fun z => absurd (by decide) z, fun _ => ?_⟩, fun z => absurd z (by decide)⟩
  rw [show xmax 0 (-1) = 0 from by decide]
  exact h1 ⟨q1, q2, q3⟩ _
theorem fR_most {a b c : Int} {k : Int → gSt → Prop} (i1 : inI a) (i2 : inI b) (i3 : inI c) (h0 : ¬ vMost a b c → ∀ M', k (-1000000000 - 1) M') (h1 : vMost a b c → ∀ M', k 0 M') : w_Rmost a b c M0r k := by
  unfold vMost at h0 h1
  unfold w_Rmost wB_Rmost_27
  refine sp_Rin i1 (by constructor <;> decide) (by constructor <;> decide) (fun q1 => z1 ?_) (fun q => z0 (errF (by decide) (by decide) (h0 (fun z => q z.1))))
  refine sp_Rin i2 (by constructor <;> decide) (by constructor <;> decide) (fun q2 => z1 ?_) (fun q => z0 (errF (by decide) (by decide) (h0 (fun z => q z.2.1))))
  refine sp_Rin i3 (by constructor <;> decide) (by constructor <;> decide) (fun q3 => z1n ?_) (fun q => z0n (errF (by decide) (by decide) (h0 (fun z => q z.2.2))))
  refine ⟨1, ?_⟩
  simp only [wL_Rmost_39, wC_Rmost_39]
  rw [show M0r 1 0 = 0 from rfl, show wrap (xshl 1 0) = 1 from by decide, show wrap 1 = 1 from by decide, wI i3]
  refine ⟨fun _ => ⟨fun _ => ?_, fun _ => h1 ⟨q1, q2, q3⟩ _⟩, fun z => absurd z (by decide)⟩
  unfold w_Rtogether
  refine ⟨1, ?_⟩
  simp only [wL_Rtogether_8, wC_Rtogether_8]
  rw [show M0r 1 0 = 0 from rfl, wrap_0]
  exact ⟨fun _ => ⟨fun z => absurd (by decide) z, fun _ => h1 ⟨q1, q2, q3⟩ _⟩, fun z => absurd z (by decide)⟩
theorem fC_voice {a b c : Int} {k : Int → gSt → Prop} (i1 : inI a) (h : ∀ M', k (-1000000000 - 1) M') : w_X8_voice a b c M0c k := by
  unfold w_X8_voice wB_X8_voice_23
  exact hasF i1 (z0 (refF (by decide) (by decide) h))
theorem fR_voice {a b c : Int} {k : Int → gSt → Prop} (i1 : inI a) (h : ∀ M', k (-1000000000 - 1) M') : w_Rvoice a b c M0r k := by
  unfold w_Rvoice wB_Rvoice_17
  exact thF i1 (z0 (errF (by decide) (by decide) h))
-- sheets
theorem refS {j : Int} {σ : gSt} {S : Int × gSt} {M : gSt} {k : Int → gSt → Prop} (h0 : 0 ≤ j) (h1 : j < 7) (hS : S = S_err σ j) (h : ∀ M', k S.1 M') : w_X8_refuse j M k := by
  subst hS
  exact refF h0 h1 h
theorem fC_sheet {q b n : Int} {σ : gSt} {k : Int → gSt → Prop} (i1 : inI q) (i2 : inI b) (i3 : inI n) (h : ∀ M', k (S_sheet q b n σ).1 M') : w_X8_sheet q b n M0c k := by
  unfold w_X8_sheet wB_X8_sheet_34
  refine shC i1 (fun o ho hq => ⟨fun z => absurd z (by simp), fun o2 e2 => ?_⟩) (fun hq => ⟨fun _ => refS (σ := σ) (by decide) (by decide) (if_pos (fun z => hq z.1)) h, fun o2 e2 => by cases e2⟩)
  cases e2
  obtain ⟨p1, p2, p3⟩ := pl_sh (o := o) (by omega)
  have go : (b = 0 ∨ b = 8 ∨ b = 16 ∨ b = 32) → wB_X8_sheet_40 q b n k o M0c := by
    intro hb
    have hc : ¬ ¬ ((0 ≤ q ∧ q < 4) ∧ (b = 0 ∨ b = 8 ∨ b = 16 ∨ b = 32)) := fun z => z ⟨hq, hb⟩
    unfold wB_X8_sheet_40 wB_X8_sheet_54 wB_X8_sheet_70 wB_X8_sheet_82
    rw [wI i2, wI i3]
    have fin : ∀ m : Int, (S_sheet q b n σ).1 = 1 → w_X5_begin o b m M0c (fun M82 => k 1 M82) := by
      intro m e1
      unfold w_X5_begin
      refine ⟨p1, fun M1 _ M2 _ => sp_Jfill p2 p3 (fun M3 _ _ => ?_)⟩
      have := h M3
      rw [e1] at this
      exact this
    have s1 : b = 0 → (S_sheet q b n σ).1 = 1 := fun e => by
      unfold S_sheet
      rw [if_neg hc, if_neg (fun z => z.1 e), if_neg (fun z => z.1 e)]
    refine ⟨fun e => ⟨fun _ => ⟨fun z => absurd e z, fun _ => fin 0 (s1 e)⟩, fun z => absurd e z⟩, fun ne => ⟨fun hn => ⟨fun z => absurd z ne, fun _ => ⟨fun hm => ⟨fun _ => fin n ?_, fun z => absurd z ne⟩, fun hm => refS (σ := σ) (by decide) (by decide) ?_ h⟩⟩, fun hn => refS (σ := σ) (by decide) (by decide) ((if_neg hc).trans (if_pos ⟨ne, hn⟩)) h⟩⟩
    · unfold S_sheet
      rw [if_neg hc, if_neg (fun z => by omega), if_neg (fun z => by omega)]
    · exact (if_neg hc).trans ((if_neg (fun z => by omega)).trans (if_pos ⟨ne, hm⟩))
  rw [wI i2]
  refine ⟨fun e => go (Or.inl e), fun n0 => ⟨fun e => go (by omega), fun n8 => ⟨fun e => go (by omega), fun n16 => ⟨fun e => go (by omega), fun n32 => refS (σ := σ) (by decide) (by decide) (if_pos (fun z => by omega)) h⟩⟩⟩⟩
theorem misF {o : Nat} {k : Int → gSt → Prop} (ho : o = 56 ∨ o = 58 ∨ o = 60 ∨ o = 62) (h : k 1 M0c) : w_X5_isMissing o M0c k := by
  obtain ⟨p1, p2, p3⟩ := pl_sh ho
  unfold w_X5_isMissing
  rw [show M0c o 1 = 0 from by rcases ho with rfl | rfl | rfl | rfl <;> rfl, wrap_0]
  exact ⟨p1, fun n => absurd rfl n, fun _ => h⟩
theorem fC_put {q i v : Int} {k : Int → gSt → Prop} (i1 : inI q) (h0 : ¬ (0 ≤ q ∧ q < 4) → ∀ M', k (-1000000000 - 1) M') (h1 : (0 ≤ q ∧ q < 4) → ∀ M', k (-1000000000 - 2) M') : w_X8_put q i v M0c k := by
  unfold w_X8_put
  refine shC i1 (fun o ho hq => ⟨fun z => absurd z (by simp), fun o2 e2 => ?_⟩) (fun hq => ⟨fun _ => refF (by decide) (by decide) (h0 hq), fun o2 e2 => by cases e2⟩)
  cases e2
  exact misF (by omega) (z1 (refF (by decide) (by decide) (h1 hq)))
theorem fC_move {q i q2 j n : Int} {k : Int → gSt → Prop} (i1 : inI q) (i3 : inI q2) (h0 : ¬ ((0 ≤ q ∧ q < 4) ∧ (0 ≤ q2 ∧ q2 < 4)) → ∀ M', k (-1000000000 - 1) M') (h1 : ((0 ≤ q ∧ q < 4) ∧ (0 ≤ q2 ∧ q2 < 4)) → ∀ M', k (-1000000000 - 2) M') : w_X8_move q i q2 j n M0c k := by
  unfold w_X8_move wB_X8_move_24 wB_X8_move_46
  refine shC i1 (fun o ho hq => ?_) (fun hq => ?_)
  · refine shC i3 (fun o2 ho2 hq2 => ⟨fun z => absurd z (by simp), fun o3 e3 => ?_⟩) (fun hq2 => ⟨fun z => absurd z (by simp), fun o3 e3 => ⟨fun _ => refF (by decide) (by decide) (h0 (fun z => hq2 z.2)), fun o4 e4 => by cases e4⟩⟩)
    cases e3
    refine ⟨fun z => absurd z (by simp), fun o4 e4 => ?_⟩
    exact misF (by omega) (z1n (refF (by decide) (by decide) (h1 ⟨hq, hq2⟩)))
  · refine shC i3 (fun o2 ho2 hq2 => ⟨fun _ => refF (by decide) (by decide) (h0 (fun z => hq z.1)), fun o3 e3 => by cases e3⟩) (fun hq2 => ⟨fun _ => refF (by decide) (by decide) (h0 (fun z => hq z.1)), fun o3 e3 => by cases e3⟩)
theorem isShR {q : Int} {M : gSt} {k : Int → gSt → Prop} (iq : inI q) (k1 : 0 ≤ q ∧ q < 4 → k 1 M) (k0 : ¬ (0 ≤ q ∧ q < 4) → k 0 M) : w_RisSheet q M k := by
  unfold w_RisSheet
  exact sp_Rin iq (by constructor <;> decide) (by constructor <;> decide) (fun h => ⟨Or.inr rfl, k1 (by omega)⟩) (fun h => ⟨Or.inl rfl, k0 (by omega)⟩)
theorem fR_move {q i q2 j n : Int} {k : Int → gSt → Prop} (i1 : inI q) (i3 : inI q2) (h0 : ¬ ((0 ≤ q ∧ q < 4) ∧ (0 ≤ q2 ∧ q2 < 4)) → ∀ M', k (-1000000000 - 1) M') (h1 : ((0 ≤ q ∧ q < 4) ∧ (0 ≤ q2 ∧ q2 < 4)) → ∀ M', k (-1000000000 - 2) M') : w_Rmove q i q2 j n M0r k := by
  unfold w_Rmove wB_Rmove_14 wB_Rmove_38
  refine isShR i1 (fun hq => z1 ?_) (fun hq => z0 (errF (by decide) (by decide) (h0 (fun z => hq z.1))))
  refine isShR i3 (fun hq2 => z1n ?_) (fun hq2 => z0n (errF (by decide) (by decide) (h0 (fun z => hq2 z.2))))
  rw [show M0r 11 q = 0 from rfl, wrap_0]
  exact ⟨hq, fun _ => errF (by decide) (by decide) (h1 ⟨hq, hq2⟩), fun z => absurd rfl z⟩
theorem lackF {q : Int} {k : Int → gSt → Prop} (iq : inI q) (k1 : 0 ≤ q ∧ q < 4 → k 2 M0r) (k0 : ¬ (0 ≤ q ∧ q < 4) → k 1 M0r) : w_Rlacks q M0r k := by
  unfold w_Rlacks
  refine isShR iq (fun hq => z1n ?_) (fun hq => z0n (k0 hq))
  rw [show M0r 11 q = 0 from rfl, wrap_0]
  exact ⟨hq, fun z => absurd rfl z, fun _ => k1 hq⟩
theorem fC_papers {q : Int} {k : Int → gSt → Prop} (i1 : inI q) (h0 : ¬ (0 ≤ q ∧ q < 4) → ∀ M', k (-1000000000 - 1) M') (h1 : (0 ≤ q ∧ q < 4) → ∀ M', k (-1000000000 - 2) M') : w_X8_papers q M0c k := by
  unfold w_X8_papers
  refine shC i1 (fun o ho hq => ⟨fun z => absurd z (by simp), fun o2 e2 => ?_⟩) (fun hq => ⟨fun _ => refF (by decide) (by decide) (h0 hq), fun o2 e2 => by cases e2⟩)
  cases e2
  exact misF (by omega) (z1 (refF (by decide) (by decide) (h1 hq)))
theorem fR_papers {q : Int} {k : Int → gSt → Prop} (i1 : inI q) (h0 : ¬ (0 ≤ q ∧ q < 4) → ∀ M', k (-1000000000 - 1) M') (h1 : (0 ≤ q ∧ q < 4) → ∀ M', k (-1000000000 - 2) M') : w_Rpapers q M0r k := by
  unfold w_Rpapers
  refine lackF i1 (fun hq => ⟨fun z => absurd z (by decide), fun _ => errF (by decide) (by decide) (h1 hq)⟩) (fun hq => ⟨fun z => absurd z (by decide), fun _ => errF (by decide) (by decide) (h0 hq)⟩)
theorem fC_judge {q a : Int} {k : Int → gSt → Prop} (i1 : inI q) (i2 : inI a) (h0 : ¬ ((0 ≤ q ∧ q < 4) ∧ a = 0) → ∀ M', k (-1000000000 - 1) M') (h1 : ((0 ≤ q ∧ q < 4) ∧ a = 0) → ∀ M', k (-1000000000 - 2) M') : w_X8_judge q a M0c k := by
  unfold w_X8_judge wB_X8_judge_18
  refine shC i1 (fun o ho hq => ⟨fun z => absurd z (by simp), fun o2 e2 => ?_⟩) (fun hq => ⟨fun _ => refF (by decide) (by decide) (h0 (fun z => hq z.1)), fun o2 e2 => by cases e2⟩)
  cases e2
  exact hisC i2 (fun n => z0n (refF (by decide) (by decide) (h0 (fun z => n z.2)))) (fun e => z1n (misF (by omega) (z1 (refF (by decide) (by decide) (h1 ⟨hq, e⟩)))))
theorem fR_judge {q a : Int} {k : Int → gSt → Prop} (i1 : inI q) (i2 : inI a) (h0 : ¬ ((0 ≤ q ∧ q < 4) ∧ a = 0) → ∀ M', k (-1000000000 - 1) M') (h1 : ((0 ≤ q ∧ q < 4) ∧ a = 0) → ∀ M', k (-1000000000 - 2) M') : w_Rjudge q a M0r k := by
  unfold w_Rjudge wB_Rjudge_17
  refine hisR i2 (fun n => z0 ⟨fun z => absurd z (by decide), fun _ => errF (by decide) (by decide) (h0 (fun z => n z.2))⟩) (fun e => z1 ?_)
  refine lackF i1 (fun hq => ⟨fun z => absurd z (by decide), fun _ => errF (by decide) (by decide) (h1 ⟨hq, e⟩)⟩) (fun hq => ⟨fun z => absurd z (by decide), fun _ => errF (by decide) (by decide) (h0 (fun z => hq z.1))⟩)
theorem fC_check {k : Int → gSt → Prop} (h : ∀ M', k 1 M') : w_X8_check M0c k := by
  unfold w_X8_check
  refine findC rfl rfl rfl rfl (fun M1 s1 s0 fr w0 => ?_)
  have e12 : M1 12 3 = 0 := by rw [fr 12 (by unfold scr; omega)]; rfl
  unfold w_X2_firstUnlike
  refine ⟨pl_41, pl_12, sp_size4 pl_12 (sp_size4 pl_44 (fun x ex => ⟨1, ?_⟩))⟩
  rw [e12, show M1 (41 + 3) 3 = 1 from s1, show xmax 0 1 = 1 from by decide] at ex
  subst ex
  simp only [wL_X2_firstUnlike_17, wC_X2_firstUnlike_17]
  rw [wrap_0, show wrap 1 = 1 from by decide]
  refine ⟨fun z => absurd z (by decide), fun _ => sp_has4 pl_12 (by constructor <;> decide) (by rw [e12]; constructor <;> decide) (fun z => ?_) (fun _ => z0 (sp_clear pl_12 (h _)))⟩
  rw [e12] at z
  omega
theorem fR_check {k : Int → gSt → Prop} (h : ∀ M', k 1 M') : w_Rcheck M0r k := by
  unfold w_Rcheck
  intro x ex M1 e1
  rw [show M0r 1 7 = 0 from rfl] at ex
  subst ex
  refine findR (by rw [e1, wrN (by decide)]; rfl) (by rw [e1, wrN (by decide)]; rfl) (fun M2 m1 f0 fr => ⟨1, ?_⟩)
  simp only [wL_Rcheck_22, wC_Rcheck_22, wB_Rcheck_60]
  rw [wrap_0, m1]
  refine ⟨fun _ => ⟨fun z => absurd trivial z, fun _ => ⟨fun _ => h M2, fun z => absurd z (by decide)⟩⟩, fun z => absurd z (by decide)⟩
theorem fC_restore {k : Int → gSt → Prop} (h : ∀ M', k (-1000000000 - 2) M') : w_X8_restore M0c k := by
  unfold w_X8_restore
  rw [show M0c 0 8 = 0 from rfl, wrap_0]
  exact ⟨fun z => absurd rfl z, fun _ => refF (by decide) (by decide) h⟩
theorem copyF {o a : Nat} {M : gSt} {k : gSt → Prop} (h : (o = 20 ∧ a = 1) ∨ (o = 1 ∧ a = 20)) (hk : ∀ M', M' 0 = M 0 → k M') : w_X1_copyFrom o a M k := by
  unfold w_X1_copyFrom
  rcases h with ⟨rfl, rfl⟩ | ⟨rfl, rfl⟩
  · refine ⟨pl_20, pl_1, sp_copy0 pl_21 pl_2 rfl (by decide) (sp_copy4 pl_23 pl_4 rfl (by decide) (sp_copy4 pl_25 pl_6 rfl (by decide) (sp_copy4 pl_27 pl_8 rfl (by decide) (sp_copy4 pl_29 pl_10 rfl (by decide) (sp_copy4 pl_31 pl_12 rfl (by decide) (sp_copy4 pl_33 pl_14 rfl (by decide) (sp_copy4 pl_35 pl_16 rfl (by decide) (hk _ ?_))))))))⟩
    rw [wrO' (by decide), cpyO (by decide), wrO' (by decide), cpyO (by decide), wrO' (by decide), cpyO (by decide), wrO' (by decide), cpyO (by decide), wrO' (by decide), cpyO (by decide), wrO' (by decide), cpyO (by decide), wrO' (by decide), cpyO (by decide), wrO' (by decide), wrO' (by decide), wrO' (by decide), wrO' (by decide), cpyO (by decide)]
  · refine ⟨pl_1, pl_20, sp_copy0 pl_2 pl_21 rfl (by decide) (sp_copy4 pl_4 pl_23 rfl (by decide) (sp_copy4 pl_6 pl_25 rfl (by decide) (sp_copy4 pl_8 pl_27 rfl (by decide) (sp_copy4 pl_10 pl_29 rfl (by decide) (sp_copy4 pl_12 pl_31 rfl (by decide) (sp_copy4 pl_14 pl_33 rfl (by decide) (sp_copy4 pl_16 pl_35 rfl (by decide) (hk _ ?_))))))))⟩
    rw [wrO' (by decide), cpyO (by decide), wrO' (by decide), cpyO (by decide), wrO' (by decide), cpyO (by decide), wrO' (by decide), cpyO (by decide), wrO' (by decide), cpyO (by decide), wrO' (by decide), cpyO (by decide), wrO' (by decide), cpyO (by decide), wrO' (by decide), wrO' (by decide), wrO' (by decide), wrO' (by decide), cpyO (by decide)]
theorem fC_image {k : Int → gSt → Prop} (h : ∀ M', k 1 M') : w_X8_image M0c k := by
  unfold w_X8_image
  refine copyF (Or.inl ⟨rfl, rfl⟩) (fun M1 e1 M2 e2 => ?_)
  rw [e2, wrI, e1, show M0c 0 8 + 1 = 1 from rfl]
  exact h _
