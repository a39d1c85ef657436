-- the class's small methods, as they act on its memory
theorem wrapL130 : wrap ((130 : Nat) : Int) = 130 := by decide
theorem sp_within {v lo hi : Int} {M : gSt} {k : Int → gSt → Prop} (hv : inI v) (hl : inI lo) (hh : inI hi) (k1 : lo ≤ v ∧ v ≤ hi → k 1 M) (k0 : ¬ (lo ≤ v ∧ v ≤ hi) → k 0 M) : w_X8_within v lo hi M k := by
  unfold w_X8_within
  rw [wI hv, wI hl, wI hh]
  exact ⟨fun h => k0 (by omega), fun h => ⟨fun h2 => k0 (by omega), fun h2 => k1 (by omega)⟩⟩
theorem sp_refuse {j : Int} {M : gSt} {k : Int → gSt → Prop} (h0 : 0 ≤ j) (h1 : j < 7) (h : k (-1000000000 - j) (wr M 64 j (M 64 j + 1))) : w_X8_refuse j M k := by
  unfold w_X8_refuse
  rw [wI ⟨by omega, by omega⟩]
  refine ⟨fun q => absurd q (by omega), fun _ => ⟨fun q => absurd q (by omega), fun _ => ⟨⟨h0, h1⟩, ⟨h0, h1⟩, fun M' e => ?_⟩⟩⟩
  subst e
  exact h
theorem errC {M : gSt} {k : Int → gSt → Prop} {j : Int} {S : Int × gSt} (h0 : 0 ≤ j) (h1 : j < 7) (hK : cK M) (hS : S = S_err (absC M) j) (h : ∀ M', absC M' = S.2 → cK M' → k S.1 M') : w_X8_refuse j M k := by
  subst hS
  exact sp_refuse h0 h1 (h _ (ac_eq (fun o ho => wrO' (by unfold scr at ho; omega))) (cK_wr hK (Or.inr (by decide))))
theorem isKM {a : Int} {M : gSt} {k : Int → gSt → Prop} (ha : inI a) (k1 : 0 ≤ a ∧ a ≤ 699 → k 1 M) (k0 : ¬ (0 ≤ a ∧ a ≤ 699) → k 0 M) : w_X8_isKindAndM a M k := by
  unfold w_X8_isKindAndM
  exact sp_within ha (by constructor <;> decide) (by constructor <;> decide) (fun h => ⟨Or.inr rfl, k1 h⟩) (fun h => ⟨Or.inl rfl, k0 h⟩)
-- Bronze
theorem sp_has0 {o : Nat} {t : Int} {M : gSt} {k : Int → gSt → Prop} (hb : isBronze o) (ht : inI t) (hn : 0 ≤ M o 1 ∧ M o 1 ≤ 12) (k1 : 0 ≤ t ∧ t < M o 1 → k 1 M) (k0 : ¬ (0 ≤ t ∧ t < M o 1) → k 0 M) : w_X0_has o t M k := by
  unfold w_X0_has
  rw [wI ht, wI (x := M o 1) ⟨by omega, by omega⟩]
  exact ⟨hb, fun h => k0 (by omega), fun h => ⟨fun h2 => k0 (by omega), fun h2 => k1 (by omega)⟩⟩
theorem sp_placeOf {t w : Int} {M : gSt} {k : Int → gSt → Prop} (ht : 0 ≤ t ∧ t ≤ 12) (hw : 0 ≤ w ∧ w ≤ 9) (h : k (10 * t + w) M) : w_X0_placeOf t w M k := by
  unfold w_X0_placeOf wB_X0_placeOf_25
  rw [wI (x := t) ⟨by omega, by omega⟩, wI (x := w) ⟨by omega, by omega⟩]
  refine ⟨fun q => absurd q (by omega), fun _ => ⟨fun q => absurd q (by omega), fun _ => ⟨fun q => absurd q (by omega), fun _ => ⟨fun q => absurd q (by omega), fun _ => z1 ?_⟩⟩⟩⟩
  rw [show t * 10 + w = 10 * t + w from by omega]
  exact h
theorem sp_placeOfN {t w : Int} {M : gSt} {k : Int → gSt → Prop} (hi : inI t) (hw : inI w) (ht : ¬ (0 ≤ t ∧ t ≤ 12) ∨ ¬ (0 ≤ w ∧ w ≤ 9)) (h : k (-1) M) : w_X0_placeOf t w M k := by
  unfold w_X0_placeOf wB_X0_placeOf_24 wB_X0_placeOf_25
  rw [wI hi, wI hw]
  refine ⟨fun _ => z0 h, fun _ => ⟨fun _ => z0 h, fun _ => ⟨fun _ => z0 h, fun _ => ⟨fun _ => z0 h, fun _ => ?_⟩⟩⟩⟩
  rcases ht with q | q
  · exact absurd q (by omega)
  · exact absurd q (by omega)
theorem sp_number {o : Nat} {t w : Int} {M : gSt} {k : Int → gSt → Prop} (hb : isBronze o) (hl : lenC (o + 1) = 130) (ht : 0 ≤ t ∧ t ≤ 12) (hw : 0 ≤ w ∧ w ≤ 9) (h : k (M (o + 1) (10 * t + w)) M) : w_X0_number o t w M k := by
  unfold w_X0_number
  refine ⟨hb, sp_placeOf ht hw ?_⟩
  rw [hl, wrapL130, wI (x := 10 * t + w) ⟨by omega, by omega⟩]
  exact ⟨fun q => absurd q (by omega), fun _ => ⟨fun q => absurd q (by omega), fun _ => ⟨⟨by omega, by omega⟩, h⟩⟩⟩
theorem sp_become {o : Nat} {t w v : Int} {M : gSt} {k : gSt → Prop} (hb : isBronze o) (hl : lenC (o + 1) = 130) (ht : 0 ≤ t ∧ t ≤ 12) (hw : 0 ≤ w ∧ w ≤ 9) (h : k (wr M (o + 1) (10 * t + w) v)) : w_X0_become o t w v M k := by
  unfold w_X0_become
  refine ⟨hb, sp_placeOf ht hw ?_⟩
  rw [hl, wrapL130, wI (x := 10 * t + w) ⟨by omega, by omega⟩]
  refine ⟨fun q => absurd q (by omega), fun _ => ⟨fun q => absurd q (by omega), fun _ => ⟨⟨by omega, by omega⟩, fun M' e => ?_⟩⟩⟩
  subst e
  exact h
theorem sp_becomeN {o : Nat} {t w v : Int} {M : gSt} {k : gSt → Prop} (hb : isBronze o) (hi : inI t) (hw : inI w) (ht : ¬ (0 ≤ t ∧ t ≤ 12) ∨ ¬ (0 ≤ w ∧ w ≤ 9)) (h : k M) : w_X0_become o t w v M k := by
  unfold w_X0_become
  refine ⟨hb, sp_placeOfN hi hw ht ⟨fun _ => h, fun q => absurd q (by decide)⟩⟩
-- Rows
theorem sp_size4 {o : Nat} {M : gSt} {k : Int → gSt → Prop} (hr : isRows o) (h : k (M o 3) M) : w_X4_size o M k := ⟨hr, h⟩
theorem sp_room4 {o : Nat} {M : gSt} {k : Int → gSt → Prop} (hr : isRows o) (h : k (M o 2 - M o 3) M) : w_X4_room o M k := ⟨hr, h⟩
theorem sp_clear {o : Nat} {M : gSt} {k : gSt → Prop} (hr : isRows o) (h : k (wr M o 3 0)) : w_X4_clear o M k := ⟨hr, fun M' e => by subst e; exact h⟩
theorem sp_has4 {o : Nat} {t : Int} {M : gSt} {k : Int → gSt → Prop} (hr : isRows o) (ht : inI t) (hn : inI (M o 3)) (k1 : 0 ≤ t ∧ t < M o 3 → k 1 M) (k0 : ¬ (0 ≤ t ∧ t < M o 3) → k 0 M) : w_X4_has o t M k := by
  unfold w_X4_has
  rw [wI ht, wI hn]
  exact ⟨hr, fun h => k0 (by omega), fun h => ⟨fun h2 => k0 (by omega), fun h2 => k1 (by omega)⟩⟩
theorem sp_at {o : Nat} {r c W : Int} {M : gSt} {k : Int → gSt → Prop} (hr : isRows o) (hW : M o 0 = W) (hn : 0 ≤ r ∧ r < M o 3) (hc : 0 ≤ c ∧ c < W) (hb : M o 3 ≤ 1000 ∧ W ≤ 3) (hlen : r * W + c < lenC (o + 1)) (hl2 : (lenC (o + 1) : Int) ≤ 1000) (h : k (M (o + 1) (r * W + c)) M) : w_X4_at o r c M k := by
  have hp : 0 ≤ r * W := Int.mul_nonneg hn.1 (by omega)
  unfold w_X4_at wB_X4_at_29 wB_X4_at_46
  rw [hW, wI (x := r) ⟨by omega, by omega⟩, wI (x := c) ⟨by omega, by omega⟩, wI (x := M o 3) ⟨by omega, by omega⟩, wI (x := W) ⟨by omega, by omega⟩, wI (x := r * W + c) ⟨by omega, by omega⟩, wI (x := (lenC (o + 1) : Int)) ⟨by omega, by omega⟩]
  refine ⟨hr, fun q => absurd q (by omega), fun _ => ⟨fun q => absurd q (by omega), fun _ => ⟨fun q => absurd q (by omega), fun _ => ⟨fun q => absurd q (by omega), fun _ => z1 ⟨fun q => absurd q (by omega), fun _ => ⟨fun q => absurd q (by omega), fun _ => ⟨⟨by omega, by omega⟩, h⟩⟩⟩⟩⟩⟩⟩
theorem sp_write {o : Nat} {c v W : Int} {M : gSt} {k : gSt → Prop} (hr : isRows o) (hW : M o 0 = W) (hn : 0 ≤ M o 3 ∧ M o 3 ≤ 1000) (hc : 0 ≤ c ∧ c < W) (hb : W ≤ 3) (hlen : M o 3 * W + c < lenC (o + 1)) (hl2 : (lenC (o + 1) : Int) ≤ 1000) (h : k (wr M (o + 1) (M o 3 * W + c) v)) : w_X4_write o c v M k := by
  have hp : 0 ≤ M o 3 * W := Int.mul_nonneg hn.1 (by omega)
  unfold w_X4_write
  refine ⟨hr, fun x e => ?_⟩
  rw [hW] at e ⊢
  subst e
  rw [wI (x := c) ⟨by omega, by omega⟩, wI (x := W) ⟨by omega, by omega⟩, wI (x := M o 3 * W + c) ⟨by omega, by omega⟩, wI (x := (lenC (o + 1) : Int)) ⟨by omega, by omega⟩]
  refine ⟨fun q => absurd q (by omega), fun _ => ⟨fun q => absurd q (by omega), fun _ => ⟨fun q => absurd q (by omega), fun _ => ⟨⟨by omega, by omega⟩, fun M' e => ?_⟩⟩⟩⟩
  subst e
  exact h
theorem sp_writeN {o : Nat} {c v W : Int} {M : gSt} {k : gSt → Prop} (hr : isRows o) (hW : M o 0 = W) (hc : 0 ≤ W ∧ W ≤ c ∧ c ≤ 3) (h : k M) : w_X4_write o c v M k := by
  unfold w_X4_write
  refine ⟨hr, fun x e => ?_⟩
  rw [hW, wI (x := c) ⟨by omega, by omega⟩, wI (x := W) ⟨by omega, by omega⟩]
  exact ⟨fun _ => h, fun q => absurd q (by omega)⟩
theorem sp_app1 {o : Nat} {a b c L : Int} {M : gSt} {k : Int → gSt → Prop} (hr : isRows o) (hW : M o 0 = 1) (hL : M o 2 = L) (hn : 0 ≤ M o 3 ∧ M o 3 < L) (hb : L ≤ 300) (hlen : (lenC (o + 1) : Int) = L) (h : k (M o 3) (wr (wr M (o + 1) (M o 3) a) o 3 (M o 3 + 1))) : w_X4_append o a b c M k := by
  have ne : o ≠ o + 1 := by omega
  unfold w_X4_append
  refine ⟨hr, sp_room4 hr ⟨fun _ => ?_, fun q => absurd q (by rw [hL, wI ⟨by omega, by omega⟩]; omega)⟩⟩
  refine sp_write hr hW ⟨by omega, by omega⟩ (by decide) (by decide) (by omega) (by omega) ?_
  rw [show M o 3 * 1 + 0 = M o 3 from by omega]
  refine sp_writeN (W := 1) hr (by rw [wrO ne]; exact hW) (by decide) (sp_writeN (W := 1) hr (by rw [wrO ne]; exact hW) (by decide) (fun M' e => ?_))
  subst e
  rw [wrO ne, wrI, show M o 3 + 1 - 1 = M o 3 from by omega]
  exact h
theorem sp_app2 {o : Nat} {a b c L : Int} {M : gSt} {k : Int → gSt → Prop} (hr : isRows o) (hW : M o 0 = 2) (hL : M o 2 = L) (hn : 0 ≤ M o 3 ∧ M o 3 < L) (hb : L ≤ 300) (hlen : (lenC (o + 1) : Int) = 2 * L) (h : k (M o 3) (wr (wr (wr M (o + 1) (2 * M o 3) a) (o + 1) (2 * M o 3 + 1) b) o 3 (M o 3 + 1))) : w_X4_append o a b c M k := by
  have ne : o ≠ o + 1 := by omega
  unfold w_X4_append
  refine ⟨hr, sp_room4 hr ⟨fun _ => ?_, fun q => absurd q (by rw [hL, wI ⟨by omega, by omega⟩]; omega)⟩⟩
  refine sp_write hr hW ⟨by omega, by omega⟩ (by decide) (by decide) (by omega) (by omega) ?_
  rw [show M o 3 * 2 + 0 = 2 * M o 3 from by omega]
  refine sp_write (W := 2) hr (by rw [wrO ne]; exact hW) (by rw [wrO ne]; exact ⟨by omega, by omega⟩) (by decide) (by decide) (by rw [wrO ne]; omega) (by omega) ?_
  rw [wrO (i' := 3) ne, show M o 3 * 2 + 1 = 2 * M o 3 + 1 from by omega]
  refine sp_writeN (W := 2) hr (by rw [wrO ne, wrO ne]; exact hW) (by decide) (fun M' e => ?_)
  subst e
  rw [wrO ne, wrO ne, wrI, show M o 3 + 1 - 1 = M o 3 from by omega]
  exact h
theorem sp_app3 {o : Nat} {a b c L : Int} {M : gSt} {k : Int → gSt → Prop} (hr : isRows o) (hW : M o 0 = 3) (hL : M o 2 = L) (hn : 0 ≤ M o 3 ∧ M o 3 < L) (hb : L ≤ 300) (hlen : (lenC (o + 1) : Int) = 3 * L) (h : k (M o 3) (wr (wr (wr (wr M (o + 1) (3 * M o 3) a) (o + 1) (3 * M o 3 + 1) b) (o + 1) (3 * M o 3 + 2) c) o 3 (M o 3 + 1))) : w_X4_append o a b c M k := by
  have ne : o ≠ o + 1 := by omega
  unfold w_X4_append
  refine ⟨hr, sp_room4 hr ⟨fun _ => ?_, fun q => absurd q (by rw [hL, wI ⟨by omega, by omega⟩]; omega)⟩⟩
  refine sp_write hr hW ⟨by omega, by omega⟩ (by decide) (by decide) (by omega) (by omega) ?_
  rw [show M o 3 * 3 + 0 = 3 * M o 3 from by omega]
  refine sp_write (W := 3) hr (by rw [wrO ne]; exact hW) (by rw [wrO ne]; exact ⟨by omega, by omega⟩) (by decide) (by decide) (by rw [wrO ne]; omega) (by omega) ?_
  rw [wrO (i' := 3) ne, show M o 3 * 3 + 1 = 3 * M o 3 + 1 from by omega]
  refine sp_write (W := 3) hr (by rw [wrO ne, wrO ne]; exact hW) (by rw [wrO ne, wrO ne]; exact ⟨by omega, by omega⟩) (by decide) (by decide) (by rw [wrO ne, wrO ne]; omega) (by omega) ?_
  rw [wrO (i' := 3) ne, wrO (i' := 3) ne, show M o 3 * 3 + 2 = 3 * M o 3 + 2 from by omega]
  intro M' e
  subst e
  rw [wrO ne, wrO ne, wrO ne, wrI, show M o 3 + 1 - 1 = M o 3 from by omega]
  exact h
-- the abstract numbers, read
theorem rc00 (M : gSt) : absC M 0 0 = M 2 1 := by simp [absC]
theorem rc01 (M : gSt) : absC M 0 1 = M 2 2 := by simp [absC]
theorem rc02 (M : gSt) : absC M 0 2 = M 6 3 := by simp [absC]
theorem rc03 (M : gSt) : absC M 0 3 = M 8 3 := by simp [absC]
theorem rc04 (M : gSt) : absC M 0 4 = M 10 3 := by simp [absC]
theorem rc05 (M : gSt) : absC M 0 5 = M 2 3 := by simp [absC]
theorem rc06 (M : gSt) : absC M 0 6 = M 4 3 := by simp [absC]
theorem rc07 (M : gSt) : absC M 0 7 = M 12 3 := by simp [absC]
theorem rc08 (M : gSt) : absC M 0 8 = M 2 4 := by simp [absC]
theorem rc09 (M : gSt) : absC M 0 9 = M 14 3 := by simp [absC]
theorem rc010 (M : gSt) : absC M 0 10 = M 16 3 := by simp [absC]
theorem rc1 (M : gSt) {i : Int} (h0 : 0 ≤ i) (h1 : i < 130) : absC M 1 i = M 3 i := by simp [absC, msk, h0, h1]
theorem rc210 (M : gSt) : absC M 21 0 = M 0 8 := by simp [absC]
theorem sp_fill {t : Int} {M : gSt} {k : gSt → Prop} (ht : 0 ≤ t ∧ t ≤ 12) (hK : cK M) (h : ∀ M', absC M' = zerT (absC M) t 10 → cK M' → k M') : w_X0_fill 2 t 0 M k := by
  unfold w_X0_fill
  refine ⟨pl_2, 11, ?_⟩
  have loop : ∀ (d : Nat) (j : Int) (M1 : gSt), (d : Int) = 10 - j → 0 ≤ j → absC M1 = zerT (absC M) t j → cK M1 → ∀ f : Nat, d < f → wL_X0_fill_2 2 t 0 k (fun M2 => k M2) f j M1 := by
    intro d
    induction d with
    | zero =>
      intro j M1 hd hj0 hA hK1 f hf
      obtain ⟨f, rfl⟩ : ∃ g, f = g + 1 := ⟨f - 1, by omega⟩
      have hj : j = 10 := by omega
      subst hj
      simp only [wL_X0_fill_2, wC_X0_fill_2]
      exact ⟨fun _ => h M1 hA hK1, fun q => absurd q (by decide)⟩
    | succ d ih =>
      intro j M1 hd hj0 hA hK1 f hf
      obtain ⟨f, rfl⟩ : ∃ g, f = g + 1 := ⟨f - 1, by omega⟩
      simp only [wL_X0_fill_2, wC_X0_fill_2]
      rw [wI (x := j) ⟨by omega, by omega⟩]
      refine ⟨fun q => absurd q (by omega), fun _ => ?_⟩
      refine sp_become pl_2 rfl ht ⟨hj0, by omega⟩ ?_
      refine ih (j + 1) _ (by omega) (by omega) ?_ (cK_wr hK1 (Or.inr (by decide))) f (by omega)
      rw [ac_3 (by omega) (by omega), hA]
      funext c i
      simp only [up1, wr, zerT]
      repeat' split
      all_goals first | rfl | omega
  exact loop 10 0 M (by omega) (by omega) (by funext c i; simp [zerT]; intro _ _ _; omega) hK 11 (by omega)
theorem sp_add {km : Int} {M : gSt} {k : Int → gSt → Prop} (hk : 0 ≤ km ∧ km ≤ 699) (hn : 0 ≤ M 2 1 ∧ M 2 1 ≤ 11) (hK : cK M) (h : ∀ M', absC M' = addT (absC M) km → cK M' → k (M 2 1) M') : w_X0_add 2 km M k := by
  unfold w_X0_add w_X0_room
  refine ⟨pl_2, pl_2, ?_⟩
  dsimp only
  rw [wI (x := 12 - M 2 1) ⟨by omega, by omega⟩, wI (x := km) ⟨by omega, by omega⟩, tdiv_pos hk.1, tmod_pos hk.1]
  refine ⟨fun _ => ?_, fun q => absurd q (by omega)⟩
  intro n hn1 M1 e1
  subst e1
  have hn0 : 0 ≤ n ∧ n ≤ 11 := by omega
  refine sp_fill ⟨by omega, by omega⟩ (cK_wr hK (Or.inr (by decide))) (fun M2 e2 K2 => ?_)
  refine sp_become pl_2 rfl ⟨by omega, by omega⟩ (by decide) ?_
  refine sp_become pl_2 rfl ⟨by omega, by omega⟩ (by decide) ?_
  rw [hn1]
  refine h _ ?_ (cK_wr (cK_wr K2 (Or.inr (by decide))) (Or.inr (by decide)))
  rw [ac_3 (by omega) (by omega), ac_3 (by omega) (by omega), e2, ac_2_1]
  have en : absC M 0 0 = n := by rw [rc00]; exact hn1.symm
  funext c i
  simp only [up1, wr, zerT, addT, en, ← hn1]
  repeat' split
  all_goals first | rfl | omega
theorem cpyO {M : gSt} {a b o : Nat} {i j n : Int} (h : o ≠ b) : cpy M a i b j n o = M o := by
  funext q
  unfold cpy
  rw [if_neg (fun z => h z.1)]
theorem sp_copy4 {o a : Nat} {M : gSt} {k : gSt → Prop} (ho : isRows o) (ha : isRows a) (hl : lenC (a + 1) = lenC (o + 1)) (hn : a ≠ o + 1) (h : k (wr (cpy M (a + 1) 0 (o + 1) 0 (lenC (o + 1) : Int)) o 3 (M a 3))) : w_X4_copyFrom o a M k := by
  unfold w_X4_copyFrom
  refine ⟨ho, ha, fun _ => ⟨⟨by omega, by omega, by omega, by omega, by omega⟩, fun M1 e1 M2 e2 => ?_⟩, fun n => absurd (by rw [hl]) n⟩
  subst e1; subst e2
  rw [cpyO hn]
  exact h
theorem sp_copy0 {o a : Nat} {M : gSt} {k : gSt → Prop} (ho : isBronze o) (ha : isBronze a) (hl : lenC (a + 1) = lenC (o + 1)) (hn : a ≠ o + 1 ∧ a ≠ o) (h : k (wr (wr (wr (wr (cpy M (a + 1) 0 (o + 1) 0 (lenC (o + 1) : Int)) o 1 (M a 1)) o 2 (M a 2)) o 3 (M a 3)) o 4 (M a 4))) : w_X0_copyFrom o a M k := by
  unfold w_X0_copyFrom
  refine ⟨ho, ha, fun _ => ⟨⟨by omega, by omega, by omega, by omega, by omega⟩, fun M1 e1 M2 e2 M3 e3 M4 e4 M5 e5 => ?_⟩, fun n => absurd (by rw [hl]) n⟩
  rw [e1] at e2
  rw [cpyO hn.1] at e2
  rw [e2, wrO hn.2, cpyO hn.1] at e3
  rw [e3, wrO hn.2, wrO hn.2, cpyO hn.1] at e4
  rw [e4, wrO hn.2, wrO hn.2, wrO hn.2, cpyO hn.1] at e5
  rw [e5]
  exact h
/-- the grams behind a history are noted -/
theorem sp_noteGrams {f : Int} {M : gSt} {k : gSt → Prop} (hf : 0 ≤ f ∧ f ≤ 63) (h : ∀ M', (∀ o, o ≠ 46 → M' o = M o) → (∀ j, M' 46 j = if 12 * f ≤ j ∧ j < 12 * f + 12 then M 43 (10 * (j - 12 * f) + 2) else M 46 j) → k M') : w_X2_noteGrams 41 f M k := by
  unfold w_X2_noteGrams
  refine ⟨pl_41, 13, ?_⟩
  have loop : ∀ (d : Nat) (t : Int) (M1 : gSt), (d : Int) = 12 - t → 0 ≤ t → (∀ o, o ≠ 46 → M1 o = M o) → (∀ j, M1 46 j = if 12 * f ≤ j ∧ j < 12 * f + t then M 43 (10 * (j - 12 * f) + 2) else M 46 j) → ∀ g : Nat, d < g → wL_X2_noteGrams_2 41 f k (fun M2 => k M2) g t M1 := by
    intro d
    induction d with
    | zero =>
      intro t M1 hd ht h1 h2 g hg
      obtain ⟨g, rfl⟩ : ∃ q, g = q + 1 := ⟨g - 1, by omega⟩
      have e : t = 12 := by omega
      subst e
      simp only [wL_X2_noteGrams_2, wC_X2_noteGrams_2]
      exact ⟨fun _ => h M1 h1 h2, fun q => absurd q (by decide)⟩
    | succ d ih =>
      intro t M1 hd ht h1 h2 g hg
      obtain ⟨g, rfl⟩ : ∃ q, g = q + 1 := ⟨g - 1, by omega⟩
      simp only [wL_X2_noteGrams_2, wC_X2_noteGrams_2, wB_X2_noteGrams_43]
      rw [wI (x := t) ⟨by omega, by omega⟩]
      refine ⟨fun q => absurd q (by omega), fun _ x ex => ?_⟩
      subst ex
      have hl : (lenC (41 + 5) : Int) = 768 := rfl
      rw [hl, wI (x := f * 12 + t) ⟨by omega, by omega⟩, wI (x := 768) (by constructor <;> decide)]
      refine ⟨fun q => absurd q (by omega), fun _ => ⟨fun q => absurd q (by omega), fun _ => ?_⟩⟩
      refine sp_number pl_42 rfl ⟨by omega, by omega⟩ (by decide) ⟨⟨by omega, by omega⟩, fun M2 e2 => ?_⟩
      subst e2
      refine ih (t + 1) _ (by omega) (by omega) (fun o ho => by rw [wrO' ho]; exact h1 o ho) (fun j => ?_) g (by omega)
      by_cases hj : j = f * 12 + t
      · subst hj
        rw [show wr M1 (41 + 5) (f * 12 + t) (M1 (42 + 1) (10 * t + 2)) 46 (f * 12 + t) = M1 (42 + 1) (10 * t + 2) from wrI, if_pos ⟨by omega, by omega⟩, h1 (42 + 1) (by decide)]
        rw [show 10 * (f * 12 + t - 12 * f) + 2 = 10 * t + 2 from by omega]
      · rw [show wr M1 (41 + 5) (f * 12 + t) (M1 (42 + 1) (10 * t + 2)) 46 j = M1 46 j from wrN hj, h2 j]
        by_cases c : 12 * f ≤ j ∧ j < 12 * f + t
        · rw [if_pos c, if_pos ⟨c.1, by omega⟩]
        · rw [if_neg c, if_neg (fun z => c ⟨z.1, by omega⟩)]
  exact loop 12 0 M (by omega) (by omega) (fun _ _ => rfl) (fun j => by rw [if_neg (fun z => by omega)]) 13 (by omega)
