section
-- put, move, papers of a sheet, untell: both sides
theorem shr24 (y : Int) : y >>> 24 = y / 16777216 := by rw [Int.shiftRight_eq_div_pow]; rfl
theorem shr16 (y : Int) : y >>> 16 = y / 65536 := by rw [Int.shiftRight_eq_div_pow]; rfl
theorem lowB_8 (v : Int) : lowB 8 v = (Int32.ofInt v).toInt8.toInt32.toInt := by
  rw [Int8.toInt_toInt32, Int32.toInt_toInt8, ofInt_toInt]
  unfold lowB xshr xshl
  rw [Int32.ofInt_toInt]
  have e : ((Int32.ofInt v <<< (Int32.ofInt (32 - 8) &&& 31)) >>> (Int32.ofInt (32 - 8) &&& 31)).toInt = ((BitVec.ofInt 32 v <<< 24).sshiftRight 24).toInt := rfl
  rw [e, BitVec.toInt_sshiftRight, BitVec.toInt_shiftLeft, BitVec.toNat_ofInt, shr24, Nat.shiftLeft_eq]
  unfold wrap
  rw [Int.bmod_def, Int.bmod_def]
  simp only [Nat.reducePow]
  split <;> split <;> omega
theorem lowB_16 (v : Int) : lowB 16 v = (Int32.ofInt v).toInt16.toInt32.toInt := by
  rw [Int16.toInt_toInt32, Int32.toInt_toInt16, ofInt_toInt]
  unfold lowB xshr xshl
  rw [Int32.ofInt_toInt]
  have e : ((Int32.ofInt v <<< (Int32.ofInt (32 - 16) &&& 31)) >>> (Int32.ofInt (32 - 16) &&& 31)).toInt = ((BitVec.ofInt 32 v <<< 16).sshiftRight 16).toInt := rfl
  rw [e, BitVec.toInt_sshiftRight, BitVec.toInt_shiftLeft, BitVec.toNat_ofInt, shr16, Nat.shiftLeft_eq]
  unfold wrap
  rw [Int.bmod_def, Int.bmod_def]
  simp only [Nat.reducePow]
  split <;> split <;> omega
theorem lowB_32 {v : Int} (hv : inI v) : lowB 32 v = v := by
  unfold lowB xshr xshl
  rw [Int32.ofInt_toInt]
  have e : ((Int32.ofInt v <<< (Int32.ofInt (32 - 32) &&& 31)) >>> (Int32.ofInt (32 - 32) &&& 31)).toInt = ((BitVec.ofInt 32 v <<< 0).sshiftRight 0).toInt := rfl
  rw [e, BitVec.toInt_sshiftRight, BitVec.toInt_shiftLeft, BitVec.toNat_ofInt, Nat.shiftLeft_eq, Int.shiftRight_eq_div_pow]
  rw [Int.bmod_def]
  obtain ⟨h1, h2⟩ := hv
  simp only [Nat.reducePow]
  split <;> omega
theorem sp_missing {o : Nat} {M : gSt} {k : Int → gSt → Prop} (h : isSheet o) (hb : inI (M o 1)) (k1 : M o 1 = 0 → k 1 M) (k0 : ¬ M o 1 = 0 → k 0 M) : w_X5_isMissing o M k := by
  unfold w_X5_isMissing
  rw [wI hb]
  exact ⟨h, k0, k1⟩
theorem sp_has5 {o : Nat} {i : Int} {M : gSt} {k : Int → gSt → Prop} (h : isSheet o) (hi : inI i) (hs : inI (M o 2)) (k1 : 0 ≤ i ∧ i < M o 2 → k 1 M) (k0 : ¬ (0 ≤ i ∧ i < M o 2) → k 0 M) : w_X5_has o i M k := by
  unfold w_X5_has
  rw [wI hi, wI hs]
  exact ⟨h, fun z => k0 (by omega), fun z => ⟨fun z2 => k0 (by omega), fun z2 => k1 (by omega)⟩⟩
theorem sp_at5 {o : Nat} {i : Int} {M : gSt} {k : Int → gSt → Prop} (h : isSheet o) (hl : lenC (o + 1) = 24) (hi : 0 ≤ i ∧ i < M o 2) (hs : M o 2 ≤ 24) (hk : k (M (o + 1) i) M) : w_X5_at o i M k := by
  unfold w_X5_at
  refine ⟨h, sp_has5 h ⟨by omega, by omega⟩ ⟨by omega, by omega⟩ (fun _ => z1 ?_) (fun z => absurd hi z)⟩
  rw [hl, show wrap ((24 : Nat) : Int) = 24 from by decide, wI (x := i) ⟨by omega, by omega⟩]
  exact ⟨fun z => absurd z (by omega), fun _ => ⟨⟨by omega, by omega⟩, hk⟩⟩
theorem sC_put {q i v : Int} {M : gSt} {k : Int → gSt → Prop} (i1 : inI q) (i2 : inI i) (i3 : inI v) (I : iSh (absC M)) (hK : cK M) (h : ∀ M', absC M' = (S_put q i v (absC M)).2 → cK M' → k (S_put q i v (absC M)).1 M') : w_X8_put q i v M k := by
  unfold w_X8_put
  refine shC i1 (fun o ho hq => ⟨fun z => absurd z (by simp), fun o2 e2 => ?_⟩) (fun hq => ⟨fun _ => errC (by decide) (by decide) hK (if_pos hq) h, fun o2 e2 => by cases e2⟩)
  cases e2
  obtain ⟨p1, p2, p3⟩ := pl_sh (o := o) (by omega)
  have hc := fun z : ¬ (0 ≤ q ∧ q < 4) => z hq
  obtain ⟨b1, b2, -⟩ := I q hq.1 hq.2
  have eb := rB M hq ho
  have es := rS M hq ho
  refine sp_missing p1 ⟨by omega, by omega⟩ (fun z => z1 (errC (by decide) (by decide) hK ((if_neg hc).trans (if_pos (by omega))) h)) (fun nz => z0 ?_)
  refine sp_has5 p1 i2 ⟨by omega, by omega⟩ (fun hi => z1n ?_) (fun hi => z0n (errC (by decide) (by decide) hK ((if_neg hc).trans ((if_neg (by omega)).trans (if_pos (by omega)))) h))
  have hS : S_put q i v (absC M) = _ := (if_neg hc).trans ((if_neg (by omega)).trans (if_neg (by omega)))
  rw [hS, eb] at h
  unfold w_X5_write
  refine ⟨p1, sp_has5 p1 i2 ⟨by omega, by omega⟩ (fun _ => z1 ?_) (fun z => absurd hi z)⟩
  rw [p3, show wrap ((24 : Nat) : Int) = 24 from by decide, wI i2, wI (x := M o 1) ⟨by omega, by omega⟩]
  refine ⟨fun z => absurd z (by omega), fun _ => ?_⟩
  have fin : ∀ x : Int, x = lowB (M o 1) v → wB_X5_write_51 o i v (fun M51 => k 1 M51) x i M := by
    intro x hx
    unfold wB_X5_write_51
    rw [p3]
    refine ⟨⟨by omega, by omega⟩, fun M1 e1 => ?_⟩
    subst e1
    exact h _ (by rw [acN hq ho (by omega) (by omega), hx]) (cK_sh hK hq ho).2
  refine ⟨fun n8 => ⟨fun n16 => fin v ?_, fun e16 => fin _ ?_⟩, fun e8 => fin _ ?_⟩
  · rw [show M o 1 = 32 from by omega, lowB_32 i3]
  · rw [e16, lowB_16]
  · rw [e8, lowB_8]
def mvS (σ : gSt) (q i q2 j n : Int) : gSt := fun c p => if c = 25 ∧ 24 * q2 + j ≤ p ∧ p < 24 * q2 + j + n then σ 25 (24 * q + i + (p - (24 * q2 + j))) else σ c p
def S_move (q i q2 j n : Int) (σ : gSt) : Int × gSt :=
  if ¬ ((0 ≤ q ∧ q < 4) ∧ (0 ≤ q2 ∧ q2 < 4)) then S_err σ 1 else if σ 23 q = 0 ∨ σ 23 q2 = 0 then S_err σ 2 else if ¬ σ 23 q = σ 23 q2 then S_err σ 5
  else if n < 0 ∨ i < 0 ∨ j < 0 ∨ σ 24 q - n < i ∨ σ 24 q2 - n < j then S_err σ 1 else (n, mvS σ q i q2 j n)
theorem sp_range {o : Nat} {i n : Int} {M : gSt} {k : Int → gSt → Prop} (h : isSheet o) (hl : lenC (o + 1) = 24) (hi : inI i) (hn : inI n) (hs : 0 ≤ M o 2 ∧ M o 2 ≤ 24) (k1 : 0 ≤ i ∧ 0 ≤ n ∧ i ≤ M o 2 - n → k 1 M) (k0 : ¬ (0 ≤ i ∧ 0 ≤ n ∧ i ≤ M o 2 - n) → k 0 M) : w_X5_hasRange o i n M k := by
  unfold w_X5_hasRange
  refine ⟨h, fun x ex => ?_⟩
  have ex' : x = M o 2 := by
    rw [ex, hl, xmin_in ⟨by omega, by omega⟩ (by constructor <;> decide)]
    split <;> omega
  rw [ex', wI hi, wI hn, wI (x := M o 2) ⟨by omega, by omega⟩]
  refine ⟨fun z => k0 (by omega), fun z => ⟨fun z2 => k0 (by omega), fun z2 => ⟨fun z3 => k0 (by omega), fun z3 => ?_⟩⟩⟩
  rw [wI (x := M o 2 - n) ⟨by omega, by omega⟩]
  exact ⟨fun z4 => k0 (by omega), fun z4 => k1 (by omega)⟩
theorem sC_move {q i q2 j n : Int} {M : gSt} {k : Int → gSt → Prop} (i1 : inI q) (i2 : inI i) (i3 : inI q2) (i4 : inI j) (i5 : inI n) (I : iSh (absC M)) (hK : cK M) (h : ∀ M', absC M' = (S_move q i q2 j n (absC M)).2 → cK M' → k (S_move q i q2 j n (absC M)).1 M') : w_X8_move q i q2 j n M k := by
  unfold w_X8_move wB_X8_move_24 wB_X8_move_46 wB_X8_move_91
  refine shC i1 (fun o ho hq => ?_) (fun hq => ?_)
  · refine shC i3 (fun o2 ho2 hq2 => ⟨fun z => absurd z (by simp), fun o3 e3 => ?_⟩) (fun hq2 => ⟨fun z => absurd z (by simp), fun o3 e3 => ⟨fun _ => errC (by decide) (by decide) hK (if_pos (fun z => hq2 z.2)) h, fun o4 e4 => by cases e4⟩⟩)
    cases e3
    refine ⟨fun z => absurd z (by simp), fun o4 e4 => ?_⟩
    cases e4
    obtain ⟨p1, p2, p3⟩ := pl_sh (o := o) (by omega)
    obtain ⟨r1, r2, r3⟩ := pl_sh (o := o2) (by omega)
    have hc := fun z : ¬ ((0 ≤ q ∧ q < 4) ∧ (0 ≤ q2 ∧ q2 < 4)) => z ⟨hq, hq2⟩
    obtain ⟨b1, b2, -⟩ := I q hq.1 hq.2
    obtain ⟨d1, d2, -⟩ := I q2 hq2.1 hq2.2
    have eb := rB M hq ho
    have es := rS M hq ho
    have eb2 := rB M hq2 ho2
    have es2 := rS M hq2 ho2
    refine sp_missing p1 ⟨by omega, by omega⟩ (fun z => z1n (errC (by decide) (by decide) hK ((if_neg hc).trans (if_pos (by omega))) h)) (fun nz => z0n ?_)
    refine sp_missing r1 ⟨by omega, by omega⟩ (fun z => z1 (errC (by decide) (by decide) hK ((if_neg hc).trans (if_pos (by omega))) h)) (fun nz2 => z0 ?_)
    have hm : ¬ (absC M 23 q = 0 ∨ absC M 23 q2 = 0) := by omega
    unfold w_X5_isLike
    refine ⟨p1, r1, ?_⟩
    rw [wI (x := M o 1) ⟨by omega, by omega⟩, wI (x := M o2 1) ⟨by omega, by omega⟩]
    refine ⟨fun ne => z0n (errC (by decide) (by decide) hK ((if_neg hc).trans ((if_neg hm).trans (if_pos (by omega)))) h), fun eq => z1n ?_⟩
    have hl : ¬ ¬ absC M 23 q = absC M 23 q2 := by omega
    refine sp_range p1 p3 i2 i5 ⟨by omega, by omega⟩ (fun g => z1 ?_) (fun g => z0 (errC (by decide) (by decide) hK ((if_neg hc).trans ((if_neg hm).trans ((if_neg hl).trans (if_pos (by omega))))) h))
    refine sp_range r1 r3 i4 i5 ⟨by omega, by omega⟩ (fun g2 => z1n ?_) (fun g2 => z0n (errC (by decide) (by decide) hK ((if_neg hc).trans ((if_neg hm).trans ((if_neg hl).trans (if_pos (by omega))))) h))
    have hS : S_move q i q2 j n (absC M) = _ := (if_neg hc).trans ((if_neg hm).trans ((if_neg hl).trans (if_neg (by omega))))
    rw [hS] at h
    unfold w_X5_copyRange
    refine ⟨p1, r1, sp_range p1 p3 i2 i5 ⟨by omega, by omega⟩ (fun _ => z1 ?_) (fun z => absurd g z)⟩
    refine sp_range r1 r3 i4 i5 ⟨by omega, by omega⟩ (fun _ => z1 ?_) (fun z => absurd g2 z)
    rw [p3, r3]
    refine ⟨⟨by omega, by omega, by omega, by omega, by omega⟩, fun M1 e1 => h M1 ?_ ?_⟩
    · -- the copy, number by number
      have key : ∀ m : Nat, (m : Int) ≤ n → absC (fun p t => if p = o2 + 1 ∧ j ≤ t ∧ t < j + (m : Int) then M (o + 1) (i + (t - j)) else M p t) = mvS (absC M) q i q2 j (m : Int) := by
        intro m
        induction m with
        | zero =>
          intro _
          have a : (fun (p : Nat) (t : Int) => if p = o2 + 1 ∧ j ≤ t ∧ t < j + ((0 : Nat) : Int) then M (o + 1) (i + (t - j)) else M p t) = M := by
            funext p t
            rw [if_neg (by omega)]
          rw [a]
          funext c p
          unfold mvS
          rw [if_neg (by omega)]
        | succ m ih =>
          intro hm'
          have a : (fun (p : Nat) (t : Int) => if p = o2 + 1 ∧ j ≤ t ∧ t < j + ((m + 1 : Nat) : Int) then M (o + 1) (i + (t - j)) else M p t) = wr (fun p t => if p = o2 + 1 ∧ j ≤ t ∧ t < j + (m : Int) then M (o + 1) (i + (t - j)) else M p t) (o2 + 1) (j + (m : Int)) (M (o + 1) (i + (m : Int))) := by
            funext p t
            unfold wr
            dsimp only
            by_cases w : p = o2 + 1 ∧ t = j + (m : Int)
            · rw [if_pos w, if_pos (by omega), w.2, show i + (j + (m : Int) - j) = i + (m : Int) from by omega]
            · rw [if_neg w]
              by_cases w2 : p = o2 + 1 ∧ j ≤ t ∧ t < j + (m : Int)
              · rw [if_pos w2, if_pos (by omega)]
              · rw [if_neg w2, if_neg (by omega)]
          rw [a, acN hq2 ho2 (by omega) (by omega), ih (by omega), ← rN M hq ho (by omega) (by omega)]
          funext c p
          unfold mvS up1 wr
          dsimp only
          by_cases w : c = 25 ∧ p = 24 * q2 + (j + (m : Int))
          · rw [if_pos w, if_pos (by omega), w.2, show 24 * q + i + (24 * q2 + (j + (m : Int)) - (24 * q2 + j)) = 24 * q + (i + (m : Int)) from by omega]
          · rw [if_neg w]
            by_cases w2 : c = 25 ∧ 24 * q2 + j ≤ p ∧ p < 24 * q2 + j + (m : Int)
            · rw [if_pos w2, if_pos (by omega)]
            · rw [if_neg w2, if_neg (by omega)]
      have := key n.toNat (by omega)
      rw [show ((n.toNat : Nat) : Int) = n from by omega] at this
      rw [e1]
      exact this
    · rw [e1]
      rcases (show o2 = 56 ∨ o2 = 58 ∨ o2 = 60 ∨ o2 = 62 by omega) with rfl | rfl | rfl | rfl <;> exact cK_cpy hK (by decide)
  · refine shC i3 (fun o2 ho2 hq2 => ⟨fun _ => errC (by decide) (by decide) hK (if_pos (fun z => hq z.1)) h, fun o3 e3 => by cases e3⟩) (fun hq2 => ⟨fun _ => errC (by decide) (by decide) hK (if_pos (fun z => hq z.1)) h, fun o3 e3 => by cases e3⟩)
end
section
-- move of the reference; papers of a sheet and untell of both sides
theorem lpR1 {q i q2 j n : Int} {kk : Int → gSt → Prop} {k : gSt → Prop} (hq : 0 ≤ q ∧ q < 4) (hi : 0 ≤ i ∧ 0 ≤ n ∧ i ≤ 24 - n) : ∀ (r : Nat) (v : Int) (M : gSt), 0 ≤ v → v + (r : Int) = n → k (fun o p => if o = 14 ∧ v ≤ p ∧ p < n then M 13 (24 * q + i + p) else M o p) → wL_Rmove_115 q i q2 j n kk k (r + 1) v M := by
  intro r
  induction r with
  | zero =>
    intro v M hv hr h
    unfold wL_Rmove_115 wC_Rmove_115
    rw [wI (x := n) ⟨by omega, by omega⟩, wI (x := v) ⟨by omega, by omega⟩]
    refine ⟨fun _ => ?_, fun z => absurd z (by omega)⟩
    rw [show (fun (o : Nat) (p : Int) => if o = 14 ∧ v ≤ p ∧ p < n then M 13 (24 * q + i + p) else M o p) = M from by funext o p; rw [if_neg (by omega)]] at h
    exact h
  | succ r ih =>
    intro v M hv hr h
    unfold wL_Rmove_115 wC_Rmove_115
    rw [wI (x := n) ⟨by omega, by omega⟩, wI (x := v) ⟨by omega, by omega⟩]
    refine ⟨fun z => absurd z (by omega), fun _ => ⟨⟨by omega, by omega⟩, ⟨by omega, by omega⟩, fun M1 e1 => ih (v + 1) M1 (by omega) (by omega) ?_⟩⟩
    rw [show (fun (o : Nat) (p : Int) => if o = 14 ∧ v + 1 ≤ p ∧ p < n then M1 13 (24 * q + i + p) else M1 o p) = (fun o p => if o = 14 ∧ v ≤ p ∧ p < n then M 13 (24 * q + i + p) else M o p) from by
      funext o p
      rw [e1]
      unfold wr
      by_cases w : o = 14 ∧ v + 1 ≤ p ∧ p < n
      · rw [if_pos w, if_neg (by omega), if_pos (by omega)]
      · rw [if_neg w]
        by_cases w2 : o = 14 ∧ p = v
        · rw [if_pos w2, if_pos (by omega), w2.2]
        · rw [if_neg w2, if_neg (by omega)]]
    exact h
theorem lpR2 {q i q2 j n : Int} {kk : Int → gSt → Prop} {k : gSt → Prop} (hq : 0 ≤ q2 ∧ q2 < 4) (hi : 0 ≤ j ∧ 0 ≤ n ∧ j ≤ 24 - n) : ∀ (r : Nat) (v : Int) (M : gSt), 0 ≤ v → v + (r : Int) = n → k (fun o p => if o = 13 ∧ 24 * q2 + j + v ≤ p ∧ p < 24 * q2 + j + n then M 14 (p - (24 * q2 + j)) else M o p) → wL_Rmove_152 q i q2 j n kk k (r + 1) v M := by
  intro r
  induction r with
  | zero =>
    intro v M hv hr h
    unfold wL_Rmove_152 wC_Rmove_152
    rw [wI (x := n) ⟨by omega, by omega⟩, wI (x := v) ⟨by omega, by omega⟩]
    refine ⟨fun _ => ?_, fun z => absurd z (by omega)⟩
    rw [show (fun (o : Nat) (p : Int) => if o = 13 ∧ 24 * q2 + j + v ≤ p ∧ p < 24 * q2 + j + n then M 14 (p - (24 * q2 + j)) else M o p) = M from by funext o p; rw [if_neg (by omega)]] at h
    exact h
  | succ r ih =>
    intro v M hv hr h
    unfold wL_Rmove_152 wC_Rmove_152
    rw [wI (x := n) ⟨by omega, by omega⟩, wI (x := v) ⟨by omega, by omega⟩]
    refine ⟨fun z => absurd z (by omega), fun _ => ⟨⟨by omega, by omega⟩, ⟨by omega, by omega⟩, fun M1 e1 => ih (v + 1) M1 (by omega) (by omega) ?_⟩⟩
    rw [show (fun (o : Nat) (p : Int) => if o = 13 ∧ 24 * q2 + j + (v + 1) ≤ p ∧ p < 24 * q2 + j + n then M1 14 (p - (24 * q2 + j)) else M1 o p) = (fun o p => if o = 13 ∧ 24 * q2 + j + v ≤ p ∧ p < 24 * q2 + j + n then M 14 (p - (24 * q2 + j)) else M o p) from by
      funext o p
      rw [e1]
      unfold wr
      by_cases w : o = 13 ∧ 24 * q2 + j + (v + 1) ≤ p ∧ p < 24 * q2 + j + n
      · rw [if_pos w, if_neg (by omega), if_pos (by omega)]
      · rw [if_neg w]
        by_cases w2 : o = 13 ∧ p = 24 * q2 + j + v
        · rw [if_pos w2, if_pos (by omega), w2.2, show 24 * q2 + j + v - (24 * q2 + j) = v from by omega]
        · rw [if_neg w2, if_neg (by omega)]]
    exact h
theorem sR_move {q i q2 j n : Int} {M : gSt} {k : Int → gSt → Prop} (i1 : inI q) (i2 : inI i) (i3 : inI q2) (i4 : inI j) (i5 : inI n) (I : iSh (absR M)) (h : ∀ M', absR M' = (S_move q i q2 j n (absR M)).2 → fr M M' → k (S_move q i q2 j n (absR M)).1 M') : w_Rmove q i q2 j n M k := by
  unfold w_Rmove wB_Rmove_14 wB_Rmove_38 wB_Rmove_106
  refine sp_RisSheet i1 (fun hq => z1 ?_) (fun hq => z0 (errL (by decide) (by decide) (if_pos (fun z => hq z.1)) h))
  refine sp_RisSheet i3 (fun hq2 => z1n ?_) (fun hq2 => z0n (errL (by decide) (by decide) (if_pos (fun z => hq2 z.2)) h))
  have hc := fun z : ¬ ((0 ≤ q ∧ q < 4) ∧ (0 ≤ q2 ∧ q2 < 4)) => z ⟨hq, hq2⟩
  obtain ⟨b1, b2, -⟩ := I q hq.1 hq.2
  obtain ⟨d1, d2, -⟩ := I q2 hq2.1 hq2.2
  refine ⟨hq, ?_⟩
  rw [rdBits M q hq.1 hq.2, rdBits M q2 hq2.1 hq2.2, rdSize M q hq.1 hq.2, rdSize M q2 hq2.1 hq2.2, wI (x := absR M 23 q) ⟨by omega, by omega⟩, wI (x := absR M 23 q2) ⟨by omega, by omega⟩]
  refine ⟨fun z => errL (by decide) (by decide) ((if_neg hc).trans (if_pos (Or.inl z))) h, fun nz => ⟨hq2, fun nz2 => ⟨hq, hq2, ?_⟩, fun z => errL (by decide) (by decide) ((if_neg hc).trans (if_pos (Or.inr z))) h⟩⟩
  have hm : ¬ (absR M 23 q = 0 ∨ absR M 23 q2 = 0) := by omega
  refine ⟨fun eq => ?_, fun ne => errL (by decide) (by decide) ((if_neg hc).trans ((if_neg hm).trans (if_pos ne))) h⟩
  have hl : ¬ ¬ absR M 23 q = absR M 23 q2 := fun z => z eq
  have bad : n < 0 ∨ i < 0 ∨ j < 0 ∨ absR M 24 q - n < i ∨ absR M 24 q2 - n < j → w_Rerror 1 M (fun r108c M108 => k r108c M108) := fun b => errL (by decide) (by decide) ((if_neg hc).trans ((if_neg hm).trans ((if_neg hl).trans (if_pos b)))) h
  rw [wI i5, wI i2, wI i4]
  refine ⟨fun z => bad (by omega), fun g1 => ⟨fun z => bad (by omega), fun g2 => ⟨fun z => bad (by omega), fun g3 => ⟨hq, ?_⟩⟩⟩⟩
  have i5' : -2147483648 ≤ n ∧ n < 2147483648 := i5
  rw [wI (x := absR M 24 q - n) ⟨by omega, by omega⟩, wI (x := absR M 24 q2 - n) ⟨by omega, by omega⟩]
  refine ⟨fun z => bad (by omega), fun g4 => ⟨hq2, fun g5 => ?_, fun z => bad (by omega)⟩⟩
  have hS : S_move q i q2 j n (absR M) = _ := (if_neg hc).trans ((if_neg hm).trans ((if_neg hl).trans (if_neg (by omega))))
  rw [hS] at h
  refine ⟨n.toNat + 1, lpR1 hq ⟨by omega, by omega, by omega⟩ n.toNat 0 M (by omega) (by omega) ⟨n.toNat + 1, lpR2 hq2 ⟨by omega, by omega, by omega⟩ n.toNat 0 _ (by omega) (by omega) (h _ ?_ ?_)⟩⟩
  · funext c p
    unfold mvS absR
    dsimp only
    simp only [show ¬ ((1 : Nat) = 14) from by decide, show ¬ ((2 : Nat) = 14) from by decide, show ¬ ((0 : Nat) = 14) from by decide, show ¬ ((11 : Nat) = 14) from by decide, show ¬ ((12 : Nat) = 14) from by decide, show ¬ ((13 : Nat) = 14) from by decide, show ¬ ((1 : Nat) = 13) from by decide, show ¬ ((2 : Nat) = 13) from by decide, show ¬ ((0 : Nat) = 13) from by decide, show ¬ ((11 : Nat) = 13) from by decide, show ¬ ((12 : Nat) = 13) from by decide, false_and, if_false, true_and]
    by_cases w : c = 25 ∧ 24 * q2 + j ≤ p ∧ p < 24 * q2 + j + n
    · rw [if_pos w]
      obtain ⟨w1, w2, w3⟩ := w
      subst w1
      simp only [show ¬ ((25 : Nat) < 10) from by decide, show ¬ ((25 : Nat) < 20) from by decide, show ¬ ((25 : Nat) = 21) from by decide, show ¬ ((25 : Nat) = 23) from by decide, show ¬ ((25 : Nat) = 24) from by decide, if_false, if_true]
      unfold msk
      rw [if_pos (by omega), if_pos (by omega)]
      dsimp only
      rw [if_pos (by omega), if_pos (by omega)]
    · rw [if_neg w]
      by_cases c25 : c = 25
      · subst c25
        simp only [show ¬ ((25 : Nat) < 10) from by decide, show ¬ ((25 : Nat) < 20) from by decide, show ¬ ((25 : Nat) = 21) from by decide, show ¬ ((25 : Nat) = 23) from by decide, show ¬ ((25 : Nat) = 24) from by decide, if_false, if_true]
        unfold msk
        by_cases v : 0 ≤ p ∧ p < 96
        · rw [if_pos v, if_pos v]
          dsimp only
          rw [if_neg (by omega)]
        · rw [if_neg v, if_neg v]
      · simp only [c25, if_false]
  · refine ⟨fun t _ _ => ?_, ?_, ?_⟩
    · simp
    · funext t; simp
    · simp
-- papers of a sheet
abbrev papG (σ : gSt) (q m : Int) : Prop := 3 * m + 2 < σ 24 q ∧ σ 0 3 < 6 ∧ ((0 ≤ σ 25 (24 * q + 3 * m) ∧ σ 25 (24 * q + 3 * m) < σ 0 0) ∧ (0 ≤ σ 25 (24 * q + 3 * m + 1) ∧ σ 25 (24 * q + 3 * m + 1) < σ 0 0) ∧ ¬ σ 25 (24 * q + 3 * m) = σ 25 (24 * q + 3 * m + 1) ∧ (1 ≤ σ 25 (24 * q + 3 * m + 2) ∧ σ 25 (24 * q + 3 * m + 2) ≤ 8))
def papA (σ : gSt) (q m : Int) : gSt := add3 σ 3 3 (σ 25 (24 * q + 3 * m)) (σ 25 (24 * q + 3 * m + 1)) (σ 25 (24 * q + 3 * m + 2))
def papL (q : Int) : Nat → Int → gSt → Int × gSt
  | 0, m, σ => (m, σ)
  | n + 1, m, σ => if papG σ q m then papL q n (m + 1) (papA σ q m) else (m, σ)
def S_papers (q : Int) (σ : gSt) : Int × gSt := if ¬ (0 ≤ q ∧ q < 4) then S_err σ 1 else if σ 23 q = 0 then S_err σ 2 else papL q 8 0 σ
theorem papA_k {σ : gSt} {q m : Int} : (∀ c, c ≠ 3 → ∀ i, ¬ (c = 0 ∧ i = 3) → papA σ q m c i = σ c i) ∧ papA σ q m 0 3 = σ 0 3 + 1 := by
  refine ⟨fun c hc i hi => ?_, by unfold papA add3; exact up1_i⟩
  unfold papA add3
  have e : ∀ τ : gSt, ∀ x, up1 τ 0 3 x c i = τ c i := fun τ x => by
    unfold up1 wr; rw [if_neg hi]
  rw [e, up1_o hc, up1_o hc, up1_o hc]
theorem papA_N {σ : gSt} {q m : Int} (I : iN σ) (h : σ 0 3 < 6) : iN (papA σ q m) := by
  obtain ⟨k, k3⟩ := @papA_k σ q m
  unfold iN at I ⊢
  rw [k 0 (by decide) 0 (by omega), k 0 (by decide) 1 (by omega), k 0 (by decide) 2 (by omega), k3, k 0 (by decide) 4 (by omega), k 0 (by decide) 5 (by omega), k 0 (by decide) 6 (by omega), k 0 (by decide) 7 (by omega), k 0 (by decide) 9 (by omega), k 0 (by decide) 10 (by omega)]
  omega
theorem papA_Sh {σ : gSt} {q m : Int} (J : iSh σ) : iSh (papA σ q m) := by
  obtain ⟨k, -⟩ := @papA_k σ q m
  intro t a b
  rw [k 23 (by decide) t (by omega), k 24 (by decide) t (by omega)]
  refine ⟨(J t a b).1, (J t a b).2.1, fun i c d => ?_⟩
  rw [k 25 (by decide) _ (by omega)]
  exact (J t a b).2.2 i c d
theorem lpP {q : Int} {kk : Int → gSt → Prop} {k : Int → gSt → Prop} (hq : 0 ≤ q ∧ q < 4) : ∀ (n : Nat) (m : Int) (M : gSt), 0 ≤ m → m + (n : Int) = 8 → iN (absR M) → iSh (absR M) → (∀ M', absR M' = (papL q n m (absR M)).2 → fr M M' → k (papL q n m (absR M)).1 M') → wL_Rpapers_24 q kk k (n + 1) m (24 * q) M := by
  intro n
  induction n with
  | zero =>
    intro m M hm hn I J h
    obtain ⟨-, d2, -⟩ := J q hq.1 hq.2
    unfold wL_Rpapers_24 wC_Rpapers_24
    refine ⟨hq, ?_⟩
    rw [rdSize M q hq.1 hq.2, wI (x := absR M 24 q) ⟨by omega, by omega⟩, wI (x := 3 * m + 2) ⟨by omega, by omega⟩]
    exact ⟨fun _ => h M rfl fr_rf, fun z => absurd z (by omega)⟩
  | succ n ih =>
    intro m M hm hn I J h
    obtain ⟨-, d2, d3⟩ := J q hq.1 hq.2
    unfold papL at h
    unfold wL_Rpapers_24 wC_Rpapers_24
    refine ⟨hq, ?_⟩
    rw [rdSize M q hq.1 hq.2, wI (x := absR M 24 q) ⟨by omega, by omega⟩, wI (x := 3 * m + 2) ⟨by omega, by omega⟩]
    have stop : ¬ papG (absR M) q m → k m M := fun z => by
      rw [if_neg z] at h
      exact h M rfl fr_rf
    have I' := I
    unfold iN at I'
    refine ⟨fun z => stop (fun g => by have := g.1; omega), fun g1 => ?_⟩
    rw [rdS M 3 (by omega) (by omega), wI (x := absR M 0 3) ⟨by omega, by omega⟩]
    refine ⟨fun z => stop (fun g => by have := g.2.1; omega), fun g2 => ⟨⟨by omega, by omega⟩, ⟨by omega, by omega⟩, ⟨by omega, by omega⟩, ?_⟩⟩
    rw [rdNum M (24 * q + 3 * m) (by omega) (by omega), rdNum M (24 * q + 3 * m + 1) (by omega) (by omega), rdNum M (24 * q + 3 * m + 2) (by omega) (by omega)]
    have j0 := d3 (3 * m) (by omega) (by omega)
    have j1 := d3 (3 * m + 1) (by omega) (by omega)
    have j2 := d3 (3 * m + 2) (by omega) (by omega)
    rw [show 24 * q + (3 * m + 1) = 24 * q + 3 * m + 1 from by omega] at j1
    rw [show 24 * q + (3 * m + 2) = 24 * q + 3 * m + 2 from by omega] at j2
    refine sp_RisPaper j0 j1 j2 ⟨by omega, by omega⟩ (fun g3 => z1 ?_) (fun g3 => z0 (stop (fun g => g3 g.2.2)))
    have g : papG (absR M) q m := ⟨g1, g2, g3⟩
    rw [if_pos g] at h
    refine ⟨⟨by omega, by omega⟩, ⟨by omega, by omega⟩, ⟨by omega, by omega⟩, ?_⟩
    rw [rdNum M (24 * q + 3 * m) (by omega) (by omega), rdNum M (24 * q + 3 * m + 1) (by omega) (by omega), rdNum M (24 * q + 3 * m + 2) (by omega) (by omega)]
    refine sp_RaddPaper (iN_t I) ⟨by omega, by omega⟩ (fun M1 e1 f1 _ => ?_)
    change absR M1 = papA (absR M) q m at e1
    refine ih (m + 1) M1 (by omega) (by omega) (by rw [e1]; exact papA_N I g2) (by rw [e1]; exact papA_Sh J) (fun M2 e2 f2 => ?_)
    rw [e1] at e2 ⊢
    exact h M2 e2 (fr_trans f1 f2)
theorem sR_papers {q : Int} {M : gSt} {k : Int → gSt → Prop} (i1 : inI q) (I : iN (absR M)) (J : iSh (absR M)) (h : ∀ M', absR M' = (S_papers q (absR M)).2 → fr M M' → k (S_papers q (absR M)).1 M') : w_Rpapers q M k := by
  unfold w_Rpapers w_Rlacks
  refine sp_RisSheet i1 (fun hq => z1n ?_) (fun hq => z0n ?_)
  · obtain ⟨b1, -, -⟩ := J q hq.1 hq.2
    refine ⟨hq, ?_⟩
    rw [rdBits M q hq.1 hq.2, wI (x := absR M 23 q) ⟨by omega, by omega⟩]
    refine ⟨fun nz => ⟨fun _ => ?_, fun z => absurd z (by decide)⟩, fun z => ⟨fun z2 => absurd z2 (by decide), fun _ => errL (by decide) (by decide) ((if_neg (fun w => w hq)).trans (if_pos z)) h⟩⟩
    intro x ex
    subst ex
    have hS : S_papers q (absR M) = _ := (if_neg (fun w => w hq)).trans (if_neg nz)
    rw [hS] at h
    exact ⟨8 + 1, lpP hq 8 0 M (by omega) (by omega) I J h⟩
  · exact ⟨fun z => absurd z (by decide), fun _ => errL (by decide) (by decide) (if_pos hq) h⟩
theorem lpPC {q : Int} {o : Nat} {kk : Int → gSt → Prop} {k : Int → gSt → Prop} (hq : 0 ≤ q ∧ q < 4) (ho : (o : Int) = 56 + 2 * q) : ∀ (n : Nat) (m : Int) (M : gSt), 0 ≤ m → m + (n : Int) = 8 → iN (absC M) → iSh (absC M) → cK M → (∀ M', absC M' = (papL q n m (absC M)).2 → cK M' → k (papL q n m (absC M)).1 M') → wL_X8_papers_34 q kk k k (n + 1) o m (3 * m) M := by
  obtain ⟨p1, p2, p3⟩ := pl_sh (o := o) (by omega)
  intro n
  induction n with
  | zero =>
    intro m M hm hn I J hK h
    obtain ⟨-, d2, -⟩ := J q hq.1 hq.2
    have es := rS M hq ho
    unfold wL_X8_papers_34 wC_X8_papers_34 w_X5_size
    refine ⟨p1, ?_⟩
    dsimp only
    rw [wI (x := M o 2) ⟨by omega, by omega⟩, wI (x := 3 * m + 2) ⟨by omega, by omega⟩]
    exact ⟨fun _ => h M rfl hK, fun z => absurd z (by omega)⟩
  | succ n ih =>
    intro m M hm hn I J hK h
    obtain ⟨-, d2, d3⟩ := J q hq.1 hq.2
    have es := rS M hq ho
    unfold papL at h
    unfold wL_X8_papers_34 wC_X8_papers_34 w_X5_size
    refine ⟨p1, ?_⟩
    dsimp only
    rw [wI (x := M o 2) ⟨by omega, by omega⟩, wI (x := 3 * m + 2) ⟨by omega, by omega⟩]
    have stop : ¬ papG (absC M) q m → k m M := fun z => by
      rw [if_neg z] at h
      exact h M rfl hK
    have I' := I
    unfold iN at I'
    have n0 := rc00 M
    have n3 := rc03 M
    obtain ⟨w0, w2⟩ := cK_8 hK
    refine ⟨fun z => stop (fun g => by have := g.1; omega), fun g1 => ?_⟩
    refine sp_at5 p1 p3 ⟨by omega, by omega⟩ (by omega) ?_
    refine sp_at5 p1 p3 ⟨by omega, by omega⟩ (by omega) ?_
    refine sp_at5 p1 p3 ⟨by omega, by omega⟩ (by omega) ?_
    rw [← rN M hq ho (j := 3 * m) (by omega) (by omega), ← rN M hq ho (j := 3 * m + 1) (by omega) (by omega), ← rN M hq ho (j := 3 * m + 2) (by omega) (by omega)]
    have j0 := d3 (3 * m) (by omega) (by omega)
    have j1 := d3 (3 * m + 1) (by omega) (by omega)
    have j2 := d3 (3 * m + 2) (by omega) (by omega)
    have a1 : 24 * q + (3 * m + 1) = 24 * q + 3 * m + 1 := by omega
    have a2 : 24 * q + (3 * m + 2) = 24 * q + 3 * m + 2 := by omega
    rw [a1] at j1 ⊢
    rw [a2] at j2 ⊢
    refine sp_isPaper j0 j1 j2 ⟨by omega, by omega⟩ (fun g3 => z1 ?_) (fun g3 => z0 (stop (fun g => g3 (by rw [← n0]; exact g.2.2))))
    refine sp_room4 pl_8 ?_
    rw [w2, wI (x := 6 - M 8 3) ⟨by omega, by omega⟩]
    refine ⟨fun g4 => ?_, fun g4 => stop (fun g => by have := g.2.1; omega)⟩
    have g : papG (absC M) q m := ⟨by omega, by omega, by rw [n0]; exact g3⟩
    rw [if_pos g] at h
    refine sp_at5 p1 p3 ⟨by omega, by omega⟩ (by omega) ?_
    refine sp_at5 p1 p3 ⟨by omega, by omega⟩ (by omega) ?_
    refine sp_at5 p1 p3 ⟨by omega, by omega⟩ (by omega) ?_
    rw [← rN M hq ho (j := 3 * m) (by omega) (by omega), ← rN M hq ho (j := 3 * m + 1) (by omega) (by omega), ← rN M hq ho (j := 3 * m + 2) (by omega) (by omega), a1, a2]
    refine sp_app3 (L := 6) pl_8 w0 w2 ⟨by omega, by omega⟩ (by decide) rfl ?_
    generalize hM1 : wr (wr (wr (wr M (8 + 1) (3 * M 8 3) (absC M 25 (24 * q + 3 * m))) (8 + 1) (3 * M 8 3 + 1) (absC M 25 (24 * q + 3 * m + 1))) (8 + 1) (3 * M 8 3 + 2) (absC M 25 (24 * q + 3 * m + 2))) 8 3 (M 8 3 + 1) = M1
    have K1 : cK M1 := by
      rw [← hM1]
      exact cK_wr (cK_wr (cK_wr (cK_wr hK (Or.inr (by decide))) (Or.inr (by decide))) (Or.inr (by decide))) (Or.inl (by decide))
    have e1 : absC M1 = papA (absC M) q m := by
      rw [← hM1, ac_8_3, ac_9 (by omega) (by omega), ac_9 (by omega) (by omega), ac_9 (by omega) (by omega)]
      unfold papA add3
      rw [n3]
    rw [show 3 * m + 3 = 3 * (m + 1) from by omega]
    refine ih (m + 1) M1 (by omega) (by omega) (by rw [e1]; exact papA_N I (by omega)) (by rw [e1]; exact papA_Sh J) K1 (fun M2 e2 f2 => ?_)
    rw [e1] at e2 ⊢
    exact h M2 e2 f2
theorem sC_papers {q : Int} {M : gSt} {k : Int → gSt → Prop} (i1 : inI q) (I : iN (absC M)) (J : iSh (absC M)) (hK : cK M) (h : ∀ M', absC M' = (S_papers q (absC M)).2 → cK M' → k (S_papers q (absC M)).1 M') : w_X8_papers q M k := by
  unfold w_X8_papers
  refine shC i1 (fun o ho hq => ⟨fun z => absurd z (by simp), fun o2 e2 => ?_⟩) (fun hq => ⟨fun _ => errC (by decide) (by decide) hK (if_pos hq) h, fun o2 e2 => by cases e2⟩)
  cases e2
  obtain ⟨p1, p2, p3⟩ := pl_sh (o := o) (by omega)
  obtain ⟨b1, b2, -⟩ := J q hq.1 hq.2
  have eb := rB M hq ho
  refine sp_missing p1 ⟨by omega, by omega⟩ (fun z => z1 (errC (by decide) (by decide) hK ((if_neg (fun w => w hq)).trans (if_pos (by omega))) h)) (fun nz => z0 ?_)
  have hS : S_papers q (absC M) = _ := (if_neg (fun w => w hq)).trans (if_neg (by omega))
  rw [hS] at h
  exact ⟨8 + 1, lpPC hq ho 8 0 M (by omega) (by omega) I J hK h⟩
end
section
-- a text set (or cleared): both sides; untell
def setX (u n : Int) (f : Int → Int) (σ : gSt) : gSt := fun c i => if c = 0 ∧ i = 9 + u then n else if (c : Int) = 7 + u then msk n f i else σ c i
theorem setX_0 {u : Int} {f g : Int → Int} {σ : gSt} : setX u 0 f σ = setX u 0 g σ := by
  funext c i
  unfold setX msk
  rw [if_neg (c := 0 ≤ i ∧ i < 0) (by omega), if_neg (c := 0 ≤ i ∧ i < 0) (by omega)]
theorem acX {M M' : gSt} {u : Int} {o : Nat} (hu : u = 0 ∨ u = 1) (ho : (o : Int) = 14 + 2 * u) (h : ∀ p, p ≠ o → p ≠ o + 1 → M' p = M p) : absC M' = setX u (M' o 3) (M' (o + 1)) (absC M) := by
  have e : ∀ p : Nat, p < 14 ∨ 17 < p → M' p = M p := fun p hp => h p (by omega) (by omega)
  funext c i
  rcases hu with rfl | rfl
  · have o14 : o = 14 := by omega
    subst o14
    have e2 := h 16 (by decide) (by decide)
    have e3 := h 17 (by decide) (by decide)
    unfold setX
    match c with
    | 0 =>
      by_cases hi : i = 9
      · subst hi; simp [absC]
      · simp [absC, e, e2, hi]
    | 1 => simp [absC, e]
    | 2 => simp [absC, e]
    | 3 => simp [absC, e]
    | 4 => simp [absC, e]
    | 5 => simp [absC, e]
    | 6 => simp [absC, e]
    | 7 => simp [absC]
    | 8 => simp [absC, e2, e3]
    | 9 => simp [absC]
    | 10 => simp [absC, e]
    | 11 => simp [absC, e]
    | 12 => simp [absC, e]
    | 13 => simp [absC, e]
    | 14 => simp [absC, e]
    | 15 => simp [absC, e]
    | 16 => simp [absC, e]
    | 17 => simp [absC, e]
    | 18 => simp [absC, e]
    | 19 => simp [absC]
    | 20 => simp [absC]
    | 21 => simp [absC, e]
    | 22 => simp [absC]
    | 23 => simp [absC, e]
    | 24 => simp [absC, e]
    | 25 => simp [absC, e]
    | n + 26 => rw [if_neg (by omega), if_neg (by omega)]; simp [absC]
  · have o14 : o = 16 := by omega
    subst o14
    have e2 := h 14 (by decide) (by decide)
    have e3 := h 15 (by decide) (by decide)
    unfold setX
    match c with
    | 0 =>
      by_cases hi : i = 10
      · subst hi; simp [absC]
      · simp [absC, e, e2, hi]
    | 1 => simp [absC, e]
    | 2 => simp [absC, e]
    | 3 => simp [absC, e]
    | 4 => simp [absC, e]
    | 5 => simp [absC, e]
    | 6 => simp [absC, e]
    | 7 => simp [absC, e2, e3]
    | 8 => simp [absC]
    | 9 => simp [absC]
    | 10 => simp [absC, e]
    | 11 => simp [absC, e]
    | 12 => simp [absC, e]
    | 13 => simp [absC, e]
    | 14 => simp [absC, e]
    | 15 => simp [absC, e]
    | 16 => simp [absC, e]
    | 17 => simp [absC, e]
    | 18 => simp [absC, e]
    | 19 => simp [absC]
    | 20 => simp [absC]
    | 21 => simp [absC, e]
    | 22 => simp [absC]
    | 23 => simp [absC, e]
    | 24 => simp [absC, e]
    | 25 => simp [absC, e]
    | n + 26 => rw [if_neg (by omega), if_neg (by omega)]; simp [absC]
theorem asX {s s' : Int → Int} {u : Int} (hu : u = 0 ∨ u = 1) (ht : txtOk s) (h : ∀ j, j < 202 + 125 * u ∨ 327 + 125 * u ≤ j → s' j = s j) : absS s' = setX u (s' (202 + 125 * u)) (fun i => encT u (s' (203 + 125 * u + 2 * i)) (s' (204 + 125 * u + 2 * i))) (absS s) := by
  obtain ⟨t1, t2⟩ := ht
  funext c i
  rcases hu with rfl | rfl
  · have e : ∀ j, j < 202 ∨ 327 ≤ j → s' j = s j := fun j hj => h j (by omega)
    unfold setX
    match c with
    | 0 =>
      simp only [absS]
      by_cases hi : i = 9
      · subst hi; simp
      · have e1 := e 327 (by omega)
        by_cases w : 0 ≤ i ∧ i < 9
        · have e2 := e i (by omega)
          simp [hi, w, e2]
        · simp [hi, w, e1]
    | 1 => simp only [absS]; rw [if_neg (by omega), if_neg (by omega)]; exact congrFun (msk_congr (fun j a b => e _ (by omega))) i
    | 2 => simp only [absS]; rw [if_neg (by omega), if_neg (by omega)]; exact congrFun (msk_congr (fun j a b => e _ (by omega))) i
    | 3 => simp only [absS]; rw [if_neg (by omega), if_neg (by omega)]; exact congrFun (msk_congr (fun j a b => e _ (by omega))) i
    | 4 => simp only [absS]; rw [if_neg (by omega), if_neg (by omega)]; exact congrFun (msk_congr (fun j a b => e _ (by omega))) i
    | 5 => simp only [absS]; rw [if_neg (by omega), if_neg (by omega)]; exact congrFun (msk_congr (fun j a b => e _ (by omega))) i
    | 6 => simp only [absS]; rw [if_neg (by omega), if_neg (by omega)]; exact congrFun (msk_congr (fun j a b => e _ (by omega))) i
    | 7 => simp only [absS]; rw [if_neg (by omega), if_pos (by omega)]; rfl
    | 8 =>
      simp only [absS]
      rw [if_neg (by omega), if_neg (by omega), e 327 (by omega)]
      refine congrFun (msk_congr (fun j a b => ?_)) i
      rw [e _ (by omega), e _ (by omega)]
    | n + 9 => rw [if_neg (by omega), if_neg (by omega)]; rfl
  · have e : ∀ j, j < 327 ∨ 452 ≤ j → s' j = s j := fun j hj => h j (by omega)
    unfold setX
    match c with
    | 0 =>
      simp only [absS]
      by_cases hi : i = 10
      · subst hi; simp
      · have e1 := e 202 (by omega)
        by_cases w : 0 ≤ i ∧ i < 9
        · have e2 := e i (by omega)
          simp [hi, w, e2]
        · simp [hi, w, e1]
    | 1 => simp only [absS]; rw [if_neg (by omega), if_neg (by omega)]; exact congrFun (msk_congr (fun j a b => e _ (by omega))) i
    | 2 => simp only [absS]; rw [if_neg (by omega), if_neg (by omega)]; exact congrFun (msk_congr (fun j a b => e _ (by omega))) i
    | 3 => simp only [absS]; rw [if_neg (by omega), if_neg (by omega)]; exact congrFun (msk_congr (fun j a b => e _ (by omega))) i
    | 4 => simp only [absS]; rw [if_neg (by omega), if_neg (by omega)]; exact congrFun (msk_congr (fun j a b => e _ (by omega))) i
    | 5 => simp only [absS]; rw [if_neg (by omega), if_neg (by omega)]; exact congrFun (msk_congr (fun j a b => e _ (by omega))) i
    | 6 => simp only [absS]; rw [if_neg (by omega), if_neg (by omega)]; exact congrFun (msk_congr (fun j a b => e _ (by omega))) i
    | 7 =>
      simp only [absS]
      rw [if_neg (by omega), if_neg (by omega), e 202 (by omega)]
      refine congrFun (msk_congr (fun j a b => ?_)) i
      rw [e _ (by omega), e _ (by omega)]
    | 8 => simp only [absS]; rw [if_neg (by omega), if_pos (by omega)]; rfl
    | n + 9 => rw [if_neg (by omega), if_neg (by omega)]; rfl
theorem arX {M M' : gSt} {u : Int} (hu : u = 0 ∨ u = 1) (ht : tOk (absR M)) (hs : ∀ o, o ≠ 1 → (o = 0 ∨ o = 2 ∨ o = 11 ∨ o = 12 ∨ o = 13) → ∀ j, (o = 0 → j = 3) → M' o j = M o j) (h : ∀ j, j < 202 + 125 * u ∨ 327 + 125 * u ≤ j → M' 1 j = M 1 j) : absR M' = setX u (M' 1 (202 + 125 * u)) (fun i => encT u (M' 1 (203 + 125 * u + 2 * i)) (M' 1 (204 + 125 * u + 2 * i))) (absR M) := by
  have g := asX hu (txtOk_abs ht) h
  have e0 := hs 0 (by decide) (by omega) 3 (fun _ => rfl)
  have e2 : M' 2 = M 2 := funext fun j => hs 2 (by decide) (by omega) j (fun z => absurd z (by decide))
  have e11 : M' 11 = M 11 := funext fun j => hs 11 (by decide) (by omega) j (fun z => absurd z (by decide))
  have e12 : M' 12 = M 12 := funext fun j => hs 12 (by decide) (by omega) j (fun z => absurd z (by decide))
  have e13 : M' 13 = M 13 := funext fun j => hs 13 (by decide) (by omega) j (fun z => absurd z (by decide))
  funext c i
  by_cases hc : c < 10
  · have a : absR M' c i = absS (M' 1) c i := by unfold absR; rw [if_pos hc]
    rw [a, g]
    unfold setX absR
    rw [if_pos hc]
  · unfold setX
    rw [if_neg (by omega), if_neg (by omega)]
    unfold absR
    rw [if_neg hc, if_neg hc, e0, e2, e11, e12, e13]
def S_untell (u : Int) (σ : gSt) : Int × gSt := if ¬ (0 ≤ u ∧ u ≤ 1) then S_err σ 1 else (if 0 < σ 0 (9 + u) then 1 else 0, setX u 0 (fun _ => 0) σ)
theorem rdL {M : gSt} {u : Int} (hu : u = 0 ∨ u = 1) : M 1 (202 + 125 * u) = absR M 0 (9 + u) := by
  rcases hu with rfl | rfl <;> simp [absR, absS]
/-- raw texts outside text u, image: untouched -/
def frX (u : Int) (M M' : gSt) : Prop := (∀ j, j < 202 + 125 * u ∨ 327 + 125 * u ≤ j → M' 1 j = M 1 j) ∧ M' 2 = M 2 ∧ M' 0 16 = M 0 16
theorem sR_untell {u : Int} {M : gSt} {k : Int → gSt → Prop} (i1 : inI u) (I : iN (absR M)) (h : ∀ M', absR M' = (S_untell u (absR M)).2 → (¬ (0 ≤ u ∧ u ≤ 1) → fr M M') → (0 ≤ u ∧ u ≤ 1 → frX u M M' ∧ M' 1 (202 + 125 * u) = 0) → k (S_untell u (absR M)).1 M') : w_Runtell u M k := by
  unfold w_Runtell w_RhasText wB_Runtell_28
  refine sp_Rin i1 (by constructor <;> decide) (by constructor <;> decide) (fun hu => z1n ?_) (fun hu => z0n (errL (by decide) (by decide) (if_pos hu) (fun M' e f => h M' e (fun _ => f) (fun z => absurd z hu))))
  have hu' : u = 0 ∨ u = 1 := by omega
  have hS : S_untell u (absR M) = _ := (if_neg (fun w => w hu))
  rw [hS] at h
  have fin : ∀ M' : gSt, M' = wr M 1 (202 + 125 * u) 0 → k (if 0 < absR M 0 (9 + u) then 1 else 0) M' := fun M' e => by
    subst e
    refine h _ ?_ (fun z => absurd hu z) (fun _ => ⟨⟨fun j hj => wrN (by omega), wrO' (by decide), wrO (by decide)⟩, wrI⟩)
    refine (arX (M := M) hu' (iN_t I) (fun o ho _ j _ => wrO ho) (fun j hj => wrN (by omega))).trans ?_
    rw [wrI]
    exact setX_0
  have l := rdL (M := M) hu'
  have l2 : 0 ≤ absR M 0 (9 + u) ∧ absR M 0 (9 + u) ≤ 60 := by
    unfold iN at I
    rcases hu' with rfl | rfl
    · show 0 ≤ absR M 0 9 ∧ absR M 0 9 ≤ 60; omega
    · show 0 ≤ absR M 0 10 ∧ absR M 0 10 ≤ 60; omega
  refine ⟨⟨by omega, by omega⟩, ?_⟩
  rw [l, wI (x := absR M 0 (9 + u)) ⟨by omega, by omega⟩]
  refine ⟨fun z => z0 ⟨⟨by omega, by omega⟩, fun M' e => ?_⟩, fun z => z1 ⟨⟨by omega, by omega⟩, fun M' e => ?_⟩⟩
  · have := fin M' e
    rw [if_neg (by omega)] at this
    exact this
  · have := fin M' e
    rw [if_pos (by omega)] at this
    exact this
theorem pl_tx {u : Int} {o : Nat} (hu : u = 0 ∨ u = 1) (ho : (o : Int) = 14 + 2 * u) : isRows o ∧ lenC (o + 1) = 60 := by
  rcases (show o = 14 ∨ o = 16 by omega) with rfl | rfl
  · exact ⟨pl_14, rfl⟩
  · exact ⟨pl_16, rfl⟩
theorem sp_textOf {u : Int} {M : gSt} {k : Option Nat → gSt → Prop} (hu : u = 0 ∨ u = 1) (h : ∀ o : Nat, (o : Int) = 14 + 2 * u → k (some o) M) : w_X1_textOf 1 u M k := by
  unfold w_X1_textOf
  refine ⟨pl_1, ?_⟩
  rcases hu with rfl | rfl
  · exact ⟨fun z => absurd wrap_0 z, fun _ => h 14 rfl⟩
  · exact ⟨fun _ => h 16 rfl, fun z => absurd z (by decide)⟩
theorem rcL {M : gSt} {u : Int} {o : Nat} (hu : u = 0 ∨ u = 1) (ho : (o : Int) = 14 + 2 * u) : absC M 0 (9 + u) = M o 3 := by
  rcases hu with rfl | rfl
  · have : o = 14 := by omega
    subst this; simp [absC]
  · have : o = 16 := by omega
    subst this; simp [absC]
theorem sC_untell {u : Int} {M : gSt} {k : Int → gSt → Prop} (i1 : inI u) (I : iN (absC M)) (hK : cK M) (h : ∀ M', absC M' = (S_untell u (absC M)).2 → cK M' → k (S_untell u (absC M)).1 M') : w_X8_untell u M k := by
  unfold w_X8_untell wB_X8_untell_34
  refine sp_within i1 (by constructor <;> decide) (by constructor <;> decide) (fun hu => z1n ?_) (fun hu => z0n (errC (by decide) (by decide) hK (if_pos hu) h))
  have hu' : u = 0 ∨ u = 1 := by omega
  have hS : S_untell u (absC M) = _ := (if_neg (fun w => w hu))
  rw [hS] at h
  refine sp_textOf hu' (fun o ho => ⟨o, rfl, ?_⟩)
  obtain ⟨p1, p2⟩ := pl_tx hu' ho
  have l := rcL (M := M) hu' ho
  have l2 : 0 ≤ absC M 0 (9 + u) ∧ absC M 0 (9 + u) ≤ 60 := by
    unfold iN at I
    rcases hu' with rfl | rfl
    · show 0 ≤ absC M 0 9 ∧ absC M 0 9 ≤ 60; omega
    · show 0 ≤ absC M 0 10 ∧ absC M 0 10 ≤ 60; omega
  have fin : k (if 0 < absC M 0 (9 + u) then 1 else 0) (wr M o 3 0) := by
    refine h _ ?_ (cK_wr hK (Or.inl (by decide)))
    refine (acX (M := M) hu' ho (fun p a b => wrO' a)).trans ?_
    rw [wrI]
    exact setX_0
  refine sp_size4 p1 ?_
  rw [wI (x := M o 3) ⟨by omega, by omega⟩]
  refine ⟨fun z => sp_textOf hu' (fun o2 ho2 => ⟨o2, rfl, ?_⟩), fun z => sp_textOf hu' (fun o2 ho2 => ⟨o2, rfl, ?_⟩)⟩
  · have : o2 = o := by omega
    subst this
    rw [if_neg (by omega)] at fin
    exact sp_clear p1 fin
  · have : o2 = o := by omega
    subst this
    rw [if_pos (by omega)] at fin
    exact sp_clear p1 fin
end
section
-- the reader of laws, without a memory: τ 0 0 place, τ 0 1 tokens, τ 1 and τ 2 the tokens (kind, value)
def pk (T : Int → Int) (L : Int) (τ : gSt) : Int := if τ 0 0 < L then T (τ 0 0) else -1
def adv (τ : gSt) : gSt := up1 τ 0 0 (τ 0 0 + 1)
def emt (a b : Int) (τ : gSt) : gSt := up1 (up1 (up1 τ 1 (τ 0 1) a) 2 (τ 0 1) b) 0 1 (τ 0 1 + 1)
def lvl (c : Int) : Int := if c = 124 then 0 else if c = 38 then 1 else if c = 60 ∨ c = 61 ∨ c = 62 then 2 else if c = 43 ∨ c = 45 then 3 else if c = 42 ∨ c = 47 ∨ c = 37 then 4 else -1
abbrev isNm (u c : Int) : Prop := c = 103 ∨ (u = 0 ∧ (c = 115 ∨ c = 109)) ∨ (¬ u = 0 ∧ (c = 99 ∨ c = 110))
def pNum (T : Int → Int) (L : Int) : Nat → Int → gSt → gSt
  | 0, x, τ => emt 0 x τ
  | n + 1, x, τ => if 48 ≤ pk T L τ ∧ pk T L τ ≤ 57 then pNum T L n (10 * x + pk T L τ - 48) (adv τ) else emt 0 x τ
def pLoop (T : Int → Int) (L : Int) (sub : gSt → Int × gSt) (lev : Int) : Nat → gSt → Int × gSt
  | 0, τ => (1, τ)
  | n + 1, τ => if lvl (pk T L τ) = lev then (if (sub (adv τ)).1 = 0 then (0, (sub (adv τ)).2) else pLoop T L sub lev n (emt 3 (pk T L τ) (sub (adv τ)).2)) else (1, τ)
def pLev (T : Int → Int) (L : Int) (W : gSt → Int × gSt) : Nat → gSt → Int × gSt
  | 0, τ => W τ
  | n + 1, τ => if (pLev T L W n τ).1 = 0 then (0, (pLev T L W n τ).2) else pLoop T L (pLev T L W n) (4 - (n : Int)) (if n = 2 then 1 else 60) (pLev T L W n τ).2
def pVal (T : Int → Int) (L u : Int) : Nat → gSt → Int × gSt
  | 0, τ => if isNm u (pk T L τ) then (1, emt 1 (pk T L τ) (adv τ)) else if 48 ≤ pk T L τ ∧ pk T L τ ≤ 57 then (1, pNum T L 4 0 τ) else (0, τ)
  | o + 1, τ => if isNm u (pk T L τ) then (1, emt 1 (pk T L τ) (adv τ)) else if 48 ≤ pk T L τ ∧ pk T L τ ≤ 57 then (1, pNum T L 4 0 τ)
    else if pk T L τ = 33 then (if (pVal T L u o (adv τ)).1 = 0 then (0, (pVal T L u o (adv τ)).2) else (1, emt 2 0 (pVal T L u o (adv τ)).2))
    else if pk T L τ = 40 then (if (pLev T L (pVal T L u o) 5 (adv τ)).1 = 0 then (0, (pLev T L (pVal T L u o) 5 (adv τ)).2) else if pk T L (pLev T L (pVal T L u o) 5 (adv τ)).2 = 41 then (1, adv (pLev T L (pVal T L u o) 5 (adv τ)).2) else (0, (pLev T L (pVal T L u o) 5 (adv τ)).2))
    else (0, τ)
/-- place and tokens as they can be -/
def pOK (L : Int) (τ : gSt) : Prop := 0 ≤ τ 0 1 ∧ τ 0 1 ≤ τ 0 0 ∧ τ 0 0 ≤ L
/-- a token as a text holds it -/
def tokOk (u a b : Int) : Prop := (a = 0 ∧ 0 ≤ b ∧ b ≤ 9999) ∨ (a = 1 ∧ isNm u b) ∨ (a = 2 ∧ b = 0) ∨ (a = 3 ∧ 0 ≤ lvl b)
/-- how high the tokens 0..n-1 pile up -/
def hgt (w : Int → Int) : Nat → Int
  | 0 => 0
  | n + 1 => hgt w n + (if w n = 2 then 0 else if w n = 3 then -1 else 1)
/-- from τ the tokens grew to τ', of which the new ones need h on the pile at least -/
def grew (u : Int) (τ τ' : gSt) (up : Int) : Prop := τ 0 1 ≤ τ' 0 1 ∧ (∀ j, j < τ 0 1 → τ' 1 j = τ 1 j ∧ τ' 2 j = τ 2 j) ∧ (∀ j, τ 0 1 ≤ j → j < τ' 0 1 → tokOk u (τ' 1 j) (τ' 2 j) ∧ (τ' 1 j = 2 → hgt (τ' 1) (τ 0 1).toNat + 1 ≤ hgt (τ' 1) j.toNat) ∧ (τ' 1 j = 3 → hgt (τ' 1) (τ 0 1).toNat + 2 ≤ hgt (τ' 1) j.toNat) ∧ hgt (τ' 1) (τ 0 1).toNat ≤ hgt (τ' 1) j.toNat) ∧ hgt (τ' 1) (τ' 0 1).toNat = hgt (τ' 1) (τ 0 1).toNat + up
theorem hgt_s {w : Int → Int} {n : Nat} : hgt w (n + 1) = hgt w n + (if w n = 2 then 0 else if w n = 3 then -1 else 1) := rfl
theorem hgt_congr {w w' : Int → Int} : ∀ n : Nat, (∀ j, 0 ≤ j → j < (n : Int) → w' j = w j) → hgt w' n = hgt w n
  | 0, _ => rfl
  | n + 1, h => by
    unfold hgt
    rw [h n (by omega) (by omega), hgt_congr n (fun j a b => h j a (by omega))]
theorem pkL {T : Int → Int} {L : Int} {τ : gSt} (h : 0 ≤ pk T L τ) : τ 0 0 < L := by
  unfold pk at h
  by_cases w : τ 0 0 < L
  · exact w
  · rw [if_neg w] at h; omega
theorem adv_i {τ : gSt} : adv τ 0 0 = τ 0 0 + 1 := up1_i
theorem adv_c {τ : gSt} : adv τ 0 1 = τ 0 1 := up1_n (by decide)
theorem adv_o {τ : gSt} {c : Nat} (h : c ≠ 0) : adv τ c = τ c := by funext j; exact up1_o h
theorem emt_i {a b : Int} {τ : gSt} : emt a b τ 0 0 = τ 0 0 := by unfold emt; rw [up1_n (by decide), up1_o (by decide), up1_o (by decide)]
theorem emt_c {a b : Int} {τ : gSt} : emt a b τ 0 1 = τ 0 1 + 1 := up1_i
theorem emt_1 {a b : Int} {τ : gSt} {j : Int} : emt a b τ 1 j = if j = τ 0 1 then a else τ 1 j := by
  unfold emt
  rw [up1_o (by decide), up1_o (by decide)]
  by_cases h : j = τ 0 1
  · rw [if_pos h, h]; exact up1_i
  · rw [if_neg h]; exact up1_n h
theorem emt_2 {a b : Int} {τ : gSt} {j : Int} : emt a b τ 2 j = if j = τ 0 1 then b else τ 2 j := by
  unfold emt
  rw [up1_o (by decide)]
  by_cases h : j = τ 0 1
  · rw [if_pos h, h]; exact up1_i
  · rw [if_neg h, up1_n h]; exact up1_o (by decide)
/-- what a reader of a piece promises -/
def good (L u : Int) (sub : gSt → Int × gSt) : Prop := ∀ τ, pOK L τ → pOK L (sub τ).2 ∧ (τ 0 0 ≤ (sub τ).2 0 0 ∧ τ 0 0 - τ 0 1 ≤ (sub τ).2 0 0 - (sub τ).2 0 1) ∧ ((sub τ).1 = 0 ∨ ((sub τ).1 = 1 ∧ grew u τ (sub τ).2 1))
theorem grew_rf {u : Int} {τ : gSt} : grew u τ τ 0 := ⟨by omega, fun _ _ => ⟨rfl, rfl⟩, fun _ a b => absurd a (by omega), by omega⟩
theorem grew_adv {u x : Int} {τ τ' : gSt} (h : grew u (adv τ) τ' x) : grew u τ τ' x := by
  unfold grew at h ⊢
  rw [adv_c, adv_o (by decide), adv_o (by decide)] at h
  exact h
theorem grew_adv2 {u x : Int} {τ τ' : gSt} (h : grew u τ τ' x) : grew u τ (adv τ') x := by
  unfold grew at h ⊢
  rw [adv_c, adv_o (by decide), adv_o (by decide)]
  exact h
/-- one token more -/
theorem grew_emt {u a b x : Int} {τ τ' : gSt} (h0 : 0 ≤ τ 0 1) (h : grew u τ τ' x) (ht : tokOk u a b) (h2 : a = 2 → 1 ≤ x) (h3 : a = 3 → 2 ≤ x) (hx : 0 ≤ x) : grew u τ (emt a b τ') (x + (if a = 2 then 0 else if a = 3 then -1 else 1)) := by
  obtain ⟨g1, g2, g3, g4⟩ := h
  have hc : ∀ n : Nat, (n : Int) ≤ τ' 0 1 → hgt (emt a b τ' 1) n = hgt (τ' 1) n := fun n hn => hgt_congr n (fun j _ hj => by rw [emt_1, if_neg (by omega)])
  unfold grew
  rw [emt_c]
  rw [hc (τ 0 1).toNat (by omega)]
  refine ⟨by omega, fun j hj => ?_, fun j a1 a2 => ?_, ?_⟩
  · rw [emt_1, emt_2, if_neg (by omega), if_neg (by omega)]; exact g2 j hj
  · rw [hc j.toNat (by omega), emt_1, emt_2]
    by_cases hj : j = τ' 0 1
    · rw [if_pos hj, if_pos hj, hj, g4]
      exact ⟨ht, fun z => by have := h2 z; omega, fun z => by have := h3 z; omega, by omega⟩
    · rw [if_neg hj, if_neg hj]
      exact g3 j a1 (by omega)
  · rw [show (τ' 0 1 + 1).toNat = (τ' 0 1).toNat + 1 from by omega]
    have j0 : ((τ' 0 1).toNat : Int) = τ' 0 1 := by omega
    rw [hgt_s, hc (τ' 0 1).toNat (by omega), g4, j0, emt_1, if_pos rfl]
    omega
theorem grew_tr {u x y : Int} {τ τ' τ'' : gSt} (h0 : 0 ≤ τ 0 1) (hx : 0 ≤ x) (h : grew u τ τ' x) (h' : grew u τ' τ'' y) : grew u τ τ'' (x + y) := by
  obtain ⟨g1, g2, g3, g4⟩ := h
  obtain ⟨k1, k2, k3, k4⟩ := h'
  have hc : ∀ n : Nat, (n : Int) ≤ τ' 0 1 → hgt (τ'' 1) n = hgt (τ' 1) n := fun n hn => hgt_congr n (fun j _ hj => (k2 j (by omega)).1)
  have c0 := hc (τ 0 1).toNat (by omega)
  have c1 := hc (τ' 0 1).toNat (by omega)
  refine ⟨by omega, fun j hj => ?_, fun j a1 a2 => ?_, by omega⟩
  · rw [(k2 j (by omega)).1, (k2 j (by omega)).2]; exact g2 j hj
  · by_cases hj : j < τ' 0 1
    · rw [(k2 j hj).1, (k2 j hj).2, c0, hc j.toNat (by omega)]
      exact g3 j a1 hj
    · obtain ⟨m1, m2, m3, m4⟩ := k3 j (by omega) a2
      exact ⟨m1, fun z => by have := m2 z; omega, fun z => by have := m3 z; omega, by omega⟩
theorem good_num {T : Int → Int} {L u : Int} : ∀ (n : Nat) (x : Int) (τ : gSt), pOK L τ → 0 ≤ x → (τ 0 1 < τ 0 0 ∨ (0 < n ∧ 48 ≤ pk T L τ ∧ pk T L τ ≤ 57)) → x * 10 ^ n + 10 ^ n ≤ 10000 → pOK L (pNum T L n x τ) ∧ (τ 0 0 ≤ (pNum T L n x τ) 0 0 ∧ τ 0 0 - τ 0 1 - 1 ≤ (pNum T L n x τ) 0 0 - (pNum T L n x τ) 0 1 ∧ (0 < n ∧ 48 ≤ pk T L τ ∧ pk T L τ ≤ 57 → τ 0 0 - τ 0 1 ≤ (pNum T L n x τ) 0 0 - (pNum T L n x τ) 0 1)) ∧ grew u τ (pNum T L n x τ) 1 := by
  intro n
  induction n with
  | zero =>
    intro x τ h hx hd hb
    obtain ⟨h1, h2, h3⟩ := h
    have w : τ 0 1 < τ 0 0 := by omega
    unfold pNum
    refine ⟨?_, ⟨by rw [emt_i]; omega, by rw [emt_i, emt_c]; omega, fun z => absurd z.1 (by omega)⟩, ?_⟩
    · unfold pOK; rw [emt_i, emt_c]; omega
    · exact grew_emt (x := 0) h1 grew_rf (Or.inl ⟨rfl, hx, by omega⟩) (by decide) (by decide) (by decide)
  | succ n ih =>
    intro x τ h hx hd hb
    obtain ⟨h1, h2, h3⟩ := h
    unfold pNum
    have p10 : (10 : Int) ^ (n + 1) = 10 * 10 ^ n := by rw [Int.pow_succ, Int.mul_comm]
    have p0 : (0 : Int) < 10 ^ n := Int.pow_pos (by decide)
    rw [p10, show x * (10 * 10 ^ n) = (10 * x) * 10 ^ n from by rw [← Int.mul_assoc, Int.mul_comm x 10]] at hb
    by_cases w : 48 ≤ pk T L τ ∧ pk T L τ ≤ 57
    · rw [if_pos w]
      have l := pkL (T := T) (L := L) (τ := τ) (by omega)
      have b2 : (10 * x + pk T L τ - 48) * 10 ^ n + 10 ^ n ≤ 10000 := by
        have e : (10 * x + pk T L τ - 48) * 10 ^ n = (10 * x) * 10 ^ n + (pk T L τ - 48) * 10 ^ n := by rw [← Int.add_mul]; congr 1; omega
        have m : (pk T L τ - 48) * 10 ^ n ≤ 9 * 10 ^ n := Int.mul_le_mul_of_nonneg_right (by omega) (by omega)
        omega
      obtain ⟨r1, r2, r3⟩ := ih (10 * x + pk T L τ - 48) (adv τ) ⟨by rw [adv_c]; omega, by rw [adv_c, adv_i]; omega, by rw [adv_i]; omega⟩ (by omega) (Or.inl (by rw [adv_c, adv_i]; omega)) b2
      rw [adv_i, adv_c] at r2
      exact ⟨r1, ⟨by omega, by omega, fun _ => by omega⟩, grew_adv r3⟩
    · rw [if_neg w]
      have w2 : τ 0 1 < τ 0 0 := by omega
      refine ⟨?_, ⟨by rw [emt_i]; omega, by rw [emt_i, emt_c]; omega, fun z => absurd z.2 w⟩, ?_⟩
      · unfold pOK; rw [emt_i, emt_c]; omega
      · refine grew_emt (x := 0) h1 grew_rf (Or.inl ⟨rfl, hx, ?_⟩) (by decide) (by decide) (by decide)
        have : (10 * x) * 1 ≤ (10 * x) * 10 ^ n := Int.mul_le_mul_of_nonneg_left (by omega) (by omega)
        omega
theorem good_loop {T : Int → Int} {L u lev : Int} {sub : gSt → Int × gSt} (hl : 0 ≤ lev) (hg : good L u sub) : ∀ (n : Nat) (τ : gSt), pOK L τ → pOK L (pLoop T L sub lev n τ).2 ∧ (τ 0 0 ≤ (pLoop T L sub lev n τ).2 0 0 ∧ τ 0 0 - τ 0 1 ≤ (pLoop T L sub lev n τ).2 0 0 - (pLoop T L sub lev n τ).2 0 1) ∧ ((pLoop T L sub lev n τ).1 = 0 ∨ ((pLoop T L sub lev n τ).1 = 1 ∧ ∀ τ0, 0 ≤ τ0 0 1 → grew u τ0 τ 1 → grew u τ0 (pLoop T L sub lev n τ).2 1)) := by
  intro n
  induction n with
  | zero => intro τ h; exact ⟨h, ⟨Int.le_refl _, Int.le_refl _⟩, Or.inr ⟨rfl, fun τ0 _ g => g⟩⟩
  | succ n ih =>
    intro τ h
    unfold pLoop
    by_cases w : lvl (pk T L τ) = lev
    · rw [if_pos w]
      obtain ⟨h1, h2, h3⟩ := h
      have l : τ 0 0 < L := by
        refine pkL (T := T) ?_
        unfold lvl at w
        omega
      obtain ⟨g1, g2, g3⟩ := hg (adv τ) ⟨by rw [adv_c]; omega, by rw [adv_c, adv_i]; omega, by rw [adv_i]; omega⟩
      rw [adv_i, adv_c] at g2
      by_cases z : (sub (adv τ)).1 = 0
      · rw [if_pos z]
        exact ⟨g1, ⟨by show τ 0 0 ≤ (sub (adv τ)).2 0 0; omega, by show τ 0 0 - τ 0 1 ≤ (sub (adv τ)).2 0 0 - (sub (adv τ)).2 0 1; omega⟩, Or.inl rfl⟩
      · rw [if_neg z]
        rcases g3 with g3 | ⟨-, g3⟩
        · exact absurd g3 z
        obtain ⟨q1, q2, q3⟩ := g1
        obtain ⟨r1, r2, r3⟩ := ih (emt 3 (pk T L τ) (sub (adv τ)).2) ⟨by rw [emt_c]; omega, by rw [emt_c, emt_i]; omega, by rw [emt_i]; omega⟩
        rw [emt_i, emt_c] at r2
        refine ⟨r1, ⟨by omega, by omega⟩, ?_⟩
        rcases r3 with r3 | ⟨r3, r4⟩
        · exact Or.inl r3
        · refine Or.inr ⟨r3, fun τ0 p g => r4 τ0 p ?_⟩
          have tr := grew_tr p (by decide) g (grew_adv g3)
          exact grew_emt p tr (Or.inr (Or.inr (Or.inr ⟨rfl, by omega⟩))) (by decide) (by decide) (by decide)
    · rw [if_neg w]
      exact ⟨h, ⟨Int.le_refl _, Int.le_refl _⟩, Or.inr ⟨rfl, fun τ0 _ g => g⟩⟩
theorem good_lev {T : Int → Int} {L u : Int} {W : gSt → Int × gSt} (hg : good L u W) : ∀ n : Nat, n ≤ 5 → good L u (pLev T L W n)
  | 0, _ => hg
  | n + 1, hn => by
    have ih := good_lev (T := T) hg n (by omega)
    intro τ h
    obtain ⟨g1, g2, g3⟩ := ih τ h
    unfold pLev
    by_cases z : (pLev T L W n τ).1 = 0
    · rw [if_pos z]; exact ⟨g1, g2, Or.inl rfl⟩
    · rw [if_neg z]
      rcases g3 with g3 | ⟨-, g3⟩
      · exact absurd g3 z
      obtain ⟨r1, r2, r3⟩ := good_loop (T := T) (lev := 4 - (n : Int)) (by omega) ih (if n = 2 then 1 else 60) (pLev T L W n τ).2 g1
      refine ⟨r1, ⟨by omega, by omega⟩, ?_⟩
      rcases r3 with r3 | ⟨r3, r4⟩
      · exact Or.inl r3
      · exact Or.inr ⟨r3, r4 τ h.1 g3⟩
theorem good_nm {T : Int → Int} {L u : Int} {τ : gSt} (h : pOK L τ) (w : isNm u (pk T L τ)) : pOK L (emt 1 (pk T L τ) (adv τ)) ∧ (τ 0 0 ≤ (emt 1 (pk T L τ) (adv τ)) 0 0 ∧ τ 0 0 - τ 0 1 ≤ (emt 1 (pk T L τ) (adv τ)) 0 0 - (emt 1 (pk T L τ) (adv τ)) 0 1) ∧ grew u τ (emt 1 (pk T L τ) (adv τ)) 1 := by
  obtain ⟨h1, h2, h3⟩ := h
  have l : τ 0 0 < L := pkL (T := T) (by omega)
  refine ⟨?_, ⟨by rw [emt_i, adv_i]; omega, by rw [emt_i, emt_c, adv_i, adv_c]; omega⟩, ?_⟩
  · unfold pOK; rw [emt_i, emt_c, adv_i, adv_c]; omega
  · exact grew_emt (x := 0) h1 (grew_adv2 grew_rf) (Or.inr (Or.inl ⟨rfl, w⟩)) (by decide) (by decide) (by decide)
theorem good_dg {T : Int → Int} {L u : Int} {τ : gSt} (h : pOK L τ) (w : 48 ≤ pk T L τ ∧ pk T L τ ≤ 57) : pOK L (pNum T L 4 0 τ) ∧ (τ 0 0 ≤ (pNum T L 4 0 τ) 0 0 ∧ τ 0 0 - τ 0 1 ≤ (pNum T L 4 0 τ) 0 0 - (pNum T L 4 0 τ) 0 1) ∧ grew u τ (pNum T L 4 0 τ) 1 := by
  obtain ⟨r1, r2, r3⟩ := good_num (T := T) (u := u) 4 0 τ h (by decide) (Or.inr ⟨by decide, w⟩) (by decide)
  exact ⟨r1, ⟨r2.1, r2.2.2 ⟨by decide, w⟩⟩, r3⟩
theorem good_val {T : Int → Int} {L u : Int} : ∀ o : Nat, good L u (pVal T L u o) := by
  intro o
  induction o with
  | zero =>
    intro τ h
    unfold pVal
    by_cases w : isNm u (pk T L τ)
    · rw [if_pos w]; obtain ⟨a, b, c⟩ := good_nm h w; exact ⟨a, b, Or.inr ⟨rfl, c⟩⟩
    · rw [if_neg w]
      by_cases w2 : 48 ≤ pk T L τ ∧ pk T L τ ≤ 57
      · rw [if_pos w2]; obtain ⟨a, b, c⟩ := good_dg (u := u) h w2; exact ⟨a, b, Or.inr ⟨rfl, c⟩⟩
      · rw [if_neg w2]; exact ⟨h, ⟨Int.le_refl _, Int.le_refl _⟩, Or.inl rfl⟩
  | succ o ih =>
    intro τ h
    unfold pVal
    by_cases w : isNm u (pk T L τ)
    · rw [if_pos w]; obtain ⟨a, b, c⟩ := good_nm h w; exact ⟨a, b, Or.inr ⟨rfl, c⟩⟩
    · rw [if_neg w]
      by_cases w2 : 48 ≤ pk T L τ ∧ pk T L τ ≤ 57
      · rw [if_pos w2]; obtain ⟨a, b, c⟩ := good_dg (u := u) h w2; exact ⟨a, b, Or.inr ⟨rfl, c⟩⟩
      · rw [if_neg w2]
        have ha : τ 0 0 < L → pOK L (adv τ) := fun l => by
          obtain ⟨h1, h2, h3⟩ := h
          exact ⟨by rw [adv_c]; omega, by rw [adv_c, adv_i]; omega, by rw [adv_i]; omega⟩
        by_cases w3 : pk T L τ = 33
        · rw [if_pos w3]
          obtain ⟨g1, g2, g3⟩ := ih (adv τ) (ha (pkL (T := T) (by omega)))
          rw [adv_i, adv_c] at g2
          by_cases z : (pVal T L u o (adv τ)).1 = 0
          · rw [if_pos z]
            exact ⟨g1, ⟨by show τ 0 0 ≤ (pVal T L u o (adv τ)).2 0 0; omega, by show τ 0 0 - τ 0 1 ≤ (pVal T L u o (adv τ)).2 0 0 - (pVal T L u o (adv τ)).2 0 1; omega⟩, Or.inl rfl⟩
          · rw [if_neg z]
            rcases g3 with g3 | ⟨-, g3⟩
            · exact absurd g3 z
            obtain ⟨h1, h2, h3⟩ := h
            obtain ⟨q1, q2, q3⟩ := g1
            refine ⟨(show pOK L (emt 2 0 (pVal T L u o (adv τ)).2) from ⟨by rw [emt_c]; omega, by rw [emt_c, emt_i]; omega, by rw [emt_i]; omega⟩), ⟨by show τ 0 0 ≤ (emt 2 0 (pVal T L u o (adv τ)).2) 0 0; rw [emt_i]; omega, by show τ 0 0 - τ 0 1 ≤ (emt 2 0 (pVal T L u o (adv τ)).2) 0 0 - (emt 2 0 (pVal T L u o (adv τ)).2) 0 1; rw [emt_i, emt_c]; omega⟩, Or.inr ⟨rfl, ?_⟩⟩
            exact grew_emt h1 (grew_adv g3) (Or.inr (Or.inr (Or.inl ⟨rfl, rfl⟩))) (by decide) (by decide) (by decide)
        · rw [if_neg w3]
          by_cases w4 : pk T L τ = 40
          · rw [if_pos w4]
            obtain ⟨g1, g2, g3⟩ := good_lev (T := T) ih 5 (by decide) (adv τ) (ha (pkL (T := T) (by omega)))
            rw [adv_i, adv_c] at g2
            generalize (pLev T L (pVal T L u o) 5 (adv τ)) = R at g1 g2 g3 ⊢
            by_cases z : R.1 = 0
            · rw [if_pos z]
              exact ⟨g1, ⟨by show τ 0 0 ≤ R.2 0 0; omega, by show τ 0 0 - τ 0 1 ≤ R.2 0 0 - R.2 0 1; omega⟩, Or.inl rfl⟩
            · rw [if_neg z]
              rcases g3 with g3 | ⟨-, g3⟩
              · exact absurd g3 z
              by_cases w5 : pk T L R.2 = 41
              · rw [if_pos w5]
                have l := pkL (T := T) (L := L) (τ := R.2) (by omega)
                obtain ⟨q1, q2, q3⟩ := g1
                refine ⟨(show pOK L (adv R.2) from ⟨by rw [adv_c]; omega, by rw [adv_c, adv_i]; omega, by rw [adv_i]; omega⟩), ⟨by show τ 0 0 ≤ (adv R.2) 0 0; rw [adv_i]; omega, by show τ 0 0 - τ 0 1 ≤ (adv R.2) 0 0 - (adv R.2) 0 1; rw [adv_i, adv_c]; omega⟩, Or.inr ⟨rfl, grew_adv2 (grew_adv g3)⟩⟩
              · rw [if_neg w5]
                exact ⟨g1, ⟨by show τ 0 0 ≤ R.2 0 0; omega, by show τ 0 0 - τ 0 1 ≤ R.2 0 0 - R.2 0 1; omega⟩, Or.inl rfl⟩
          · rw [if_neg w4]; exact ⟨h, ⟨Int.le_refl _, Int.le_refl _⟩, Or.inl rfl⟩
end
section
-- the class's reader: it comes to the abstract one
def tpC (T : Int → Int) (L : Int) (M : gSt) : Prop := M 48 0 = 1 ∧ M 48 3 = L ∧ 0 ≤ L ∧ L ≤ 60 ∧ ∀ j, 0 ≤ j → j < L → M 49 j = T j ∧ inI (T j)
def rdC (u : Int) (M0 τ M : gSt) : Prop := (∀ p, p ≠ 47 → p ≠ 50 → p ≠ 51 → M p = M0 p) ∧ M 47 2 = u ∧ M 47 3 = τ 0 0 ∧ M 50 0 = 1 ∧ M 50 2 = 60 ∧ M 50 3 = τ 0 1 ∧ ∀ j, 0 ≤ j → j < τ 0 1 → M 51 j = encT u (τ 1 j) (τ 2 j)
theorem pkI {T : Int → Int} {L : Int} {τ M : gSt} (h : tpC T L M) (h0 : 0 ≤ τ 0 0) : inI (pk T L τ) := by
  unfold pk
  by_cases w : τ 0 0 < L
  · rw [if_pos w]; exact (h.2.2.2.2 _ h0 w).2
  · rw [if_neg w]; constructor <;> decide
theorem c_peek {T : Int → Int} {L u : Int} {M0 τ M : gSt} {k : Int → gSt → Prop} (hT : tpC T L M0) (hp : pOK L τ) (hg : rdC u M0 τ M) (h : k (pk T L τ) M) : w_X3_peek 47 M k := by
  obtain ⟨t1, t2, t3, t4, t5⟩ := hT
  obtain ⟨g1, g2, g3, g4, g5, g6, g7⟩ := hg
  obtain ⟨p1, p2, p3⟩ := hp
  have e48 := g1 48 (by decide) (by decide) (by decide)
  have e49 := g1 49 (by decide) (by decide) (by decide)
  unfold w_X3_peek
  refine ⟨pl_47, ?_⟩
  rw [g3]
  refine sp_has4 pl_48 ⟨by omega, by omega⟩ (by rw [e48, t2]; exact ⟨by omega, by omega⟩) (fun a => z1 ?_) (fun a => z0 ?_)
  · rw [e48, t2] at a
    rw [g3]
    refine sp_at (W := 1) pl_48 (by rw [e48]; exact t1) (by rw [e48, t2]; exact a) (by decide) ⟨by rw [e48, t2]; omega, by decide⟩ (by show τ 0 0 * 1 + 0 < 60; omega) (by decide) ?_
    rw [show τ 0 0 * 1 + 0 = τ 0 0 from by omega, e49, (t5 _ a.1 a.2).1]
    unfold pk at h
    rw [if_pos a.2] at h
    exact h
  · rw [e48, t2] at a
    unfold pk at h
    rw [if_neg (by omega)] at h
    exact h
theorem rdC_adv {u : Int} {M0 τ M : gSt} (hg : rdC u M0 τ M) : rdC u M0 (adv τ) (wr M 47 3 (M 47 3 + 1)) := by
  obtain ⟨g1, g2, g3, g4, g5, g6, g7⟩ := hg
  refine ⟨fun p a b c => by rw [wrO' a]; exact g1 p a b c, by rw [wrN (by decide)]; exact g2, by rw [wrI, g3, adv_i], by rw [wrO (by decide)]; exact g4, by rw [wrO (by decide)]; exact g5, by rw [wrO (by decide), adv_c]; exact g6, fun j a b => ?_⟩
  rw [adv_c] at b
  rw [wrO (by decide), adv_o (by decide), adv_o (by decide)]
  exact g7 j a b
theorem c_emt {L u a b x y z : Int} {M0 τ M : gSt} {k : gSt → Prop} (h0 : 0 ≤ τ 0 1 ∧ τ 0 1 < 60) (hg : rdC u M0 τ M) (hx : x = encT u a b) (h : ∀ M', rdC u M0 (emt a b τ) M' → k M') : w_X4_append 50 x y z M (fun _ M' => k M') := by
  obtain ⟨g1, g2, g3, g4, g5, g6, g7⟩ := hg
  refine sp_app1 (L := 60) pl_50 g4 g5 (by rw [g6]; exact h0) (by decide) rfl (h _ ?_)
  refine ⟨fun p a b c => by rw [wrO' b, wrO' c]; exact g1 p a b c, by rw [wrO (by decide), wrO (by decide)]; exact g2, by rw [wrO (by decide), wrO (by decide), emt_i]; exact g3, by rw [wrN (by decide), wrO (by decide)]; exact g4, by rw [wrN (by decide), wrO (by decide)]; exact g5, by rw [wrI, emt_c, g6], fun j a1 b1 => ?_⟩
  rw [emt_c] at b1
  rw [wrO (by decide), emt_1, emt_2, g6]
  by_cases hj : j = τ 0 1
  · rw [if_pos hj, if_pos hj, hj, ← hx]; exact wrI
  · rw [if_neg hj, if_neg hj]
    exact (wrN hj).trans (g7 j a1 (by omega))
theorem c_lvl {c : Int} {M : gSt} {k : Int → gSt → Prop} (hc : inI c) (h : k (lvl c) M) : w_X3_levelOf c M k := by
  unfold w_X3_levelOf
  unfold lvl at h
  rw [wI hc]
  refine ⟨fun e => ?_, fun e => ?_, fun e => ?_, fun e => ?_, fun e => ?_, fun e => ?_, fun e => ?_, fun e => ?_, fun e => ?_, fun e => ?_, fun e => ?_⟩
  all_goals first | (subst e; exact h) | (rw [if_neg (by omega), if_neg (by omega), if_neg (by omega), if_neg (by omega), if_neg (by omega)] at h; exact h)
theorem c_digit {c : Int} {M : gSt} {k : Int → gSt → Prop} (hc : inI c) (k1 : 48 ≤ c ∧ c ≤ 57 → k 1 M) (k0 : ¬ (48 ≤ c ∧ c ≤ 57) → k 0 M) : w_X3_isDigit c M k := by
  unfold w_X3_isDigit
  rw [wI hc]
  exact ⟨fun z => k0 (by omega), fun z => ⟨fun z2 => k0 (by omega), fun z2 => k1 (by omega)⟩⟩
theorem c_num {T : Int → Int} {L u : Int} {M0 : gSt} {k : gSt → Prop} (hT : tpC T L M0) : ∀ (n : Nat) (x v : Int) (τ M : gSt), n ≤ 4 → v = 4 - (n : Int) → pOK L τ → τ 0 1 < 60 → rdC u M0 τ M → (∀ M', rdC u M0 (pNum T L n x τ) M' → k M') → wL_X3_readNumber_4 47 k (fun u1_4 M4 => wB_X3_readNumber_48 47 k u1_4 M4) (n + 1) x v M := by
  intro n
  induction n with
  | zero =>
    intro x v τ M hn hv hp hc hg h
    unfold wL_X3_readNumber_4 wC_X3_readNumber_4 wB_X3_readNumber_48
    rw [wI (x := v) ⟨by omega, by omega⟩]
    exact ⟨fun _ => c_emt (L := L) (a := 0) (b := x) ⟨hp.1, hc⟩ hg rfl h, fun z => absurd z (by omega)⟩
  | succ n ih =>
    intro x v τ M hn hv hp hc hg h
    have hp' := hp
    obtain ⟨p1, p2, p3⟩ := hp'
    unfold pNum at h
    unfold wL_X3_readNumber_4 wC_X3_readNumber_4
    rw [wI (x := v) ⟨by omega, by omega⟩]
    refine ⟨fun z => absurd z (by omega), fun _ => c_peek hT hp hg (c_digit (pkI hT (by omega)) (fun w => z1 ?_) (fun w => z0 ?_))⟩
    · rw [if_pos w] at h
      have l := pkL (T := T) (L := L) (τ := τ) (by omega)
      refine c_peek hT hp hg (fun x1 e1 M1 e2 => ?_)
      rw [show x * 10 + pk T L τ - 48 = 10 * x + pk T L τ - 48 from by omega] at e1
      subst e1; subst e2
      exact ih _ _ (adv τ) _ (by omega) (by omega) ⟨by rw [adv_c]; omega, by rw [adv_c, adv_i]; omega, by rw [adv_i]; omega⟩ (by rw [adv_c]; exact hc) (rdC_adv hg) h
    · rw [if_neg w] at h
      unfold wB_X3_readNumber_48
      exact c_emt (L := L) (a := 0) (b := x) ⟨p1, hc⟩ hg rfl h
theorem c_name {u c : Int} {M : gSt} {k : Int → gSt → Prop} (hu : M 47 2 = u) (hu' : u = 0 ∨ u = 1) (hc : inI c) (k1 : ∀ j, isNm u c → (-1) - j = encT u 1 c → 0 ≤ j ∧ j < 3 → k j M) (k0 : ¬ isNm u c → k (-1) M) : w_X3_nameOf 47 c M k := by
  unfold w_X3_nameOf
  have b0 : wrap 0 = 0 := rfl
  have b1 : wrap 1 = 1 := by decide
  have b2 : wrap 2 = 2 := by decide
  have b3 : wrap 3 = 3 := by decide
  have b4 : wrap 4 = 4 := by decide
  have b5 : wrap 5 = 5 := by decide
  refine ⟨pl_47, 4, ?_⟩
  rcases hu' with rfl | rfl
  · unfold wL_X3_nameOf_2 wC_X3_nameOf_2 wB_X3_nameOf_39
    refine ⟨fun z => absurd z (by decide), fun _ x ex => ?_⟩
    rw [hu] at ex
    have ex : x = 0 := by omega
    subst ex
    refine ⟨fun z => absurd z (by decide), fun _ => ⟨fun z => absurd z (by decide), fun _ => ⟨by decide, ?_⟩⟩⟩
    rw [show wrap (tb_NAMES 0) = 103 from by decide, wI hc]
    refine ⟨fun n1 => ?_, fun e => k1 0 (Or.inl e.symm) (by rw [← e]; decide) (by decide)⟩
    unfold wL_X3_nameOf_2 wC_X3_nameOf_2 wB_X3_nameOf_39
    refine ⟨fun z => absurd z (by decide), fun _ x ex => ?_⟩
    rw [hu] at ex
    have ex : x = 1 := by omega
    subst ex
    refine ⟨fun z => absurd z (by decide), fun _ => ⟨fun z => absurd z (by decide), fun _ => ⟨by decide, ?_⟩⟩⟩
    rw [show wrap (tb_NAMES 1) = 115 from by decide, wI hc]
    refine ⟨fun n2 => ?_, fun e => k1 1 (Or.inr (Or.inl ⟨rfl, Or.inl e.symm⟩)) (by rw [← e]; decide) (by decide)⟩
    unfold wL_X3_nameOf_2 wC_X3_nameOf_2 wB_X3_nameOf_39
    refine ⟨fun z => absurd z (by decide), fun _ x ex => ?_⟩
    rw [hu] at ex
    have ex : x = 2 := by omega
    subst ex
    refine ⟨fun z => absurd z (by decide), fun _ => ⟨fun z => absurd z (by decide), fun _ => ⟨by decide, ?_⟩⟩⟩
    rw [show wrap (tb_NAMES 2) = 109 from by decide, wI hc]
    refine ⟨fun n3 => ?_, fun e => k1 2 (Or.inr (Or.inl ⟨rfl, Or.inr e.symm⟩)) (by rw [← e]; decide) (by decide)⟩
    unfold wL_X3_nameOf_2 wC_X3_nameOf_2
    exact ⟨fun _ => k0 (by omega), fun z => absurd z (by decide)⟩
  · unfold wL_X3_nameOf_2 wC_X3_nameOf_2 wB_X3_nameOf_39
    refine ⟨fun z => absurd z (by decide), fun _ x ex => ?_⟩
    rw [hu] at ex
    have ex : x = 3 := by omega
    subst ex
    refine ⟨fun z => absurd z (by decide), fun _ => ⟨fun z => absurd z (by decide), fun _ => ⟨by decide, ?_⟩⟩⟩
    rw [show wrap (tb_NAMES 3) = 99 from by decide, wI hc]
    refine ⟨fun n1 => ?_, fun e => k1 0 (Or.inr (Or.inr ⟨by decide, Or.inl e.symm⟩)) (by rw [← e]; decide) (by decide)⟩
    unfold wL_X3_nameOf_2 wC_X3_nameOf_2 wB_X3_nameOf_39
    refine ⟨fun z => absurd z (by decide), fun _ x ex => ?_⟩
    rw [hu] at ex
    have ex : x = 4 := by omega
    subst ex
    refine ⟨fun z => absurd z (by decide), fun _ => ⟨fun z => absurd z (by decide), fun _ => ⟨by decide, ?_⟩⟩⟩
    rw [show wrap (tb_NAMES 4) = 103 from by decide, wI hc]
    refine ⟨fun n2 => ?_, fun e => k1 1 (Or.inl e.symm) (by rw [← e]; decide) (by decide)⟩
    unfold wL_X3_nameOf_2 wC_X3_nameOf_2 wB_X3_nameOf_39
    refine ⟨fun z => absurd z (by decide), fun _ x ex => ?_⟩
    rw [hu] at ex
    have ex : x = 5 := by omega
    subst ex
    refine ⟨fun z => absurd z (by decide), fun _ => ⟨fun z => absurd z (by decide), fun _ => ⟨by decide, ?_⟩⟩⟩
    rw [show wrap (tb_NAMES 5) = 110 from by decide, wI hc]
    refine ⟨fun n3 => ?_, fun e => k1 2 (Or.inr (Or.inr ⟨by decide, Or.inr e.symm⟩)) (by rw [← e]; decide) (by decide)⟩
    unfold wL_X3_nameOf_2 wC_X3_nameOf_2
    exact ⟨fun _ => k0 (by omega), fun z => absurd z (by decide)⟩
theorem wg2 {d : Nat} {a b : Int} {M : gSt} {k : Int → gSt → Prop} : wg_X3_readLevel 47 (d + 1) 2 [a, b] M k = wb_X3_readOpened (wg_X3_readLevel 47 d) 47 a b M k := rfl
/-- a piece of the class's reader comes to the abstract one -/
def runC (u L : Int) (M0 : gSt) (S : gSt → Int × gSt) (P : gSt → (Int → gSt → Prop) → Prop) : Prop := ∀ τ M k, pOK L τ → rdC u M0 τ M → (∀ M', rdC u M0 (S τ).2 M' → k (S τ).1 M') → P M k
theorem c_loop {T : Int → Int} {L u lev a2 : Int} {M0 : gSt} {rc : Nat → List Int → gSt → (Int → gSt → Prop) → Prop} {kk k : Int → gSt → Prop} {sub : gSt → Int × gSt} (hT : tpC T L M0) (hu : u = 0 ∨ u = 1) (hl : 0 ≤ lev ∧ lev ≤ 4) (hg : good L u sub) (hs : runC u L M0 sub (rc 0 [lev + 1, a2])) : ∀ (n : Nat) (v3 v4 : Int) (τ M : gSt), v3 - v4 = (n : Int) → v3 ≤ 60 → 0 ≤ v4 → pOK L τ → rdC u M0 τ M → (∀ M', rdC u M0 (pLoop T L sub lev n τ).2 M' → k (pLoop T L sub lev n τ).1 M') → wL_X3_readLevel_39 rc 47 lev a2 kk (fun M39 => k 0 M39) (fun M39 => k 1 M39) (n + 1) v3 v4 M := by
  intro n
  induction n with
  | zero =>
    intro v3 v4 τ M hn b3 b4 hp gg h
    unfold wL_X3_readLevel_39 wC_X3_readLevel_39
    rw [wI (x := v3) ⟨by omega, by omega⟩, wI (x := v4) ⟨by omega, by omega⟩]
    exact ⟨fun _ => h M gg, fun z => absurd z (by omega)⟩
  | succ n ih =>
    intro v3 v4 τ M hn b3 b4 hp gg h
    have hp' := hp
    obtain ⟨p1, p2, p3⟩ := hp'
    have t4 := hT.2.2.2.1
    have pi := pkI hT (τ := τ) (by omega)
    unfold pLoop at h
    unfold wL_X3_readLevel_39 wC_X3_readLevel_39
    rw [wI (x := v3) ⟨by omega, by omega⟩, wI (x := v4) ⟨by omega, by omega⟩]
    refine ⟨fun z => absurd z (by omega), fun _ => c_peek hT hp gg (c_lvl pi ?_)⟩
    have lb : -1 ≤ lvl (pk T L τ) ∧ lvl (pk T L τ) ≤ 4 := by unfold lvl; omega
    rw [wI (x := lvl (pk T L τ)) ⟨by omega, by omega⟩, wI (x := lev) ⟨by omega, by omega⟩]
    refine ⟨fun w => ?_, fun w => ?_⟩
    · rw [if_neg w] at h; exact h M gg
    · rw [if_pos w] at h
      have l : τ 0 0 < L := by
        refine pkL (T := T) ?_
        unfold lvl at w
        omega
      have pa : pOK L (adv τ) := ⟨by rw [adv_c]; omega, by rw [adv_c, adv_i]; omega, by rw [adv_i]; omega⟩
      refine c_peek hT hp gg (fun M1 e1 => ?_)
      subst e1
      obtain ⟨q1, q2, q3⟩ := hg (adv τ) pa
      rw [adv_i, adv_c] at q2
      refine hs (adv τ) _ _ pa (rdC_adv gg) (fun M2 g2 => ?_)
      by_cases z : (sub (adv τ)).1 = 0
      · rw [if_pos z] at h
        rw [z]
        exact z0n (h M2 g2)
      · rw [if_neg z] at h
        rcases q3 with q3 | ⟨q3, -⟩
        · exact absurd q3 z
        rw [q3]
        obtain ⟨r1, r2, r3⟩ := q1
        refine z1n (c_emt (L := L) (a := 3) (b := pk T L τ) ⟨r1, by omega⟩ g2 rfl (fun M3 g3 => ?_))
        exact ih v3 (v4 + 1) _ M3 (by omega) b3 (by omega) ⟨by rw [emt_c]; omega, by rw [emt_c, emt_i]; omega, by rw [emt_i]; omega⟩ g3 h
theorem c_lev {T : Int → Int} {L u a2 : Int} {D : Nat} {M0 : gSt} {W : gSt → Int × gSt} (hT : tpC T L M0) (hu : u = 0 ∨ u = 1) (hg : good L u W) (hW : ∀ d, D ≤ d → runC u L M0 W (wg_X3_readLevel 47 d 1 [a2])) : ∀ (n : Nat), n ≤ 5 → ∀ (lev : Int) (d : Nat), lev = 5 - (n : Int) → D + n + 1 ≤ d → runC u L M0 (pLev T L W n) (wg_X3_readLevel 47 d 0 [lev, a2]) := by
  intro n
  induction n with
  | zero =>
    intro hn lev d hl hd τ M k hp gg h
    obtain ⟨d', rfl⟩ : ∃ d', d = d' + 1 := ⟨d - 1, by omega⟩
    show wb_X3_readLevel (wg_X3_readLevel 47 d') 47 lev a2 M k
    unfold wb_X3_readLevel
    rw [wI (x := lev) ⟨by omega, by omega⟩]
    refine ⟨pl_47, fun z => absurd z (by omega), fun _ => hW d' (by omega) τ M _ hp gg (fun M' g' => ⟨?_, h M' g'⟩)⟩
    rcases (hg τ hp).2.2 with e | e
    · exact Or.inl e
    · exact Or.inr e.1
  | succ n ih =>
    intro hn lev d hl hd τ M k hp gg h
    obtain ⟨d', rfl⟩ : ∃ d', d = d' + 1 := ⟨d - 1, by omega⟩
    show wb_X3_readLevel (wg_X3_readLevel 47 d') 47 lev a2 M k
    have gl := good_lev (T := T) hg n (by omega)
    have ih' := ih (by omega) (lev + 1) d' (by omega) (by omega)
    unfold wb_X3_readLevel wB_X3_readLevel_35
    rw [wI (x := lev) ⟨by omega, by omega⟩]
    unfold pLev at h
    refine ⟨pl_47, fun _ => ih' τ M _ hp gg (fun M' g' => ?_), fun z => absurd z (by omega)⟩
    obtain ⟨q1, q2, q3⟩ := gl τ hp
    by_cases z : (pLev T L W n τ).1 = 0
    · rw [if_pos z] at h
      rw [z]
      exact z0n (h M' g')
    · rw [if_neg z] at h
      rcases q3 with q3 | ⟨q3, -⟩
      · exact absurd q3 z
      rw [q3]
      have el : (4 : Int) - (n : Int) = lev := by omega
      rw [el] at h
      refine z1n ⟨fun w => ?_, fun w => ?_⟩
      · rw [if_neg (by omega)] at h
        exact ⟨60 + 1, c_loop hT hu ⟨by omega, by omega⟩ gl ih' 60 60 0 _ M' (by decide) (by decide) (by decide) q1 g' h⟩
      · rw [if_pos (by omega)] at h
        exact ⟨1 + 1, c_loop hT hu ⟨by omega, by omega⟩ gl ih' 1 1 0 _ M' (by decide) (by decide) (by decide) q1 g' h⟩
theorem c_val {T : Int → Int} {L u : Int} {M0 : gSt} (hT : tpC T L M0) (hu : u = 0 ∨ u = 1) : ∀ o : Nat, o ≤ 5 → ∀ (a : Int) (d : Nat), a = 5 - (o : Int) → 8 * o + 1 ≤ d → runC u L M0 (pVal T L u o) (wg_X3_readLevel 47 d 1 [a]) := by
  have nm : ∀ (τ M : gSt) (k : Int → gSt → Prop), pOK L τ → rdC u M0 τ M → isNm u (pk T L τ) → (∀ M', rdC u M0 (emt 1 (pk T L τ) (adv τ)) M' → k 1 M') → w_X3_nameOf 47 (pk T L τ) M (fun r54c M54 => (0 ≤ wrap r54c → ∀ M71 : gSt, M71 = wr M54 47 3 ((M54 47 3) + 1) → (w_X4_append (47 + 3) ((-1) - r54c) 0 0 M71 (fun r83c M83 => k 1 M83))) ∧ (wrap r54c < 0 → k 0 M54)) := by
    intro τ M k hp gg w h
    obtain ⟨p1, p2, p3⟩ := hp
    have t4 := hT.2.2.2.1
    have l : τ 0 0 < L := pkL (T := T) (by omega)
    refine c_name gg.2.1 hu (pkI hT (by omega)) (fun j _ ej bj => ⟨fun _ M1 e1 => ?_, fun z => ?_⟩) (fun z => absurd w z)
    · subst e1
      exact c_emt (L := L) (a := 1) (b := pk T L τ) ⟨by rw [adv_c]; omega, by rw [adv_c]; omega⟩ (rdC_adv gg) ej h
    · rw [wI (x := j) ⟨by omega, by omega⟩] at z; omega
  have nn : ∀ (τ M : gSt) (k : Int → gSt → Prop), pOK L τ → rdC u M0 τ M → ¬ isNm u (pk T L τ) → k 0 M → w_X3_nameOf 47 (pk T L τ) M (fun r54c M54 => (0 ≤ wrap r54c → ∀ M71 : gSt, M71 = wr M54 47 3 ((M54 47 3) + 1) → (w_X4_append (47 + 3) ((-1) - r54c) 0 0 M71 (fun r83c M83 => k 1 M83))) ∧ (wrap r54c < 0 → k 0 M54)) := by
    intro τ M k hp gg w h
    obtain ⟨p1, p2, p3⟩ := hp
    refine c_name gg.2.1 hu (pkI hT (by omega)) (fun j z _ _ => absurd z w) (fun _ => ⟨fun z => absurd z (by decide), fun _ => h⟩)
  have dg : ∀ (τ M : gSt) (k : Int → gSt → Prop), pOK L τ → rdC u M0 τ M → 48 ≤ pk T L τ ∧ pk T L τ ≤ 57 → (∀ M', rdC u M0 (pNum T L 4 0 τ) M' → k 1 M') → w_X3_readNumber 47 M (fun M13 => k 1 M13) := by
    intro τ M k hp gg w h
    obtain ⟨p1, p2, p3⟩ := hp
    have t4 := hT.2.2.2.1
    have l := pkL (T := T) (L := L) (τ := τ) (by omega)
    unfold w_X3_readNumber
    exact ⟨pl_47, 4 + 1, c_num hT 4 0 0 τ M (by decide) (by decide) ⟨p1, p2, p3⟩ (by omega) gg h⟩
  intro o
  induction o with
  | zero =>
    intro ho a d ha hd τ M k hp gg h
    obtain ⟨d', rfl⟩ : ∃ d', d = d' + 1 := ⟨d - 1, by omega⟩
    show wb_X3_readValue (wg_X3_readLevel 47 d') 47 a M k
    have pi := pkI hT (τ := τ) (by have := hp.1; have := hp.2.1; omega)
    unfold pVal at h
    unfold wb_X3_readValue wB_X3_readValue_30
    refine ⟨pl_47, c_peek hT hp gg (c_digit pi (fun w => z1 ?_) (fun w => z0 ?_))⟩
    · rw [if_neg (by omega), if_pos w] at h
      exact dg τ M k hp gg w h
    · rw [wI pi, wI (x := a) ⟨by omega, by omega⟩]
      by_cases w2 : isNm u (pk T L τ)
      · rw [if_pos w2] at h
        exact ⟨fun z => absurd z (by omega), fun _ => ⟨fun _ => nm τ M k hp gg w2 h, fun z => absurd z (by omega)⟩⟩
      · rw [if_neg w2, if_neg w] at h
        exact ⟨fun _ => ⟨fun _ => h M gg, fun z => absurd z (by omega)⟩, fun _ => ⟨fun _ => nn τ M k hp gg w2 (h M gg), fun _ => ⟨fun _ => h M gg, fun z => absurd z (by omega)⟩⟩⟩
  | succ o ih =>
    intro ho a d ha hd τ M k hp gg h
    obtain ⟨d', rfl⟩ : ∃ d', d = d' + 1 + 1 := ⟨d - 2, by omega⟩
    show wb_X3_readValue (wg_X3_readLevel 47 (d' + 1)) 47 a M k
    have t4 := hT.2.2.2.1
    have hp' := hp
    obtain ⟨p1, p2, p3⟩ := hp'
    have pi := pkI hT (τ := τ) (by omega)
    unfold pVal at h
    unfold wb_X3_readValue wB_X3_readValue_30
    refine ⟨pl_47, c_peek hT hp gg (c_digit pi (fun w => z1 ?_) (fun w => z0 ?_))⟩
    · rw [if_neg (by omega), if_pos w] at h
      exact dg τ M k hp gg w h
    · rw [wI pi, wI (x := a) ⟨by omega, by omega⟩]
      by_cases w2 : isNm u (pk T L τ)
      · rw [if_pos w2] at h
        exact ⟨fun z => absurd z (by omega), fun _ => ⟨fun _ => nm τ M k hp gg w2 h, fun z => absurd z (by omega)⟩⟩
      · rw [if_neg w2, if_neg w] at h
        have gv := good_val (T := T) (L := L) (u := u) o
        by_cases w3 : pk T L τ = 33
        · rw [if_pos w3] at h
          have l := pkL (T := T) (L := L) (τ := τ) (by omega)
          have pa : pOK L (adv τ) := ⟨by rw [adv_c]; omega, by rw [adv_c, adv_i]; omega, by rw [adv_i]; omega⟩
          refine ⟨fun _ => ⟨fun z => absurd z (by omega), fun _ => ?_⟩, fun z => absurd w3 z⟩
          rw [wg2]
          unfold wb_X3_readOpened
          refine ⟨pl_47, fun M1 e1 => ?_⟩
          subst e1
          rw [wI pi]
          refine ⟨fun z => absurd w3 z, fun _ => ih (by omega) (a + 1) d' (by omega) (by omega) (adv τ) _ _ pa (rdC_adv gg) (fun M2 g2 => ?_)⟩
          obtain ⟨q1, q2, q3⟩ := gv (adv τ) pa
          rw [adv_i, adv_c] at q2
          by_cases z : (pVal T L u o (adv τ)).1 = 0
          · rw [if_pos z] at h
            rw [z]
            exact z0n (z0 (h M2 g2))
          · rw [if_neg z] at h
            rcases q3 with q3 | ⟨q3, -⟩
            · exact absurd q3 z
            rw [q3]
            obtain ⟨r1, r2, r3⟩ := q1
            exact z1n (c_emt (L := L) (a := 2) (b := 0) ⟨r1, by omega⟩ g2 (by rw [w3]; rfl) (fun M3 g3 => z1 (h M3 g3)))
        · rw [if_neg w3] at h
          by_cases w4 : pk T L τ = 40
          · rw [if_pos w4] at h
            have l := pkL (T := T) (L := L) (τ := τ) (by omega)
            have pa : pOK L (adv τ) := ⟨by rw [adv_c]; omega, by rw [adv_c, adv_i]; omega, by rw [adv_i]; omega⟩
            refine ⟨fun z => absurd z w3, fun _ => ⟨fun z => absurd w4 z, fun _ => ⟨fun z => absurd z (by omega), fun _ => ?_⟩⟩⟩
            rw [wg2]
            unfold wb_X3_readOpened
            refine ⟨pl_47, fun M1 e1 => ?_⟩
            subst e1
            rw [wI pi]
            refine ⟨fun _ => c_lev (T := T) (D := 8 * o + 1) hT hu gv (fun d2 h2 => ih (by omega) (a + 1) d2 (by omega) h2) 5 (by decide) 0 d' (by decide) (by omega) (adv τ) _ _ pa (rdC_adv gg) (fun M2 g2 => ?_), fun z => absurd z w3⟩
            obtain ⟨q1, q2, q3⟩ := good_lev (T := T) gv 5 (by decide) (adv τ) pa
            generalize (pLev T L (pVal T L u o) 5 (adv τ)) = R at q1 q2 q3 h g2 ⊢
            by_cases z : R.1 = 0
            · rw [if_pos z] at h
              rw [z]
              exact z0 (z0 (h M2 g2))
            · rw [if_neg z] at h
              rcases q3 with q3 | ⟨q3, -⟩
              · exact absurd q3 z
              rw [q3]
              refine z1 (c_peek hT q1 g2 ?_)
              rw [wI (pkI hT (by have := q1.1; have := q1.2.1; omega))]
              refine ⟨fun w5 M3 e3 => ?_, fun w5 => ?_⟩
              · rw [if_pos w5] at h
                subst e3
                exact z1 (h _ (rdC_adv g2))
              · rw [if_neg w5] at h
                exact z0 (h M2 g2)
          · rw [if_neg w4] at h
            exact ⟨fun z => absurd z w3, fun _ => ⟨fun _ => nn τ M k hp gg w2 (h M gg), fun z => absurd z w4⟩⟩
end
section
-- the reference's reader: it comes to the abstract one
def tpR (T : Int → Int) (L u : Int) (M : gSt) : Prop := M 1 6 = L ∧ 0 ≤ L ∧ L ≤ 60 ∧ M 0 8 = u ∧ ∀ j, 0 ≤ j → j < L → M 1 (452 + j) = T j ∧ inI (T j)
def rdR (u : Int) (M0 τ M : gSt) : Prop := (∀ p, p ≠ 0 → p ≠ 5 → M p = M0 p) ∧ (∀ j, j ≠ 5 → j ≠ 6 → j ≠ 7 → M 0 j = M0 0 j) ∧ M 0 5 = τ 0 0 ∧ M 0 7 = τ 0 1 ∧ ∀ j, 0 ≤ j → j < τ 0 1 → M 5 (2 * j) = τ 1 j ∧ M 5 (2 * j + 1) = τ 2 j
theorem pkR {T : Int → Int} {L u : Int} {τ M : gSt} (h : tpR T L u M) (h0 : 0 ≤ τ 0 0) : inI (pk T L τ) := by
  unfold pk
  by_cases w : τ 0 0 < L
  · rw [if_pos w]; exact (h.2.2.2.2 _ h0 w).2
  · rw [if_neg w]; constructor <;> decide
theorem r_look {T : Int → Int} {L u : Int} {M0 τ M : gSt} {k : Int → gSt → Prop} (hT : tpR T L u M0) (hp : pOK L τ) (hg : rdR u M0 τ M) (h : k (pk T L τ) M) : w_Rlook M k := by
  obtain ⟨t1, t2, t3, t4, t5⟩ := hT
  obtain ⟨g1, g2, g3, g4, g5⟩ := hg
  obtain ⟨p1, p2, p3⟩ := hp
  have e1 := g1 1 (by decide) (by decide)
  unfold w_Rlook
  rw [e1, t1, g3, wI (x := L) ⟨by omega, by omega⟩, wI (x := τ 0 0) ⟨by omega, by omega⟩]
  unfold pk at h
  refine ⟨fun w => ?_, fun w => ⟨⟨by omega, by omega⟩, ?_⟩⟩
  · rw [if_neg (by omega)] at h; exact h
  · rw [if_pos w] at h
    rw [(t5 _ (by omega) w).1]; exact h
theorem rdR_adv {u : Int} {M0 τ M : gSt} (hg : rdR u M0 τ M) : rdR u M0 (adv τ) (wr M 0 5 (M 0 5 + 1)) := by
  obtain ⟨g1, g2, g3, g4, g5⟩ := hg
  refine ⟨fun p a b => by rw [wrO' a]; exact g1 p a b, fun j a b c => by rw [wrN a]; exact g2 j a b c, by rw [wrI, g3, adv_i], by rw [wrN (by decide), adv_c]; exact g4, fun j a b => ?_⟩
  rw [adv_c] at b
  rw [wrO (by decide), wrO (by decide), adv_o (by decide), adv_o (by decide)]
  exact g5 j a b
theorem rdR_6 {u x : Int} {M0 τ M : gSt} (hg : rdR u M0 τ M) : rdR u M0 τ (wr M 0 6 x) := by
  obtain ⟨g1, g2, g3, g4, g5⟩ := hg
  exact ⟨fun p a b => by rw [wrO' a]; exact g1 p a b, fun j a b c => by rw [wrN b]; exact g2 j a b c, by rw [wrN (by decide)]; exact g3, by rw [wrN (by decide)]; exact g4, fun j a b => by rw [wrO (by decide), wrO (by decide)]; exact g5 j a b⟩
theorem r_emt {u a b : Int} {M0 τ M : gSt} {k : gSt → Prop} (h0 : 0 ≤ τ 0 1 ∧ τ 0 1 < 60) (hg : rdR u M0 τ M) (h : ∀ M', rdR u M0 (emt a b τ) M' → M' 0 6 = M 0 6 → k M') : w_Rlays a b M k := by
  obtain ⟨g1, g2, g3, g4, g5⟩ := hg
  unfold w_Rlays
  rw [g4]
  refine ⟨⟨by omega, by omega⟩, fun M1 e1 => ?_⟩
  have c1 : M1 0 7 = τ 0 1 := by rw [e1, wrO (by decide)]; exact g4
  rw [c1]
  refine ⟨⟨by omega, by omega⟩, fun M2 e2 => ?_⟩
  have c2 : M2 0 7 = τ 0 1 := by rw [e2, wrO (by decide)]; exact c1
  rw [c2]
  intro M3 e3
  refine h M3 ⟨fun p x y => ?_, fun j x y z => ?_, ?_, ?_, fun j x y => ?_⟩ ?_
  · rw [e3, wrO' x, e2, wrO' y, e1, wrO' y]; exact g1 p x y
  · rw [e3, wrN z, e2, wrO (by decide), e1, wrO (by decide)]; exact g2 j x y z
  · rw [e3, wrN (by decide), e2, wrO (by decide), e1, wrO (by decide), emt_i]; exact g3
  · rw [e3, wrI, emt_c]
  · rw [emt_c] at y
    rw [e3, wrO (by decide), wrO (by decide), e2, emt_1, emt_2]
    by_cases hj : j = τ 0 1
    · rw [if_pos hj, if_pos hj, hj]
      exact ⟨by rw [wrN (by omega), e1]; exact wrI, wrI⟩
    · rw [if_neg hj, if_neg hj, wrN (by omega), wrN (by omega), e1, wrN (by omega), wrN (by omega)]
      exact g5 j x (by omega)
  · rw [e3, wrN (by decide), e2, wrO (by decide), e1, wrO (by decide)]
theorem r_name {u c : Int} {M : gSt} {k : Int → gSt → Prop} (hu : M 0 8 = u) (hu' : u = 0 ∨ u = 1) (hc : inI c) (k1 : isNm u c → k 1 M) (k0 : ¬ isNm u c → k 0 M) : w_RisName c M k := by
  unfold w_RisName
  rw [hu, wI hc, wI (x := u) ⟨by omega, by omega⟩]
  refine ⟨fun a => ⟨fun b => ⟨fun d => k1 (by omega), fun d => ⟨fun e => k0 (by omega), fun e => k1 (by omega)⟩⟩, fun b => ⟨fun d => k1 (by omega), fun d => ⟨fun e => k0 (by omega), fun e => k1 (by omega)⟩⟩⟩, fun a => k1 (Or.inl a)⟩
/-- a piece of the reference's reader comes to the abstract one, with o brackets left to open -/
def runR (u L : Int) (M0 : gSt) (o : Int) (S : gSt → Int × gSt) (P : gSt → (Int → gSt → Prop) → Prop) : Prop := ∀ τ M k, pOK L τ → rdR u M0 τ M → M 0 6 = 5 - o → (∀ M', rdR u M0 (S τ).2 M' → ((S τ).1 ≠ 0 → M' 0 6 = 5 - o) → k (S τ).1 M') → P M k
theorem r_num {T : Int → Int} {L u : Int} {M0 : gSt} {rc : Nat → List Int → gSt → (Int → gSt → Prop) → Prop} {k : Int → gSt → Prop} (hT : tpR T L u M0) : ∀ (n : Nat) (x v : Int) (τ M : gSt), n ≤ 4 → v = 4 - (n : Int) → pOK L τ → τ 0 1 < 60 → rdR u M0 τ M → (∀ M', rdR u M0 (pNum T L n x τ) M' → M' 0 6 = M 0 6 → k 1 M') → wL_Rone_46 rc k (fun u2_46 M46 => wB_Rone_94 rc k u2_46 M46) (n + 1) x v M := by
  intro n
  induction n with
  | zero =>
    intro x v τ M hn hv hp hc hg h
    unfold wL_Rone_46 wC_Rone_46 wB_Rone_94
    rw [wI (x := v) ⟨by omega, by omega⟩]
    exact ⟨fun _ => r_emt ⟨hp.1, hc⟩ hg h, fun z => absurd z (by omega)⟩
  | succ n ih =>
    intro x v τ M hn hv hp hc hg h
    have hp' := hp
    obtain ⟨p1, p2, p3⟩ := hp'
    have pi := pkR hT (τ := τ) (by omega)
    unfold pNum at h
    unfold wL_Rone_46 wC_Rone_46
    rw [wI (x := v) ⟨by omega, by omega⟩]
    refine ⟨fun z => absurd z (by omega), fun _ => r_look hT hp hg (sp_Rin pi (by constructor <;> decide) (by constructor <;> decide) (fun w => z1 ?_) (fun w => z0 ?_))⟩
    · rw [if_pos w] at h
      have l := pkL (T := T) (L := L) (τ := τ) (by omega)
      refine r_look hT hp hg (fun x1 e1 M1 e2 => ?_)
      subst e1; subst e2
      exact ih _ _ (adv τ) _ (by omega) (by omega) ⟨by rw [adv_c]; omega, by rw [adv_c, adv_i]; omega, by rw [adv_i]; omega⟩ (by rw [adv_c]; exact hc) (rdR_adv hg) (fun M' g' o' => h M' g' (o'.trans (wrN (by decide))))
    · rw [if_neg w] at h
      unfold wB_Rone_94
      exact r_emt ⟨p1, hc⟩ hg h
theorem r_lpwhole {T : Int → Int} {L u o : Int} {M0 : gSt} {rc : Nat → List Int → gSt → (Int → gSt → Prop) → Prop} {kk k : Int → gSt → Prop} {sub : gSt → Int × gSt} (hT : tpR T L u M0) (hg : good L u sub) (hs : runR u L M0 o sub (rc 1 [])) : ∀ (n : Nat) (τ M : gSt), L - τ 0 0 ≤ (n : Int) → pOK L τ → rdR u M0 τ M → M 0 6 = 5 - o → (∀ M', rdR u M0 (pLoop T L sub 0 n τ).2 M' → ((pLoop T L sub 0 n τ).1 ≠ 0 → M' 0 6 = 5 - o) → k (pLoop T L sub 0 n τ).1 M') → wL_Rwhole_9 rc kk (fun M9 => k 0 M9) (fun M9 => k 1 M9) (n + 1) M := by
  intro n
  induction n with
  | zero =>
    intro τ M hn hp gg ho h
    have pe : pk T L τ = -1 := by unfold pk; rw [if_neg (by omega)]
    unfold wL_Rwhole_9 wC_Rwhole_9
    refine r_look hT hp gg ?_
    rw [pe]
    exact ⟨fun _ => h M gg (fun _ => ho), fun z => absurd z (by decide)⟩
  | succ n ih =>
    intro τ M hn hp gg ho h
    have hp' := hp
    obtain ⟨p1, p2, p3⟩ := hp'
    have t4 := hT.2.2.1
    have pi := pkR hT (τ := τ) (by omega)
    unfold pLoop at h
    unfold wL_Rwhole_9 wC_Rwhole_9
    refine r_look hT hp gg ?_
    rw [wI pi]
    have out : ¬ lvl (pk T L τ) = 0 → k 1 M := fun w => by
      rw [if_neg w] at h; exact h M gg (fun _ => ho)
    have go : lvl (pk T L τ) = 0 → rc 1 [] (wr M 0 5 (M 0 5 + 1)) (fun r M2 => (¬ wrap r = 0 → w_Rlays 3 (pk T L τ) M2 (fun M3 => wL_Rwhole_9 rc kk (fun M9 => k 0 M9) (fun M9 => k 1 M9) (n + 1) M3)) ∧ (wrap r = 0 → k 0 M2)) := fun w => by
      rw [if_pos w] at h
      have l : τ 0 0 < L := by
        refine pkL (T := T) ?_
        unfold lvl at w
        omega
      have pa : pOK L (adv τ) := ⟨by rw [adv_c]; omega, by rw [adv_c, adv_i]; omega, by rw [adv_i]; omega⟩
      obtain ⟨q1, q2, q3⟩ := hg (adv τ) pa
      rw [adv_i, adv_c] at q2
      refine hs (adv τ) _ _ pa (rdR_adv gg) ((wrN (by decide)).trans ho) (fun M2 g2 o2 => ?_)
      by_cases z : (sub (adv τ)).1 = 0
      · rw [if_pos z] at h
        rw [z]
        exact z0n (h M2 g2 (fun q => absurd rfl q))
      · rw [if_neg z] at h
        rcases q3 with q3 | ⟨q3, -⟩
        · exact absurd q3 z
        rw [q3]
        obtain ⟨r1, r2, r3⟩ := q1
        refine z1n (r_emt (u := u) (M0 := M0) ⟨r1, by omega⟩ g2 (fun M3 g3 o3 => ?_))
        exact ih _ M3 (by rw [emt_i]; omega) ⟨by rw [emt_c]; omega, by rw [emt_c, emt_i]; omega, by rw [emt_i]; omega⟩ g3 (o3.trans (o2 z)) h
    exact ⟨fun z => out (by unfold lvl; omega), fun z M1 e1 => by subst e1; rw [z] at go; exact go (by decide)⟩
theorem r_lpboth {T : Int → Int} {L u o : Int} {M0 : gSt} {rc : Nat → List Int → gSt → (Int → gSt → Prop) → Prop} {kk k : Int → gSt → Prop} {sub : gSt → Int × gSt} (hT : tpR T L u M0) (hg : good L u sub) (hs : runR u L M0 o sub (rc 2 [])) : ∀ (n : Nat) (τ M : gSt), L - τ 0 0 ≤ (n : Int) → pOK L τ → rdR u M0 τ M → M 0 6 = 5 - o → (∀ M', rdR u M0 (pLoop T L sub 1 n τ).2 M' → ((pLoop T L sub 1 n τ).1 ≠ 0 → M' 0 6 = 5 - o) → k (pLoop T L sub 1 n τ).1 M') → wL_Rboth_9 rc kk (fun M9 => k 0 M9) (fun M9 => k 1 M9) (n + 1) M := by
  intro n
  induction n with
  | zero =>
    intro τ M hn hp gg ho h
    have pe : pk T L τ = -1 := by unfold pk; rw [if_neg (by omega)]
    unfold wL_Rboth_9 wC_Rboth_9
    refine r_look hT hp gg ?_
    rw [pe]
    exact ⟨fun _ => h M gg (fun _ => ho), fun z => absurd z (by decide)⟩
  | succ n ih =>
    intro τ M hn hp gg ho h
    have hp' := hp
    obtain ⟨p1, p2, p3⟩ := hp'
    have t4 := hT.2.2.1
    have pi := pkR hT (τ := τ) (by omega)
    unfold pLoop at h
    unfold wL_Rboth_9 wC_Rboth_9
    refine r_look hT hp gg ?_
    rw [wI pi]
    have out : ¬ lvl (pk T L τ) = 1 → k 1 M := fun w => by
      rw [if_neg w] at h; exact h M gg (fun _ => ho)
    have go : lvl (pk T L τ) = 1 → rc 2 [] (wr M 0 5 (M 0 5 + 1)) (fun r M2 => (¬ wrap r = 0 → w_Rlays 3 (pk T L τ) M2 (fun M3 => wL_Rboth_9 rc kk (fun M9 => k 0 M9) (fun M9 => k 1 M9) (n + 1) M3)) ∧ (wrap r = 0 → k 0 M2)) := fun w => by
      rw [if_pos w] at h
      have l : τ 0 0 < L := by
        refine pkL (T := T) ?_
        unfold lvl at w
        omega
      have pa : pOK L (adv τ) := ⟨by rw [adv_c]; omega, by rw [adv_c, adv_i]; omega, by rw [adv_i]; omega⟩
      obtain ⟨q1, q2, q3⟩ := hg (adv τ) pa
      rw [adv_i, adv_c] at q2
      refine hs (adv τ) _ _ pa (rdR_adv gg) ((wrN (by decide)).trans ho) (fun M2 g2 o2 => ?_)
      by_cases z : (sub (adv τ)).1 = 0
      · rw [if_pos z] at h
        rw [z]
        exact z0n (h M2 g2 (fun q => absurd rfl q))
      · rw [if_neg z] at h
        rcases q3 with q3 | ⟨q3, -⟩
        · exact absurd q3 z
        rw [q3]
        obtain ⟨r1, r2, r3⟩ := q1
        refine z1n (r_emt (u := u) (M0 := M0) ⟨r1, by omega⟩ g2 (fun M3 g3 o3 => ?_))
        exact ih _ M3 (by rw [emt_i]; omega) ⟨by rw [emt_c]; omega, by rw [emt_c, emt_i]; omega, by rw [emt_i]; omega⟩ g3 (o3.trans (o2 z)) h
    exact ⟨fun z => out (by unfold lvl; omega), fun z M1 e1 => by subst e1; rw [z] at go; exact go (by decide)⟩
theorem r_lpsum {T : Int → Int} {L u o : Int} {M0 : gSt} {rc : Nat → List Int → gSt → (Int → gSt → Prop) → Prop} {kk k : Int → gSt → Prop} {sub : gSt → Int × gSt} (hT : tpR T L u M0) (hg : good L u sub) (hs : runR u L M0 o sub (rc 4 [])) : ∀ (n : Nat) (τ M : gSt), L - τ 0 0 ≤ (n : Int) → pOK L τ → rdR u M0 τ M → M 0 6 = 5 - o → (∀ M', rdR u M0 (pLoop T L sub 3 n τ).2 M' → ((pLoop T L sub 3 n τ).1 ≠ 0 → M' 0 6 = 5 - o) → k (pLoop T L sub 3 n τ).1 M') → wL_Rsum_9 rc kk (fun M9 => k 0 M9) (fun M9 => k 1 M9) (n + 1) M := by
  intro n
  induction n with
  | zero =>
    intro τ M hn hp gg ho h
    have pe : pk T L τ = -1 := by unfold pk; rw [if_neg (by omega)]
    unfold wL_Rsum_9 wC_Rsum_9
    refine r_look hT hp gg ?_
    rw [pe]
    refine ⟨fun z => absurd z (by decide), fun _ => r_look hT hp gg ?_⟩
    rw [pe]
    exact ⟨fun _ => h M gg (fun _ => ho), fun z => absurd z (by decide)⟩
  | succ n ih =>
    intro τ M hn hp gg ho h
    have hp' := hp
    obtain ⟨p1, p2, p3⟩ := hp'
    have t4 := hT.2.2.1
    have pi := pkR hT (τ := τ) (by omega)
    unfold pLoop at h
    unfold wL_Rsum_9 wC_Rsum_9
    refine r_look hT hp gg ?_
    rw [wI pi]
    have out : ¬ lvl (pk T L τ) = 3 → k 1 M := fun w => by
      rw [if_neg w] at h; exact h M gg (fun _ => ho)
    have go : lvl (pk T L τ) = 3 → rc 4 [] (wr M 0 5 (M 0 5 + 1)) (fun r M2 => (¬ wrap r = 0 → w_Rlays 3 (pk T L τ) M2 (fun M3 => wL_Rsum_9 rc kk (fun M9 => k 0 M9) (fun M9 => k 1 M9) (n + 1) M3)) ∧ (wrap r = 0 → k 0 M2)) := fun w => by
      rw [if_pos w] at h
      have l : τ 0 0 < L := by
        refine pkL (T := T) ?_
        unfold lvl at w
        omega
      have pa : pOK L (adv τ) := ⟨by rw [adv_c]; omega, by rw [adv_c, adv_i]; omega, by rw [adv_i]; omega⟩
      obtain ⟨q1, q2, q3⟩ := hg (adv τ) pa
      rw [adv_i, adv_c] at q2
      refine hs (adv τ) _ _ pa (rdR_adv gg) ((wrN (by decide)).trans ho) (fun M2 g2 o2 => ?_)
      by_cases z : (sub (adv τ)).1 = 0
      · rw [if_pos z] at h
        rw [z]
        exact z0n (h M2 g2 (fun q => absurd rfl q))
      · rw [if_neg z] at h
        rcases q3 with q3 | ⟨q3, -⟩
        · exact absurd q3 z
        rw [q3]
        obtain ⟨r1, r2, r3⟩ := q1
        refine z1n (r_emt (u := u) (M0 := M0) ⟨r1, by omega⟩ g2 (fun M3 g3 o3 => ?_))
        exact ih _ M3 (by rw [emt_i]; omega) ⟨by rw [emt_c]; omega, by rw [emt_c, emt_i]; omega, by rw [emt_i]; omega⟩ g3 (o3.trans (o2 z)) h
    have go2 : lvl (pk T L τ) = 3 → wB_Rsum_27 rc kk (wL_Rsum_9 rc kk (fun M9 => k 0 M9) (fun M9 => k 1 M9) (n + 1)) (fun M9 => k 0 M9) (fun M9 => k 1 M9) M := fun w => by
      unfold wB_Rsum_27
      refine r_look hT hp gg (fun M1 e1 => ?_)
      subst e1
      exact go w
    refine ⟨fun z => go2 (by unfold lvl; omega), fun z1 => r_look hT hp gg ?_⟩
    rw [wI pi]
    exact ⟨fun z => out (by unfold lvl; omega), fun z => go2 (by unfold lvl; omega)⟩
theorem r_lpproduct {T : Int → Int} {L u o : Int} {M0 : gSt} {rc : Nat → List Int → gSt → (Int → gSt → Prop) → Prop} {kk k : Int → gSt → Prop} {sub : gSt → Int × gSt} (hT : tpR T L u M0) (hg : good L u sub) (hs : runR u L M0 o sub (rc 5 [])) : ∀ (n : Nat) (τ M : gSt), L - τ 0 0 ≤ (n : Int) → pOK L τ → rdR u M0 τ M → M 0 6 = 5 - o → (∀ M', rdR u M0 (pLoop T L sub 4 n τ).2 M' → ((pLoop T L sub 4 n τ).1 ≠ 0 → M' 0 6 = 5 - o) → k (pLoop T L sub 4 n τ).1 M') → wL_Rproduct_9 rc kk (fun M9 => k 0 M9) (fun M9 => k 1 M9) (n + 1) M := by
  intro n
  induction n with
  | zero =>
    intro τ M hn hp gg ho h
    have pe : pk T L τ = -1 := by unfold pk; rw [if_neg (by omega)]
    unfold wL_Rproduct_9 wC_Rproduct_9
    refine r_look hT hp gg ?_
    rw [pe]
    refine ⟨fun z => absurd z (by decide), fun _ => r_look hT hp gg ?_⟩
    rw [pe]
    refine ⟨fun z => absurd z (by decide), fun _ => r_look hT hp gg ?_⟩
    rw [pe]
    exact ⟨fun _ => h M gg (fun _ => ho), fun z => absurd z (by decide)⟩
  | succ n ih =>
    intro τ M hn hp gg ho h
    have hp' := hp
    obtain ⟨p1, p2, p3⟩ := hp'
    have t4 := hT.2.2.1
    have pi := pkR hT (τ := τ) (by omega)
    unfold pLoop at h
    unfold wL_Rproduct_9 wC_Rproduct_9
    refine r_look hT hp gg ?_
    rw [wI pi]
    have out : ¬ lvl (pk T L τ) = 4 → k 1 M := fun w => by
      rw [if_neg w] at h; exact h M gg (fun _ => ho)
    have go : lvl (pk T L τ) = 4 → rc 5 [] (wr M 0 5 (M 0 5 + 1)) (fun r M2 => (¬ wrap r = 0 → w_Rlays 3 (pk T L τ) M2 (fun M3 => wL_Rproduct_9 rc kk (fun M9 => k 0 M9) (fun M9 => k 1 M9) (n + 1) M3)) ∧ (wrap r = 0 → k 0 M2)) := fun w => by
      rw [if_pos w] at h
      have l : τ 0 0 < L := by
        refine pkL (T := T) ?_
        unfold lvl at w
        omega
      have pa : pOK L (adv τ) := ⟨by rw [adv_c]; omega, by rw [adv_c, adv_i]; omega, by rw [adv_i]; omega⟩
      obtain ⟨q1, q2, q3⟩ := hg (adv τ) pa
      rw [adv_i, adv_c] at q2
      refine hs (adv τ) _ _ pa (rdR_adv gg) ((wrN (by decide)).trans ho) (fun M2 g2 o2 => ?_)
      by_cases z : (sub (adv τ)).1 = 0
      · rw [if_pos z] at h
        rw [z]
        exact z0n (h M2 g2 (fun q => absurd rfl q))
      · rw [if_neg z] at h
        rcases q3 with q3 | ⟨q3, -⟩
        · exact absurd q3 z
        rw [q3]
        obtain ⟨r1, r2, r3⟩ := q1
        refine z1n (r_emt (u := u) (M0 := M0) ⟨r1, by omega⟩ g2 (fun M3 g3 o3 => ?_))
        exact ih _ M3 (by rw [emt_i]; omega) ⟨by rw [emt_c]; omega, by rw [emt_c, emt_i]; omega, by rw [emt_i]; omega⟩ g3 (o3.trans (o2 z)) h
    have go2 : lvl (pk T L τ) = 4 → wB_Rproduct_36 rc kk (wL_Rproduct_9 rc kk (fun M9 => k 0 M9) (fun M9 => k 1 M9) (n + 1)) (fun M9 => k 0 M9) (fun M9 => k 1 M9) M := fun w => by
      unfold wB_Rproduct_36
      refine r_look hT hp gg (fun M1 e1 => ?_)
      subst e1
      exact go w
    refine ⟨fun z => go2 (by unfold lvl; omega), fun z1 => r_look hT hp gg ?_⟩
    rw [wI pi]
    refine ⟨fun z => go2 (by unfold lvl; omega), fun z2 => r_look hT hp gg ?_⟩
    rw [wI pi]
    exact ⟨fun z => out (by unfold lvl; omega), fun z => go2 (by unfold lvl; omega)⟩
theorem r_stwhole {T : Int → Int} {L u o : Int} {D : Nat} {M0 : gSt} {S R : gSt → Int × gSt} (hT : tpR T L u M0) (hR : ∀ τ, R τ = if (S τ).1 = 0 then (0, (S τ).2) else pLoop T L S 0 60 (S τ).2) (hg : good L u S) (hs : ∀ d, D ≤ d → runR u L M0 o S (wg_Rparse d 1 [])) : ∀ d, D + 1 ≤ d → runR u L M0 o R (wg_Rparse d 0 []) := by
  intro d hd τ M k hp gg ho h
  obtain ⟨d', rfl⟩ : ∃ d', d = d' + 1 := ⟨d - 1, by omega⟩
  show wb_Rwhole (wg_Rparse d') M k
  rw [hR] at h
  unfold wb_Rwhole
  refine hs d' (by omega) τ M _ hp gg ho (fun M' g' o' => ?_)
  obtain ⟨q1, q2, q3⟩ := hg τ hp
  by_cases z : (S τ).1 = 0
  · rw [if_pos z] at h
    rw [z]
    exact z0n (h M' g' (fun q => absurd rfl q))
  · rw [if_neg z] at h
    rcases q3 with q3 | ⟨q3, -⟩
    · exact absurd q3 z
    rw [q3]
    have t4 := hT.2.2.1
    obtain ⟨p1, p2, p3⟩ := hp
    exact z1n ⟨60 + 1, r_lpwhole hT hg (hs d' (by omega)) 60 _ M' (by have := q1.1; have := q1.2.1; omega) q1 g' (o' z) h⟩
theorem r_stboth {T : Int → Int} {L u o : Int} {D : Nat} {M0 : gSt} {S R : gSt → Int × gSt} (hT : tpR T L u M0) (hR : ∀ τ, R τ = if (S τ).1 = 0 then (0, (S τ).2) else pLoop T L S 1 60 (S τ).2) (hg : good L u S) (hs : ∀ d, D ≤ d → runR u L M0 o S (wg_Rparse d 2 [])) : ∀ d, D + 1 ≤ d → runR u L M0 o R (wg_Rparse d 1 []) := by
  intro d hd τ M k hp gg ho h
  obtain ⟨d', rfl⟩ : ∃ d', d = d' + 1 := ⟨d - 1, by omega⟩
  show wb_Rboth (wg_Rparse d') M k
  rw [hR] at h
  unfold wb_Rboth
  refine hs d' (by omega) τ M _ hp gg ho (fun M' g' o' => ?_)
  obtain ⟨q1, q2, q3⟩ := hg τ hp
  by_cases z : (S τ).1 = 0
  · rw [if_pos z] at h
    rw [z]
    exact z0n (h M' g' (fun q => absurd rfl q))
  · rw [if_neg z] at h
    rcases q3 with q3 | ⟨q3, -⟩
    · exact absurd q3 z
    rw [q3]
    have t4 := hT.2.2.1
    obtain ⟨p1, p2, p3⟩ := hp
    exact z1n ⟨60 + 1, r_lpboth hT hg (hs d' (by omega)) 60 _ M' (by have := q1.1; have := q1.2.1; omega) q1 g' (o' z) h⟩
theorem r_stsum {T : Int → Int} {L u o : Int} {D : Nat} {M0 : gSt} {S R : gSt → Int × gSt} (hT : tpR T L u M0) (hR : ∀ τ, R τ = if (S τ).1 = 0 then (0, (S τ).2) else pLoop T L S 3 60 (S τ).2) (hg : good L u S) (hs : ∀ d, D ≤ d → runR u L M0 o S (wg_Rparse d 4 [])) : ∀ d, D + 1 ≤ d → runR u L M0 o R (wg_Rparse d 3 []) := by
  intro d hd τ M k hp gg ho h
  obtain ⟨d', rfl⟩ : ∃ d', d = d' + 1 := ⟨d - 1, by omega⟩
  show wb_Rsum (wg_Rparse d') M k
  rw [hR] at h
  unfold wb_Rsum
  refine hs d' (by omega) τ M _ hp gg ho (fun M' g' o' => ?_)
  obtain ⟨q1, q2, q3⟩ := hg τ hp
  by_cases z : (S τ).1 = 0
  · rw [if_pos z] at h
    rw [z]
    exact z0n (h M' g' (fun q => absurd rfl q))
  · rw [if_neg z] at h
    rcases q3 with q3 | ⟨q3, -⟩
    · exact absurd q3 z
    rw [q3]
    have t4 := hT.2.2.1
    obtain ⟨p1, p2, p3⟩ := hp
    exact z1n ⟨60 + 1, r_lpsum hT hg (hs d' (by omega)) 60 _ M' (by have := q1.1; have := q1.2.1; omega) q1 g' (o' z) h⟩
theorem r_stproduct {T : Int → Int} {L u o : Int} {D : Nat} {M0 : gSt} {S R : gSt → Int × gSt} (hT : tpR T L u M0) (hR : ∀ τ, R τ = if (S τ).1 = 0 then (0, (S τ).2) else pLoop T L S 4 60 (S τ).2) (hg : good L u S) (hs : ∀ d, D ≤ d → runR u L M0 o S (wg_Rparse d 5 [])) : ∀ d, D + 1 ≤ d → runR u L M0 o R (wg_Rparse d 4 []) := by
  intro d hd τ M k hp gg ho h
  obtain ⟨d', rfl⟩ : ∃ d', d = d' + 1 := ⟨d - 1, by omega⟩
  show wb_Rproduct (wg_Rparse d') M k
  rw [hR] at h
  unfold wb_Rproduct
  refine hs d' (by omega) τ M _ hp gg ho (fun M' g' o' => ?_)
  obtain ⟨q1, q2, q3⟩ := hg τ hp
  by_cases z : (S τ).1 = 0
  · rw [if_pos z] at h
    rw [z]
    exact z0n (h M' g' (fun q => absurd rfl q))
  · rw [if_neg z] at h
    rcases q3 with q3 | ⟨q3, -⟩
    · exact absurd q3 z
    rw [q3]
    have t4 := hT.2.2.1
    obtain ⟨p1, p2, p3⟩ := hp
    exact z1n ⟨60 + 1, r_lpproduct hT hg (hs d' (by omega)) 60 _ M' (by have := q1.1; have := q1.2.1; omega) q1 g' (o' z) h⟩
theorem r_stcompared {T : Int → Int} {L u o : Int} {D : Nat} {M0 : gSt} {S R : gSt → Int × gSt} (hT : tpR T L u M0) (hR : ∀ τ, R τ = if (S τ).1 = 0 then (0, (S τ).2) else pLoop T L S 2 1 (S τ).2) (hg : good L u S) (hs : ∀ d, D ≤ d → runR u L M0 o S (wg_Rparse d 3 [])) : ∀ d, D + 1 ≤ d → runR u L M0 o R (wg_Rparse d 2 []) := by
  intro d hd τ M k hp gg ho h
  obtain ⟨d', rfl⟩ : ∃ d', d = d' + 1 := ⟨d - 1, by omega⟩
  show wb_Rcompared (wg_Rparse d') M k
  rw [hR] at h
  unfold wb_Rcompared
  refine hs d' (by omega) τ M _ hp gg ho (fun M' g' o' => ?_)
  obtain ⟨q1, q2, q3⟩ := hg τ hp
  by_cases z : (S τ).1 = 0
  · rw [if_pos z] at h
    rw [z]
    exact z0n (h M' g' (fun q => absurd rfl q))
  · rw [if_neg z] at h
    rcases q3 with q3 | ⟨q3, -⟩
    · exact absurd q3 z
    rw [q3]
    have t4 := hT.2.2.1
    have q1' := q1
    obtain ⟨r1, r2, r3⟩ := q1'
    have pi := pkR hT (τ := (S τ).2) (by omega)
    refine z1n (r_look hT q1 g' ?_)
    rw [wI pi]
    unfold pLoop at h
    have go : lvl (pk T L (S τ).2) = 2 → wB_Rcompared_34 (wg_Rparse d') k (pk T L (S τ).2) M' := fun w => by
      rw [if_pos w] at h
      have l : (S τ).2 0 0 < L := by
        refine pkL (T := T) ?_
        unfold lvl at w
        omega
      have pa : pOK L (adv (S τ).2) := ⟨by rw [adv_c]; omega, by rw [adv_c, adv_i]; omega, by rw [adv_i]; omega⟩
      obtain ⟨s1, s2, s3⟩ := hg (adv (S τ).2) pa
      rw [adv_i, adv_c] at s2
      unfold wB_Rcompared_34
      intro M1 e1
      subst e1
      refine hs d' (by omega) (adv (S τ).2) _ _ pa (rdR_adv g') ((wrN (by decide)).trans (o' z)) (fun M2 g2 o2 => ?_)
      by_cases z2 : (S (adv (S τ).2)).1 = 0
      · rw [if_pos z2] at h
        rw [z2]
        exact z0n (h M2 g2 (fun q => absurd rfl q))
      · rw [if_neg z2] at h
        rcases s3 with s3 | ⟨s3, -⟩
        · exact absurd s3 z2
        rw [s3]
        obtain ⟨v1, v2, v3⟩ := s1
        exact z1n (r_emt (u := u) (M0 := M0) ⟨v1, by omega⟩ g2 (fun M3 g3 o3 => h M3 g3 (fun _ => o3.trans (o2 z2))))
    have out : ¬ lvl (pk T L (S τ).2) = 2 → k 1 M' := fun w => by
      rw [if_neg w] at h; exact h M' g' (fun _ => o' z)
    exact ⟨fun z => go (by unfold lvl; omega), fun z1 => ⟨fun z => go (by unfold lvl; omega), fun z2 => ⟨fun z => go (by unfold lvl; omega), fun z3 => out (by unfold lvl; omega)⟩⟩⟩
theorem r_lev {T : Int → Int} {L u o : Int} {D : Nat} {M0 : gSt} {W : gSt → Int × gSt} (hT : tpR T L u M0) (hg : good L u W) (hW : ∀ d, D ≤ d → runR u L M0 o W (wg_Rparse d 5 [])) : ∀ d, D + 5 ≤ d → runR u L M0 o (pLev T L W 5) (wg_Rparse d 0 []) := by
  have s1 := r_stproduct (R := pLev T L W 1) hT (fun τ => rfl) hg hW
  have s2 := r_stsum (R := pLev T L W 2) hT (fun τ => rfl) (good_lev hg 1 (by decide)) s1
  have s3 := r_stcompared (R := pLev T L W 3) hT (fun τ => rfl) (good_lev hg 2 (by decide)) s2
  have s4 := r_stboth (R := pLev T L W 4) hT (fun τ => rfl) (good_lev hg 3 (by decide)) s3
  exact r_stwhole (R := pLev T L W 5) hT (fun τ => rfl) (good_lev hg 4 (by decide)) s4
theorem wgR5 {d : Nat} {M : gSt} {k : Int → gSt → Prop} : wg_Rparse (d + 1) 5 [] M k = wb_Rone (wg_Rparse d) M k := rfl
theorem r_val {T : Int → Int} {L u : Int} {M0 : gSt} (hT : tpR T L u M0) (hu : u = 0 ∨ u = 1) : ∀ o : Nat, o ≤ 5 → ∀ d : Nat, 6 * o + 1 ≤ d → runR u L M0 (o : Int) (pVal T L u o) (wg_Rparse d 5 []) := by
  have t4 := hT.2.2.1
  intro o
  induction o with
  | zero =>
    intro ho d hd τ M k hp gg o6 h
    obtain ⟨d', rfl⟩ : ∃ d', d = d' + 1 := ⟨d - 1, by omega⟩
    rw [wgR5]
    have hp' := hp
    obtain ⟨p1, p2, p3⟩ := hp'
    have pi := pkR hT (τ := τ) (by omega)
    have e8 : M 0 8 = u := (gg.2.1 8 (by decide) (by decide) (by decide)).trans hT.2.2.2.1
    unfold pVal at h
    unfold wb_Rone
    refine r_look hT hp gg (r_name e8 hu pi (fun w => z1 (fun M1 e1 => ?_)) (fun w => z0 (sp_Rin pi (by constructor <;> decide) (by constructor <;> decide) (fun w2 => z1 ?_) (fun w2 => z0 ?_))))
    · subst e1
      rw [if_pos w] at h
      have l := pkL (T := T) (L := L) (τ := τ) (by omega)
      exact r_emt ⟨by rw [adv_c]; omega, by rw [adv_c]; omega⟩ (rdR_adv gg) (fun M' g' o' => h M' g' (fun _ => o'.trans ((wrN (by decide)).trans o6)))
    · rw [if_neg w, if_pos w2] at h
      have l := pkL (T := T) (L := L) (τ := τ) (by omega)
      exact ⟨4 + 1, r_num hT 4 0 0 τ M (by decide) (by decide) hp (by omega) gg (fun M' g' o' => h M' g' (fun _ => o'.trans o6))⟩
    · rw [if_neg w, if_neg w2] at h
      have h0 := h M gg (fun q => absurd rfl q)
      rw [wI pi]
      have op : w_Ropens M (fun r109c M109 => (wrap r109c = 0 → k 0 M109) ∧ (¬ wrap r109c = 0 → False)) := by
        unfold w_Ropens
        rw [o6]
        exact ⟨fun z => absurd (by decide) z, fun _ => z0 h0⟩
      unfold w_Ropens at op ⊢
      rw [o6] at op ⊢
      exact ⟨fun _ => ⟨fun _ => h0, fun _ => ⟨fun z => absurd (by decide) z, fun _ => z0 h0⟩⟩, fun _ => ⟨fun z => absurd (by decide) z, fun _ => z0 h0⟩⟩
  | succ o ih =>
    intro ho d hd τ M k hp gg o6 h
    obtain ⟨d', rfl⟩ : ∃ d', d = d' + 1 := ⟨d - 1, by omega⟩
    rw [wgR5]
    have hp' := hp
    obtain ⟨p1, p2, p3⟩ := hp'
    have pi := pkR hT (τ := τ) (by omega)
    have e8 : M 0 8 = u := (gg.2.1 8 (by decide) (by decide) (by decide)).trans hT.2.2.2.1
    have gv := good_val (T := T) (L := L) (u := u) o
    unfold pVal at h
    unfold wb_Rone
    refine r_look hT hp gg (r_name e8 hu pi (fun w => z1 (fun M1 e1 => ?_)) (fun w => z0 (sp_Rin pi (by constructor <;> decide) (by constructor <;> decide) (fun w2 => z1 ?_) (fun w2 => z0 ?_))))
    · subst e1
      rw [if_pos w] at h
      have l := pkL (T := T) (L := L) (τ := τ) (by omega)
      exact r_emt ⟨by rw [adv_c]; omega, by rw [adv_c]; omega⟩ (rdR_adv gg) (fun M' g' o' => h M' g' (fun _ => o'.trans ((wrN (by decide)).trans o6)))
    · rw [if_neg w, if_pos w2] at h
      have l := pkL (T := T) (L := L) (τ := τ) (by omega)
      exact ⟨4 + 1, r_num hT 4 0 0 τ M (by decide) (by decide) hp (by omega) gg (fun M' g' o' => h M' g' (fun _ => o'.trans o6))⟩
    · rw [if_neg w, if_neg w2] at h
      rw [wI pi]
      have n5 : ¬ wrap (M 0 6) = 5 := by rw [o6, wI ⟨by omega, by omega⟩]; omega
      have opn : ∀ kk : Int → gSt → Prop, (∀ M2, rdR u M0 (adv τ) M2 → M2 0 6 = 5 - (o : Int) → kk 1 M2) → w_Ropens M kk := fun kk hk => by
        unfold w_Ropens
        refine ⟨fun _ M1 e1 M2 e2 => ?_, fun z => absurd z n5⟩
        subst e1; subst e2
        exact hk _ (rdR_adv (rdR_6 gg)) (by rw [wrN (by decide), wrI, o6]; omega)
      refine ⟨fun w3 => ⟨fun w4 => ?_, fun w4 => ?_⟩, fun w3 => ?_⟩
      · rw [if_neg w3, if_neg w4] at h
        exact h M gg (fun q => absurd rfl q)
      · rw [if_neg w3, if_pos w4] at h
        have l := pkL (T := T) (L := L) (τ := τ) (by omega)
        have pa : pOK L (adv τ) := ⟨by rw [adv_c]; omega, by rw [adv_c, adv_i]; omega, by rw [adv_i]; omega⟩
        refine opn _ (fun M2 g2 o2 => z1 (r_lev (T := T) (D := 6 * o + 1) hT gv (fun d2 h2 => ih (by omega) d2 h2) d' (by omega) (adv τ) M2 _ pa g2 o2 (fun M3 g3 o3 => ?_)))
        obtain ⟨q1, q2, q3⟩ := good_lev (T := T) gv 5 (by decide) (adv τ) pa
        generalize (pLev T L (pVal T L u o) 5 (adv τ)) = R at q1 q2 q3 h g3 o3 ⊢
        by_cases z : R.1 = 0
        · rw [if_pos z] at h
          rw [z]
          exact z0 (h M3 g3 (fun q => absurd rfl q))
        · rw [if_neg z] at h
          rcases q3 with q3 | ⟨q3, -⟩
          · exact absurd q3 z
          rw [q3]
          refine z1 (r_look hT q1 g3 ?_)
          rw [wI (pkR hT (by have := q1.1; have := q1.2.1; omega))]
          refine ⟨fun w5 M4 e4 M5 e5 => ?_, fun w5 => ?_⟩
          · rw [if_pos w5] at h
            subst e4; subst e5
            exact h _ (rdR_6 (rdR_adv g3)) (fun _ => by rw [wrI, wrN (by decide), o3 z]; omega)
          · rw [if_neg w5] at h
            exact h M3 g3 (fun q => absurd rfl q)
      · rw [if_pos w3] at h
        have l := pkL (T := T) (L := L) (τ := τ) (by omega)
        have pa : pOK L (adv τ) := ⟨by rw [adv_c]; omega, by rw [adv_c, adv_i]; omega, by rw [adv_i]; omega⟩
        refine opn _ (fun M2 g2 o2 => z1 (ih (by omega) d' (by omega) (adv τ) M2 _ pa g2 o2 (fun M3 g3 o3 => ?_)))
        obtain ⟨q1, q2, q3⟩ := gv (adv τ) pa
        rw [adv_i, adv_c] at q2
        by_cases z : (pVal T L u o (adv τ)).1 = 0
        · rw [if_pos z] at h
          rw [z]
          exact z0n (h M3 g3 (fun q => absurd rfl q))
        · rw [if_neg z] at h
          rcases q3 with q3 | ⟨q3, -⟩
          · exact absurd q3 z
          rw [q3]
          obtain ⟨r1, r2, r3⟩ := q1
          refine z1n (fun M4 e4 => ?_)
          subst e4
          exact r_emt ⟨r1, by omega⟩ (rdR_6 g3) (fun M5 g5 o5 => h M5 g5 (fun _ => by rw [o5, wrI, o3 z]; omega))
end
