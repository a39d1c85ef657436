-- put, move, papers of a sheet, untell: both sides
theorem shr24 (y : Int) : y >>> 24 = y / 16777216 := by rw [Int.shiftRight_eq_div_pow]; rfl
theorem shr16 (y : Int) : y >>> 16 = y / 65536 := by rw [Int.shiftRight_eq_div_pow]; rfl
theorem lowB_8 (v : Int) : lowB 8 v = (Int32.ofInt v).toInt8.toInt32.toInt := by
  rw [Int8.toInt_toInt32, Int32.toInt_toInt8, ofInt_toInt]
  unfold lowB xshr xshl
  rw [Int32.ofInt_toInt]
  have e : ((Int32.ofInt v <<< (Int32.ofInt (32 - 8) &&& 31)) >>> (Int32.ofInt (32 - 8) &&& 31)).toInt = ((BitVec.ofInt 32 v <<< 24).sshiftRight 24).toInt := rfl
  rw [e, BitVec.toInt_sshiftRight, BitVec.toInt_shiftLeft, BitVec.toNat_ofInt, shr24, Nat.shiftLeft_eq]
  unfold wrap
  rw [Int.bmod_def, Int.bmod_def]
  simp only [Nat.reducePow]
  split <;> split <;> omega
theorem lowB_16 (v : Int) : lowB 16 v = (Int32.ofInt v).toInt16.toInt32.toInt := by
  rw [Int16.toInt_toInt32, Int32.toInt_toInt16, ofInt_toInt]
  unfold lowB xshr xshl
  rw [Int32.ofInt_toInt]
  have e : ((Int32.ofInt v <<< (Int32.ofInt (32 - 16) &&& 31)) >>> (Int32.ofInt (32 - 16) &&& 31)).toInt = ((BitVec.ofInt 32 v <<< 16).sshiftRight 16).toInt := rfl
  rw [e, BitVec.toInt_sshiftRight, BitVec.toInt_shiftLeft, BitVec.toNat_ofInt, shr16, Nat.shiftLeft_eq]
  unfold wrap
  rw [Int.bmod_def, Int.bmod_def]
  simp only [Nat.reducePow]
  split <;> split <;> omega
theorem lowB_32 {v : Int} (hv : inI v) : lowB 32 v = v := by
  unfold lowB xshr xshl
  rw [Int32.ofInt_toInt]
  have e : ((Int32.ofInt v <<< (Int32.ofInt (32 - 32) &&& 31)) >>> (Int32.ofInt (32 - 32) &&& 31)).toInt = ((BitVec.ofInt 32 v <<< 0).sshiftRight 0).toInt := rfl
  rw [e, BitVec.toInt_sshiftRight, BitVec.toInt_shiftLeft, BitVec.toNat_ofInt, Nat.shiftLeft_eq, Int.shiftRight_eq_div_pow]
  rw [Int.bmod_def]
  obtain ⟨h1, h2⟩ := hv
  simp only [Nat.reducePow]
  split <;> omega
theorem sp_missing {o : Nat} {M : gSt} {k : Int → gSt → Prop} (h : isSheet o) (hb : inI (M o 1)) (k1 : M o 1 = 0 → k 1 M) (k0 : ¬ M o 1 = 0 → k 0 M) : w_X5_isMissing o M k := by
  unfold w_X5_isMissing
  rw [wI hb]
  exact ⟨h, k0, k1⟩
theorem sp_has5 {o : Nat} {i : Int} {M : gSt} {k : Int → gSt → Prop} (h : isSheet o) (hi : inI i) (hs : inI (M o 2)) (k1 : 0 ≤ i ∧ i < M o 2 → k 1 M) (k0 : ¬ (0 ≤ i ∧ i < M o 2) → k 0 M) : w_X5_has o i M k := by
  unfold w_X5_has
  rw [wI hi, wI hs]
  exact ⟨h, fun z => k0 (by omega), fun z => ⟨fun z2 => k0 (by omega), fun z2 => k1 (by omega)⟩⟩
theorem sp_at5 {o : Nat} {i : Int} {M : gSt} {k : Int → gSt → Prop} (h : isSheet o) (hl : lenC (o + 1) = 24) (hi : 0 ≤ i ∧ i < M o 2) (hs : M o 2 ≤ 24) (hk : k (M (o + 1) i) M) : w_X5_at o i M k := by
  unfold w_X5_at
  refine ⟨h, sp_has5 h ⟨by omega, by omega⟩ ⟨by omega, by omega⟩ (fun _ => z1 ?_) (fun z => absurd hi z)⟩
  rw [hl, show wrap ((24 : Nat) : Int) = 24 from by decide, wI (x := i) ⟨by omega, by omega⟩]
  exact ⟨fun z => absurd z (by omega), fun _ => ⟨⟨by omega, by omega⟩, hk⟩⟩
theorem sC_put {q i v : Int} {M : gSt} {k : Int → gSt → Prop} (i1 : inI q) (i2 : inI i) (i3 : inI v) (I : iSh (absC M)) (hK : cK M) (h : ∀ M', absC M' = (S_put q i v (absC M)).2 → cK M' → k (S_put q i v (absC M)).1 M') : w_X8_put q i v M k := by
  unfold w_X8_put
  refine shC i1 (fun o ho hq => ⟨fun z => absurd z (by simp), fun o2 e2 => ?_⟩) (fun hq => ⟨fun _ => errC (by decide) (by decide) hK (if_pos hq) h, fun o2 e2 => by cases e2⟩)
  cases e2
  obtain ⟨p1, p2, p3⟩ := pl_sh (o := o) (by omega)
  have hc := fun z : ¬ (0 ≤ q ∧ q < 4) => z hq
  obtain ⟨b1, b2, -⟩ := I q hq.1 hq.2
  have eb := rB M hq ho
  have es := rS M hq ho
  refine sp_missing p1 ⟨by omega, by omega⟩ (fun z => z1 (errC (by decide) (by decide) hK ((if_neg hc).trans (if_pos (by omega))) h)) (fun nz => z0 ?_)
  refine sp_has5 p1 i2 ⟨by omega, by omega⟩ (fun hi => z1n ?_) (fun hi => z0n (errC (by decide) (by decide) hK ((if_neg hc).trans ((if_neg (by omega)).trans (if_pos (by omega)))) h))
  have hS : S_put q i v (absC M) = _ := (if_neg hc).trans ((if_neg (by omega)).trans (if_neg (by omega)))
  rw [hS, eb] at h
  unfold w_X5_write
  refine ⟨p1, sp_has5 p1 i2 ⟨by omega, by omega⟩ (fun _ => z1 ?_) (fun z => absurd hi z)⟩
  rw [p3, show wrap ((24 : Nat) : Int) = 24 from by decide, wI i2, wI (x := M o 1) ⟨by omega, by omega⟩]
  refine ⟨fun z => absurd z (by omega), fun _ => ?_⟩
  have fin : ∀ x : Int, x = lowB (M o 1) v → wB_X5_write_51 o i v (fun M51 => k 1 M51) x i M := by
    intro x hx
    unfold wB_X5_write_51
    rw [p3]
    refine ⟨⟨by omega, by omega⟩, fun M1 e1 => ?_⟩
    subst e1
    exact h _ (by rw [acN hq ho (by omega) (by omega), hx]) (cK_sh hK hq ho).2
  refine ⟨fun n8 => ⟨fun n16 => fin v ?_, fun e16 => fin _ ?_⟩, fun e8 => fin _ ?_⟩
  · rw [show M o 1 = 32 from by omega, lowB_32 i3]
  · rw [e16, lowB_16]
  · rw [e8, lowB_8]
def mvS (σ : gSt) (q i q2 j n : Int) : gSt := fun c p => if c = 25 ∧ 24 * q2 + j ≤ p ∧ p < 24 * q2 + j + n then σ 25 (24 * q + i + (p - (24 * q2 + j))) else σ c p
def S_move (q i q2 j n : Int) (σ : gSt) : Int × gSt :=
  if ¬ ((0 ≤ q ∧ q < 4) ∧ (0 ≤ q2 ∧ q2 < 4)) then S_err σ 1 else if σ 23 q = 0 ∨ σ 23 q2 = 0 then S_err σ 2 else if ¬ σ 23 q = σ 23 q2 then S_err σ 5
  else if n < 0 ∨ i < 0 ∨ j < 0 ∨ σ 24 q - n < i ∨ σ 24 q2 - n < j then S_err σ 1 else (n, mvS σ q i q2 j n)
theorem sp_range {o : Nat} {i n : Int} {M : gSt} {k : Int → gSt → Prop} (h : isSheet o) (hl : lenC (o + 1) = 24) (hi : inI i) (hn : inI n) (hs : 0 ≤ M o 2 ∧ M o 2 ≤ 24) (k1 : 0 ≤ i ∧ 0 ≤ n ∧ i ≤ M o 2 - n → k 1 M) (k0 : ¬ (0 ≤ i ∧ 0 ≤ n ∧ i ≤ M o 2 - n) → k 0 M) : w_X5_hasRange o i n M k := by
  unfold w_X5_hasRange
  refine ⟨h, fun x ex => ?_⟩
  have ex' : x = M o 2 := by
    rw [ex, hl, xmin_in ⟨by omega, by omega⟩ (by constructor <;> decide)]
    split <;> omega
  rw [ex', wI hi, wI hn, wI (x := M o 2) ⟨by omega, by omega⟩]
  refine ⟨fun z => k0 (by omega), fun z => ⟨fun z2 => k0 (by omega), fun z2 => ⟨fun z3 => k0 (by omega), fun z3 => ?_⟩⟩⟩
  rw [wI (x := M o 2 - n) ⟨by omega, by omega⟩]
  exact ⟨fun z4 => k0 (by omega), fun z4 => k1 (by omega)⟩
theorem sC_move {q i q2 j n : Int} {M : gSt} {k : Int → gSt → Prop} (i1 : inI q) (i2 : inI i) (i3 : inI q2) (i4 : inI j) (i5 : inI n) (I : iSh (absC M)) (hK : cK M) (h : ∀ M', absC M' = (S_move q i q2 j n (absC M)).2 → cK M' → k (S_move q i q2 j n (absC M)).1 M') : w_X8_move q i q2 j n M k := by
  unfold w_X8_move wB_X8_move_24 wB_X8_move_46 wB_X8_move_91
  refine shC i1 (fun o ho hq => ?_) (fun hq => ?_)
  · refine shC i3 (fun o2 ho2 hq2 => ⟨fun z => absurd z (by simp), fun o3 e3 => ?_⟩) (fun hq2 => ⟨fun z => absurd z (by simp), fun o3 e3 => ⟨fun _ => errC (by decide) (by decide) hK (if_pos (fun z => hq2 z.2)) h, fun o4 e4 => by cases e4⟩⟩)
    cases e3
    refine ⟨fun z => absurd z (by simp), fun o4 e4 => ?_⟩
    cases e4
    obtain ⟨p1, p2, p3⟩ := pl_sh (o := o) (by omega)
    obtain ⟨r1, r2, r3⟩ := pl_sh (o := o2) (by omega)
    have hc := fun z : ¬ ((0 ≤ q ∧ q < 4) ∧ (0 ≤ q2 ∧ q2 < 4)) => z ⟨hq, hq2⟩
    obtain ⟨b1, b2, -⟩ := I q hq.1 hq.2
    obtain ⟨d1, d2, -⟩ := I q2 hq2.1 hq2.2
    have eb := rB M hq ho
    have es := rS M hq ho
    have eb2 := rB M hq2 ho2
    have es2 := rS M hq2 ho2
    refine sp_missing p1 ⟨by omega, by omega⟩ (fun z => z1n (errC (by decide) (by decide) hK ((if_neg hc).trans (if_pos (by omega))) h)) (fun nz => z0n ?_)
    refine sp_missing r1 ⟨by omega, by omega⟩ (fun z => z1 (errC (by decide) (by decide) hK ((if_neg hc).trans (if_pos (by omega))) h)) (fun nz2 => z0 ?_)
    have hm : ¬ (absC M 23 q = 0 ∨ absC M 23 q2 = 0) := by omega
    unfold w_X5_isLike
    refine ⟨p1, r1, ?_⟩
    rw [wI (x := M o 1) ⟨by omega, by omega⟩, wI (x := M o2 1) ⟨by omega, by omega⟩]
    refine ⟨fun ne => z0n (errC (by decide) (by decide) hK ((if_neg hc).trans ((if_neg hm).trans (if_pos (by omega)))) h), fun eq => z1n ?_⟩
    have hl : ¬ ¬ absC M 23 q = absC M 23 q2 := by omega
    refine sp_range p1 p3 i2 i5 ⟨by omega, by omega⟩ (fun g => z1 ?_) (fun g => z0 (errC (by decide) (by decide) hK ((if_neg hc).trans ((if_neg hm).trans ((if_neg hl).trans (if_pos (by omega))))) h))
    refine sp_range r1 r3 i4 i5 ⟨by omega, by omega⟩ (fun g2 => z1n ?_) (fun g2 => z0n (errC (by decide) (by decide) hK ((if_neg hc).trans ((if_neg hm).trans ((if_neg hl).trans (if_pos (by omega))))) h))
    have hS : S_move q i q2 j n (absC M) = _ := (if_neg hc).trans ((if_neg hm).trans ((if_neg hl).trans (if_neg (by omega))))
    rw [hS] at h
    unfold w_X5_copyRange
    refine ⟨p1, r1, sp_range p1 p3 i2 i5 ⟨by omega, by omega⟩ (fun _ => z1 ?_) (fun z => absurd g z)⟩
    refine sp_range r1 r3 i4 i5 ⟨by omega, by omega⟩ (fun _ => z1 ?_) (fun z => absurd g2 z)
    rw [p3, r3]
    refine ⟨⟨by omega, by omega, by omega, by omega, by omega⟩, fun M1 e1 => h M1 ?_ ?_⟩
    · -- the copy, number by number
      have key : ∀ m : Nat, (m : Int) ≤ n → absC (fun p t => if p = o2 + 1 ∧ j ≤ t ∧ t < j + (m : Int) then M (o + 1) (i + (t - j)) else M p t) = mvS (absC M) q i q2 j (m : Int) := by
        intro m
        induction m with
        | zero =>
          intro _
          have a : (fun (p : Nat) (t : Int) => if p = o2 + 1 ∧ j ≤ t ∧ t < j + ((0 : Nat) : Int) then M (o + 1) (i + (t - j)) else M p t) = M := by
            funext p t
            rw [if_neg (by omega)]
          rw [a]
          funext c p
          unfold mvS
          rw [if_neg (by omega)]
        | succ m ih =>
          intro hm'
          have a : (fun (p : Nat) (t : Int) => if p = o2 + 1 ∧ j ≤ t ∧ t < j + ((m + 1 : Nat) : Int) then M (o + 1) (i + (t - j)) else M p t) = wr (fun p t => if p = o2 + 1 ∧ j ≤ t ∧ t < j + (m : Int) then M (o + 1) (i + (t - j)) else M p t) (o2 + 1) (j + (m : Int)) (M (o + 1) (i + (m : Int))) := by
            funext p t
            unfold wr
            dsimp only
            by_cases w : p = o2 + 1 ∧ t = j + (m : Int)
            · rw [if_pos w, if_pos (by omega), w.2, show i + (j + (m : Int) - j) = i + (m : Int) from by omega]
            · rw [if_neg w]
              by_cases w2 : p = o2 + 1 ∧ j ≤ t ∧ t < j + (m : Int)
              · rw [if_pos w2, if_pos (by omega)]
              · rw [if_neg w2, if_neg (by omega)]
          rw [a, acN hq2 ho2 (by omega) (by omega), ih (by omega), ← rN M hq ho (by omega) (by omega)]
          funext c p
          unfold mvS up1 wr
          dsimp only
          by_cases w : c = 25 ∧ p = 24 * q2 + (j + (m : Int))
          · rw [if_pos w, if_pos (by omega), w.2, show 24 * q + i + (24 * q2 + (j + (m : Int)) - (24 * q2 + j)) = 24 * q + (i + (m : Int)) from by omega]
          · rw [if_neg w]
            by_cases w2 : c = 25 ∧ 24 * q2 + j ≤ p ∧ p < 24 * q2 + j + (m : Int)
            · rw [if_pos w2, if_pos (by omega)]
            · rw [if_neg w2, if_neg (by omega)]
      have := key n.toNat (by omega)
      rw [show ((n.toNat : Nat) : Int) = n from by omega] at this
      rw [e1]
      exact this
    · rw [e1]
      rcases (show o2 = 56 ∨ o2 = 58 ∨ o2 = 60 ∨ o2 = 62 by omega) with rfl | rfl | rfl | rfl <;> exact cK_cpy hK (by decide)
  · refine shC i3 (fun o2 ho2 hq2 => ⟨fun _ => errC (by decide) (by decide) hK (if_pos (fun z => hq z.1)) h, fun o3 e3 => by cases e3⟩) (fun hq2 => ⟨fun _ => errC (by decide) (by decide) hK (if_pos (fun z => hq z.1)) h, fun o3 e3 => by cases e3⟩)
