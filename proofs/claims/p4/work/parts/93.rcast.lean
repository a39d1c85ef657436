-- the reference's cast
theorem sp_RpartOf {v p q : Int} {M : gSt} {k : Int → gSt → Prop} (hv : 0 ≤ v ∧ v ≤ 9999999) (hp : 0 ≤ p ∧ p ≤ 9999999) (hq : 1 ≤ q ∧ q ≤ 9999999) (h : k (v * p / q) M) : w_RpartOf v p q M k := by
  have pr := prod_rng hv hp
  unfold w_RpartOf
  rw [wI (x := v) ⟨by omega, by omega⟩, wI (x := p) ⟨by omega, by omega⟩, wI (x := q) ⟨by omega, by omega⟩, wrapL_in (x := q) (by omega) (by omega), wrapL_in (x := v * p) (by omega) (by omega), tdiv_pos pr.1]
  exact ⟨by omega, h⟩
theorem tO_set {τ : gSt} {c : Nat} {b lo hi : Int} {f : Int → Int} (h : tOk τ) (hc : c ≠ 0) : tOk (setW τ c b lo hi f) := by
  unfold tOk at h ⊢
  rw [setW_c (Ne.symm hc)]
  exact h
theorem tO_addT {τ : gSt} {km : Int} (h : tOk τ) : tOk (addT τ km) := by
  unfold tOk addT at *
  simpa using h
theorem sR_cast {a1 a2 a3 : Int} {M : gSt} {k : Int → gSt → Prop} (i1 : inI a1) (i2 : inI a2) (i3 : inI a3) (I : iN (absR M)) (J : iB (absR M)) (h : ∀ M', absR M' = (S_cast a1 a2 a3 (absR M)).2 → fr M M' → k (S_cast a1 a2 a3 (absR M)).1 M') : w_Rcast a1 a2 a3 M k := by
  have hx := iN_t I
  unfold iN at I
  have T := J 12 (by decide) (by decide)
  have T0 := T
  unfold thOk at T0
  unfold w_Rcast wB_Rcast_44 wB_Rcast_45
  refine sp_Rin i1 (by constructor <;> decide) (by constructor <;> decide) (fun q1 => z1 ?_) (fun q => z0 (z0n (errL (by decide) (by decide) (if_pos (fun z => q z.1)) h)))
  refine sp_Rin i2 (by constructor <;> decide) (by constructor <;> decide) (fun q2 => z1 ?_) (fun q => z0 (z0n (errL (by decide) (by decide) (if_pos (fun z => q z.2.1)) h)))
  refine sp_Rin i3 (by constructor <;> decide) (by constructor <;> decide) (fun q3 => z1 ?_) (fun q => z0 (z0n (errL (by decide) (by decide) (if_pos (fun z => q z.2.2.1)) h)))
  rw [wI i3, tmod_pos q3.1, wI (x := a3 % 10) ⟨by omega, by omega⟩, tdiv_pos q3.1, tdiv_pos q3.1, wI (x := a3 / 10) ⟨by omega, by omega⟩, tmod_pos (by omega : 0 ≤ a3 / 10)]
  refine ⟨fun e => z0n (errL (by decide) (by decide) (if_pos (fun z => e z.2.2.2)) h), fun e10 => z1n (fun burn hbu keep hke => ?_)⟩
  have hc : ¬ ¬ ((0 ≤ a1 ∧ a1 ≤ 699) ∧ (0 ≤ a2 ∧ a2 ≤ 9999) ∧ (0 ≤ a3 ∧ a3 ≤ 990) ∧ a3 % 10 = 0) := fun z => z ⟨q1, q2, q3, e10⟩
  refine sp_Rits (by decide) (by decide) ?_
  rw [wI (x := absR M 1 (10 * 12 + 2)) ⟨by omega, by omega⟩, wI (x := keep) ⟨by omega, by omega⟩, rdS M 0 (by decide) (by decide)]
  refine ⟨fun nz => ?_, fun z => errL (by decide) (by decide) ((if_neg hc).trans (if_pos z)) h⟩
  have rb : 0 ≤ burn ∧ burn ≤ 9 := by omega
  have rk : 0 ≤ keep ∧ keep ≤ 9 := by omega
  have go : ∀ s0 : Int, s0 = (if 0 < a3 / 10 % 10 then 2 else 1) → wB_Rcast_109 a1 a2 a3 k burn keep (absR M 1 (10 * 12 + 2)) s0 (absR M 0 0) M := by
    intro s0 hs0
    have s0r : 1 ≤ s0 ∧ s0 ≤ 2 := by rw [hs0]; split <;> omega
    unfold wB_Rcast_109
    rw [wI (x := absR M 0 0 + s0) ⟨by omega, by omega⟩]
    refine ⟨fun hr => ?_, fun hr => errL (by decide) (by decide) ((if_neg hc).trans ((if_neg nz).trans (if_pos (by rw [← hs0]; omega)))) h⟩
    have hS : S_cast a1 a2 a3 (absR M) = (absR M 0 0, castσ a1 a2 burn keep (absR M)) := by
      rw [hbu, hke]
      exact (if_neg hc).trans ((if_neg nz).trans (if_neg (by rw [← hs0]; omega)))
    rw [hS] at h
    have hn9 : 0 < keep → absR M 0 0 ≤ 10 := fun q => by
      rw [hke] at q
      rw [if_pos q] at hs0
      omega
    refine sp_Rheld ⟨by omega, by omega⟩ (by constructor <;> decide) (by constructor <;> decide) ?_
    obtain ⟨t25, t69, tg, tg2, t2, tn⟩ := tinσ_v T q2 (by omega)
    have eG : (if absR M 1 (10 * 12 + 2) + a2 < 0 then 0 else if 9999999 < absR M 1 (10 * 12 + 2) + a2 then 9999999 else absR M 1 (10 * 12 + 2) + a2) = tinG a2 (absR M) := by
      rw [if_neg (by omega)]
      rfl
    rw [eG]
    refine sp_Rlays1 (by decide) (by decide) hx (fun M1 A1 O1 F1 => ?_)
    refine sp_Rits (by decide) (by decide) ?_
    have r3 : absR M1 1 (10 * 12 + 3) = absR M 1 (10 * 12 + 3) := by rw [A1, up1_n (by decide)]
    rw [r3]
    refine sp_Rheld ⟨by omega, by omega⟩ (by constructor <;> decide) ⟨by omega, by omega⟩ ?_
    have e3 : (if absR M 1 (10 * 12 + 3) + a2 < 0 then 0 else if tinG a2 (absR M) < absR M 1 (10 * 12 + 3) + a2 then tinG a2 (absR M) else absR M 1 (10 * 12 + 3) + a2) = cap (absR M 1 (10 * 12 + 3) + a2) (tinG a2 (absR M)) := by
      rw [if_neg (by omega)]
      rfl
    rw [e3]
    have x1 : tOk (absR M1) := by rw [A1]; exact tOk_B hx (Or.inl (by decide))
    refine sp_Rlays1 (by decide) (by decide) x1 (fun M2 A2 O2 F2 => ⟨5, ?_⟩)
    have A20 : absR M2 = tin0 a2 (absR M) := by rw [A2, A1]; rfl
    have F20 := fr_trans F1 F2
    have x20 : tOk (tin0 a2 (absR M)) := by rw [← A20, A2]; exact tOk_B x1 (Or.inl (by decide))
    -- the last loop
    have fin : ∀ (M4 : gSt) (sc : Int), absR M4 = crN a1 keep (tinσ a2 (absR M)) → fr M M4 → sc = (if 0 < keep then absR M 0 0 + 1 else -1) → wB_Rcast_227 a1 a2 a3 k burn keep (absR M 0 0) sc M4 := by
      intro M4 sc A4 F4 hsc
      unfold wB_Rcast_227
      refine ⟨9, ?_⟩
      generalize hσ : absR M = σ at *
      have e0 : tinσ a2 σ 0 0 = σ 0 0 := by rw [tinσ_0 (by decide)]
      have n9 : 0 ≤ σ 0 0 ∧ σ 0 0 ≤ 11 := by omega
      have c4 : ∀ w, 0 ≤ w → w ≤ 9 → crN a1 keep (tinσ a2 σ) 1 (10 * 12 + w) = tinσ a2 σ 1 (10 * 12 + w) := fun w a b => by
        unfold crN
        split
        · rename_i q
          have := hn9 q
          simp only [addT, e0]
          rw [if_neg (by omega), if_neg (by simp; omega), if_neg (by omega), if_neg (by simp; omega)]
        · simp only [addT, e0]
          rw [if_neg (by omega), if_neg (by simp; omega)]
      have x4 : tOk (crN a1 keep (tinσ a2 σ)) := by
        have : tOk (tinσ a2 σ) := tO_set x20 (by decide)
        unfold crN
        split
        · exact tO_addT (tO_addT this)
        · exact tO_addT this
      have xE : ∀ j, tOk (setW (if 0 < keep then setW (setW (crN a1 keep (tinσ a2 σ)) 1 (σ 0 0) 2 j (crT burn keep (tinσ a2 σ))) 1 (σ 0 0 + 1) 2 j (crS burn keep (tinσ a2 σ)) else setW (crN a1 keep (tinσ a2 σ)) 1 (σ 0 0) 2 j (crT burn keep (tinσ a2 σ))) 1 12 2 j (fun _ => 0)) := fun j => by
        refine tO_set ?_ (by decide)
        split
        · exact tO_set (tO_set x4 (by decide)) (by decide)
        · exact tO_set x4 (by decide)
      have loop : ∀ (d : Nat) (j : Int) (M5 : gSt), (d : Int) = 10 - j → 2 ≤ j → absR M5 = setW (if 0 < keep then setW (setW (crN a1 keep (tinσ a2 σ)) 1 (σ 0 0) 2 j (crT burn keep (tinσ a2 σ))) 1 (σ 0 0 + 1) 2 j (crS burn keep (tinσ a2 σ)) else setW (crN a1 keep (tinσ a2 σ)) 1 (σ 0 0) 2 j (crT burn keep (tinσ a2 σ))) 1 12 2 j (fun _ => 0) → fr M M5 → ∀ f : Nat, d < f → wL_Rcast_232 a1 a2 a3 k (fun u9_232 M232 => k u9_232 M232) f burn keep (σ 0 0) sc j M5 := by
        intro d
        induction d with
        | zero =>
          intro j M5 hd hj A5 F5 f hf
          obtain ⟨f, rfl⟩ : ∃ g, f = g + 1 := ⟨f - 1, by omega⟩
          have ej : j = 10 := by omega
          subst ej
          simp only [wL_Rcast_232, wC_Rcast_232]
          refine ⟨fun _ => h M5 ?_ F5, fun z => absurd z (by decide)⟩
          rw [A5]
          funext p i
          show _ = castσ a1 a2 burn keep σ p i
          unfold castσ
          by_cases cz : p = 1 ∧ 10 * 12 + 2 ≤ i ∧ i < 10 * 12 + 10
          · rw [if_pos cz]
            unfold setW
            rw [if_pos cz]
          · have e : ∀ τ : gSt, setW τ 1 12 2 10 (fun _ => 0) p i = τ p i := fun τ => by
              unfold setW
              rw [if_neg cz]
            rw [if_neg cz, e]
            by_cases ct : p = 1 ∧ 10 * σ 0 0 + 2 ≤ i ∧ i < 10 * σ 0 0 + 10
            · rw [if_pos ct]
              have cs : ¬ (p = 1 ∧ 10 * (σ 0 0 + 1) + 2 ≤ i ∧ i < 10 * (σ 0 0 + 1) + 10) := by omega
              by_cases q : 0 < keep
              · rw [if_pos q]
                unfold setW
                rw [if_neg cs, if_pos ct]
              · rw [if_neg q]
                unfold setW
                rw [if_pos ct]
            · rw [if_neg ct]
              by_cases q : 0 < keep
              · rw [if_pos q]
                unfold setW
                by_cases cs : p = 1 ∧ 10 * (σ 0 0 + 1) + 2 ≤ i ∧ i < 10 * (σ 0 0 + 1) + 10
                · rw [if_pos cs, if_pos (show p = 1 ∧ 0 < keep ∧ 10 * (σ 0 0 + 1) + 2 ≤ i ∧ i < 10 * (σ 0 0 + 1) + 10 from ⟨cs.1, q, cs.2⟩)]
                · rw [if_neg cs, if_neg ct, if_neg (show ¬ (p = 1 ∧ 0 < keep ∧ 10 * (σ 0 0 + 1) + 2 ≤ i ∧ i < 10 * (σ 0 0 + 1) + 10) from fun z => cs ⟨z.1, z.2.2⟩)]
              · rw [if_neg q]
                unfold setW
                rw [if_neg ct, if_neg (show ¬ (p = 1 ∧ 0 < keep ∧ 10 * (σ 0 0 + 1) + 2 ≤ i ∧ i < 10 * (σ 0 0 + 1) + 10) from fun z => q z.2.1)]
        | succ d ih =>
          intro j M5 hd hj A5 F5 f hf
          obtain ⟨f, rfl⟩ : ∃ g, f = g + 1 := ⟨f - 1, by omega⟩
          simp only [wL_Rcast_232, wC_Rcast_232]
          rw [wI (x := j) ⟨by omega, by omega⟩]
          refine ⟨fun z => absurd z (by omega), fun _ => ?_⟩
          have r5 : absR M5 1 (10 * 12 + j) = tinσ a2 σ 1 (10 * 12 + j) := by
            rw [A5, setW_n (by omega), ← c4 j (by omega) (by omega)]
            split
            · rename_i q
              have := hn9 q
              rw [setW_o (by omega) ⟨by omega, by omega⟩ ⟨by omega, by omega⟩, setW_o (by omega) ⟨by omega, by omega⟩ ⟨by omega, by omega⟩]
            · rw [setW_o (by omega) ⟨by omega, by omega⟩ ⟨by omega, by omega⟩]
          have x5 : tOk (absR M5) := by rw [A5]; exact xE j
          refine sp_Rits (by decide) ⟨by omega, by omega⟩ ?_
          rw [r5]
          have wrt : ∀ (val goes : Int), val = crT burn keep (tinσ a2 σ) j → goes = crS burn keep (tinσ a2 σ) j → wB_Rcast_328 a1 a2 a3 k (wL_Rcast_232 a1 a2 a3 k (fun u9_232 M232 => k u9_232 M232) f) (fun u9_232 M232 => k u9_232 M232) burn keep (σ 0 0) sc j goes val j (σ 0 0) M5 := by
            intro val goes hv hg
            unfold wB_Rcast_328 wB_Rcast_347
            refine sp_Rlays1 ⟨by omega, by omega⟩ ⟨by omega, by omega⟩ x5 (fun M6 A6 O6 F6 => ?_)
            have x6 : tOk (absR M6) := by rw [A6]; exact tOk_B x5 (Or.inl (by decide))
            by_cases q : 0 < keep
            · have := hn9 q
              rw [if_pos q] at hsc
              rw [hsc, wI (x := σ 0 0 + 1) ⟨by omega, by omega⟩]
              refine ⟨fun z => absurd z (by omega), fun _ => ?_⟩
              refine sp_Rlays1 ⟨by omega, by omega⟩ ⟨by omega, by omega⟩ x6 (fun M7 A7 O7 F7 => ?_)
              have x7 : tOk (absR M7) := by rw [A7]; exact tOk_B x6 (Or.inl (by decide))
              refine sp_Rlays1 (by decide) ⟨by omega, by omega⟩ x7 (fun M8 A8 O8 F8 => ?_)
              rw [← hsc]
              refine ih (j + 1) M8 (by omega) (by omega) ?_ (fr_trans F5 (fr_trans F6 (fr_trans F7 F8))) f (by omega)
              rw [A8, A7, A6, A5, hv, hg, if_pos q, if_pos q]
              funext p i
              simp only [up1, wr, setW]
              repeat' split
              all_goals first | rfl | omega | (congr 1 <;> omega)
            · rw [if_neg q] at hsc
              rw [hsc, show wrap (-1) = -1 from by decide]
              refine ⟨fun _ => ?_, fun z => absurd rfl z⟩
              refine sp_Rlays1 (by decide) ⟨by omega, by omega⟩ x6 (fun M8 A8 O8 F8 => ?_)
              rw [← hsc]
              refine ih (j + 1) M8 (by omega) (by omega) ?_ (fr_trans F5 (fr_trans F6 F8)) f (by omega)
              rw [A8, A6, A5, hv, if_neg q, if_neg q]
              funext p i
              simp only [up1, wr, setW]
              repeat' split
              all_goals first | rfl | omega | (congr 1 <;> omega)
          refine ⟨fun q => ?_, fun q => ?_⟩
          · have v := t25 j hj (by omega)
            have p2 : tinσ a2 σ 1 (10 * 12 + j) * burn ≤ tinσ a2 σ 1 (10 * 12 + j) * 9 := Int.mul_le_mul_of_nonneg_left rb.2 v.1
            have p3 : 0 ≤ tinσ a2 σ 1 (10 * 12 + j) * burn := Int.mul_nonneg v.1 rb.1
            unfold wB_Rcast_261
            refine z0 (sp_RpartOf ⟨by omega, by omega⟩ ⟨by omega, by omega⟩ (by decide) ?_)
            unfold wB_Rcast_285
            refine z0 (sp_RpartOf ⟨by omega, by omega⟩ ⟨by omega, by omega⟩ (by decide) ?_)
            unfold wB_Rcast_306
            refine z0 (wrt _ _ ?_ ?_)
            · unfold crT crL; rw [if_pos q, if_pos q]
            · unfold crS crL; rw [if_pos q, if_pos q]
          · unfold wB_Rcast_261
            refine z1 ?_
            unfold wB_Rcast_285
            refine z1 ?_
            unfold wB_Rcast_306
            refine z1 (wrt _ _ ?_ ?_)
            · unfold crT crL; rw [if_neg (by omega), if_neg (by omega)]
            · unfold crS crL; rw [if_neg (by omega), if_neg (by omega)]
      exact loop 8 2 M4 (by omega) (by omega) (by rw [setW_0, setW_0, setW_0, ite_self]; exact A4) F4 9 (by omega)
    -- holds of the crucible
    have loop : ∀ (d : Nat) (j : Int) (M3 : gSt), (d : Int) = 10 - j → 6 ≤ j → absR M3 = setW (tin0 a2 (absR M)) 1 12 6 j (tinH a2 (absR M)) → fr M M3 → ∀ f : Nat, d < f → wL_Rcast_168 a1 a2 a3 k (fun u5_168 u6_168 M168 => w_RaddThing a1 M168 (fun r206c M206 => (wrap u6_168 ≤ 0 → wB_Rcast_227 a1 a2 a3 k u5_168 u6_168 r206c (-1) M206) ∧ (0 < wrap u6_168 → w_RaddThing 600 M206 (fun r220c M220 => wB_Rcast_227 a1 a2 a3 k u5_168 u6_168 r206c r220c M220)))) f burn keep (absR M 1 (10 * 12 + 2)) (tinG a2 (absR M)) j M3 := by
      intro d
      induction d with
      | zero =>
        intro j M3 hd hj A3 F3 f hf
        obtain ⟨f, rfl⟩ : ∃ g, f = g + 1 := ⟨f - 1, by omega⟩
        have ej : j = 10 := by omega
        subst ej
        simp only [wL_Rcast_168, wC_Rcast_168]
        refine ⟨fun _ => ?_, fun z => absurd z (by decide)⟩
        have x3 : tOk (absR M3) := by rw [A3]; exact tO_set x20 (by decide)
        have n3 : absR M3 0 0 = absR M 0 0 := by rw [A3, setW_c (by decide)]; unfold tin0; rw [up1_o (by decide), up1_o (by decide)]
        refine sp_RaddThing q1 (by rw [n3]; omega) x3 (fun M4 A4 F4 O4 => ?_)
        rw [n3, wI (x := keep) ⟨by omega, by omega⟩]
        refine ⟨fun q => fin M4 (-1) ?_ (fr_trans F3 F4) (by rw [if_neg (by omega)]), fun q => ?_⟩
        · rw [A4, A3]
          unfold crN tinσ
          rw [if_neg (by omega)]
        · have n4 : absR M4 0 0 = absR M 0 0 + 1 := by
            rw [A4]
            simp only [addT, and_self, if_true]
            rw [n3]
          have := hn9 q
          refine sp_RaddThing (by decide) (by rw [n4]; omega) (by rw [A4]; exact tO_addT x3) (fun M5 A5 F5 O5 => ?_)
          rw [n4]
          refine fin M5 _ ?_ (fr_trans F3 (fr_trans F4 F5)) (by rw [if_pos q])
          rw [A5, A4, A3]
          unfold crN tinσ
          rw [if_pos q]
      | succ d ih =>
        intro j M3 hd hj A3 F3 f hf
        obtain ⟨f, rfl⟩ : ∃ g, f = g + 1 := ⟨f - 1, by omega⟩
        simp only [wL_Rcast_168, wC_Rcast_168]
        rw [wI (x := j) ⟨by omega, by omega⟩]
        refine ⟨fun z => absurd z (by omega), fun _ => ?_⟩
        have r3 : absR M3 1 (10 * 12 + j) = absR M 1 (10 * 12 + j) := by
          rw [A3, setW_n (by omega)]
          unfold tin0
          rw [up1_n (by omega), up1_n (by omega)]
        have hw : 0 ≤ absR M 1 (10 * 12 + j) ∧ absR M 1 (10 * 12 + j) ≤ 1000000 := by
          rcases (show j = 6 ∨ j = 7 ∨ j = 8 ∨ j = 9 by omega) with rfl | rfl | rfl | rfl <;> omega
        have x3 : tOk (absR M3) := by rw [A3]; exact tO_set x20 (by decide)
        refine sp_Rits (by decide) ⟨by omega, by omega⟩ ?_
        rw [r3]
        refine sp_RpartOf ⟨by omega, by omega⟩ ⟨by omega, by omega⟩ ⟨by omega, by omega⟩ (sp_Rlays1 (by decide) ⟨by omega, by omega⟩ x3 (fun M4 A4 O4 F4 => ?_))
        refine ih (j + 1) M4 (by omega) (by omega) ?_ (fr_trans F3 F4) f (by omega)
        have eH : absR M 1 (10 * 12 + j) * absR M 1 (10 * 12 + 2) / tinG a2 (absR M) = tinH a2 (absR M) j := by
          unfold tinH qz
          rw [if_neg (by omega)]
        rw [A4, A3, eH]
        exact setW_s (by omega)
    exact loop 4 6 M2 (by omega) (by omega) (by rw [setW_0]; exact A20) F20 5 (by omega)
  exact ⟨fun q => go 1 (by rw [if_neg (by omega)]), fun q => go 2 (by rw [if_pos (by omega)])⟩
