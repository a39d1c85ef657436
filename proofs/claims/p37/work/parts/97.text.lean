section
-- text: both sides
def p0 : gSt := fun _ _ => 0
def pRun (u : Int) (σ : gSt) : Int × gSt := pLev (σ 5) (σ 0 6) (pVal (σ 5) (σ 0 6) u 5) 5 p0
def S_text (u : Int) (σ : gSt) : Int × gSt := if ¬ (0 ≤ u ∧ u ≤ 1) then S_err σ 1 else if ¬ (pRun u σ).1 = 0 ∧ (pRun u σ).2 0 0 = σ 0 6 then (1, setX u ((pRun u σ).2 0 1) (fun i => encT u ((pRun u σ).2 1 i) ((pRun u σ).2 2 i)) (up1 σ 0 6 0)) else (-10 - (pRun u σ).2 0 0, up1 σ 0 6 0)
def iTp (σ : gSt) : Prop := ∀ j, 0 ≤ j → j < 60 → inI (σ 5 j)
theorem setX_congr {u n n' : Int} {f f' : Int → Int} {σ : gSt} (hn : n = n') (hf : ∀ j, 0 ≤ j → j < n → f j = f' j) : setX u n f σ = setX u n' f' σ := by
  subst hn
  funext c i
  unfold setX
  rw [msk_congr hf]
theorem p0_ok {L : Int} (h : 0 ≤ L) : pOK L p0 := ⟨Int.le_refl _, Int.le_refl _, h⟩
theorem good_run {u : Int} {σ : gSt} (h : 0 ≤ σ 0 6) : pOK (σ 0 6) (pRun u σ).2 ∧ ((pRun u σ).1 = 0 ∨ ((pRun u σ).1 = 1 ∧ grew u p0 (pRun u σ).2 1)) := by
  obtain ⟨a, -, c⟩ := good_lev (T := σ 5) (good_val (T := σ 5) (L := σ 0 6) (u := u) 5) 5 (by decide) p0 (p0_ok h)
  exact ⟨a, c⟩
theorem cK_rd {M M' : gSt} (h : cK M) (e : ∀ o, o ≠ 47 → o ≠ 49 → o ≠ 51 → o ≠ 15 → o ≠ 17 → ∀ i, (i = 0 ∨ i = 2 ∨ (o = 53 ∧ i = 3)) → M' o i = M o i) : cK M' := by
  refine ⟨fun q hq => ?_, ?_⟩
  · have n : ∀ b : Nat, (cRows.all fun q => q.1 != b) = true → q.1 ≠ b := fun b hb => by
      have := List.all_eq_true.mp hb q hq
      simpa using this
    have a := e q.1 (n 47 (by decide)) (n 49 (by decide)) (n 51 (by decide)) (n 15 (by decide)) (n 17 (by decide))
    rw [a 0 (Or.inl rfl), a 2 (Or.inr (Or.inl rfl))]
    exact h.1 q hq
  · rw [e 53 (by decide) (by decide) (by decide) (by decide) (by decide) 3 (Or.inr (Or.inr ⟨rfl, rfl⟩))]
    exact h.2
theorem sC_text {u : Int} {M : gSt} {k : Int → gSt → Prop} (i1 : inI u) (I : iN (absC M)) (J : iTp (absC M)) (hK : cK M) (h : ∀ M', absC M' = (S_text u (absC M)).2 → cK M' → k (S_text u (absC M)).1 M') : w_X8_text u M k := by
  unfold w_X8_text
  refine sp_within i1 (by constructor <;> decide) (by constructor <;> decide) (fun hu => z1n ?_) (fun hu => z0n (errC (by decide) (by decide) hK (if_pos hu) h))
  have hu' : u = 0 ∨ u = 1 := by omega
  have c06 := rc06 M
  have l6 : 0 ≤ absC M 0 6 ∧ absC M 0 6 ≤ 60 := by unfold iN at I; omega
  obtain ⟨gr1, gr2⟩ := good_run (u := u) (σ := absC M) l6.1
  unfold S_text at h
  rw [if_neg (fun w => w hu)] at h
  obtain ⟨k50, k502⟩ := cK_50 hK
  obtain ⟨k48, k482⟩ := cK_48 hK
  unfold w_X3_read
  refine ⟨pl_47, pl_4, sp_copy4 pl_48 pl_4 rfl (by decide) (sp_clear pl_50 (fun M1 e1 M2 e2 => ?_))⟩
  have b : ∀ p, p ≠ 47 → p ≠ 48 → p ≠ 49 → p ≠ 50 → M2 p = M p := fun p x1 x2 x3 x4 => by
    rw [e2, wrO' x1, e1, wrO' x1, wrO' x4, wrO' x2]
    exact cpyO x3
  have b48 : ∀ i, i ≠ 3 → M2 48 i = M 48 i := fun i hi => by
    rw [e2, wrO (by decide), e1, wrO (by decide), wrO (by decide), wrN hi]
    exact congrFun (cpyO (by decide)) i
  have b483 : M2 48 3 = M 4 3 := by rw [e2, wrO (by decide), e1, wrO (by decide), wrO (by decide), wrI]
  have b49 : ∀ j, 0 ≤ j → j < 60 → M2 49 j = M 5 j := fun j x y => by
    rw [e2, wrO (by decide), e1, wrO (by decide), wrO (by decide), wrO (by decide)]
    unfold cpy
    rw [if_pos ⟨rfl, by omega, by show j < 0 + 60; omega⟩, show 0 + (j - 0) = j from by omega]
  have b50 : ∀ i, i ≠ 3 → M2 50 i = M 50 i := fun i hi => by
    rw [e2, wrO (by decide), e1, wrO (by decide), wrN hi, wrO (by decide)]
    exact congrFun (cpyO (by decide)) i
  have b503 : M2 50 3 = 0 := by rw [e2, wrO (by decide), e1, wrO (by decide), wrI]
  have hT : tpC (absC M 5) (absC M 0 6) M2 := by
    refine ⟨by rw [b48 0 (by decide)]; exact k48, by rw [b483, c06], l6.1, l6.2, fun j x y => ⟨?_, J j x (by omega)⟩⟩
    rw [b49 j x (by omega)]
    simp [absC, msk, x, show j < 60 from by omega]
  have hg : rdC u M2 p0 M2 := ⟨fun _ _ _ _ => rfl, by rw [e2, wrN (by decide), e1, wrI], by rw [e2, wrI]; rfl, by rw [b50 0 (by decide)]; exact k50, by rw [b50 2 (by decide)]; exact k502, b503, fun j x y => absurd y (by show ¬ j < 0; omega)⟩
  have run := c_lev (T := absC M 5) (D := 41) (a2 := 0) hT hu' (good_val (T := absC M 5) (L := absC M 0 6) (u := u) 5) (fun d hd => c_val hT hu' 5 (by decide) 0 d (by decide) hd) 5 (by decide) 0 60 (by decide) (by decide)
  unfold w_X3_readLevel
  refine ⟨pl_47, run p0 M2 _ (p0_ok l6.1) hg (fun M3 g3 => ?_)⟩
  change rdC u M2 (pRun u (absC M)).2 M3 at g3
  show (wrap (pRun u (absC M)).1 = 0 → _) ∧ (¬ wrap (pRun u (absC M)).1 = 0 → _)
  generalize pRun u (absC M) = R at gr1 gr2 g3 h ⊢
  obtain ⟨q1, q2, q3⟩ := gr1
  obtain ⟨g1, g2, g4, g5, g6, g7, g8⟩ := g3
  have ha : absC (wr M3 4 3 0) = up1 (absC M) 0 6 0 := by
    rw [ac_4_3]
    congr 1
    refine ac_eq (fun p hp => ?_)
    unfold scr at hp
    rw [g1 p (by omega) (by omega) (by omega)]
    exact b p (by omega) (by omega) (by omega) (by omega)
  have k3 : ∀ o, o ≠ 47 → o ≠ 49 → o ≠ 51 → ∀ i, (i = 0 ∨ i = 2 ∨ (o = 53 ∧ i = 3)) → wr M3 4 3 0 o i = M o i := by
    intro o x1 x2 x3 i hi
    by_cases o4 : o = 4
    · subst o4
      rw [wrN (by omega), g1 4 (by decide) (by decide) (by decide)]
      exact congrFun (b 4 (by decide) (by decide) (by decide) (by decide)) i
    · rw [wrO o4]
      by_cases o50 : o = 50
      · subst o50
        rcases hi with i0 | i2 | z
        · subst i0; rw [g5, k50]
        · subst i2; rw [g6, k502]
        · exact absurd z.1 (by decide)
      · rw [g1 o x1 o50 x3]
        by_cases o48 : o = 48
        · subst o48; exact b48 i (by omega)
        · exact congrFun (b o x1 o48 x2 o50) i
  have ka : cK (wr M3 4 3 0) := cK_rd hK (fun o x1 x2 x3 _ _ i hi => k3 o x1 x2 x3 i hi)
  have bad : ¬ (¬ R.1 = 0 ∧ R.2 0 0 = absC M 0 6) → k (-10 - R.2 0 0) (wr M3 4 3 0) := fun z => by
    rw [if_neg z] at h
    exact h _ ha ka
  have neg : ∀ p : Int, p = R.2 0 0 → ¬ (¬ R.1 = 0 ∧ R.2 0 0 = absC M 0 6) → w_X4_clear 4 M3 (fun M38 => (wrap p < 0 → w_X1_textOf 1 u M38 (fun r59c M59 => ∃ q59 : Nat, r59c = some q59 ∧ (w_X3_writeTo 47 q59 M59 (fun M62 => k 1 M62)))) ∧ (0 ≤ wrap p → k ((-10) - p) M38)) := fun p hp z => by
    subst hp
    refine sp_clear pl_4 ⟨fun w => ?_, fun _ => bad z⟩
    rw [wI ⟨by omega, by omega⟩] at w; omega
  unfold wB_X3_read_52 wB_X3_read_53
  refine ⟨fun z => z0 (neg _ g4 (fun w => w.1 (by rcases gr2 with e | ⟨e, -⟩; exact e; rw [e] at z; exact absurd z (by decide)))), fun nz => sp_size4 pl_48 ?_⟩
  have nz1 : ¬ R.1 = 0 := fun e => nz (by rw [e]; rfl)
  have e483 : M3 48 3 = absC M 0 6 := by rw [g1 48 (by decide) (by decide) (by decide), b483, c06]
  rw [g4, e483, wI (x := R.2 0 0) ⟨by omega, by omega⟩, wI (x := absC M 0 6) ⟨by omega, by omega⟩]
  refine ⟨fun ne => z0 (neg _ rfl (fun w => ne w.2)), fun eq => z1 ?_⟩
  rw [if_pos ⟨nz1, eq⟩] at h
  refine sp_clear pl_4 ⟨fun _ => sp_textOf hu' (fun o ho => ⟨o, rfl, ?_⟩), fun w => absurd w (by decide)⟩
  obtain ⟨p1, p2⟩ := pl_tx hu' ho
  unfold w_X3_writeTo
  have o45 : o = 14 ∨ o = 16 := by omega
  have ne1 : o ≠ 50 := by omega
  have ne2 : (50 : Nat) ≠ o + 1 := by omega
  refine ⟨pl_47, p1, sp_copy4 p1 pl_50 (by rw [p2]; rfl) ne2 (h _ ?_ ?_)⟩
  · refine (acX (M := wr M3 4 3 0) hu' ho (fun p x y => ?_)).trans ?_
    · rw [wrO' x]; exact cpyO y
    · rw [wrI, ha]
      refine setX_congr ?_ (fun j x y => ?_)
      · rw [wrO (by decide)]; exact g7
      · rw [wrO (by decide), g7] at y
        rw [wrO (by omega)]
        unfold cpy
        rw [p2, if_pos ⟨rfl, by omega, by show j < 0 + 60; omega⟩, show 0 + (j - 0) = j from by omega]
        show wr M3 4 3 0 51 j = _
        rw [wrO (by decide)]
        exact g8 j x y
  · refine cK_rd ka (fun p x1 x2 x3 x4 x5 i hi => ?_)
    have po : p ≠ o + 1 := by omega
    by_cases po2 : p = o
    · subst po2
      rw [wrN (by omega)]; exact congrFun (cpyO po) i
    · rw [wrO po2]; exact congrFun (cpyO po) i
-- the reference
theorem absR_eq {M M' : gSt} (e1 : M' 1 = M 1) (e2 : M' 2 = M 2) (e3 : M' 0 3 = M 0 3) (e11 : M' 11 = M 11) (e12 : M' 12 = M 12) (e13 : M' 13 = M 13) : absR M' = absR M := by
  unfold absR
  rw [e1, e2, e3, e11, e12, e13]
theorem rdT (M : gSt) (j : Int) (h0 : 0 ≤ j) (h1 : j < 60) : M 1 (452 + j) = absR M 5 j := by simp [absR, absS, msk, h0, h1]
/-- a text kept: what is not text u, and the image, untouched -/
def frT (u : Int) (M M' : gSt) : Prop := (∀ j, 202 ≤ j → j < 452 → (j < 202 + 125 * u ∨ 327 + 125 * u ≤ j) → M' 1 j = M 1 j) ∧ M' 2 = M 2 ∧ M' 0 16 = M 0 16
theorem r_copy {u c b : Int} {kk : Int → gSt → Prop} {k : gSt → Prop} (hb : 203 ≤ b ∧ b ≤ 328) (hc : 0 ≤ c ∧ c ≤ 60) : ∀ (r : Nat) (v : Int) (M : gSt), M 0 7 = c → 0 ≤ v → v + (r : Int) = 2 * c → k (fun p j => if p = 1 ∧ b + v ≤ j ∧ j < b + 2 * c then M 5 (j - b) else M p j) → wL_Rtext_104 u kk k (r + 1) (b - 1) v M := by
  intro r
  induction r with
  | zero =>
    intro v M e7 hv hr h
    unfold wL_Rtext_104 wC_Rtext_104
    rw [e7, wI (x := 2 * c) ⟨by omega, by omega⟩, wI (x := v) ⟨by omega, by omega⟩]
    refine ⟨fun _ => ?_, fun z => absurd z (by omega)⟩
    rw [show (fun (p : Nat) (j : Int) => if p = 1 ∧ b + v ≤ j ∧ j < b + 2 * c then M 5 (j - b) else M p j) = M from by funext p j; rw [if_neg (by omega)]] at h
    exact h
  | succ r ih =>
    intro v M e7 hv hr h
    unfold wL_Rtext_104 wC_Rtext_104
    rw [e7, wI (x := 2 * c) ⟨by omega, by omega⟩, wI (x := v) ⟨by omega, by omega⟩]
    refine ⟨fun z => absurd z (by omega), fun _ => ⟨⟨by omega, by omega⟩, ⟨by omega, by omega⟩, fun M1 e1 => ih (v + 1) M1 (by rw [e1, wrO (by decide)]; exact e7) (by omega) (by omega) ?_⟩⟩
    rw [show (fun (p : Nat) (j : Int) => if p = 1 ∧ b + (v + 1) ≤ j ∧ j < b + 2 * c then M1 5 (j - b) else M1 p j) = (fun p j => if p = 1 ∧ b + v ≤ j ∧ j < b + 2 * c then M 5 (j - b) else M p j) from by
      funext p j
      rw [e1]
      unfold wr
      by_cases w : p = 1 ∧ b + (v + 1) ≤ j ∧ j < b + 2 * c
      · rw [if_pos w, if_neg (by omega), if_pos (by omega)]
      · rw [if_neg w]
        by_cases w2 : p = 1 ∧ j = b - 1 + 1 + v
        · rw [if_pos w2, if_pos (by omega), w2.2, show b - 1 + 1 + v - b = v from by omega]
        · rw [if_neg w2, if_neg (by omega)]]
    exact h
theorem sR_text {u : Int} {M : gSt} {k : Int → gSt → Prop} (i1 : inI u) (I : iN (absR M)) (J : iTp (absR M)) (h : ∀ M', absR M' = (S_text u (absR M)).2 → ((S_text u (absR M)).1 ≠ 1 → fr M M') → ((S_text u (absR M)).1 = 1 → frT u M M' ∧ ∀ i, 0 ≤ i → i < M' 1 (202 + 125 * u) → tokOk u (M' 1 (203 + 125 * u + 2 * i)) (M' 1 (204 + 125 * u + 2 * i))) → k (S_text u (absR M)).1 M') : w_Rtext u M k := by
  unfold w_Rtext
  refine sp_Rin i1 (by constructor <;> decide) (by constructor <;> decide) (fun hu => z1n ?_) (fun hu => z0n ?_)
  rotate_left
  · unfold S_text at h
    rw [if_pos hu] at h
    exact sp_Rerror (by decide) (by decide) (fun M' e f => h M' e (fun _ => f) (fun z => absurd z (by show ¬ (-1000000000 - 1 = (1 : Int)); decide)))
  have hu' : u = 0 ∨ u = 1 := by omega
  have l6 : 0 ≤ absR M 0 6 ∧ absR M 0 6 ≤ 60 := by unfold iN at I; omega
  obtain ⟨gr1, gr2⟩ := good_run (u := u) (σ := absR M) l6.1
  unfold S_text at h
  rw [if_neg (fun w => w hu)] at h
  intro M1 e1 M2 e2 M3 e3 M4 e4
  have b : ∀ p, p ≠ 0 → M4 p = M p := fun p x => by rw [e4, wrO' x, e3, wrO' x, e2, wrO' x, e1, wrO' x]
  have b0 : ∀ j, j ≠ 5 → j ≠ 6 → j ≠ 7 → j ≠ 8 → M4 0 j = M 0 j := fun j x y z w => by rw [e4, wrN z, e3, wrN y, e2, wrN x, e1, wrN w]
  have b8 : M4 0 8 = u := by rw [e4, wrN (by decide), e3, wrN (by decide), e2, wrN (by decide), e1, wrI]
  have b5 : M4 0 5 = 0 := by rw [e4, wrN (by decide), e3, wrN (by decide), e2, wrI]
  have b6 : M4 0 6 = 0 := by rw [e4, wrN (by decide), e3, wrI]
  have b7 : M4 0 7 = 0 := by rw [e4, wrI]
  have hT : tpR (absR M 5) (absR M 0 6) u M4 := ⟨by rw [b 1 (by decide), rdS M 6 (by omega) (by omega)], l6.1, l6.2, b8, fun j x y => ⟨by rw [b 1 (by decide), rdT M j x (by omega)], J j x (by omega)⟩⟩
  have hg : rdR u M4 p0 M4 := ⟨fun _ _ _ => rfl, fun _ _ _ _ => rfl, b5, b7, fun j x y => absurd y (by show ¬ j < 0; omega)⟩
  have run := r_lev (T := absR M 5) (D := 31) hT (good_val (T := absR M 5) (L := absR M 0 6) (u := u) 5) (fun d hd => r_val hT hu' 5 (by decide) d hd) 60 (by decide)
  unfold w_Rwhole
  refine run p0 M4 _ (p0_ok l6.1) hg (by rw [b6]; rfl) (fun M5 g3 _ => ?_)
  change rdR u M4 (pRun u (absR M)).2 M5 at g3
  show (wrap (pRun u (absR M)).1 = 0 → _) ∧ (¬ wrap (pRun u (absR M)).1 = 0 → _)
  generalize pRun u (absR M) = R at gr1 gr2 g3 h ⊢
  obtain ⟨q1, q2, q3⟩ := gr1
  obtain ⟨g1, g2, g4, g5, g6⟩ := g3
  have a5 : absR M5 = absR M := absR_eq (by rw [g1 1 (by decide) (by decide)]; exact b 1 (by decide)) (by rw [g1 2 (by decide) (by decide)]; exact b 2 (by decide)) (by rw [g2 3 (by decide) (by decide) (by decide)]; exact b0 3 (by decide) (by decide) (by decide) (by decide)) (by rw [g1 11 (by decide) (by decide)]; exact b 11 (by decide)) (by rw [g1 12 (by decide) (by decide)]; exact b 12 (by decide)) (by rw [g1 13 (by decide) (by decide)]; exact b 13 (by decide))
  have a6 : absR (wr M5 1 6 0) = up1 (absR M) 0 6 0 := by
    rw [sp_Rsc (by omega) (by omega) (by rw [a5]; exact iN_t I), a5]
  have s1 : M5 1 = M 1 := by rw [g1 1 (by decide) (by decide)]; exact b 1 (by decide)
  have s2 : M5 2 = M 2 := by rw [g1 2 (by decide) (by decide)]; exact b 2 (by decide)
  have s16 : M5 0 16 = M 0 16 := by rw [g2 16 (by decide) (by decide) (by decide)]; exact b0 16 (by decide) (by decide) (by decide) (by decide)
  have neg : ¬ (¬ R.1 = 0 ∧ R.2 0 0 = absR M 0 6) → wB_Rtext_61 u k 0 M5 := fun z => by
    rw [if_neg z] at h
    unfold wB_Rtext_61
    intro M6 e6
    refine ⟨fun w => absurd wrap_0 w, fun _ => ?_⟩
    rw [show M6 0 5 = R.2 0 0 from by rw [e6, wrO (by decide)]; exact g4]
    refine h M6 (by rw [e6]; exact a6) (fun _ => ?_) (fun w => absurd w (by show ¬ (-10 - R.2 0 0 = 1); omega))
    subst e6
    exact ⟨fun j x y => by rw [wrN (by omega), s1], by rw [wrO' (by decide)]; exact s2, by rw [wrO (by decide)]; exact s16⟩
  unfold wB_Rtext_60
  refine ⟨fun z => neg (fun w => w.1 (by rcases gr2 with e | ⟨e, -⟩; exact e; rw [e] at z; exact absurd z (by decide))), fun nz => ?_⟩
  have nz1 : ¬ R.1 = 0 := fun e => nz (by rw [e]; rfl)
  rcases gr2 with gr2 | ⟨-, gr2⟩
  · exact absurd gr2 nz1
  rw [g4, s1, rdS M 6 (by omega) (by omega), wI (x := R.2 0 0) ⟨by omega, by omega⟩, wI (x := absR M 0 6) ⟨by omega, by omega⟩]
  refine ⟨fun ne => neg (fun w => ne w.2), fun eq => ?_⟩
  rw [if_pos ⟨nz1, eq⟩] at h
  unfold wB_Rtext_61
  intro M6 e6
  refine ⟨fun _ x ex => ⟨⟨by omega, by omega⟩, fun M7 e7 => ⟨(2 * R.2 0 1).toNat + 1, ?_⟩⟩, fun w => absurd w (by decide)⟩
  have m7 : M7 0 7 = R.2 0 1 := by rw [e7, wrO (by decide), e6, wrO (by decide)]; exact g5
  have cp := r_copy (u := u) (c := R.2 0 1) (b := x + 1) (kk := k) (k := fun M104 => k 1 M104) ⟨by omega, by omega⟩ ⟨q1, by omega⟩ (2 * R.2 0 1).toNat 0 M7 m7 (by decide) (by omega)
  rw [show x + 1 - 1 = x from by omega] at cp
  refine cp ?_
  subst ex
  have m6 : M6 0 7 = R.2 0 1 := by rw [e6, wrO (by decide)]; exact g5
  have raw : ∀ p j, (if p = 1 ∧ 202 + 125 * u + 1 + 0 ≤ j ∧ j < 202 + 125 * u + 1 + 2 * R.2 0 1 then M7 5 (j - (202 + 125 * u + 1)) else M7 p j) = if p = 1 ∧ 202 + 125 * u + 1 ≤ j ∧ j < 202 + 125 * u + 1 + 2 * R.2 0 1 then M5 5 (j - (202 + 125 * u + 1)) else if p = 1 ∧ j = 202 + 125 * u then R.2 0 1 else if p = 1 ∧ j = 6 then 0 else M5 p j := fun p j => by
    rw [e7, m6, e6]
    unfold wr
    by_cases w : p = 1 ∧ 202 + 125 * u + 1 ≤ j ∧ j < 202 + 125 * u + 1 + 2 * R.2 0 1
    · rw [if_pos w, if_pos (by omega), if_neg (by omega), if_neg (by omega)]
    · rw [if_neg w, if_neg (by omega)]
  rw [show (fun (p : Nat) (j : Int) => if p = 1 ∧ 202 + 125 * u + 1 + 0 ≤ j ∧ j < 202 + 125 * u + 1 + 2 * R.2 0 1 then M7 5 (j - (202 + 125 * u + 1)) else M7 p j) = (fun p j => if p = 1 ∧ 202 + 125 * u + 1 ≤ j ∧ j < 202 + 125 * u + 1 + 2 * R.2 0 1 then M5 5 (j - (202 + 125 * u + 1)) else if p = 1 ∧ j = 202 + 125 * u then R.2 0 1 else if p = 1 ∧ j = 6 then 0 else M5 p j) from funext fun p => funext fun j => raw p j]
  generalize hM : (fun (p : Nat) (j : Int) => if p = 1 ∧ 202 + 125 * u + 1 ≤ j ∧ j < 202 + 125 * u + 1 + 2 * R.2 0 1 then M5 5 (j - (202 + 125 * u + 1)) else if p = 1 ∧ j = 202 + 125 * u then R.2 0 1 else if p = 1 ∧ j = 6 then 0 else M5 p j) = MM
  have mo : ∀ p, p ≠ 1 → MM p = M5 p := fun p hp => by
    rw [← hM]; funext j; dsimp only
    rw [if_neg (fun z => hp z.1), if_neg (fun z => hp z.1), if_neg (fun z => hp z.1)]
  have mc : MM 1 (202 + 125 * u) = R.2 0 1 := by
    rw [← hM]; dsimp only
    rw [if_neg (by omega), if_pos ⟨rfl, rfl⟩]
  have mt : ∀ i, 0 ≤ i → i < R.2 0 1 → MM 1 (203 + 125 * u + 2 * i) = R.2 1 i ∧ MM 1 (204 + 125 * u + 2 * i) = R.2 2 i := fun i x y => by
    rw [← hM]; dsimp only
    rw [if_pos ⟨rfl, by omega, by omega⟩, if_pos ⟨rfl, by omega, by omega⟩, show 203 + 125 * u + 2 * i - (202 + 125 * u + 1) = 2 * i from by omega, show 204 + 125 * u + 2 * i - (202 + 125 * u + 1) = 2 * i + 1 from by omega]
    exact g6 i x y
  have mu : ∀ j, j ≠ 6 → j < 202 + 125 * u ∨ 327 + 125 * u ≤ j → MM 1 j = M5 1 j := fun j j6 hj => by
    rw [← hM]; dsimp only
    rw [if_neg (by omega), if_neg (by omega), if_neg (by omega)]
  have m16 : MM 1 6 = 0 := by
    rw [← hM]; dsimp only
    rw [if_neg (by omega), if_neg (by omega), if_pos ⟨rfl, rfl⟩]
  refine h MM ?_ (fun w => absurd rfl w) (fun _ => ⟨⟨fun j x y z => by rw [mu j (by omega) z, s1], by rw [mo 2 (by decide)]; exact s2, by rw [mo 0 (by decide)]; exact s16⟩, fun i x y => ?_⟩)
  · refine (arX (M := wr M5 1 6 0) (M' := MM) hu' (by rw [a6]; exact tOk_B (iN_t I) (Or.inr (by decide))) (fun o ho _ j _ => by rw [mo o ho, wrO ho]) (fun j hj => ?_)).trans ?_
    · by_cases j6 : j = 6
      · subst j6; rw [m16, wrI]
      · rw [wrN j6]; exact mu j j6 hj
    · rw [a6]
      refine setX_congr mc (fun j x y => ?_)
      rw [mc] at y
      rw [(mt j x y).1, (mt j x y).2]
  · rw [mc] at y
    rw [(mt i x y).1, (mt i x y).2]
    exact (gr2.2.2.1 i x y).1
end
section
-- a law worked out: both sides
theorem wwrap {x : Int} : wrap (wrap x) = wrap x := by unfold wrap; omega
theorem wrapK (x : Int) : ∃ t, wrap x = x + 4294967296 * t := ⟨-((x + 2147483648) / 4294967296), by unfold wrap; omega⟩
theorem wrap_mul (x y : Int) : wrap (wrap x * wrap y) = wrap (x * y) := by
  obtain ⟨a, ha⟩ := wrapK x
  obtain ⟨b, hb⟩ := wrapK y
  have e : wrap x * wrap y = x * y + 4294967296 * (x * b + a * y + 4294967296 * (a * b)) := by
    rw [ha, hb, Int.add_mul, Int.mul_add, Int.mul_add, Int.mul_add, Int.mul_add]
    have e1 : x * (4294967296 * b) = 4294967296 * (x * b) := Int.mul_left_comm _ _ _
    have e2 : 4294967296 * a * y = 4294967296 * (a * y) := Int.mul_assoc _ _ _
    have e3 : 4294967296 * a * (4294967296 * b) = 4294967296 * (4294967296 * (a * b)) := by rw [Int.mul_assoc, Int.mul_left_comm a]
    rw [e1, e2, e3]
    omega
  rw [e]
  generalize x * b + a * y + 4294967296 * (a * b) = t
  unfold wrap
  omega
def joinS (op a b : Int) : Int := wrap (if op = 37 then (if b = 0 then 0 else Int.tmod a b) else if op = 38 then (if a = 0 ∨ b = 0 then 0 else 1) else if op = 42 then a * b else if op = 43 then a + b else if op = 45 then a - b else if op = 47 then (if b = 0 then 0 else Int.tdiv a b) else if op = 60 then (if a < b then 1 else 0) else if op = 61 then (if a = b then 1 else 0) else if op = 62 then (if b < a then 1 else 0) else (if a = 0 ∧ b = 0 then 0 else 1))
theorem c_join {op x y : Int} {M : gSt} {k : Int → gSt → Prop} (ho : 0 ≤ lvl op) (h : ∀ r, wrap r = joinS op (wrap x) (wrap y) → k r M) : w_X7_joined op x y M k := by
  have hop : op = 37 ∨ op = 38 ∨ op = 42 ∨ op = 43 ∨ op = 45 ∨ op = 47 ∨ op = 60 ∨ op = 61 ∨ op = 62 ∨ op = 124 := by unfold lvl at ho; omega
  unfold w_X7_joined
  rw [wI (x := op) ⟨by omega, by omega⟩]
  unfold joinS at h
  have k0 : wrap 0 = 0 := rfl
  refine ⟨fun e => ?_, fun e => ?_, fun e => ?_, fun e => ?_, fun e => ?_, fun e => ?_, fun e => ?_, fun e => ?_, fun e => ?_, fun e => ?_⟩
  · subst e
    simp only [show ¬ ((38 : Int) = 37) from by decide, if_false, if_true] at h
    refine ⟨fun a => h 0 (by rw [if_pos (Or.inl a)]), fun a => ⟨fun b => h 0 (by rw [if_pos (Or.inr b)]), fun b => h 1 (by rw [if_neg (by omega)])⟩⟩
  · subst e
    simp only [show ¬ ((42 : Int) = 37) from by decide, show ¬ ((42 : Int) = 38) from by decide, if_false, if_true] at h
    exact h _ (wrap_mul x y).symm
  · subst e
    simp only [show ¬ ((43 : Int) = 37) from by decide, show ¬ ((43 : Int) = 38) from by decide, show ¬ ((43 : Int) = 42) from by decide, if_false, if_true] at h
    exact h _ (by unfold wrap; omega)
  · subst e
    simp only [show ¬ ((45 : Int) = 37) from by decide, show ¬ ((45 : Int) = 38) from by decide, show ¬ ((45 : Int) = 42) from by decide, show ¬ ((45 : Int) = 43) from by decide, if_false, if_true] at h
    exact h _ (by unfold wrap; omega)
  · subst e
    simp only [show ¬ ((47 : Int) = 37) from by decide, show ¬ ((47 : Int) = 38) from by decide, show ¬ ((47 : Int) = 42) from by decide, show ¬ ((47 : Int) = 43) from by decide, show ¬ ((47 : Int) = 45) from by decide, if_false, if_true] at h
    exact ⟨fun b => ⟨b, h _ (by rw [if_neg b])⟩, fun b => h 0 (by rw [if_pos b])⟩
  · subst e
    simp only [show ¬ ((60 : Int) = 37) from by decide, show ¬ ((60 : Int) = 38) from by decide, show ¬ ((60 : Int) = 42) from by decide, show ¬ ((60 : Int) = 43) from by decide, show ¬ ((60 : Int) = 45) from by decide, show ¬ ((60 : Int) = 47) from by decide, if_false, if_true] at h
    exact ⟨fun b => h 0 (by rw [if_neg (by omega)]), fun b => h 1 (by rw [if_pos b])⟩
  · subst e
    simp only [show ¬ ((61 : Int) = 37) from by decide, show ¬ ((61 : Int) = 38) from by decide, show ¬ ((61 : Int) = 42) from by decide, show ¬ ((61 : Int) = 43) from by decide, show ¬ ((61 : Int) = 45) from by decide, show ¬ ((61 : Int) = 47) from by decide, show ¬ ((61 : Int) = 60) from by decide, if_false, if_true] at h
    exact ⟨fun b => h 0 (by rw [if_neg b]), fun b => h 1 (by rw [if_pos b])⟩
  · subst e
    simp only [show ¬ ((62 : Int) = 37) from by decide, show ¬ ((62 : Int) = 38) from by decide, show ¬ ((62 : Int) = 42) from by decide, show ¬ ((62 : Int) = 43) from by decide, show ¬ ((62 : Int) = 45) from by decide, show ¬ ((62 : Int) = 47) from by decide, show ¬ ((62 : Int) = 60) from by decide, show ¬ ((62 : Int) = 61) from by decide, if_false, if_true] at h
    exact ⟨fun b => h 0 (by rw [if_neg (by omega)]), fun b => h 1 (by rw [if_pos b])⟩
  · subst e
    simp only [show ¬ ((124 : Int) = 37) from by decide, show ¬ ((124 : Int) = 38) from by decide, show ¬ ((124 : Int) = 42) from by decide, show ¬ ((124 : Int) = 43) from by decide, show ¬ ((124 : Int) = 45) from by decide, show ¬ ((124 : Int) = 47) from by decide, show ¬ ((124 : Int) = 60) from by decide, show ¬ ((124 : Int) = 61) from by decide, show ¬ ((124 : Int) = 62) from by decide, if_false] at h
    exact ⟨fun a => h 1 (by rw [if_neg (by omega)]), fun a => ⟨fun b => h 0 (by rw [if_pos ⟨a, b⟩]), fun b => h 1 (by rw [if_neg (by omega)])⟩⟩
  · have e37 : op = 37 := by omega
    subst e37
    simp only [if_true] at h
    exact ⟨fun b => ⟨b, h _ (by rw [if_neg b])⟩, fun b => h 0 (by rw [if_pos b])⟩
theorem r_join {op x y : Int} {M : gSt} {k : Int → gSt → Prop} (ho : 0 ≤ lvl op) (h : ∀ r, wrap r = joinS op (wrap x) (wrap y) → k r M) : w_Rjoined op x y M k := by
  have hop : op = 37 ∨ op = 38 ∨ op = 42 ∨ op = 43 ∨ op = 45 ∨ op = 47 ∨ op = 60 ∨ op = 61 ∨ op = 62 ∨ op = 124 := by unfold lvl at ho; omega
  unfold w_Rjoined
  rw [wI (x := op) ⟨by omega, by omega⟩]
  unfold joinS at h
  have k0 : wrap 0 = 0 := rfl
  refine ⟨fun e => ?_, fun e => ?_, fun e => ?_, fun e => ?_, fun e => ?_, fun e => ?_, fun e => ?_, fun e => ?_, fun e => ?_, fun e => ?_⟩
  · subst e
    simp only [if_true] at h
    exact ⟨fun b => h 0 (by rw [if_pos b]), fun b => ⟨fun _ => ⟨b, h _ (by rw [if_neg b])⟩, fun b1 => h 0 (by rw [if_neg b, b1, Int.tmod_neg, Int.tmod_one])⟩⟩
  · subst e
    simp only [show ¬ ((38 : Int) = 37) from by decide, if_false, if_true] at h
    refine ⟨fun a => h 0 (by rw [if_pos (Or.inl a)]), fun a => ⟨fun b => h 0 (by rw [if_pos (Or.inr b)]), fun b => h 1 (by rw [if_neg (by omega)])⟩⟩
  · subst e
    simp only [show ¬ ((42 : Int) = 37) from by decide, show ¬ ((42 : Int) = 38) from by decide, if_false, if_true] at h
    exact h _ (wrap_mul x y).symm
  · subst e
    simp only [show ¬ ((43 : Int) = 37) from by decide, show ¬ ((43 : Int) = 38) from by decide, show ¬ ((43 : Int) = 42) from by decide, if_false, if_true] at h
    exact h _ (by unfold wrap; omega)
  · subst e
    simp only [show ¬ ((45 : Int) = 37) from by decide, show ¬ ((45 : Int) = 38) from by decide, show ¬ ((45 : Int) = 42) from by decide, show ¬ ((45 : Int) = 43) from by decide, if_false, if_true] at h
    exact h _ (by unfold wrap; omega)
  · subst e
    simp only [show ¬ ((47 : Int) = 37) from by decide, show ¬ ((47 : Int) = 38) from by decide, show ¬ ((47 : Int) = 42) from by decide, show ¬ ((47 : Int) = 43) from by decide, show ¬ ((47 : Int) = 45) from by decide, if_false, if_true] at h
    refine ⟨fun b => ⟨fun _ => ⟨b, h _ (by rw [if_neg b])⟩, fun b1 => h _ ?_⟩, fun b => h 0 (by rw [if_pos b])⟩
    rw [if_neg b, b1, Int.tdiv_neg, Int.tdiv_one]
    unfold wrap
    omega
  · subst e
    simp only [show ¬ ((60 : Int) = 37) from by decide, show ¬ ((60 : Int) = 38) from by decide, show ¬ ((60 : Int) = 42) from by decide, show ¬ ((60 : Int) = 43) from by decide, show ¬ ((60 : Int) = 45) from by decide, show ¬ ((60 : Int) = 47) from by decide, if_false, if_true] at h
    exact ⟨fun b => h 0 (by rw [if_neg (by omega)]), fun b => h 1 (by rw [if_pos b])⟩
  · subst e
    simp only [show ¬ ((61 : Int) = 37) from by decide, show ¬ ((61 : Int) = 38) from by decide, show ¬ ((61 : Int) = 42) from by decide, show ¬ ((61 : Int) = 43) from by decide, show ¬ ((61 : Int) = 45) from by decide, show ¬ ((61 : Int) = 47) from by decide, show ¬ ((61 : Int) = 60) from by decide, if_false, if_true] at h
    exact ⟨fun b => h 0 (by rw [if_neg b]), fun b => h 1 (by rw [if_pos b])⟩
  · subst e
    simp only [show ¬ ((62 : Int) = 37) from by decide, show ¬ ((62 : Int) = 38) from by decide, show ¬ ((62 : Int) = 42) from by decide, show ¬ ((62 : Int) = 43) from by decide, show ¬ ((62 : Int) = 45) from by decide, show ¬ ((62 : Int) = 47) from by decide, show ¬ ((62 : Int) = 60) from by decide, show ¬ ((62 : Int) = 61) from by decide, if_false, if_true] at h
    exact ⟨fun b => h 0 (by rw [if_neg (by omega)]), fun b => h 1 (by rw [if_pos b])⟩
  · have e124 : op = 124 := by omega
    subst e124
    simp only [show ¬ ((124 : Int) = 37) from by decide, show ¬ ((124 : Int) = 38) from by decide, show ¬ ((124 : Int) = 42) from by decide, show ¬ ((124 : Int) = 43) from by decide, show ¬ ((124 : Int) = 45) from by decide, show ¬ ((124 : Int) = 47) from by decide, show ¬ ((124 : Int) = 60) from by decide, show ¬ ((124 : Int) = 61) from by decide, show ¬ ((124 : Int) = 62) from by decide, if_false] at h
    exact ⟨fun a => h 1 (by rw [if_neg (by omega)]), fun a => ⟨fun b => h 0 (by rw [if_pos ⟨a, b⟩]), fun b => h 1 (by rw [if_neg (by omega)])⟩⟩
/-- the pile's height before token n -/
def hX (f : Int → Int) : Nat → Int
  | 0 => 0
  | n + 1 => hX f n + (if f n = -33 then 0 else if f n < -3 then -1 else 1)
def tokV (g s m e : Int) : Int := wrap (if 0 ≤ e then e else if e = -1 then g else if e = -2 then s else m)
/-- the pile before token n -/
def stk (f : Int → Int) (g s m : Int) : Nat → Int → Int
  | 0 => fun _ => 0
  | n + 1 => fun j => if f n = -33 then (if j = hX f n - 1 then (if stk f g s m n j = 0 then 1 else 0) else stk f g s m n j) else if f n < -3 then (if j = hX f n - 2 then joinS (-(f n)) (stk f g s m n (hX f n - 2)) (stk f g s m n (hX f n - 1)) else stk f g s m n j) else (if j = hX f n then tokV g s m (f n) else stk f g s m n j)
def tkX (e : Int) : Prop := (0 ≤ e ∧ e ≤ 9999) ∨ (-3 ≤ e ∧ e ≤ -1) ∨ e = -33 ∨ (0 ≤ lvl (-e) ∧ e < -3)
def wfX (f : Int → Int) (n : Nat) : Prop := (∀ j : Nat, j < n → tkX (f j) ∧ (f j = -33 → 1 ≤ hX f j) ∧ (f j < -3 → ¬ f j = -33 → 2 ≤ hX f j) ∧ 0 ≤ hX f j) ∧ hX f n = 1
theorem hX_le {f : Int → Int} : ∀ n : Nat, hX f n ≤ n
  | 0 => Int.le_refl _
  | n + 1 => by
    have := hX_le (f := f) n
    unfold hX
    split
    · omega
    · split <;> omega
theorem hX_s {f : Int → Int} {n : Nat} : hX f (n + 1) = hX f n + (if f n = -33 then 0 else if f n < -3 then -1 else 1) := rfl
theorem stk_s {f : Int → Int} {g s m : Int} {n : Nat} {j : Int} : stk f g s m (n + 1) j = if f n = -33 then (if j = hX f n - 1 then (if stk f g s m n j = 0 then 1 else 0) else stk f g s m n j) else if f n < -3 then (if j = hX f n - 2 then joinS (-(f n)) (stk f g s m n (hX f n - 2)) (stk f g s m n (hX f n - 1)) else stk f g s m n j) else (if j = hX f n then tokV g s m (f n) else stk f g s m n j) := rfl
/-- the class's pile -/
def pileC (f : Int → Int) (g s m : Int) (n : Nat) (M0 M : gSt) : Prop := (∀ p, p ≠ 18 → p ≠ 19 → M p = M0 p) ∧ M 18 1 = hX f n ∧ ∀ j, 0 ≤ j → j < hX f n → wrap (M 19 j) = stk f g s m n j
theorem c_push {x : Int} {M : gSt} {k : gSt → Prop} (h0 : 0 ≤ M 18 1 ∧ M 18 1 < 60) (h : k (wr (wr M 19 (M 18 1) x) 18 1 (M 18 1 + 1))) : w_X7_push 18 x M k := by
  unfold w_X7_push
  rw [wI (x := M 18 1) ⟨by omega, by omega⟩]
  refine ⟨pl_18, fun z => absurd z (by omega), fun _ => ⟨fun z => absurd z (by show ¬ wrap (60 : Int) ≤ M 18 1; rw [show wrap 60 = 60 from by decide]; omega), fun _ => ⟨⟨h0.1, by show M 18 1 < 60; exact h0.2⟩, fun M1 e1 M2 e2 => ?_⟩⟩⟩
  subst e1; subst e2
  rw [wrO (by decide)]
  exact h
theorem c_pop {M : gSt} {k : Int → gSt → Prop} (h0 : 1 ≤ M 18 1 ∧ M 18 1 ≤ 60) (h : k (M 19 (M 18 1 - 1)) (wr M 18 1 (M 18 1 - 1))) : w_X7_pop 18 M k := by
  unfold w_X7_pop
  rw [wI (x := M 18 1) ⟨by omega, by omega⟩]
  refine ⟨pl_18, fun z => absurd z (by omega), fun _ => ⟨fun _ M1 e1 => ?_, fun z => absurd z (by show ¬ wrap (60 : Int) < M 18 1; rw [show wrap 60 = 60 from by decide]; omega)⟩⟩
  subst e1
  refine ⟨⟨by rw [wrI]; omega, by rw [wrI]; show M 18 1 - 1 < 60; omega⟩, ?_⟩
  rw [wrI, wrO (by decide)]
  exact h
theorem c_worked {o : Nat} {g s m L : Int} {M0 : gSt} {kk : Int → gSt → Prop} {X : gSt → Prop} {f : Int → Int} (ho : isRows o) (hl : lenC (o + 1) = 60) (o18 : o ≠ 18 ∧ o ≠ 19 ∧ o + 1 ≠ 18 ∧ o + 1 ≠ 19) (hW : M0 o 0 = 1) (hL : M0 o 3 = L) (bL : 0 ≤ L ∧ L ≤ 60) (hf : ∀ j, 0 ≤ j → j < L → M0 (o + 1) j = f j) (wf : wfX f L.toNat) (h : ∀ M, pileC f g s m L.toNat M0 M → X M) : ∀ (r n : Nat) (M : gSt), n + r = L.toNat → pileC f g s m n M0 M → wL_X7_value_8 18 o g s m kk X (r + 1) n M := by
  intro r
  induction r with
  | zero =>
    intro n M hn hp
    obtain ⟨p1, p2, p3⟩ := hp
    have eo := p1 o o18.1 o18.2.1
    unfold wL_X7_value_8 wC_X7_value_8
    refine sp_size4 ho ?_
    rw [eo, hL, wI (x := L) ⟨by omega, by omega⟩, wI (x := (n : Int)) ⟨by omega, by omega⟩]
    refine ⟨fun _ => h M ?_, fun z => absurd z (by omega)⟩
    rw [show L.toNat = n from by omega]
    exact ⟨p1, p2, p3⟩
  | succ r ih =>
    intro n M hn hp
    have hp' := hp
    obtain ⟨p1, p2, p3⟩ := hp'
    have eo := p1 o o18.1 o18.2.1
    have eo1 := p1 (o + 1) o18.2.2.1 o18.2.2.2
    obtain ⟨t1, t2, t3, t4⟩ := wf.1 n (by omega)
    have hle := hX_le (f := f) n
    have et := hf (n : Int) (by omega) (by omega)
    have rng : -124 ≤ f n ∧ f n ≤ 9999 := by unfold tkX lvl at t1; omega
    unfold wL_X7_value_8 wC_X7_value_8
    refine sp_size4 ho ?_
    rw [eo, hL, wI (x := L) ⟨by omega, by omega⟩, wI (x := (n : Int)) ⟨by omega, by omega⟩]
    refine ⟨fun z => absurd z (by omega), fun _ => ?_⟩
    refine sp_at (W := 1) ho (by rw [eo]; exact hW) (by rw [eo, hL]; exact ⟨by omega, by omega⟩) (by decide) ⟨by rw [eo, hL]; omega, by decide⟩ (by rw [hl]; show (n : Int) * 1 + 0 < 60; omega) (by rw [hl]; decide) ?_
    rw [show (n : Int) * 1 + 0 = n from by omega, eo1, et, wI (x := f n) ⟨by omega, by omega⟩]
    unfold wB_X7_value_97 wB_X7_value_71 wB_X7_value_129
    have next : ∀ M', pileC f g s m (n + 1) M0 M' → wL_X7_value_8 18 o g s m kk X (r + 1) ((n : Int) + 1) M' := fun M' q => by
      have := ih (n + 1) M' (by omega) q
      rw [show ((n + 1 : Nat) : Int) = (n : Int) + 1 from by omega] at this
      exact this
    have push : ∀ x, ¬ f n = -33 → ¬ f n < -3 → wrap x = tokV g s m (f n) → w_X7_push 18 x M (fun M' => wL_X7_value_8 18 o g s m kk X (r + 1) ((n : Int) + 1) M') := fun x z1 z2 hx => by
      refine c_push ⟨by omega, by omega⟩ (next _ ⟨fun p a b => by rw [wrO' a, wrO' b]; exact p1 p a b, ?_, fun j a b => ?_⟩)
      · rw [wrI, hX_s, if_neg z1, if_neg z2, p2]
      · rw [hX_s, if_neg z1, if_neg z2] at b
        rw [wrO (by decide), stk_s, if_neg z1, if_neg z2, p2]
        by_cases hj : j = hX f n
        · rw [if_pos hj, hj, wrI]; exact hx
        · rw [if_neg hj, wrN hj]; exact p3 j a (by omega)
    refine ⟨fun neg => ⟨fun low => ⟨fun n33 => ?_, fun e33 => ?_⟩, fun hi => ⟨fun n1 => ⟨fun n2 => ?_, fun e2 => ?_⟩, fun e1 => ?_⟩⟩, fun pos => push _ (by omega) (by omega) (by unfold tokV; rw [if_pos pos])⟩
    · have l0 : 0 ≤ lvl (-(f n)) := by unfold tkX at t1; omega
      have h2 := t3 low n33
      refine c_pop ⟨by omega, by omega⟩ ?_
      refine c_pop ⟨by rw [wrI]; omega, by rw [wrI]; omega⟩ ?_
      rw [wrI, wrO (by decide)]
      refine c_join l0 (fun x hx => ?_)
      refine c_push ⟨by rw [wrI]; omega, by rw [wrI]; omega⟩ (next _ ⟨fun p a b => by rw [wrO' a, wrO' b, wrO' a, wrO' a]; exact p1 p a b, ?_, fun j a b => ?_⟩)
      · rw [wrI, wrI, hX_s, if_neg n33, if_pos low, p2]; omega
      · rw [hX_s, if_neg n33, if_pos low] at b
        rw [wrO (by decide), stk_s, if_neg n33, if_pos low, wrI, p2]
        rw [p2, show hX f n - 1 - 1 = hX f n - 2 from by omega, p3 _ (by omega) (by omega), p3 _ (by omega) (by omega)] at hx
        by_cases hj : j = hX f n - 2
        · rw [if_pos hj, hj, show hX f n - 1 - 1 = hX f n - 2 from by omega, wrI]; exact hx
        · rw [if_neg hj, wrN (by omega), wrO (by decide), wrO (by decide)]; exact p3 j a (by omega)
    · have h1 := t2 e33
      have fin : ∀ v, v = (if stk f g s m n (hX f n - 1) = 0 then 1 else 0) → w_X7_push 18 v (wr M 18 1 (M 18 1 - 1)) (fun M' => wL_X7_value_8 18 o g s m kk X (r + 1) ((n : Int) + 1) M') := fun v hv => by
        refine c_push ⟨by rw [wrI]; omega, by rw [wrI]; omega⟩ (next _ ⟨fun p a b => by rw [wrO' a, wrO' b, wrO' a]; exact p1 p a b, ?_, fun j a b => ?_⟩)
        · rw [wrI, wrI, hX_s, if_pos e33, p2]; omega
        · rw [hX_s, if_pos e33] at b
          rw [wrO (by decide), stk_s, if_pos e33, wrI, p2]
          by_cases hj : j = hX f n - 1
          · rw [if_pos hj, hj, wrI, hv]
            by_cases w : stk f g s m n (hX f n - 1) = 0
            · rw [if_pos w]; decide
            · rw [if_neg w]; decide
          · rw [if_neg hj, wrN hj, wrO (by decide)]; exact p3 j a (by omega)
      refine c_pop ⟨by omega, by omega⟩ ?_
      rw [p2, p3 _ (by omega) (by omega)]
      rw [p2] at fin
      exact ⟨fun z => fin 0 (by rw [if_neg z]), fun z => fin 1 (by rw [if_pos z])⟩
    · exact push _ (by omega) (by omega) (by unfold tokV; rw [if_neg (by omega), if_neg n1, if_neg n2])
    · exact push _ (by omega) (by omega) (by unfold tokV; rw [if_neg (by omega), if_neg n1, if_pos e2])
    · exact push _ (by omega) (by omega) (by unfold tokV; rw [if_neg (by omega), if_pos e1])
theorem sp_value {u g s m : Int} {o : Nat} {M : gSt} {k : Int → gSt → Prop} (hu : u = 0 ∨ u = 1) (ho : (o : Int) = 14 + 2 * u) (hK : cK M) (bL : 0 ≤ M o 3 ∧ M o 3 ≤ 60) (wf : wfX (absC M (7 + u.toNat)) (M o 3).toNat) (h : ∀ r M', wrap r = stk (absC M (7 + u.toNat)) g s m (M o 3).toNat 0 → (∀ p, p ≠ 18 → p ≠ 19 → M' p = M p) → k r M') : w_X7_value 18 o g s m M k := by
  obtain ⟨p1, p2⟩ := pl_tx hu ho
  have oo : o = 14 ∨ o = 16 := by omega
  have w0 : M o 0 = 1 := by
    rcases oo with rfl | rfl
    · exact (cK_14 hK).1
    · exact (cK_16 hK).1
  have hf : ∀ j, 0 ≤ j → j < M o 3 → M (o + 1) j = absC M (7 + u.toNat) j := by
    intro j a b
    rcases hu with rfl | rfl
    · have : o = 14 := by omega
      subst this
      show M 15 j = msk (M 14 3) (M 15) j
      unfold msk; rw [if_pos ⟨a, b⟩]
    · have : o = 16 := by omega
      subst this
      show M 17 j = msk (M 16 3) (M 17) j
      unfold msk; rw [if_pos ⟨a, b⟩]
  unfold w_X7_value
  refine ⟨pl_18, p1, fun M1 e1 => ⟨(M o 3).toNat + 1, ?_⟩⟩
  have a1 : ∀ p, p ≠ 18 → M1 p = M p := fun p hp => by rw [e1]; exact wrO' hp
  refine c_worked (M0 := M1) (L := M o 3) (f := absC M (7 + u.toNat)) p1 p2 ⟨by omega, by omega, by omega, by omega⟩ (by rw [a1 o (by omega)]; exact w0) (by rw [a1 o (by omega)]) bL (fun j a b => by rw [a1 (o + 1) (by omega)]; exact hf j a b) wf (fun M2 q => ?_) (M o 3).toNat 0 M1 (by omega) ⟨fun _ _ _ => rfl, by rw [e1, wrI]; rfl, fun j a b => absurd b (by show ¬ j < 0; omega)⟩
  obtain ⟨q1, q2, q3⟩ := q
  have h1 := wf.2
  rw [h1] at q2 q3
  refine c_pop ⟨by omega, by omega⟩ ?_
  rw [q2]
  exact h _ _ (q3 0 (by decide) (by decide)) (fun p a b => by rw [wrO' a, q1 p a b]; exact a1 p a)
end
section
-- the reference's law worked out; tone, thingIs
def rawT (u : Int) (s : Int → Int) : Prop := ∀ i, 0 ≤ i → i < s (202 + 125 * u) → tokOk u (s (203 + 125 * u + 2 * i)) (s (204 + 125 * u + 2 * i))
theorem enc_cases {u a b : Int} (hu : u = 0 ∨ u = 1) (h : tokOk u a b) : (a = 0 ∧ encT u a b = b ∧ 0 ≤ b) ∨ (a = 1 ∧ encT u a b = encT u 1 b ∧ isNm u b ∧ -3 ≤ encT u a b ∧ encT u a b ≤ -1) ∨ (a = 2 ∧ encT u a b = -33) ∨ (a = 3 ∧ encT u a b = -b ∧ 0 ≤ lvl b ∧ -b < -3 ∧ ¬ -b = -33) := by
  rcases h with ⟨rfl, h1, h2⟩ | ⟨rfl, h1⟩ | ⟨rfl, h1⟩ | ⟨rfl, h1⟩
  · exact Or.inl ⟨rfl, rfl, h1⟩
  · refine Or.inr (Or.inl ⟨rfl, rfl, h1, ?_, ?_⟩) <;> (unfold encT; rcases hu with rfl | rfl <;> simp only [show ¬ ((1 : Int) = 0) from by decide, if_false, if_true] <;> split <;> (try split) <;> omega)
  · exact Or.inr (Or.inr (Or.inl ⟨rfl, rfl⟩))
  · refine Or.inr (Or.inr (Or.inr ⟨rfl, rfl, h1, ?_, ?_⟩)) <;> (unfold lvl at h1; omega)
def pileR (f : Int → Int) (g s m : Int) (n : Nat) (M0 M : gSt) : Prop := (∀ p, p ≠ 7 → M p = M0 p) ∧ ∀ j, 0 ≤ j → j < hX f n → wrap (M 7 j) = stk f g s m n j
theorem r_worked {u g s m L : Int} {M0 : gSt} {kk : Int → gSt → Prop} {X : gSt → Prop} {f : Int → Int} (hu : u = 0 ∨ u = 1) (hL : M0 1 (202 + 125 * u) = L) (bL : 0 ≤ L ∧ L ≤ 60) (raw : rawT u (M0 1)) (hf : ∀ j, 0 ≤ j → j < L → f j = encT u (M0 1 (203 + 125 * u + 2 * j)) (M0 1 (204 + 125 * u + 2 * j))) (hn : ∀ b, isNm u b → wrap (M0 6 b) = tokV g s m (encT u 1 b)) (wf : wfX f L.toNat) (h : ∀ M, pileR f g s m L.toNat M0 M → X M) : ∀ (r n : Nat) (M : gSt), n + r = L.toNat → pileR f g s m n M0 M → wL_Rworked_14 u kk X (r + 1) (202 + 125 * u) (hX f n) n M := by
  intro r
  induction r with
  | zero =>
    intro n M hn' hp
    obtain ⟨p1, p2⟩ := hp
    unfold wL_Rworked_14 wC_Rworked_14
    rw [p1 1 (by decide), hL, wI (x := L) ⟨by omega, by omega⟩, wI (x := (n : Int)) ⟨by omega, by omega⟩]
    refine ⟨⟨by omega, by omega⟩, fun _ => h M ?_, fun z => absurd z (by omega)⟩
    rw [show L.toNat = n from by omega]
    exact ⟨p1, p2⟩
  | succ r ih =>
    intro n M hn' hp
    have hp' := hp
    obtain ⟨p1, p2⟩ := hp'
    obtain ⟨t1, t2, t3, t4⟩ := wf.1 n (by omega)
    have hle := hX_le (f := f) n
    have ef := hf (n : Int) (by omega) (by omega)
    have rw1 := raw (n : Int) (by omega) (by rw [hL]; omega)
    have i1 : 202 + 125 * u + 1 + 2 * (n : Int) = 203 + 125 * u + 2 * (n : Int) := by omega
    have i2 : 202 + 125 * u + 2 + 2 * (n : Int) = 204 + 125 * u + 2 * (n : Int) := by omega
    generalize hA : M0 1 (203 + 125 * u + 2 * (n : Int)) = A at ef rw1
    generalize hB : M0 1 (204 + 125 * u + 2 * (n : Int)) = B at ef rw1
    have cs := enc_cases hu rw1
    rw [← ef] at cs
    unfold wL_Rworked_14 wC_Rworked_14
    rw [p1 1 (by decide), hL, wI (x := L) ⟨by omega, by omega⟩, wI (x := (n : Int)) ⟨by omega, by omega⟩]
    refine ⟨⟨by omega, by omega⟩, fun z => absurd z (by omega), fun _ => ⟨⟨by omega, by omega⟩, fun x ex => ⟨⟨by omega, by omega⟩, fun y ey => ?_⟩⟩⟩
    rw [i1, hA] at ex
    rw [i2, hB] at ey
    subst ex; subst ey
    have next : ∀ M' v, v = hX f (n + 1) → pileR f g s m (n + 1) M0 M' → wL_Rworked_14 u kk X (r + 1) (202 + 125 * u) v ((n : Int) + 1) M' := fun M' v hv q => by
      have := ih (n + 1) M' (by omega) q
      rw [show ((n + 1 : Nat) : Int) = (n : Int) + 1 from by omega] at this
      rw [hv]
      exact this
    have push : ∀ v, ¬ f n = -33 → ¬ f n < -3 → wrap v = tokV g s m (f n) → wB_Rworked_88 u kk (wL_Rworked_14 u kk X (r + 1)) X (202 + 125 * u) (hX f n) n v (hX f n) M := fun v z1 z2 hv => by
      unfold wB_Rworked_88 wB_Rworked_158
      refine ⟨⟨by omega, by omega⟩, fun M1 e1 => next M1 _ (by rw [hX_s, if_neg z1, if_neg z2]) ⟨fun p a => by rw [e1, wrO' a]; exact p1 p a, fun j a b => ?_⟩⟩
      rw [hX_s, if_neg z1, if_neg z2] at b
      rw [e1, stk_s, if_neg z1, if_neg z2]
      by_cases hj : j = hX f n
      · rw [if_pos hj, hj, wrI]; exact hv
      · rw [if_neg hj, wrN hj]; exact p2 j a (by omega)
    unfold wB_Rworked_66
    rcases cs with ⟨a0, e0, b0⟩ | ⟨a0, e0, b0, l1, l2⟩ | ⟨a0, e0⟩ | ⟨a0, e0, b0, l1, l2⟩
    · rw [a0]
      refine ⟨fun _ => ⟨fun z => absurd wrap_0 z, fun _ => push _ (by omega) (by omega) ?_⟩, fun z => absurd wrap_0 z⟩
      unfold tokV
      rw [if_pos (by omega), e0]
    · rw [a0]
      refine ⟨fun z => absurd z (by decide), fun _ => ⟨fun z => absurd (show wrap 1 = 1 by decide) z, fun _ => ⟨fun _ => ⟨⟨by omega, by omega⟩, push _ (by omega) (by omega) ?_⟩, fun z => absurd z (by decide)⟩⟩⟩
      rw [p1 6 (by decide), e0]
      exact hn _ b0
    · have h1 := t2 e0
      rw [a0]
      refine ⟨fun z => absurd z (by decide), fun _ => ⟨fun _ => ⟨fun z => absurd (show wrap 2 = 2 by decide) z, fun _ => ⟨⟨by omega, by omega⟩, ?_⟩⟩, fun z => absurd z (by decide)⟩⟩
      have fin : ∀ v, v = (if stk f g s m n (hX f n - 1) = 0 then 1 else 0) → wB_Rworked_124 u kk (wL_Rworked_14 u kk X (r + 1)) X (202 + 125 * u) (hX f n) n v (hX f n - 1) M := fun v hv => by
        unfold wB_Rworked_124 wB_Rworked_158
        refine ⟨⟨by omega, by omega⟩, fun M1 e1 => next M1 _ (by rw [hX_s, if_pos e0]; omega) ⟨fun p a => by rw [e1, wrO' a]; exact p1 p a, fun j a b => ?_⟩⟩
        rw [hX_s, if_pos e0] at b
        rw [e1, stk_s, if_pos e0]
        by_cases hj : j = hX f n - 1
        · rw [if_pos hj, hj, wrI, hv]
          by_cases w : stk f g s m n (hX f n - 1) = 0
          · rw [if_pos w]; decide
          · rw [if_neg w]; decide
        · rw [if_neg hj, wrN hj]; exact p2 j a (by omega)
      rw [p2 _ (by omega) (by omega)]
      exact ⟨fun z => fin 0 (by rw [if_neg z]), fun z => fin 1 (by rw [if_pos z])⟩
    · have n33 : ¬ f n = -33 := by omega
      have low : f n < -3 := by omega
      have h2 := t3 low n33
      rw [a0]
      refine ⟨fun z => absurd z (by decide), fun _ => ⟨fun _ => ⟨fun _ => ⟨⟨by omega, by omega⟩, ⟨by omega, by omega⟩, ?_⟩, fun z => absurd z (by decide)⟩, fun z => absurd z (by decide)⟩⟩
      rw [show hX f n + -1 - 1 = hX f n - 2 from by omega, show hX f n + -1 = hX f n - 1 from by omega]
      refine r_join b0 (fun x hx => ⟨⟨by omega, by omega⟩, fun M1 e1 => ?_⟩)
      unfold wB_Rworked_158
      rw [p2 _ (by omega) (by omega), p2 _ (by omega) (by omega)] at hx
      refine next M1 _ (by rw [hX_s, if_neg n33, if_pos low]; omega) ⟨fun p a => by rw [e1, wrO' a]; exact p1 p a, fun j a b => ?_⟩
      rw [hX_s, if_neg n33, if_pos low] at b
      rw [e1, stk_s, if_neg n33, if_pos low]
      by_cases hj : j = hX f n - 2
      · rw [if_pos hj, hj, wrI, show -(f n) = y from by omega]; exact hx
      · rw [if_neg hj, wrN hj]; exact p2 j a (by omega)
theorem sp_Rworked {u g s m L : Int} {M : gSt} {k : Int → gSt → Prop} {f : Int → Int} (hu : u = 0 ∨ u = 1) (hL : M 1 (202 + 125 * u) = L) (bL : 0 ≤ L ∧ L ≤ 60) (raw : rawT u (M 1)) (hf : ∀ j, 0 ≤ j → j < L → f j = encT u (M 1 (203 + 125 * u + 2 * j)) (M 1 (204 + 125 * u + 2 * j))) (hn : ∀ b, isNm u b → wrap (M 6 b) = tokV g s m (encT u 1 b)) (wf : wfX f L.toNat) (h : ∀ r M', wrap r = stk f g s m L.toNat 0 → (∀ p, p ≠ 7 → M' p = M p) → k r M') : w_Rworked u M k := by
  unfold w_Rworked
  intro x ex
  subst ex
  refine ⟨L.toNat + 1, r_worked (M0 := M) hu hL bL raw hf hn wf (fun M1 q => ?_) L.toNat 0 M (by omega) ⟨fun _ _ => rfl, fun j a b => absurd b (by show ¬ j < 0; omega)⟩⟩
  obtain ⟨q1, q2⟩ := q
  rw [wf.2] at q2
  exact h _ _ (q2 0 (by decide) (by decide)) q1
end
section
-- tone, thingIs: both sides
def thS (B : Int → Int) (t : Int) : Int := if B (10 * t + 2) = 0 then 0 else B (10 * t + 3) * 1000 / B (10 * t + 2)
def heldS (x lo hi : Int) : Int := if x < lo then lo else if hi < x then hi else x
def ringS (B f : Int → Int) (L t : Int) : Int := if 0 < L then heldS (stk f (B (10 * t + 2)) (thS B t) (B (10 * t + 1)) L.toNat 0) 0 9999 else 1000 - thS B t + B (10 * t + 1)
def toneS (B f : Int → Int) (L t : Int) : Int :=
  if B (10 * t + 0) = 1 then ringS B f L t else if B (10 * t + 0) = 2 then Int.tdiv (1000 - thS B t) 2 + B (10 * t + 1) else if B (10 * t + 0) = 3 then 1000 - thS B t - 2 * B (10 * t + 1)
  else if B (10 * t + 0) = 4 then ringS B f L t + 2 * B (10 * t + 1) else if B (10 * t + 0) = 5 then Int.tdiv (1000 - thS B t) 2 + B (10 * t + 1) + Int.tdiv (B (10 * t + 2)) 1000
  else if B (10 * t + 0) = 6 then 0 - (1000 - thS B t - 2 * B (10 * t + 1)) else 1000 - thS B t
theorem thS_rng {B : Int → Int} {t : Int} (h : thOk B (10 * t)) : 0 ≤ thS B t ∧ thS B t ≤ 1000 := by
  obtain ⟨-, -, h2, h3, -⟩ := h
  unfold thS
  by_cases z : B (10 * t + 2) = 0
  · rw [if_pos z]; decide
  · rw [if_neg z]
    exact ⟨Int.ediv_nonneg (by omega) (by omega), Int.ediv_le_of_le_mul (by omega) (by omega)⟩
theorem held_rng {x : Int} : 0 ≤ heldS x 0 9999 ∧ heldS x 0 9999 ≤ 9999 := by unfold heldS; split <;> (try split) <;> omega
theorem ring_rng {B f : Int → Int} {L t : Int} (h : thOk B (10 * t)) : 0 ≤ ringS B f L t ∧ ringS B f L t ≤ 9999 := by
  have a := thS_rng h
  obtain ⟨-, h1, -⟩ := h
  unfold ringS
  by_cases z : 0 < L
  · rw [if_pos z]; exact held_rng
  · rw [if_neg z]; omega
theorem c_held {r : Int} {M : gSt} {k : Int → gSt → Prop} (h : ∀ x, wrap x = heldS (wrap r) 0 9999 → k x M) : w_X1_held r 9999 M k := by
  unfold w_X1_held
  refine h _ ?_
  have w0 : wrap 0 = 0 := rfl
  have w9 : wrap 9999 = 9999 := by decide
  have e1 : wrap (xmin 9999 r) = if 9999 < wrap r then 9999 else wrap r := by
    unfold xmin
    rw [w9]
    by_cases z : wrap r < 9999
    · rw [if_pos z, if_neg (by omega)]
    · rw [if_neg z, w9]
      by_cases z2 : 9999 < wrap r
      · rw [if_pos z2]
      · rw [if_neg z2]; omega
  unfold xmax heldS
  rw [w0, e1]
  by_cases z : wrap r < 0
  · rw [if_pos z, if_neg (by split <;> omega), w0]
  · rw [if_neg z]
    by_cases z2 : 0 < if 9999 < wrap r then 9999 else wrap r
    · rw [if_pos z2, e1]
    · rw [if_neg z2, w0]
      by_cases z3 : 9999 < wrap r
      · rw [if_pos z3] at z2; omega
      · rw [if_neg z3] at z2 ⊢; omega
theorem c_ring {g s m : Int} {M : gSt} {k : Int → gSt → Prop} (hK : cK M) (bL : 0 ≤ M 14 3 ∧ M 14 3 ≤ 60) (wf : 0 < M 14 3 → wfX (absC M 7) (M 14 3).toNat) (bs : 0 ≤ s ∧ s ≤ 1000) (bm : 0 ≤ m ∧ m ≤ 99) (h : ∀ r M', wrap r = (if 0 < M 14 3 then heldS (stk (absC M 7) g s m (M 14 3).toNat 0) 0 9999 else 1000 - s + m) → (∀ p, p ≠ 18 → p ≠ 19 → M' p = M p) → k r M') : w_X1_ring 1 g s m M k := by
  unfold w_X1_ring
  refine ⟨pl_1, sp_size4 pl_14 ?_⟩
  show (¬ wrap (M 14 3) = 0 → w_X7_value 18 14 g s m M _) ∧ (wrap (M 14 3) = 0 → k (1000 - s + m) M)
  rw [wI (x := M 14 3) ⟨by omega, by omega⟩]
  refine ⟨fun z => sp_value (u := 0) (Or.inl rfl) rfl hK bL (wf (by omega)) (fun r M1 hr e1 => c_held (fun x hx => h x M1 ?_ e1)), fun z => h _ M ?_ (fun _ _ _ => rfl)⟩
  · rw [if_pos (by omega), hx, hr]
    rfl
  · rw [if_neg (by omega), wI ⟨by omega, by omega⟩]
theorem c_tone {a : Nat} {t : Int} {M : gSt} {k : Int → gSt → Prop} (hb : isBronze a) (hl : lenC (a + 1) = 130) (ht : 0 ≤ t ∧ t ≤ 12) (hK : cK M) (tk : thOk (M (a + 1)) (10 * t)) (bL : 0 ≤ M 14 3 ∧ M 14 3 ≤ 60) (wf : 0 < M 14 3 → wfX (absC M 7) (M 14 3).toNat) (h : ∀ r M', wrap r = toneS (M (a + 1)) (absC M 7) (M 14 3) t → (∀ p, p ≠ 18 → p ≠ 19 → M' p = M p) → k r M') : w_X1_tone 1 a t M k := by
  have sr := thS_rng tk
  have rr := ring_rng (f := absC M 7) (L := M 14 3) tk
  have tk' := tk
  obtain ⟨h0, h1, h2, h3, -⟩ := tk'
  unfold w_X1_tone
  refine ⟨pl_1, hb, sp_number hb hl ht (by decide) (sp_number hb hl ht (by decide) (sp_number hb hl ht (by decide) ?_))⟩
  rw [wI (x := M (a + 1) (10 * t + 3)) ⟨by omega, by omega⟩, wI (x := M (a + 1) (10 * t + 2)) ⟨by omega, by omega⟩]
  refine sp_quot ⟨by omega, by omega⟩ ⟨by omega, by omega⟩ ?_
  have es : qz (1000 * M (a + 1) (10 * t + 3)) (M (a + 1) (10 * t + 2)) = thS (M (a + 1)) t := by
    unfold qz thS
    rw [Int.mul_comm 1000]
  rw [es]
  intro x ex
  subst ex
  refine sp_number hb hl ht (by decide) ?_
  generalize hS : thS (M (a + 1)) t = S at sr ⊢
  have d1 : Int.tdiv (1000 - S) 2 = (1000 - S) / 2 := tdiv_pos (by omega)
  have d2 : Int.tdiv (M (a + 1) (10 * t + 2)) 1000 = M (a + 1) (10 * t + 2) / 1000 := tdiv_pos (by omega)
  rw [wI (x := M (a + 1) (10 * t + 0)) ⟨by omega, by omega⟩, wI (x := 1000 - S) ⟨by omega, by omega⟩]
  unfold toneS at h
  rw [hS] at h
  refine ⟨fun e => ?_, fun e => ?_, fun e => ?_, fun e => ?_, fun e => ?_, fun e => ?_, fun e => ?_⟩
  · rw [e] at h
    simp only [if_true] at h
    refine c_ring hK bL wf sr h1 (fun r M' hr e' => h r M' ?_ e')
    unfold ringS
    rw [hS]
    exact hr
  · rw [e] at h
    simp only [show ¬ ((2 : Int) = 1) from by decide, if_false, if_true] at h
    exact h _ M (wI ⟨by omega, by omega⟩) (fun _ _ _ => rfl)
  · rw [e] at h
    simp only [show ¬ ((3 : Int) = 1) from by decide, show ¬ ((3 : Int) = 2) from by decide, if_false, if_true] at h
    exact h _ M (wI ⟨by omega, by omega⟩) (fun _ _ _ => rfl)
  · rw [e] at h
    simp only [show ¬ ((4 : Int) = 1) from by decide, show ¬ ((4 : Int) = 2) from by decide, show ¬ ((4 : Int) = 3) from by decide, if_false, if_true] at h
    refine c_ring hK bL wf sr h1 (fun r M' hr e' => h _ M' ?_ e')
    have er : wrap r = ringS (M (a + 1)) (absC M 7) (M 14 3) t := by
      unfold ringS
      rw [hS]
      exact hr
    have : wrap (r + 2 * M (a + 1) (10 * t + 1)) = wrap (wrap r + 2 * M (a + 1) (10 * t + 1)) := by unfold wrap; omega
    rw [this, er]
    exact wI ⟨by omega, by omega⟩
  · rw [e] at h
    simp only [show ¬ ((5 : Int) = 1) from by decide, show ¬ ((5 : Int) = 2) from by decide, show ¬ ((5 : Int) = 3) from by decide, show ¬ ((5 : Int) = 4) from by decide, if_false, if_true] at h
    exact h _ M (wI ⟨by omega, by omega⟩) (fun _ _ _ => rfl)
  · rw [e] at h
    simp only [show ¬ ((6 : Int) = 1) from by decide, show ¬ ((6 : Int) = 2) from by decide, show ¬ ((6 : Int) = 3) from by decide, show ¬ ((6 : Int) = 4) from by decide, show ¬ ((6 : Int) = 5) from by decide, if_false, if_true] at h
    exact h _ M (wI ⟨by omega, by omega⟩) (fun _ _ _ => rfl)
  · rw [if_neg (by omega), if_neg (by omega), if_neg (by omega), if_neg (by omega), if_neg (by omega), if_neg (by omega)] at h
    exact h _ M (wI ⟨by omega, by omega⟩) (fun _ _ _ => rfl)
def S_thingIs (t w : Int) (σ : gSt) : Int := if ¬ ((0 ≤ t ∧ t < σ 0 0) ∧ (0 ≤ w ∧ w ≤ 10)) then -1000000001 else if w = 10 then toneS (σ 1) (σ 7) (σ 0 9) t else σ 1 (10 * t + w)
/-- the texts as they can be -/
def iX (σ : gSt) : Prop := (0 < σ 0 9 → wfX (σ 7) (σ 0 9).toNat) ∧ (0 < σ 0 10 → wfX (σ 8) (σ 0 10).toNat)
theorem toneS_congr {B B' f : Int → Int} {L t : Int} (ht : 0 ≤ t ∧ t ≤ 12) (h : ∀ j, 0 ≤ j → j < 130 → B' j = B j) : toneS B' f L t = toneS B f L t := by
  unfold toneS ringS thS
  rw [h (10 * t + 0) (by omega) (by omega), h (10 * t + 1) (by omega) (by omega), h (10 * t + 2) (by omega) (by omega), h (10 * t + 3) (by omega) (by omega)]
theorem thOk_cg {B B' : Int → Int} {t : Int} (ht : 0 ≤ t ∧ t ≤ 12) (h : ∀ j, 0 ≤ j → j < 130 → B' j = B j) (k : thOk B (10 * t)) : thOk B' (10 * t) := by
  unfold thOk at k ⊢
  rw [h (10 * t + 0) (by omega) (by omega), h (10 * t + 1) (by omega) (by omega), h (10 * t + 2) (by omega) (by omega), h (10 * t + 3) (by omega) (by omega), h (10 * t + 4) (by omega) (by omega), h (10 * t + 5) (by omega) (by omega), h (10 * t + 6) (by omega) (by omega), h (10 * t + 7) (by omega) (by omega), h (10 * t + 8) (by omega) (by omega), h (10 * t + 9) (by omega) (by omega)]
  exact k
theorem sC_thingIs {t w : Int} {M : gSt} {k : Int → gSt → Prop} (i1 : inI t) (i2 : inI w) (I : iN (absC M)) (J : iB (absC M)) (X : iX (absC M)) (hK : cK M) (h : ∀ r M', wrap r = wrap (S_thingIs t w (absC M)) → absC M' = absC M → cK M' → k r M') : w_X8_thingIs t w M k := by
  unfold iN at I
  have n0 := rc00 M
  have n9 := rc09 M
  unfold w_X8_thingIs wB_X8_thingIs_24
  have bad : ¬ ((0 ≤ t ∧ t < absC M 0 0) ∧ (0 ≤ w ∧ w ≤ 10)) → w_X8_refuse 1 M (fun r26c M26 => k r26c M26) := fun z =>
    sp_refuse (by decide) (by decide) (h _ _ (by unfold S_thingIs; rw [if_pos z]; rfl) (ac_eq (fun o ho => wrO' (by unfold scr at ho; omega))) (cK_wr hK (Or.inr (by decide))))
  refine sp_has0 pl_2 i1 ⟨by omega, by omega⟩ (fun h1 => z1 ?_) (fun h1 => z0 (bad (by omega)))
  refine sp_within i2 (by constructor <;> decide) (by constructor <;> decide) (fun h2 => z1n ?_) (fun h2 => z0n (bad (by omega)))
  have hS : S_thingIs t w (absC M) = if w = 10 then toneS (absC M 1) (absC M 7) (absC M 0 9) t else absC M 1 (10 * t + w) := by
    unfold S_thingIs; rw [if_neg (by omega)]
  rw [hS] at h
  unfold w_X1_numberOf
  rw [wI i2]
  refine ⟨pl_1, pl_2, fun z => sp_number pl_2 rfl ⟨by omega, by omega⟩ ⟨by omega, by omega⟩ (h _ M ?_ rfl hK), fun z => ?_⟩
  · rw [if_neg z, rc1 M (i := 10 * t + w) (by omega) (by omega)]
  · rw [if_pos z] at h
    have bj : ∀ j, 0 ≤ j → j < 130 → M 3 j = absC M 1 j := fun j a b => (rc1 M a b).symm
    refine c_tone (a := 2) pl_2 rfl ⟨by omega, by omega⟩ hK (thOk_cg (B := absC M 1) ⟨by omega, by omega⟩ bj (J t (by omega) (by omega))) ⟨by omega, by omega⟩ (fun q => by rw [← n9] at q ⊢; exact X.1 q) (fun r M' hr e' => h r M' ?_ ?_ ?_)
    · have tS : toneS (M 3) (absC M 7) (M 14 3) t = toneS (absC M 1) (absC M 7) (absC M 0 9) t := by rw [n9]; exact toneS_congr ⟨by omega, by omega⟩ bj
      change wrap r = toneS (M 3) (absC M 7) (M 14 3) t at hr
      rw [← tS, ← hr, wwrap]
    · exact ac_eq (fun o ho => e' o (by unfold scr at ho; omega) (by unfold scr at ho; omega))
    · exact cK_eq hK (fun o a b c d i hi => by rw [e' o (by omega) (by omega)])
-- the reference
theorem r_ths {t : Int} {M : gSt} {k : Int → gSt → Prop} (ht : 0 ≤ t ∧ t ≤ 12) (tk : thOk (absR M 1) (10 * t)) (h : k (thS (absR M 1) t) M) : w_Rthousandths t M k := by
  obtain ⟨-, -, h2, h3, -⟩ := tk
  unfold thS at h
  unfold w_Rthousandths
  refine sp_Rits ht (by decide) ?_
  rw [wI (x := absR M 1 (10 * t + 2)) ⟨by omega, by omega⟩]
  refine ⟨fun z => ?_, fun z => ?_⟩
  · rw [if_neg z] at h
    exact sp_Rits ht (by decide) (sp_Rits ht (by decide) (sp_RpartOf ⟨by omega, by omega⟩ (by decide) ⟨by omega, by omega⟩ h))
  · rw [if_pos z] at h
    exact h
theorem r_held {r : Int} {M : gSt} {k : Int → gSt → Prop} (h : ∀ x, wrap x = heldS (wrap r) 0 9999 → k x M) : w_Rheld r 0 9999 M k := by
  unfold w_Rheld
  have w0 : wrap 0 = 0 := rfl
  have w9 : wrap 9999 = 9999 := by decide
  unfold heldS at h
  rw [w0, w9]
  refine ⟨fun a => ⟨fun b => h r (by rw [if_neg (by omega), if_neg (by omega)]), fun b => h 9999 (by rw [if_neg (by omega), if_pos b, w9])⟩, fun a => h 0 (by rw [if_pos a, w0])⟩
/-- only the rooms 6 and 7 changed -/
def on67 (M M' : gSt) : Prop := ∀ p, p ≠ 6 → p ≠ 7 → M' p = M p
theorem on67_abs {M M' : gSt} (h : on67 M M') : absR M' = absR M ∧ fr M M' := by
  refine ⟨absR_eq (h 1 (by decide) (by decide)) (h 2 (by decide) (by decide)) (by rw [h 0 (by decide) (by decide)]) (h 11 (by decide) (by decide)) (h 12 (by decide) (by decide)) (h 13 (by decide) (by decide)), fun j _ _ => by rw [h 1 (by decide) (by decide)], h 2 (by decide) (by decide), by rw [h 0 (by decide) (by decide)]⟩
theorem r_rings {t : Int} {M : gSt} {k : Int → gSt → Prop} (ht : 0 ≤ t ∧ t ≤ 12) (tk : thOk (absR M 1) (10 * t)) (bL : 0 ≤ absR M 0 9 ∧ absR M 0 9 ≤ 60) (raw : rawT 0 (M 1)) (wf : 0 < absR M 0 9 → wfX (absR M 7) (absR M 0 9).toNat) (h : ∀ r M', wrap r = ringS (absR M 1) (absR M 7) (absR M 0 9) t → on67 M M' → k r M') : w_Rrings t M k := by
  have sr := thS_rng tk
  have l := rdL (M := M) (u := 0) (Or.inl rfl)
  change M 1 202 = absR M 0 9 at l
  unfold w_Rrings w_RhasText
  refine r_ths ht tk ⟨by decide, ?_⟩
  show (wrap (M 1 202) ≤ 0 → _) ∧ (0 < wrap (M 1 202) → _)
  rw [l, wI (x := absR M 0 9) ⟨by omega, by omega⟩]
  obtain ⟨-, h1, h2, -⟩ := tk
  refine ⟨fun z => z0n (sp_Rits ht (by decide) (r_held (fun x hx => h x M ?_ (fun _ _ _ => rfl)))), fun z => z1n (sp_Rits ht (by decide) (fun M1 e1 M2 e2 => ?_))⟩
  · unfold ringS
    rw [if_neg (by omega), hx, wI ⟨by omega, by omega⟩]
    unfold heldS
    rw [if_neg (by omega), if_neg (by omega)]
  · have o1 : on67 M M2 := fun p a b => by rw [e2, wrO' a, e1, wrO' a]
    have a2 := (on67_abs o1).1
    refine sp_Rits ht (by decide) (fun M3 e3 => ?_)
    rw [a2] at e3
    have o3 : on67 M M3 := fun p a b => by rw [e3, wrO' a]; exact o1 p a b
    have e31 : M3 1 = M 1 := o3 1 (by decide) (by decide)
    have m103 : M3 6 103 = absR M 1 (10 * t + 2) := by rw [e3, wrN (by decide), e2, wrN (by decide), e1, wrI]
    have m115 : M3 6 115 = thS (absR M 1) t := by rw [e3, wrN (by decide), e2, wrI]
    have m109 : M3 6 109 = absR M 1 (10 * t + 1) := by rw [e3, wrI]
    refine sp_Rworked (u := 0) (g := absR M 1 (10 * t + 2)) (s := thS (absR M 1) t) (m := absR M 1 (10 * t + 1)) (L := absR M 0 9) (f := absR M 7) (Or.inl rfl) (by rw [e31]; exact l) bL (by rw [e31]; exact raw) (fun j a b => ?_) (fun b hb => ?_) (wf z) (fun r M' hr e' => r_held (fun x hx => h x M' ?_ (fun p a b => (e' p b).trans (o3 p a b))))
    · rw [e31]
      have : absR M 7 j = msk (M 1 202) (fun i => encT 0 (M 1 (203 + 2 * i)) (M 1 (204 + 2 * i))) j := rfl
      rw [this]
      unfold msk
      rw [l, if_pos ⟨a, b⟩]
      rfl
    · rcases hb with rfl | ⟨-, rfl | rfl⟩ | ⟨z, -⟩
      · rw [m103]; rfl
      · rw [m115]; rfl
      · rw [m109]; rfl
      · exact absurd rfl z
    · unfold ringS
      rw [if_pos z, hx, hr]
theorem r_tone {t : Int} {M : gSt} {k : Int → gSt → Prop} (ht : 0 ≤ t ∧ t ≤ 12) (tk : thOk (absR M 1) (10 * t)) (bL : 0 ≤ absR M 0 9 ∧ absR M 0 9 ≤ 60) (raw : rawT 0 (M 1)) (wf : 0 < absR M 0 9 → wfX (absR M 7) (absR M 0 9).toNat) (h : ∀ r M', wrap r = toneS (absR M 1) (absR M 7) (absR M 0 9) t → on67 M M' → k r M') : w_Rtone t M k := by
  have sr := thS_rng tk
  have rr := ring_rng (f := absR M 7) (L := absR M 0 9) tk
  have tk' := tk
  obtain ⟨h0, h1, h2, h3, -⟩ := tk'
  have rf : on67 M M := fun _ _ _ => rfl
  unfold w_Rtone
  refine r_ths ht tk (fun x ex => sp_Rits ht (by decide) (sp_Rits ht (by decide) ?_))
  subst ex
  generalize hS : thS (absR M 1) t = S at sr ⊢
  have d1 : Int.tdiv (1000 - S) 2 = (1000 - S) / 2 := tdiv_pos (by omega)
  have d2 : Int.tdiv (absR M 1 (10 * t + 2)) 1000 = absR M 1 (10 * t + 2) / 1000 := tdiv_pos (by omega)
  rw [wI (x := absR M 1 (10 * t + 0)) ⟨by omega, by omega⟩, wI (x := 1000 - S) ⟨by omega, by omega⟩]
  unfold toneS at h
  rw [hS] at h
  refine ⟨fun e => ?_, fun e => ?_, fun e => ?_, fun e => ?_, fun e => ?_, fun e => ?_, fun e => ?_⟩
  · rw [e] at h
    simp only [if_true] at h
    exact r_rings ht tk bL raw wf h
  · rw [e] at h
    simp only [show ¬ ((2 : Int) = 1) from by decide, if_false, if_true] at h
    exact h _ M (wI ⟨by omega, by omega⟩) rf
  · rw [e] at h
    simp only [show ¬ ((3 : Int) = 1) from by decide, show ¬ ((3 : Int) = 2) from by decide, if_false, if_true] at h
    exact h _ M (wI ⟨by omega, by omega⟩) rf
  · rw [e] at h
    simp only [show ¬ ((4 : Int) = 1) from by decide, show ¬ ((4 : Int) = 2) from by decide, show ¬ ((4 : Int) = 3) from by decide, if_false, if_true] at h
    refine r_rings ht tk bL raw wf (fun r M' hr e' => h _ M' ?_ e')
    have : wrap (r + 2 * absR M 1 (10 * t + 1)) = wrap (wrap r + 2 * absR M 1 (10 * t + 1)) := by unfold wrap; omega
    rw [this, hr]
    exact wI ⟨by omega, by omega⟩
  · rw [e] at h
    simp only [show ¬ ((5 : Int) = 1) from by decide, show ¬ ((5 : Int) = 2) from by decide, show ¬ ((5 : Int) = 3) from by decide, show ¬ ((5 : Int) = 4) from by decide, if_false, if_true] at h
    refine sp_Rits ht (by decide) ?_
    rw [wI (x := absR M 1 (10 * t + 2)) ⟨by omega, by omega⟩]
    exact h _ M (wI ⟨by omega, by omega⟩) rf
  · rw [e] at h
    simp only [show ¬ ((6 : Int) = 1) from by decide, show ¬ ((6 : Int) = 2) from by decide, show ¬ ((6 : Int) = 3) from by decide, show ¬ ((6 : Int) = 4) from by decide, show ¬ ((6 : Int) = 5) from by decide, if_false, if_true] at h
    exact h _ M (wI ⟨by omega, by omega⟩) rf
  · rw [if_neg (by omega), if_neg (by omega), if_neg (by omega), if_neg (by omega), if_neg (by omega), if_neg (by omega)] at h
    exact h _ M (wI ⟨by omega, by omega⟩) rf
theorem sR_thingIs {t w : Int} {M : gSt} {k : Int → gSt → Prop} (i1 : inI t) (i2 : inI w) (I : iN (absR M)) (J : iB (absR M)) (X : iX (absR M)) (raw : rawT 0 (M 1)) (h : ∀ r M', wrap r = wrap (S_thingIs t w (absR M)) → absR M' = absR M → fr M M' → k r M') : w_RthingIs t w M k := by
  unfold iN at I
  unfold w_RthingIs wB_RthingIs_27
  have bad : ¬ ((0 ≤ t ∧ t < absR M 0 0) ∧ (0 ≤ w ∧ w ≤ 10)) → w_Rerror 1 M (fun r29c M29 => k r29c M29) := fun z =>
    sp_Rerror (by decide) (by decide) (fun M' e f => h _ M' (by unfold S_thingIs; rw [if_pos z]; rfl) e f)
  refine sp_RisThing i1 ⟨by omega, by omega⟩ (fun h1 => z1 ?_) (fun h1 => z0 (bad (by omega)))
  refine sp_Rin i2 (by constructor <;> decide) (by constructor <;> decide) (fun h2 => z1 ?_) (fun h2 => z0 (bad (by omega)))
  have hS : S_thingIs t w (absR M) = if w = 10 then toneS (absR M 1) (absR M 7) (absR M 0 9) t else absR M 1 (10 * t + w) := by
    unfold S_thingIs; rw [if_neg (by omega)]
  rw [hS] at h
  unfold w_Rtold1
  rw [wI i2]
  refine ⟨fun z => sp_Rits ⟨by omega, by omega⟩ ⟨by omega, by omega⟩ (h _ M (by rw [if_neg z]) rfl fr_rf), fun z => ?_⟩
  rw [if_pos z] at h
  refine r_tone ⟨by omega, by omega⟩ (J t (by omega) (by omega)) ⟨by omega, by omega⟩ raw X.1 (fun r M' hr e' => h r M' (by rw [← hr, wwrap]) (on67_abs e').1 (on67_abs e').2)
end
section
-- then: both sides
def vw (σ τ : gSt) : Prop := σ 0 0 = τ 0 0 ∧ σ 0 5 = τ 0 5 ∧ σ 0 8 = τ 0 8 ∧ ∀ j, 0 ≤ j → j < 130 → σ 1 j = τ 1 j
theorem vw_8 {σ τ : gSt} {x : Int} (h : vw σ τ) : vw (up1 σ 0 8 x) (up1 τ 0 8 x) := by
  obtain ⟨a, b, c, d⟩ := h
  exact ⟨by rw [up1_n (by decide), up1_n (by decide)]; exact a, by rw [up1_n (by decide), up1_n (by decide)]; exact b, by rw [up1_i, up1_i], fun j x y => by rw [up1_o (by decide), up1_o (by decide)]; exact d j x y⟩
theorem vw_5 {σ τ : gSt} {x : Int} (h : vw σ τ) : vw (up1 σ 0 5 x) (up1 τ 0 5 x) := by
  obtain ⟨a, b, c, d⟩ := h
  exact ⟨by rw [up1_n (by decide), up1_n (by decide)]; exact a, by rw [up1_i, up1_i], by rw [up1_n (by decide), up1_n (by decide)]; exact c, fun j x y => by rw [up1_o (by decide), up1_o (by decide)]; exact d j x y⟩
theorem vw_lose {σ τ : gSt} {t : Int} (h : vw σ τ) : vw (loseT σ t) (loseT τ t) := by
  obtain ⟨a, b, c, d⟩ := h
  unfold loseT
  refine ⟨by simp only [show ¬ ((0 : Nat) = 1) from by decide, false_and, if_false]; exact a, by simp only [show ¬ ((0 : Nat) = 1) from by decide, false_and, if_false]; exact b, by simp only [show ¬ ((0 : Nat) = 1) from by decide, false_and, if_false]; exact c, fun j x y => ?_⟩
  dsimp only
  rw [d j x y]
theorem vw_T {σ τ : gSt} (h : vw σ τ) : ∀ n : Nat, n ≤ 12 → vw (yearT σ n) (yearT τ n)
  | 0, _ => h
  | n + 1, hn => by
    have ih := vw_T h n (by omega)
    have ih' := ih
    obtain ⟨a, b, c, d⟩ := ih'
    show vw (if xushr (nextZ (yearT σ n 0 8)) 8 % 100 < yearT σ n 1 (10 * (n : Int) + 1) then loseT (up1 (yearT σ n) 0 8 (nextZ (yearT σ n 0 8))) n else up1 (yearT σ n) 0 8 (nextZ (yearT σ n 0 8))) (if xushr (nextZ (yearT τ n 0 8)) 8 % 100 < yearT τ n 1 (10 * (n : Int) + 1) then loseT (up1 (yearT τ n) 0 8 (nextZ (yearT τ n 0 8))) n else up1 (yearT τ n) 0 8 (nextZ (yearT τ n 0 8)))
    rw [c, d (10 * (n : Int) + 1) (by omega) (by omega)]
    by_cases w : xushr (nextZ (yearT τ n 0 8)) 8 % 100 < yearT τ n 1 (10 * (n : Int) + 1)
    · rw [if_pos w, if_pos w]; exact vw_lose (vw_8 ih)
    · rw [if_neg w, if_neg w]; exact vw_8 ih
theorem vw_go {σ τ : gSt} (h : vw σ τ) (J : iB σ) (h0 : 0 ≤ σ 0 0 ∧ σ 0 0 ≤ 12) : ∀ n : Nat, vw (goσ σ n) (goσ τ n)
  | 0 => h
  | n + 1 => by
    have ih := vw_go h J h0 n
    have e := (goσ_keep J n).2
    show vw (up1 (yearT (goσ σ n) (goσ σ n 0 0).toNat) 0 5 (goσ σ n 0 5 + 1)) (up1 (yearT (goσ τ n) (goσ τ n 0 0).toNat) 0 5 (goσ τ n 0 5 + 1))
    rw [← ih.1, ← ih.2.1]
    exact vw_5 (vw_T ih _ (by rw [e]; omega))
theorem goσ_o {σ : gSt} (J : iB σ) : ∀ n : Nat, ∀ c i, (c ≠ 1 ∧ ¬ (c = 0 ∧ (i = 8 ∨ i = 5))) → goσ σ n c i = σ c i
  | 0 => fun _ _ _ => rfl
  | n + 1 => fun c i h => by
    have a := (goσ_keep J n).1
    show up1 (yearT (goσ σ n) (goσ σ n 0 0).toNat) 0 5 (goσ σ n 0 5 + 1) c i = _
    have e : up1 (yearT (goσ σ n) (goσ σ n 0 0).toNat) 0 5 (goσ σ n 0 5 + 1) c i = yearT (goσ σ n) (goσ σ n 0 0).toNat c i := by
      unfold up1 wr
      rw [if_neg (by omega)]
    rw [e, (yearT_keep a (goσ σ n 0 0).toNat).2 c i (by omega)]
    exact goσ_o J n c i h
def S_then (n t w : Int) (σ : gSt) : Int := if ¬ ((0 ≤ n ∧ n ≤ 60) ∧ (0 ≤ t ∧ t < σ 0 0) ∧ (0 ≤ w ∧ w ≤ 10)) then -1000000001 else if w = 10 then toneS (goσ σ n.toNat 1) (σ 7) (σ 0 9) t else goσ σ n.toNat 1 (10 * t + w)
theorem rawT_fr {u : Int} {M M' : gSt} (hu : u = 0 ∨ u = 1) (hl : M 1 (202 + 125 * u) ≤ 60) (f : ∀ j, 202 ≤ j → j < 452 → M' 1 j = M 1 j) (h : rawT u (M 1)) : rawT u (M' 1) := by
  intro i a b
  rw [f _ (by omega) (by omega)] at b
  rw [f _ (by omega) (by omega), f _ (by omega) (by omega)]
  exact h i a b
theorem absR_s1 {M M' : gSt} (e1 : absS (M' 1) = absS (M 1)) (e2 : M' 2 = M 2) (e3 : M' 0 3 = M 0 3) (e11 : M' 11 = M 11) (e12 : M' 12 = M 12) (e13 : M' 13 = M 13) : absR M' = absR M := by
  unfold absR
  rw [e1, e2, e3, e11, e12, e13]
theorem sR_then {n t w : Int} {M : gSt} {k : Int → gSt → Prop} (i0 : inI n) (i1 : inI t) (i2 : inI w) (I : iN (absR M)) (J : iB (absR M)) (X : iX (absR M)) (raw : rawT 0 (M 1)) (h : ∀ r M', wrap r = wrap (S_then n t w (absR M)) → absR M' = absR M → fr M M' → k r M') : w_Rthen n t w M k := by
  have I' := I
  unfold iN at I'
  unfold w_Rthen wB_Rthen_28
  have bad : ¬ ((0 ≤ n ∧ n ≤ 60) ∧ (0 ≤ t ∧ t < absR M 0 0) ∧ (0 ≤ w ∧ w ≤ 10)) → w_Rerror 1 M (fun r29c M29 => k r29c M29) := fun z =>
    sp_Rerror (by decide) (by decide) (fun M' e f => h _ M' (by unfold S_then; rw [if_pos z]; rfl) e f)
  refine sp_Rin i0 (by constructor <;> decide) (by constructor <;> decide) (fun h0 => z1 ?_) (fun h0 => z0 (bad (by omega)))
  refine sp_RisThing i1 ⟨by omega, by omega⟩ (fun h1 => z1 ?_) (fun h1 => z0 (bad (by omega)))
  refine sp_Rin i2 (by constructor <;> decide) (by constructor <;> decide) (fun h2 => z1n ?_) (fun h2 => z0n (bad (by omega)))
  have hS : S_then n t w (absR M) = if w = 10 then toneS (goσ (absR M) n.toNat 1) (absR M 7) (absR M 0 9) t else goσ (absR M) n.toNat 1 (10 * t + w) := by
    unfold S_then; rw [if_neg (by omega)]
  rw [hS] at h
  have l := rdL (M := M) (u := 0) (Or.inl rfl)
  change M 1 202 = absR M 0 9 at l
  refine sp_Rcarry (Or.inl rfl) (Or.inr (Or.inr rfl)) (by decide) ?_
  have c1 : ∀ p, p ≠ 3 → cpyA M 1 3 p = M p := fun p hp => by
    funext j; unfold cpyA; rw [if_neg (fun z => hp z.1)]
  have c3 : ∀ j, 0 ≤ j → j < 536 → cpyA M 1 3 3 j = M 1 j := fun j a b => by unfold cpyA; rw [if_pos ⟨rfl, a, b⟩]
  generalize cpyA M 1 3 = M1 at c1 c3 ⊢
  have a1 : absR M1 = absR M := absR_eq (c1 1 (by decide)) (c1 2 (by decide)) (by rw [c1 0 (by decide)]) (c1 11 (by decide)) (c1 12 (by decide)) (c1 13 (by decide))
  refine sp_Rgo h0 (by rw [a1]; exact iN_w I) (by rw [a1]; exact J) (fun M2 A F O => ?_)
  rw [a1] at A
  obtain ⟨gk, -⟩ := goσ_keep J n.toNat
  have g7 : goσ (absR M) n.toNat 7 = absR M 7 := funext fun i => goσ_o J n.toNat 7 i ⟨by decide, by omega⟩
  have g9 : goσ (absR M) n.toNat 0 9 = absR M 0 9 := goσ_o J n.toNat 0 9 ⟨by decide, by omega⟩
  have back : ∀ r M3, wrap r = wrap (if w = 10 then toneS (goσ (absR M) n.toNat 1) (absR M 7) (absR M 0 9) t else goσ (absR M) n.toNat 1 (10 * t + w)) → on67 M2 M3 → w_Rcarry 3 1 M3 (fun M66 => k r M66) := fun r M3 hr o3 => by
    refine sp_Rcarry (Or.inr (Or.inr rfl)) (Or.inl rfl) (by decide) ?_
    have d1 : ∀ p, p ≠ 1 → cpyA M3 3 1 p = M3 p := fun p hp => by
      funext j; unfold cpyA; rw [if_neg (fun z => hp z.1)]
    have d3 : ∀ j, 0 ≤ j → j < 536 → cpyA M3 3 1 1 j = M 1 j := fun j a b => by
      unfold cpyA
      rw [if_pos ⟨rfl, a, b⟩, o3 3 (by decide) (by decide), O 3 (by decide)]
      exact c3 j a b
    generalize cpyA M3 3 1 = M4 at d1 d3 ⊢
    have e : ∀ p, p ≠ 1 → p ≠ 3 → p ≠ 6 → p ≠ 7 → M4 p = M p := fun p x1 x3 x6 x7 => by
      rw [d1 p x1, o3 p x6 x7, O p x1, c1 p x3]
    refine h r M4 hr ?_ ⟨fun j x y => d3 j (by omega) (by omega), e 2 (by decide) (by decide) (by decide) (by decide), by rw [e 0 (by decide) (by decide) (by decide) (by decide)]⟩
    exact absR_s1 (absS_536 (txtOk_abs (iN_t I)) d3) (e 2 (by decide) (by decide) (by decide) (by decide)) (by rw [e 0 (by decide) (by decide) (by decide) (by decide)]) (e 11 (by decide) (by decide) (by decide) (by decide)) (e 12 (by decide) (by decide) (by decide) (by decide)) (e 13 (by decide) (by decide) (by decide) (by decide))
  unfold w_Rtold1
  rw [wI i2]
  refine ⟨fun z => sp_Rits ⟨by omega, by omega⟩ ⟨by omega, by omega⟩ ?_, fun z => ?_⟩
  · rw [A]
    exact back _ M2 (by rw [if_neg z]) (fun _ _ _ => rfl)
  · refine r_tone ⟨by omega, by omega⟩ (by rw [A]; exact gk t (by omega) (by omega)) (by rw [A, g9]; exact ⟨by omega, by omega⟩) ?_ (by rw [A, g9, g7]; exact X.1) (fun r M3 hr o3 => back r M3 ?_ o3)
    · refine rawT_fr (M := M) (Or.inl rfl) (by show M 1 202 ≤ 60; omega) (fun j x y => ?_) raw
      rw [F.1 j x y, c1 1 (by decide)]
    · rw [A, g7, g9] at hr
      rw [if_pos z, ← hr, wwrap]
theorem sC_then {n t w : Int} {M : gSt} {k : Int → gSt → Prop} (i0 : inI n) (i1 : inI t) (i2 : inI w) (I : iN (absC M)) (J : iB (absC M)) (X : iX (absC M)) (hK : cK M) (h : ∀ r M', wrap r = wrap (S_then n t w (absC M)) → absC M' = absC M → cK M' → k r M') : w_X8_then n t w M k := by
  have I' := I
  unfold iN at I'
  have n0 := rc00 M
  have n9 := rc09 M
  unfold w_X8_then wB_X8_then_34
  have bad : ¬ ((0 ≤ n ∧ n ≤ 60) ∧ (0 ≤ t ∧ t < absC M 0 0) ∧ (0 ≤ w ∧ w ≤ 10)) → w_X8_refuse 1 M (fun r26c M26 => k r26c M26) := fun z =>
    sp_refuse (by decide) (by decide) (h _ _ (by unfold S_then; rw [if_pos z]; rfl) (ac_eq (fun o ho => wrO' (by unfold scr at ho; omega))) (cK_wr hK (Or.inr (by decide))))
  refine sp_within i0 (by constructor <;> decide) (by constructor <;> decide) (fun h0 => z1 ?_) (fun h0 => z0 (bad (by omega)))
  refine sp_has0 pl_2 i1 ⟨by omega, by omega⟩ (fun h1 => z1 ?_) (fun h1 => z0 (bad (by omega)))
  refine sp_within i2 (by constructor <;> decide) (by constructor <;> decide) (fun h2 => z1n ?_) (fun h2 => z0n (bad (by omega)))
  have hS : S_then n t w (absC M) = if w = 10 then toneS (goσ (absC M) n.toNat 1) (absC M 7) (absC M 0 9) t else goσ (absC M) n.toNat 1 (10 * t + w) := by
    unfold S_then; rw [if_neg (by omega)]
  rw [hS] at h
  refine sp_copy0F pl_39 pl_2 rfl (by decide) (fun M1 f b1 b2 b3 b4 c => ?_)
  have bj : ∀ j, 0 ≤ j → j < 130 → bzV 39 M1 1 j = absC M 1 j := fun j x y => by
    rw [rc1 M x y]
    show (if 0 ≤ j ∧ j < 130 then M1 40 j else 0) = M 3 j
    rw [if_pos ⟨x, y⟩]
    exact c j x y
  have v : vw (bzV 39 M1) (absC M) := ⟨by rw [n0]; exact b1, by rw [rc05 M]; exact b3, by rw [rc08 M]; exact b4, bj⟩
  have J1 : iB (bzV 39 M1) := fun q x y => thOk_cg ⟨x, y⟩ bj (J q x y)
  have v0 : bzV 39 M1 0 0 = absC M 0 0 := v.1
  refine sp_passYears pl_39 rfl (isV_b 39) h0 (by rw [v0]; exact ⟨by omega, by omega⟩) J1 (fun M2 A F => ?_)
  have vg := vw_go v J1 (by rw [v0]; exact ⟨by omega, by omega⟩) n.toNat
  rw [← A] at vg
  have e : ∀ p, p ≠ 39 → p ≠ 40 → M2 p = M p := fun p x y => by
    rw [← f p x y]
    funext i
    exact F p i y (fun z => x z.1)
  have cell : ∀ j, 0 ≤ j → j < 130 → M2 40 j = goσ (absC M) n.toNat 1 j := fun j x y => by
    rw [← vg.2.2.2 j x y]
    show M2 40 j = if 0 ≤ j ∧ j < 130 then M2 40 j else 0
    rw [if_pos ⟨x, y⟩]
  have a2 : absC M2 = absC M := ac_eq (fun o ho => e o (by unfold scr at ho; omega) (by unfold scr at ho; omega))
  have K2 : cK M2 := cK_eq hK (fun o x y z u i hi => by rw [e o (by omega) (by omega)])
  have m14 : M2 14 3 = M 14 3 := by rw [e 14 (by decide) (by decide)]
  obtain ⟨gk, -⟩ := goσ_keep J n.toNat
  unfold w_X1_numberOf
  rw [wI i2]
  refine ⟨pl_1, pl_39, fun z => sp_number pl_39 rfl ⟨by omega, by omega⟩ ⟨by omega, by omega⟩ (h _ M2 ?_ a2 K2), fun z => ?_⟩
  · rw [if_neg z]
    show wrap (M2 40 (10 * t + w)) = _
    rw [cell _ (by omega) (by omega)]
  · refine c_tone (a := 39) pl_39 rfl ⟨by omega, by omega⟩ K2 (thOk_cg ⟨by omega, by omega⟩ cell (gk t (by omega) (by omega))) (by rw [m14]; exact ⟨by omega, by omega⟩) (fun q => by rw [m14] at q ⊢; rw [a2, ← n9]; rw [← n9] at q; exact X.1 q) (fun r M' hr e' => h r M' ?_ ?_ ?_)
    · change wrap r = toneS (M2 40) (absC M2 7) (M2 14 3) t at hr
      rw [a2, m14, ← n9, toneS_congr ⟨by omega, by omega⟩ cell] at hr
      rw [if_pos z, ← hr, wwrap]
    · rw [← a2]
      exact ac_eq (fun o ho => e' o (by unfold scr at ho; omega) (by unfold scr at ho; omega))
    · exact cK_eq K2 (fun o a b c d i hi => by rw [e' o (by omega) (by omega)])
end
