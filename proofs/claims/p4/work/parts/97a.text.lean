-- text: both sides
def p0 : gSt := fun _ _ => 0
def pRun (u : Int) (σ : gSt) : Int × gSt := pLev (σ 5) (σ 0 6) (pVal (σ 5) (σ 0 6) u 5) 5 p0
def S_text (u : Int) (σ : gSt) : Int × gSt := if ¬ (0 ≤ u ∧ u ≤ 1) then S_err σ 1 else if ¬ (pRun u σ).1 = 0 ∧ (pRun u σ).2 0 0 = σ 0 6 then (1, setX u ((pRun u σ).2 0 1) (fun i => encT u ((pRun u σ).2 1 i) ((pRun u σ).2 2 i)) (up1 σ 0 6 0)) else (-10 - (pRun u σ).2 0 0, up1 σ 0 6 0)
def iTp (σ : gSt) : Prop := ∀ j, 0 ≤ j → j < 60 → inI (σ 5 j)
theorem setX_congr {u n n' : Int} {f f' : Int → Int} {σ : gSt} (hn : n = n') (hf : ∀ j, 0 ≤ j → j < n → f j = f' j) : setX u n f σ = setX u n' f' σ := by
  subst hn
  funext c i
  unfold setX
  rw [msk_congr hf]
theorem p0_ok {L : Int} (h : 0 ≤ L) : pOK L p0 := ⟨Int.le_refl _, Int.le_refl _, h⟩
theorem good_run {u : Int} {σ : gSt} (h : 0 ≤ σ 0 6) : pOK (σ 0 6) (pRun u σ).2 ∧ ((pRun u σ).1 = 0 ∨ ((pRun u σ).1 = 1 ∧ grew u p0 (pRun u σ).2 1)) := by
  obtain ⟨a, -, c⟩ := good_lev (T := σ 5) (good_val (T := σ 5) (L := σ 0 6) (u := u) 5) 5 (by decide) p0 (p0_ok h)
  exact ⟨a, c⟩
theorem cK_rd {M M' : gSt} (h : cK M) (e : ∀ o, o ≠ 47 → o ≠ 49 → o ≠ 51 → o ≠ 15 → o ≠ 17 → ∀ i, (i = 0 ∨ i = 2 ∨ (o = 53 ∧ i = 3)) → M' o i = M o i) : cK M' := by
  refine ⟨fun q hq => ?_, ?_⟩
  · have n : ∀ b : Nat, (cRows.all fun q => q.1 != b) = true → q.1 ≠ b := fun b hb => by
      have := List.all_eq_true.mp hb q hq
      simpa using this
    have a := e q.1 (n 47 (by decide)) (n 49 (by decide)) (n 51 (by decide)) (n 15 (by decide)) (n 17 (by decide))
    rw [a 0 (Or.inl rfl), a 2 (Or.inr (Or.inl rfl))]
    exact h.1 q hq
  · rw [e 53 (by decide) (by decide) (by decide) (by decide) (by decide) 3 (Or.inr (Or.inr ⟨rfl, rfl⟩))]
    exact h.2
theorem sC_text {u : Int} {M : gSt} {k : Int → gSt → Prop} (i1 : inI u) (I : iN (absC M)) (J : iTp (absC M)) (hK : cK M) (h : ∀ M', absC M' = (S_text u (absC M)).2 → cK M' → k (S_text u (absC M)).1 M') : w_X8_text u M k := by
  unfold w_X8_text
  refine sp_within i1 (by constructor <;> decide) (by constructor <;> decide) (fun hu => z1n ?_) (fun hu => z0n (errC (by decide) (by decide) hK (if_pos hu) h))
  have hu' : u = 0 ∨ u = 1 := by omega
  have c06 := rc06 M
  have l6 : 0 ≤ absC M 0 6 ∧ absC M 0 6 ≤ 60 := by unfold iN at I; omega
  obtain ⟨gr1, gr2⟩ := good_run (u := u) (σ := absC M) l6.1
  unfold S_text at h
  rw [if_neg (fun w => w hu)] at h
  obtain ⟨k50, k502⟩ := cK_50 hK
  obtain ⟨k48, k482⟩ := cK_48 hK
  unfold w_X3_read
  refine ⟨pl_47, pl_4, sp_copy4 pl_48 pl_4 rfl (by decide) (sp_clear pl_50 (fun M1 e1 M2 e2 => ?_))⟩
  have b : ∀ p, p ≠ 47 → p ≠ 48 → p ≠ 49 → p ≠ 50 → M2 p = M p := fun p x1 x2 x3 x4 => by
    rw [e2, wrO' x1, e1, wrO' x1, wrO' x4, wrO' x2]
    exact cpyO x3
  have b48 : ∀ i, i ≠ 3 → M2 48 i = M 48 i := fun i hi => by
    rw [e2, wrO (by decide), e1, wrO (by decide), wrO (by decide), wrN hi]
    exact congrFun (cpyO (by decide)) i
  have b483 : M2 48 3 = M 4 3 := by rw [e2, wrO (by decide), e1, wrO (by decide), wrO (by decide), wrI]
  have b49 : ∀ j, 0 ≤ j → j < 60 → M2 49 j = M 5 j := fun j x y => by
    rw [e2, wrO (by decide), e1, wrO (by decide), wrO (by decide), wrO (by decide)]
    unfold cpy
    rw [if_pos ⟨rfl, by omega, by show j < 0 + 60; omega⟩, show 0 + (j - 0) = j from by omega]
  have b50 : ∀ i, i ≠ 3 → M2 50 i = M 50 i := fun i hi => by
    rw [e2, wrO (by decide), e1, wrO (by decide), wrN hi, wrO (by decide)]
    exact congrFun (cpyO (by decide)) i
  have b503 : M2 50 3 = 0 := by rw [e2, wrO (by decide), e1, wrO (by decide), wrI]
  have hT : tpC (absC M 5) (absC M 0 6) M2 := by
    refine ⟨by rw [b48 0 (by decide)]; exact k48, by rw [b483, c06], l6.1, l6.2, fun j x y => ⟨?_, J j x (by omega)⟩⟩
    rw [b49 j x (by omega)]
    simp [absC, msk, x, show j < 60 from by omega]
  have hg : rdC u M2 p0 M2 := ⟨fun _ _ _ _ => rfl, by rw [e2, wrN (by decide), e1, wrI], by rw [e2, wrI]; rfl, by rw [b50 0 (by decide)]; exact k50, by rw [b50 2 (by decide)]; exact k502, b503, fun j x y => absurd y (by show ¬ j < 0; omega)⟩
  have run := c_lev (T := absC M 5) (D := 41) (a2 := 0) hT hu' (good_val (T := absC M 5) (L := absC M 0 6) (u := u) 5) (fun d hd => c_val hT hu' 5 (by decide) 0 d (by decide) hd) 5 (by decide) 0 60 (by decide) (by decide)
  unfold w_X3_readLevel
  refine ⟨pl_47, run p0 M2 _ (p0_ok l6.1) hg (fun M3 g3 => ?_)⟩
  change rdC u M2 (pRun u (absC M)).2 M3 at g3
  show (wrap (pRun u (absC M)).1 = 0 → _) ∧ (¬ wrap (pRun u (absC M)).1 = 0 → _)
  generalize pRun u (absC M) = R at gr1 gr2 g3 h ⊢
  obtain ⟨q1, q2, q3⟩ := gr1
  obtain ⟨g1, g2, g4, g5, g6, g7, g8⟩ := g3
  have ha : absC (wr M3 4 3 0) = up1 (absC M) 0 6 0 := by
    rw [ac_4_3]
    congr 1
    refine ac_eq (fun p hp => ?_)
    unfold scr at hp
    rw [g1 p (by omega) (by omega) (by omega)]
    exact b p (by omega) (by omega) (by omega) (by omega)
  have k3 : ∀ o, o ≠ 47 → o ≠ 49 → o ≠ 51 → ∀ i, (i = 0 ∨ i = 2 ∨ (o = 53 ∧ i = 3)) → wr M3 4 3 0 o i = M o i := by
    intro o x1 x2 x3 i hi
    by_cases o4 : o = 4
    · subst o4
      rw [wrN (by omega), g1 4 (by decide) (by decide) (by decide)]
      exact congrFun (b 4 (by decide) (by decide) (by decide) (by decide)) i
    · rw [wrO o4]
      by_cases o50 : o = 50
      · subst o50
        rcases hi with i0 | i2 | z
        · subst i0; rw [g5, k50]
        · subst i2; rw [g6, k502]
        · exact absurd z.1 (by decide)
      · rw [g1 o x1 o50 x3]
        by_cases o48 : o = 48
        · subst o48; exact b48 i (by omega)
        · exact congrFun (b o x1 o48 x2 o50) i
  have ka : cK (wr M3 4 3 0) := cK_rd hK (fun o x1 x2 x3 _ _ i hi => k3 o x1 x2 x3 i hi)
  have bad : ¬ (¬ R.1 = 0 ∧ R.2 0 0 = absC M 0 6) → k (-10 - R.2 0 0) (wr M3 4 3 0) := fun z => by
    rw [if_neg z] at h
    exact h _ ha ka
  have neg : ∀ p : Int, p = R.2 0 0 → ¬ (¬ R.1 = 0 ∧ R.2 0 0 = absC M 0 6) → w_X4_clear 4 M3 (fun M38 => (wrap p < 0 → w_X1_textOf 1 u M38 (fun r59c M59 => ∃ q59 : Nat, r59c = some q59 ∧ (w_X3_writeTo 47 q59 M59 (fun M62 => k 1 M62)))) ∧ (0 ≤ wrap p → k ((-10) - p) M38)) := fun p hp z => by
    subst hp
    refine sp_clear pl_4 ⟨fun w => ?_, fun _ => bad z⟩
    rw [wI ⟨by omega, by omega⟩] at w; omega
  unfold wB_X3_read_52 wB_X3_read_53
  refine ⟨fun z => z0 (neg _ g4 (fun w => w.1 (by rcases gr2 with e | ⟨e, -⟩; exact e; rw [e] at z; exact absurd z (by decide)))), fun nz => sp_size4 pl_48 ?_⟩
  have nz1 : ¬ R.1 = 0 := fun e => nz (by rw [e]; rfl)
  have e483 : M3 48 3 = absC M 0 6 := by rw [g1 48 (by decide) (by decide) (by decide), b483, c06]
  rw [g4, e483, wI (x := R.2 0 0) ⟨by omega, by omega⟩, wI (x := absC M 0 6) ⟨by omega, by omega⟩]
  refine ⟨fun ne => z0 (neg _ rfl (fun w => ne w.2)), fun eq => z1 ?_⟩
  rw [if_pos ⟨nz1, eq⟩] at h
  refine sp_clear pl_4 ⟨fun _ => sp_textOf hu' (fun o ho => ⟨o, rfl, ?_⟩), fun w => absurd w (by decide)⟩
  obtain ⟨p1, p2⟩ := pl_tx hu' ho
  unfold w_X3_writeTo
  have o45 : o = 14 ∨ o = 16 := by omega
  have ne1 : o ≠ 50 := by omega
  have ne2 : (50 : Nat) ≠ o + 1 := by omega
  refine ⟨pl_47, p1, sp_copy4 p1 pl_50 (by rw [p2]; rfl) ne2 (h _ ?_ ?_)⟩
  · refine (acX (M := wr M3 4 3 0) hu' ho (fun p x y => ?_)).trans ?_
    · rw [wrO' x]; exact cpyO y
    · rw [wrI, ha]
      refine setX_congr ?_ (fun j x y => ?_)
      · rw [wrO (by decide)]; exact g7
      · rw [wrO (by decide), g7] at y
        rw [wrO (by omega)]
        unfold cpy
        rw [p2, if_pos ⟨rfl, by omega, by show j < 0 + 60; omega⟩, show 0 + (j - 0) = j from by omega]
        show wr M3 4 3 0 51 j = _
        rw [wrO (by decide)]
        exact g8 j x y
  · refine cK_rd ka (fun p x1 x2 x3 x4 x5 i hi => ?_)
    have po : p ≠ o + 1 := by omega
    by_cases po2 : p = o
    · subst po2
      rw [wrN (by omega)]; exact congrFun (cpyO po) i
    · rw [wrO po2]; exact congrFun (cpyO po) i
-- the reference
theorem absR_eq {M M' : gSt} (e1 : M' 1 = M 1) (e2 : M' 2 = M 2) (e3 : M' 0 3 = M 0 3) (e11 : M' 11 = M 11) (e12 : M' 12 = M 12) (e13 : M' 13 = M 13) : absR M' = absR M := by
  unfold absR
  rw [e1, e2, e3, e11, e12, e13]
theorem rdT (M : gSt) (j : Int) (h0 : 0 ≤ j) (h1 : j < 60) : M 1 (452 + j) = absR M 5 j := by simp [absR, absS, msk, h0, h1]
/-- a text kept: what is not text u, and the image, untouched -/
def frT (u : Int) (M M' : gSt) : Prop := (∀ j, 202 ≤ j → j < 452 → (j < 202 + 125 * u ∨ 327 + 125 * u ≤ j) → M' 1 j = M 1 j) ∧ M' 2 = M 2 ∧ M' 0 16 = M 0 16
theorem r_copy {u c b : Int} {kk : Int → gSt → Prop} {k : gSt → Prop} (hb : 203 ≤ b ∧ b ≤ 328) (hc : 0 ≤ c ∧ c ≤ 60) : ∀ (r : Nat) (v : Int) (M : gSt), M 0 7 = c → 0 ≤ v → v + (r : Int) = 2 * c → k (fun p j => if p = 1 ∧ b + v ≤ j ∧ j < b + 2 * c then M 5 (j - b) else M p j) → wL_Rtext_104 u kk k (r + 1) (b - 1) v M := by
  intro r
  induction r with
  | zero =>
    intro v M e7 hv hr h
    unfold wL_Rtext_104 wC_Rtext_104
    rw [e7, wI (x := 2 * c) ⟨by omega, by omega⟩, wI (x := v) ⟨by omega, by omega⟩]
    refine ⟨fun _ => ?_, fun z => absurd z (by omega)⟩
    rw [show (fun (p : Nat) (j : Int) => if p = 1 ∧ b + v ≤ j ∧ j < b + 2 * c then M 5 (j - b) else M p j) = M from by funext p j; rw [if_neg (by omega)]] at h
    exact h
  | succ r ih =>
    intro v M e7 hv hr h
    unfold wL_Rtext_104 wC_Rtext_104
    rw [e7, wI (x := 2 * c) ⟨by omega, by omega⟩, wI (x := v) ⟨by omega, by omega⟩]
    refine ⟨fun z => absurd z (by omega), fun _ => ⟨⟨by omega, by omega⟩, ⟨by omega, by omega⟩, fun M1 e1 => ih (v + 1) M1 (by rw [e1, wrO (by decide)]; exact e7) (by omega) (by omega) ?_⟩⟩
    rw [show (fun (p : Nat) (j : Int) => if p = 1 ∧ b + (v + 1) ≤ j ∧ j < b + 2 * c then M1 5 (j - b) else M1 p j) = (fun p j => if p = 1 ∧ b + v ≤ j ∧ j < b + 2 * c then M 5 (j - b) else M p j) from by
      funext p j
      rw [e1]
      unfold wr
      by_cases w : p = 1 ∧ b + (v + 1) ≤ j ∧ j < b + 2 * c
      · rw [if_pos w, if_neg (by omega), if_pos (by omega)]
      · rw [if_neg w]
        by_cases w2 : p = 1 ∧ j = b - 1 + 1 + v
        · rw [if_pos w2, if_pos (by omega), w2.2, show b - 1 + 1 + v - b = v from by omega]
        · rw [if_neg w2, if_neg (by omega)]]
    exact h
theorem sR_text {u : Int} {M : gSt} {k : Int → gSt → Prop} (i1 : inI u) (I : iN (absR M)) (J : iTp (absR M)) (h : ∀ M', absR M' = (S_text u (absR M)).2 → ((S_text u (absR M)).1 ≠ 1 → fr M M') → ((S_text u (absR M)).1 = 1 → frT u M M' ∧ ∀ i, 0 ≤ i → i < M' 1 (202 + 125 * u) → tokOk u (M' 1 (203 + 125 * u + 2 * i)) (M' 1 (204 + 125 * u + 2 * i))) → k (S_text u (absR M)).1 M') : w_Rtext u M k := by
  unfold w_Rtext
  refine sp_Rin i1 (by constructor <;> decide) (by constructor <;> decide) (fun hu => z1n ?_) (fun hu => z0n ?_)
  rotate_left
  · unfold S_text at h
    rw [if_pos hu] at h
    exact sp_Rerror (by decide) (by decide) (fun M' e f => h M' e (fun _ => f) (fun z => absurd z (by show ¬ (-1000000000 - 1 = (1 : Int)); decide)))
  have hu' : u = 0 ∨ u = 1 := by omega
  have l6 : 0 ≤ absR M 0 6 ∧ absR M 0 6 ≤ 60 := by unfold iN at I; omega
  obtain ⟨gr1, gr2⟩ := good_run (u := u) (σ := absR M) l6.1
  unfold S_text at h
  rw [if_neg (fun w => w hu)] at h
  intro M1 e1 M2 e2 M3 e3 M4 e4
  have b : ∀ p, p ≠ 0 → M4 p = M p := fun p x => by rw [e4, wrO' x, e3, wrO' x, e2, wrO' x, e1, wrO' x]
  have b0 : ∀ j, j ≠ 5 → j ≠ 6 → j ≠ 7 → j ≠ 8 → M4 0 j = M 0 j := fun j x y z w => by rw [e4, wrN z, e3, wrN y, e2, wrN x, e1, wrN w]
  have b8 : M4 0 8 = u := by rw [e4, wrN (by decide), e3, wrN (by decide), e2, wrN (by decide), e1, wrI]
  have b5 : M4 0 5 = 0 := by rw [e4, wrN (by decide), e3, wrN (by decide), e2, wrI]
  have b6 : M4 0 6 = 0 := by rw [e4, wrN (by decide), e3, wrI]
  have b7 : M4 0 7 = 0 := by rw [e4, wrI]
  have hT : tpR (absR M 5) (absR M 0 6) u M4 := ⟨by rw [b 1 (by decide), rdS M 6 (by omega) (by omega)], l6.1, l6.2, b8, fun j x y => ⟨by rw [b 1 (by decide), rdT M j x (by omega)], J j x (by omega)⟩⟩
  have hg : rdR u M4 p0 M4 := ⟨fun _ _ _ => rfl, fun _ _ _ _ => rfl, b5, b7, fun j x y => absurd y (by show ¬ j < 0; omega)⟩
  have run := r_lev (T := absR M 5) (D := 31) hT (good_val (T := absR M 5) (L := absR M 0 6) (u := u) 5) (fun d hd => r_val hT hu' 5 (by decide) d hd) 60 (by decide)
  unfold w_Rwhole
  refine run p0 M4 _ (p0_ok l6.1) hg (by rw [b6]; rfl) (fun M5 g3 _ => ?_)
  change rdR u M4 (pRun u (absR M)).2 M5 at g3
  show (wrap (pRun u (absR M)).1 = 0 → _) ∧ (¬ wrap (pRun u (absR M)).1 = 0 → _)
  generalize pRun u (absR M) = R at gr1 gr2 g3 h ⊢
  obtain ⟨q1, q2, q3⟩ := gr1
  obtain ⟨g1, g2, g4, g5, g6⟩ := g3
  have a5 : absR M5 = absR M := absR_eq (by rw [g1 1 (by decide) (by decide)]; exact b 1 (by decide)) (by rw [g1 2 (by decide) (by decide)]; exact b 2 (by decide)) (by rw [g2 3 (by decide) (by decide) (by decide)]; exact b0 3 (by decide) (by decide) (by decide) (by decide)) (by rw [g1 11 (by decide) (by decide)]; exact b 11 (by decide)) (by rw [g1 12 (by decide) (by decide)]; exact b 12 (by decide)) (by rw [g1 13 (by decide) (by decide)]; exact b 13 (by decide))
  have a6 : absR (wr M5 1 6 0) = up1 (absR M) 0 6 0 := by
    rw [sp_Rsc (by omega) (by omega) (by rw [a5]; exact iN_t I), a5]
  have s1 : M5 1 = M 1 := by rw [g1 1 (by decide) (by decide)]; exact b 1 (by decide)
  have s2 : M5 2 = M 2 := by rw [g1 2 (by decide) (by decide)]; exact b 2 (by decide)
  have s16 : M5 0 16 = M 0 16 := by rw [g2 16 (by decide) (by decide) (by decide)]; exact b0 16 (by decide) (by decide) (by decide) (by decide)
  have neg : ¬ (¬ R.1 = 0 ∧ R.2 0 0 = absR M 0 6) → wB_Rtext_61 u k 0 M5 := fun z => by
    rw [if_neg z] at h
    unfold wB_Rtext_61
    intro M6 e6
    refine ⟨fun w => absurd wrap_0 w, fun _ => ?_⟩
    rw [show M6 0 5 = R.2 0 0 from by rw [e6, wrO (by decide)]; exact g4]
    refine h M6 (by rw [e6]; exact a6) (fun _ => ?_) (fun w => absurd w (by show ¬ (-10 - R.2 0 0 = 1); omega))
    subst e6
    exact ⟨fun j x y => by rw [wrN (by omega), s1], by rw [wrO' (by decide)]; exact s2, by rw [wrO (by decide)]; exact s16⟩
  unfold wB_Rtext_60
  refine ⟨fun z => neg (fun w => w.1 (by rcases gr2 with e | ⟨e, -⟩; exact e; rw [e] at z; exact absurd z (by decide))), fun nz => ?_⟩
  have nz1 : ¬ R.1 = 0 := fun e => nz (by rw [e]; rfl)
  rcases gr2 with gr2 | ⟨-, gr2⟩
  · exact absurd gr2 nz1
  rw [g4, s1, rdS M 6 (by omega) (by omega), wI (x := R.2 0 0) ⟨by omega, by omega⟩, wI (x := absR M 0 6) ⟨by omega, by omega⟩]
  refine ⟨fun ne => neg (fun w => ne w.2), fun eq => ?_⟩
  rw [if_pos ⟨nz1, eq⟩] at h
  unfold wB_Rtext_61
  intro M6 e6
  refine ⟨fun _ x ex => ⟨⟨by omega, by omega⟩, fun M7 e7 => ⟨(2 * R.2 0 1).toNat + 1, ?_⟩⟩, fun w => absurd w (by decide)⟩
  have m7 : M7 0 7 = R.2 0 1 := by rw [e7, wrO (by decide), e6, wrO (by decide)]; exact g5
  have cp := r_copy (u := u) (c := R.2 0 1) (b := x + 1) (kk := k) (k := fun M104 => k 1 M104) ⟨by omega, by omega⟩ ⟨q1, by omega⟩ (2 * R.2 0 1).toNat 0 M7 m7 (by decide) (by omega)
  rw [show x + 1 - 1 = x from by omega] at cp
  refine cp ?_
  subst ex
  have m6 : M6 0 7 = R.2 0 1 := by rw [e6, wrO (by decide)]; exact g5
  have raw : ∀ p j, (if p = 1 ∧ 202 + 125 * u + 1 + 0 ≤ j ∧ j < 202 + 125 * u + 1 + 2 * R.2 0 1 then M7 5 (j - (202 + 125 * u + 1)) else M7 p j) = if p = 1 ∧ 202 + 125 * u + 1 ≤ j ∧ j < 202 + 125 * u + 1 + 2 * R.2 0 1 then M5 5 (j - (202 + 125 * u + 1)) else if p = 1 ∧ j = 202 + 125 * u then R.2 0 1 else if p = 1 ∧ j = 6 then 0 else M5 p j := fun p j => by
    rw [e7, m6, e6]
    unfold wr
    by_cases w : p = 1 ∧ 202 + 125 * u + 1 ≤ j ∧ j < 202 + 125 * u + 1 + 2 * R.2 0 1
    · rw [if_pos w, if_pos (by omega), if_neg (by omega), if_neg (by omega)]
    · rw [if_neg w, if_neg (by omega)]
  rw [show (fun (p : Nat) (j : Int) => if p = 1 ∧ 202 + 125 * u + 1 + 0 ≤ j ∧ j < 202 + 125 * u + 1 + 2 * R.2 0 1 then M7 5 (j - (202 + 125 * u + 1)) else M7 p j) = (fun p j => if p = 1 ∧ 202 + 125 * u + 1 ≤ j ∧ j < 202 + 125 * u + 1 + 2 * R.2 0 1 then M5 5 (j - (202 + 125 * u + 1)) else if p = 1 ∧ j = 202 + 125 * u then R.2 0 1 else if p = 1 ∧ j = 6 then 0 else M5 p j) from funext fun p => funext fun j => raw p j]
  generalize hM : (fun (p : Nat) (j : Int) => if p = 1 ∧ 202 + 125 * u + 1 ≤ j ∧ j < 202 + 125 * u + 1 + 2 * R.2 0 1 then M5 5 (j - (202 + 125 * u + 1)) else if p = 1 ∧ j = 202 + 125 * u then R.2 0 1 else if p = 1 ∧ j = 6 then 0 else M5 p j) = MM
  have mo : ∀ p, p ≠ 1 → MM p = M5 p := fun p hp => by
    rw [← hM]; funext j; dsimp only
    rw [if_neg (fun z => hp z.1), if_neg (fun z => hp z.1), if_neg (fun z => hp z.1)]
  have mc : MM 1 (202 + 125 * u) = R.2 0 1 := by
    rw [← hM]; dsimp only
    rw [if_neg (by omega), if_pos ⟨rfl, rfl⟩]
  have mt : ∀ i, 0 ≤ i → i < R.2 0 1 → MM 1 (203 + 125 * u + 2 * i) = R.2 1 i ∧ MM 1 (204 + 125 * u + 2 * i) = R.2 2 i := fun i x y => by
    rw [← hM]; dsimp only
    rw [if_pos ⟨rfl, by omega, by omega⟩, if_pos ⟨rfl, by omega, by omega⟩, show 203 + 125 * u + 2 * i - (202 + 125 * u + 1) = 2 * i from by omega, show 204 + 125 * u + 2 * i - (202 + 125 * u + 1) = 2 * i + 1 from by omega]
    exact g6 i x y
  have mu : ∀ j, j ≠ 6 → j < 202 + 125 * u ∨ 327 + 125 * u ≤ j → MM 1 j = M5 1 j := fun j j6 hj => by
    rw [← hM]; dsimp only
    rw [if_neg (by omega), if_neg (by omega), if_neg (by omega)]
  have m16 : MM 1 6 = 0 := by
    rw [← hM]; dsimp only
    rw [if_neg (by omega), if_neg (by omega), if_pos ⟨rfl, rfl⟩]
  refine h MM ?_ (fun w => absurd rfl w) (fun _ => ⟨⟨fun j x y z => by rw [mu j (by omega) z, s1], by rw [mo 2 (by decide)]; exact s2, by rw [mo 0 (by decide)]; exact s16⟩, fun i x y => ?_⟩)
  · refine (arX (M := wr M5 1 6 0) (M' := MM) hu' (by rw [a6]; exact tOk_B (iN_t I) (Or.inr (by decide))) (fun o ho _ j _ => by rw [mo o ho, wrO ho]) (fun j hj => ?_)).trans ?_
    · by_cases j6 : j = 6
      · subst j6; rw [m16, wrI]
      · rw [wrN j6]; exact mu j j6 hj
    · rw [a6]
      refine setX_congr mc (fun j x y => ?_)
      rw [mc] at y
      rw [(mt j x y).1, (mt j x y).2]
  · rw [mc] at y
    rw [(mt i x y).1, (mt i x y).2]
    exact (gr2.2.2.1 i x y).1
