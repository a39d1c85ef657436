-- class and reference go alike, call by call
def Raw (M : gSt) : Prop := rawT 0 (M 1) ∧ rawT 1 (M 1) ∧ rawT 0 (M 2) ∧ rawT 1 (M 2) ∧ 0 ≤ M 0 16 ∧ M 0 16 ≤ 30
def Rel (i : Nat) (Mc Mr : gSt) : Prop := absC Mc = absR Mr ∧ cK Mc ∧ Inv i (absR Mr) ∧ Raw Mr
theorem len1 {M : gSt} (I : iN (absR M)) : M 1 202 ≤ 60 ∧ M 1 327 ≤ 60 := by
  have e1 : absR M 0 9 = M 1 202 := by simp [absR, absS]
  have e2 : absR M 0 10 = M 1 327 := by simp [absR, absS]
  unfold iN at I
  omega
theorem rawT_c {u : Int} {s s' : Int → Int} (hl : s' (202 + 125 * u) ≤ 60) (h : ∀ j, 202 + 125 * u ≤ j → j < 327 + 125 * u → s' j = s j) (r : rawT u s) : rawT u s' := by
  intro i a b
  have q := h (202 + 125 * u) (by omega) (by omega)
  rw [h _ (by omega) (by omega), h _ (by omega) (by omega)]
  exact r i a (by omega)
theorem raw_fr {M M' : gSt} (I : iN (absR M')) (f : fr M M') (W : Raw M) : Raw M' := by
  obtain ⟨a, b, c, d, e⟩ := W
  obtain ⟨f1, f2, f3⟩ := f
  have l := len1 I
  refine ⟨rawT_c l.1 (fun j x y => f1 j (by omega) (by omega)) a, rawT_c l.2 (fun j x y => f1 j (by omega) (by omega)) b, by rw [f2]; exact c, by rw [f2]; exact d, by rw [f3]; exact e⟩
theorem rel_of {i : Nat} {Mc' Mr Mr' σ : gSt} (hc : absC Mc' = σ) (hK : cK Mc') (hr : absR Mr' = σ) (V : Inv i σ) (f : fr Mr Mr') (W : Raw Mr) : Rel (i + 6) Mc' Mr' := by
  subst hr
  exact ⟨hc, hK, inv_mono (by omega) V, raw_fr V.1.1 f W⟩
theorem rel_now {i : Nat} {Mc Mc' Mr Mr' : gSt} (R : Rel i Mc Mr) (hc : absC Mc' = absC Mc) (hK : cK Mc') (hr : absR Mr' = absR Mr) (f : fr Mr Mr') : Rel (i + 6) Mc' Mr' :=
  rel_of (hc.trans R.1) hK hr R.2.2.1 f R.2.2.2
theorem ans {σ τ : gSt} {r r' : Int} (f : gSt → Int) (e : σ = τ) (h : wrap r = wrap (f σ)) (h' : wrap r' = wrap (f τ)) : wrap r = wrap r' := by
  subst e
  exact h.trans h'.symm
theorem kp_as {n : Nat} {t w : Int} {σ : gSt} (V : Inv n σ) : Inv n (S_as t w σ).2 := by
  unfold S_as
  split
  · exact V
  split <;> exact V
theorem kp_crucible {n : Nat} {w : Int} {σ : gSt} (V : Inv n σ) : Inv n (S_crucible w σ).2 := by
  unfold S_crucible
  split <;> exact V
theorem al_thing {i : Nat} {a1 a2 : Int} {Mc Mr : gSt} {Q : Int → gSt → Int → gSt → Prop} (j1 : inI a1) (j2 : inI a2) (R : Rel i Mc Mr) (hQ : ∀ r r' Mc' Mr', wrap r = wrap r' → Rel (i + 6) Mc' Mr' → Q r Mc' r' Mr') : w_X8_thing a1 a2 Mc (fun r Mc' => w_Rthing a1 a2 Mr (fun r' Mr' => Q r Mc' r' Mr')) := by
  obtain ⟨e, hK, V, W⟩ := id R
  obtain ⟨I, J, CR, T, X, C, P, G⟩ := id V.1
  have S := V.2.1
  exact sC_thing j1 j2 (by rw [e]; exact I) hK (fun Mc' a b => sR_thing j1 j2 I (fun Mr' c d => hQ _ _ _ _ (by rw [e]) (rel_of (a.trans (by rw [e])) b c (kp_thing V) d W)))
theorem al_thingIs {i : Nat} {a1 a2 : Int} {Mc Mr : gSt} {Q : Int → gSt → Int → gSt → Prop} (j1 : inI a1) (j2 : inI a2) (R : Rel i Mc Mr) (hQ : ∀ r r' Mc' Mr', wrap r = wrap r' → Rel (i + 6) Mc' Mr' → Q r Mc' r' Mr') : w_X8_thingIs a1 a2 Mc (fun r Mc' => w_RthingIs a1 a2 Mr (fun r' Mr' => Q r Mc' r' Mr')) := by
  obtain ⟨e, hK, V, W⟩ := id R
  obtain ⟨I, J, CR, T, X, C, P, G⟩ := id V.1
  have S := V.2.1
  exact sC_thingIs j1 j2 (by rw [e]; exact I) (by rw [e]; exact J) (by rw [e]; exact X) hK (fun r Mc' h a b => sR_thingIs j1 j2 I J X W.1 (fun r' Mr' h' c d => hQ _ _ _ _ (ans (fun σ => S_thingIs a1 a2 σ) e h h') (rel_now R a b c d)))
theorem al_as {i : Nat} {a1 a2 : Int} {Mc Mr : gSt} {Q : Int → gSt → Int → gSt → Prop} (j1 : inI a1) (j2 : inI a2) (R : Rel i Mc Mr) (hQ : ∀ r r' Mc' Mr', wrap r = wrap r' → Rel (i + 6) Mc' Mr' → Q r Mc' r' Mr') : w_X8_as a1 a2 Mc (fun r Mc' => w_Ras a1 a2 Mr (fun r' Mr' => Q r Mc' r' Mr')) := by
  obtain ⟨e, hK, V, W⟩ := id R
  obtain ⟨I, J, CR, T, X, C, P, G⟩ := id V.1
  have S := V.2.1
  exact sC_as j1 j2 (by rw [e]; exact I) (by rw [e]; exact J) hK (fun Mc' a b => sR_as j1 j2 I J (fun Mr' c d => hQ _ _ _ _ (by rw [e]) (rel_of (a.trans (by rw [e])) b c (kp_as V) d W)))
theorem al_set {i : Nat} {a1 a2 a3 : Int} {Mc Mr : gSt} {Q : Int → gSt → Int → gSt → Prop} (j1 : inI a1) (j2 : inI a2) (j3 : inI a3) (R : Rel i Mc Mr) (hQ : ∀ r r' Mc' Mr', wrap r = wrap r' → Rel (i + 6) Mc' Mr' → Q r Mc' r' Mr') : w_X8_set a1 a2 a3 Mc (fun r Mc' => w_Rset a1 a2 a3 Mr (fun r' Mr' => Q r Mc' r' Mr')) := by
  obtain ⟨e, hK, V, W⟩ := id R
  obtain ⟨I, J, CR, T, X, C, P, G⟩ := id V.1
  have S := V.2.1
  exact sC_set j1 j2 j3 (by rw [e]; exact I) (by rw [e]; exact J) hK (fun Mc' a b => sR_set j1 j2 j3 I J (fun Mr' c d => hQ _ _ _ _ (by rw [e]) (rel_of (a.trans (by rw [e])) b c (kp_set V) d W)))
theorem al_melt {i : Nat} {a1 a2 : Int} {Mc Mr : gSt} {Q : Int → gSt → Int → gSt → Prop} (j1 : inI a1) (j2 : inI a2) (R : Rel i Mc Mr) (hQ : ∀ r r' Mc' Mr', wrap r = wrap r' → Rel (i + 6) Mc' Mr' → Q r Mc' r' Mr') : w_X8_melt a1 a2 Mc (fun r Mc' => w_Rmelt a1 a2 Mr (fun r' Mr' => Q r Mc' r' Mr')) := by
  obtain ⟨e, hK, V, W⟩ := id R
  obtain ⟨I, J, CR, T, X, C, P, G⟩ := id V.1
  have S := V.2.1
  exact sC_melt j1 j2 (by rw [e]; exact I) (by rw [e]; exact J) hK (fun Mc' a b => sR_melt j1 j2 I J (fun Mr' c d => hQ _ _ _ _ (by rw [e]) (rel_of (a.trans (by rw [e])) b c (kp_melt V) d W)))
theorem al_crucible {i : Nat} {a1 : Int} {Mc Mr : gSt} {Q : Int → gSt → Int → gSt → Prop} (j1 : inI a1) (R : Rel i Mc Mr) (hQ : ∀ r r' Mc' Mr', wrap r = wrap r' → Rel (i + 6) Mc' Mr' → Q r Mc' r' Mr') : w_X8_crucible a1 Mc (fun r Mc' => w_Rcrucible a1 Mr (fun r' Mr' => Q r Mc' r' Mr')) := by
  obtain ⟨e, hK, V, W⟩ := id R
  obtain ⟨I, J, CR, T, X, C, P, G⟩ := id V.1
  have S := V.2.1
  exact sC_crucible j1 hK (fun Mc' a b => sR_crucible j1 (fun Mr' c d => hQ _ _ _ _ (by rw [e]) (rel_of (a.trans (by rw [e])) b c (kp_crucible V) d W)))
theorem al_cast {i : Nat} {a1 a2 a3 : Int} {Mc Mr : gSt} {Q : Int → gSt → Int → gSt → Prop} (j1 : inI a1) (j2 : inI a2) (j3 : inI a3) (R : Rel i Mc Mr) (hQ : ∀ r r' Mc' Mr', wrap r = wrap r' → Rel (i + 6) Mc' Mr' → Q r Mc' r' Mr') : w_X8_cast a1 a2 a3 Mc (fun r Mc' => w_Rcast a1 a2 a3 Mr (fun r' Mr' => Q r Mc' r' Mr')) := by
  obtain ⟨e, hK, V, W⟩ := id R
  obtain ⟨I, J, CR, T, X, C, P, G⟩ := id V.1
  have S := V.2.1
  exact sC_cast j1 j2 j3 (by rw [e]; exact I) (by rw [e]; exact J) (by rw [e]; exact CR) hK (fun Mc' a b => sR_cast j1 j2 j3 I J (fun Mr' c d => hQ _ _ _ _ (by rw [e]) (rel_of (a.trans (by rw [e])) b c (kp_cast V) d W)))
theorem al_years {i : Nat} {a1 : Int} {Mc Mr : gSt} {Q : Int → gSt → Int → gSt → Prop} (j1 : inI a1) (R : Rel i Mc Mr) (hQ : ∀ r r' Mc' Mr', wrap r = wrap r' → Rel (i + 6) Mc' Mr' → Q r Mc' r' Mr') : w_X8_years a1 Mc (fun r Mc' => w_Ryears a1 Mr (fun r' Mr' => Q r Mc' r' Mr')) := by
  obtain ⟨e, hK, V, W⟩ := id R
  obtain ⟨I, J, CR, T, X, C, P, G⟩ := id V.1
  have S := V.2.1
  exact sC_years j1 (by rw [e]; exact I) (by rw [e]; exact J) hK (fun Mc' a b => sR_years j1 I J (fun Mr' c d => hQ _ _ _ _ (by rw [e]) (rel_of (a.trans (by rw [e])) b c (kp_years V) d W)))
theorem al_then {i : Nat} {a1 a2 a3 : Int} {Mc Mr : gSt} {Q : Int → gSt → Int → gSt → Prop} (j1 : inI a1) (j2 : inI a2) (j3 : inI a3) (R : Rel i Mc Mr) (hQ : ∀ r r' Mc' Mr', wrap r = wrap r' → Rel (i + 6) Mc' Mr' → Q r Mc' r' Mr') : w_X8_then a1 a2 a3 Mc (fun r Mc' => w_Rthen a1 a2 a3 Mr (fun r' Mr' => Q r Mc' r' Mr')) := by
  obtain ⟨e, hK, V, W⟩ := id R
  obtain ⟨I, J, CR, T, X, C, P, G⟩ := id V.1
  have S := V.2.1
  exact sC_then j1 j2 j3 (by rw [e]; exact I) (by rw [e]; exact J) (by rw [e]; exact X) hK (fun r Mc' h a b => sR_then j1 j2 j3 I J X W.1 (fun r' Mr' h' c d => hQ _ _ _ _ (ans (fun σ => S_then a1 a2 a3 σ) e h h') (rel_now R a b c d)))
theorem al_seed {i : Nat} {a1 : Int} {Mc Mr : gSt} {Q : Int → gSt → Int → gSt → Prop} (j1 : inI a1) (R : Rel i Mc Mr) (hQ : ∀ r r' Mc' Mr', wrap r = wrap r' → Rel (i + 6) Mc' Mr' → Q r Mc' r' Mr') : w_X8_seed a1 Mc (fun r Mc' => w_Rseed a1 Mr (fun r' Mr' => Q r Mc' r' Mr')) := by
  obtain ⟨e, hK, V, W⟩ := id R
  obtain ⟨I, J, CR, T, X, C, P, G⟩ := id V.1
  have S := V.2.1
  exact sC_seed hK (fun Mc' a b => sR_seed I (fun Mr' c d => hQ _ _ _ _ (by rw [e]) (rel_of (a.trans (by rw [e])) b c (kp_seed V) d W)))
theorem al_feed {i : Nat} {a1 a2 : Int} {Mc Mr : gSt} {Q : Int → gSt → Int → gSt → Prop} (j2 : inI a2) (R : Rel i Mc Mr) (hQ : ∀ r r' Mc' Mr', wrap r = wrap r' → Rel (i + 6) Mc' Mr' → Q r Mc' r' Mr') : w_X8_feed a1 a2 Mc (fun r Mc' => w_Rfeed a1 a2 Mr (fun r' Mr' => Q r Mc' r' Mr')) := by
  obtain ⟨e, hK, V, W⟩ := id R
  obtain ⟨I, J, CR, T, X, C, P, G⟩ := id V.1
  have S := V.2.1
  exact sC_feed j2 (by rw [e]; exact I) hK (fun Mc' a b => sR_feed j2 I (fun Mr' c d => hQ _ _ _ _ (by rw [e]) (rel_of (a.trans (by rw [e])) b c (kp_feed V) d W)))
theorem al_text {i : Nat} {a1 : Int} {Mc Mr : gSt} {Q : Int → gSt → Int → gSt → Prop} (j1 : inI a1) (R : Rel i Mc Mr) (hQ : ∀ r r' Mc' Mr', wrap r = wrap r' → Rel (i + 6) Mc' Mr' → Q r Mc' r' Mr') : w_X8_text a1 Mc (fun r Mc' => w_Rtext a1 Mr (fun r' Mr' => Q r Mc' r' Mr')) := by
  obtain ⟨e, hK, V, W⟩ := id R
  obtain ⟨I, J, CR, T, X, C, P, G⟩ := id V.1
  have S := V.2.1
  refine sC_text j1 (by rw [e]; exact I) (by rw [e]; exact T) hK (fun Mc' a b => sR_text j1 I T (fun Mr' c d1 d2 => hQ _ _ _ _ (by rw [e]) ?_))
  have V' := kp_text (u := a1) V
  by_cases h1 : (S_text a1 (absR Mr)).1 = 1
  · have hu : 0 ≤ a1 ∧ a1 ≤ 1 := by
      apply Classical.byContradiction
      intro z
      unfold S_text at h1
      rw [if_pos z] at h1
      exact absurd h1 (by show ¬ ((-1000000000 : Int) - 1 = 1); decide)
    obtain ⟨⟨f1, f2, f3⟩, f4⟩ := d2 h1
    have I' : iN (absR Mr') := by rw [c]; exact V'.1.1
    have l := len1 I'
    obtain ⟨w1, w2, w3, w4, w5⟩ := W
    refine ⟨(a.trans (by rw [e])).trans c.symm, b, by rw [c]; exact inv_mono (by omega) V', ?_, ?_, by rw [f2]; exact w3, by rw [f2]; exact w4, by rw [f3]; exact w5⟩
    · by_cases z : a1 = 0
      · subst z; exact f4
      · exact rawT_c l.1 (fun j x y => f1 j (by omega) (by omega) (by omega)) w1
    · by_cases z : a1 = 1
      · subst z; exact f4
      · exact rawT_c l.2 (fun j x y => f1 j (by omega) (by omega) (by omega)) w2
  · exact rel_of (a.trans (by rw [e])) b c V' (d1 h1) W
theorem al_untell {i : Nat} {a1 : Int} {Mc Mr : gSt} {Q : Int → gSt → Int → gSt → Prop} (j1 : inI a1) (R : Rel i Mc Mr) (hQ : ∀ r r' Mc' Mr', wrap r = wrap r' → Rel (i + 6) Mc' Mr' → Q r Mc' r' Mr') : w_X8_untell a1 Mc (fun r Mc' => w_Runtell a1 Mr (fun r' Mr' => Q r Mc' r' Mr')) := by
  obtain ⟨e, hK, V, W⟩ := id R
  obtain ⟨I, J, CR, T, X, C, P, G⟩ := id V.1
  have S := V.2.1
  refine sC_untell j1 (by rw [e]; exact I) hK (fun Mc' a b => sR_untell j1 I (fun Mr' c d1 d2 => hQ _ _ _ _ (by rw [e]) ?_))
  have V' := kp_untell (u := a1) V
  by_cases hu : 0 ≤ a1 ∧ a1 ≤ 1
  · obtain ⟨⟨f1, f2, f3⟩, f4⟩ := d2 hu
    have I' : iN (absR Mr') := by rw [c]; exact V'.1.1
    have l := len1 I'
    obtain ⟨w1, w2, w3, w4, w5⟩ := W
    refine ⟨(a.trans (by rw [e])).trans c.symm, b, by rw [c]; exact inv_mono (by omega) V', ?_, ?_, by rw [f2]; exact w3, by rw [f2]; exact w4, by rw [f3]; exact w5⟩
    · by_cases z : a1 = 0
      · subst z
        intro i x y
        rw [f4] at y
        exact absurd y (by omega)
      · exact rawT_c l.1 (fun j x y => f1 j (by omega)) w1
    · by_cases z : a1 = 1
      · subst z
        intro i x y
        rw [f4] at y
        exact absurd y (by omega)
      · exact rawT_c l.2 (fun j x y => f1 j (by omega)) w2
  · exact rel_of (a.trans (by rw [e])) b c V' (d1 hu) W
theorem al_claim {i : Nat} {a1 a2 : Int} {Mc Mr : gSt} {Q : Int → gSt → Int → gSt → Prop} (j1 : inI a1) (j2 : inI a2) (R : Rel i Mc Mr) (hQ : ∀ r r' Mc' Mr', wrap r = wrap r' → Rel (i + 6) Mc' Mr' → Q r Mc' r' Mr') : w_X8_claim a1 a2 Mc (fun r Mc' => w_Rclaim a1 a2 Mr (fun r' Mr' => Q r Mc' r' Mr')) := by
  obtain ⟨e, hK, V, W⟩ := id R
  obtain ⟨I, J, CR, T, X, C, P, G⟩ := id V.1
  have S := V.2.1
  exact sC_claim j1 j2 (by rw [e]; exact I) hK (fun Mc' a b => sR_claim j1 j2 I (fun Mr' c d => hQ _ _ _ _ (by rw [e]) (rel_of (a.trans (by rw [e])) b c (kp_claim V) d W)))
theorem al_claimIs {i : Nat} {a1 a2 : Int} {Mc Mr : gSt} {Q : Int → gSt → Int → gSt → Prop} (j1 : inI a1) (j2 : inI a2) (R : Rel i Mc Mr) (hQ : ∀ r r' Mc' Mr', wrap r = wrap r' → Rel (i + 6) Mc' Mr' → Q r Mc' r' Mr') : w_X8_claimIs a1 a2 Mc (fun r Mc' => w_RclaimIs a1 a2 Mr (fun r' Mr' => Q r Mc' r' Mr')) := by
  obtain ⟨e, hK, V, W⟩ := id R
  obtain ⟨I, J, CR, T, X, C, P, G⟩ := id V.1
  have S := V.2.1
  exact sC_claimIs j1 j2 (by rw [e]; exact I) (by rw [e]; exact C) (by rw [e]; exact X) hK (fun r Mc' h a b => sR_claimIs j1 j2 I C X W.2.1 (fun r' Mr' h' c d => hQ _ _ _ _ (ans (fun σ => S_claimIs a1 a2 σ) e h h') (rel_now R a b c d)))
theorem al_share {i : Nat} {a1 a2 : Int} {Mc Mr : gSt} {Q : Int → gSt → Int → gSt → Prop} (j1 : inI a1) (j2 : inI a2) (R : Rel i Mc Mr) (hQ : ∀ r r' Mc' Mr', wrap r = wrap r' → Rel (i + 6) Mc' Mr' → Q r Mc' r' Mr') : w_X8_share a1 a2 Mc (fun r Mc' => w_Rshare a1 a2 Mr (fun r' Mr' => Q r Mc' r' Mr')) := by
  obtain ⟨e, hK, V, W⟩ := id R
  obtain ⟨I, J, CR, T, X, C, P, G⟩ := id V.1
  have S := V.2.1
  exact sC_share j1 j2 (by rw [e]; exact I) (by rw [e]; exact J) (by rw [e]; exact C) (by rw [e]; exact X) hK (fun r Mc' h a b => sR_share j1 j2 I J C X W.2.1 (fun r' Mr' h' c d => hQ _ _ _ _ (ans (fun σ => S_share a1 a2 σ) e h h') (rel_now R a b c d)))
theorem al_left {i : Nat} {a1 a2 : Int} {Mc Mr : gSt} {Q : Int → gSt → Int → gSt → Prop} (j1 : inI a1) (j2 : inI a2) (R : Rel i Mc Mr) (hQ : ∀ r r' Mc' Mr', wrap r = wrap r' → Rel (i + 6) Mc' Mr' → Q r Mc' r' Mr') : w_X8_left a1 a2 Mc (fun r Mc' => w_Rleft a1 a2 Mr (fun r' Mr' => Q r Mc' r' Mr')) := by
  obtain ⟨e, hK, V, W⟩ := id R
  obtain ⟨I, J, CR, T, X, C, P, G⟩ := id V.1
  have S := V.2.1
  exact sC_left j1 j2 (by rw [e]; exact I) (by rw [e]; exact J) (by rw [e]; exact C) (by rw [e]; exact X) hK (fun r Mc' h a b => sR_left j1 j2 I J C X W.2.1 (fun r' Mr' h' c d => hQ _ _ _ _ (ans (fun σ => S_left a1 a2 σ) e h h') (rel_now R a b c d)))
theorem al_paper {i : Nat} {a1 a2 a3 : Int} {Mc Mr : gSt} {Q : Int → gSt → Int → gSt → Prop} (j1 : inI a1) (j2 : inI a2) (j3 : inI a3) (R : Rel i Mc Mr) (hQ : ∀ r r' Mc' Mr', wrap r = wrap r' → Rel (i + 6) Mc' Mr' → Q r Mc' r' Mr') : w_X8_paper a1 a2 a3 Mc (fun r Mc' => w_Rpaper a1 a2 a3 Mr (fun r' Mr' => Q r Mc' r' Mr')) := by
  obtain ⟨e, hK, V, W⟩ := id R
  obtain ⟨I, J, CR, T, X, C, P, G⟩ := id V.1
  have S := V.2.1
  exact sC_paper j1 j2 j3 (by rw [e]; exact I) hK (fun Mc' a b => sR_paper j1 j2 j3 I (fun Mr' c d => hQ _ _ _ _ (by rw [e]) (rel_of (a.trans (by rw [e])) b c (kp_paper V) d W)))
theorem al_weigh {i : Nat} {a1 a2 a3 : Int} {Mc Mr : gSt} {Q : Int → gSt → Int → gSt → Prop} (j1 : inI a1) (j2 : inI a2) (j3 : inI a3) (R : Rel i Mc Mr) (hQ : ∀ r r' Mc' Mr', wrap r = wrap r' → Rel (i + 6) Mc' Mr' → Q r Mc' r' Mr') : w_X8_weigh a1 a2 a3 Mc (fun r Mc' => w_Rweigh a1 a2 a3 Mr (fun r' Mr' => Q r Mc' r' Mr')) := by
  obtain ⟨e, hK, V, W⟩ := id R
  obtain ⟨I, J, CR, T, X, C, P, G⟩ := id V.1
  have S := V.2.1
  exact sC_weigh j1 j2 j3 (by rw [e]; exact I) hK (fun Mc' a b => sR_weigh j1 j2 j3 I (fun Mr' c d => hQ _ _ _ _ (by rw [e]) (rel_of (a.trans (by rw [e])) b c (kp_weigh V) d W)))
theorem al_forget {i : Nat} {a1 : Int} {Mc Mr : gSt} {Q : Int → gSt → Int → gSt → Prop} (j1 : inI a1) (R : Rel i Mc Mr) (hQ : ∀ r r' Mc' Mr', wrap r = wrap r' → Rel (i + 6) Mc' Mr' → Q r Mc' r' Mr') : w_X8_forget a1 Mc (fun r Mc' => w_Rforget a1 Mr (fun r' Mr' => Q r Mc' r' Mr')) := by
  obtain ⟨e, hK, V, W⟩ := id R
  obtain ⟨I, J, CR, T, X, C, P, G⟩ := id V.1
  have S := V.2.1
  exact sC_forget j1 hK (fun Mc' a b => sR_forget j1 I (fun Mr' c d => hQ _ _ _ _ (by rw [e]) (rel_of (a.trans (by rw [e])) b c (kp_forget V) d W)))
theorem al_by {i : Nat} {a1 a2 a3 : Int} {Mc Mr : gSt} {Q : Int → gSt → Int → gSt → Prop} (j1 : inI a1) (j2 : inI a2) (j3 : inI a3) (R : Rel i Mc Mr) (hQ : ∀ r r' Mc' Mr', wrap r = wrap r' → Rel (i + 6) Mc' Mr' → Q r Mc' r' Mr') : w_X8_by a1 a2 a3 Mc (fun r Mc' => w_Rby a1 a2 a3 Mr (fun r' Mr' => Q r Mc' r' Mr')) := by
  obtain ⟨e, hK, V, W⟩ := id R
  obtain ⟨I, J, CR, T, X, C, P, G⟩ := id V.1
  have S := V.2.1
  exact sC_by j1 j2 j3 (by rw [e]; exact I) (by rw [e]; exact J) (by rw [e]; exact P) hK (fun r Mc' h a b => sR_by j1 j2 j3 I J P (fun r' Mr' h' c d => hQ _ _ _ _ (ans (fun σ => S_by a1 a2 a3 σ) e h h') (rel_now R a b c d)))
theorem al_fits {i : Nat} {a1 : Int} {Mc Mr : gSt} {Q : Int → gSt → Int → gSt → Prop} (j1 : inI a1) (R : Rel i Mc Mr) (hQ : ∀ r r' Mc' Mr', wrap r = wrap r' → Rel (i + 6) Mc' Mr' → Q r Mc' r' Mr') : w_X8_fits a1 Mc (fun r Mc' => w_Rfits a1 Mr (fun r' Mr' => Q r Mc' r' Mr')) := by
  obtain ⟨e, hK, V, W⟩ := id R
  obtain ⟨I, J, CR, T, X, C, P, G⟩ := id V.1
  have S := V.2.1
  exact sC_fits j1 (by rw [e]; exact I) (by rw [e]; exact J) (by rw [e]; exact P) (by rw [e]; exact G) hK (fun r Mc' h a b => sR_fits j1 I J P G (fun r' Mr' h' c d => hQ _ _ _ _ (ans (fun σ => S_fits a1 σ) e h h') (rel_now R a b c d)))
theorem al_span {i : Nat} {a1 a2 a3 : Int} {Mc Mr : gSt} {Q : Int → gSt → Int → gSt → Prop} (j1 : inI a1) (j2 : inI a2) (j3 : inI a3) (R : Rel i Mc Mr) (hQ : ∀ r r' Mc' Mr', wrap r = wrap r' → Rel (i + 6) Mc' Mr' → Q r Mc' r' Mr') : w_X8_span a1 a2 a3 Mc (fun r Mc' => w_Rspan a1 a2 a3 Mr (fun r' Mr' => Q r Mc' r' Mr')) := by
  obtain ⟨e, hK, V, W⟩ := id R
  obtain ⟨I, J, CR, T, X, C, P, G⟩ := id V.1
  have S := V.2.1
  exact sC_span j1 j2 j3 (by rw [e]; exact I) (by rw [e]; exact J) (by rw [e]; exact P) (by rw [e]; exact G) hK (fun r Mc' h a b => sR_span j1 j2 j3 I J P G (fun r' Mr' h' c d => hQ _ _ _ _ (ans (fun σ => S_span a1 a2 a3 σ) e h h') (rel_now R a b c d)))
theorem al_next {i : Nat} {Mc Mr : gSt} {Q : Int → gSt → Int → gSt → Prop} (R : Rel i Mc Mr) (hQ : ∀ r r' Mc' Mr', wrap r = wrap r' → Rel (i + 6) Mc' Mr' → Q r Mc' r' Mr') : w_X8_next  Mc (fun r Mc' => w_Rnext  Mr (fun r' Mr' => Q r Mc' r' Mr')) := by
  obtain ⟨e, hK, V, W⟩ := id R
  obtain ⟨I, J, CR, T, X, C, P, G⟩ := id V.1
  have S := V.2.1
  exact sC_next (by rw [e]; exact I) (by rw [e]; exact J) (by rw [e]; exact P) (by rw [e]; exact G) hK (fun r Mc' h a b => sR_next I J P G (fun r' Mr' h' c d => hQ _ _ _ _ (ans (fun σ => S_next σ) e h h') (rel_now R a b c d)))
theorem al_most {i : Nat} {a1 a2 a3 : Int} {Mc Mr : gSt} {Q : Int → gSt → Int → gSt → Prop} (j1 : inI a1) (j2 : inI a2) (j3 : inI a3) (R : Rel i Mc Mr) (hQ : ∀ r r' Mc' Mr', wrap r = wrap r' → Rel (i + 6) Mc' Mr' → Q r Mc' r' Mr') : w_X8_most a1 a2 a3 Mc (fun r Mc' => w_Rmost a1 a2 a3 Mr (fun r' Mr' => Q r Mc' r' Mr')) := by
  obtain ⟨e, hK, V, W⟩ := id R
  obtain ⟨I, J, CR, T, X, C, P, G⟩ := id V.1
  have S := V.2.1
  exact sC_most j1 j2 j3 (by rw [e]; exact I) (by rw [e]; exact J) hK (fun r Mc' h a b => sR_most j1 j2 j3 I J (fun r' Mr' h' c d => hQ _ _ _ _ (ans (fun σ => S_most a1 a2 a3 σ) e h h') (rel_now R a b c d)))
theorem al_voice {i : Nat} {a1 a2 a3 : Int} {Mc Mr : gSt} {Q : Int → gSt → Int → gSt → Prop} (j1 : inI a1) (j2 : inI a2) (j3 : inI a3) (R : Rel i Mc Mr) (hQ : ∀ r r' Mc' Mr', wrap r = wrap r' → Rel (i + 6) Mc' Mr' → Q r Mc' r' Mr') : w_X8_voice a1 a2 a3 Mc (fun r Mc' => w_Rvoice a1 a2 a3 Mr (fun r' Mr' => Q r Mc' r' Mr')) := by
  obtain ⟨e, hK, V, W⟩ := id R
  obtain ⟨I, J, CR, T, X, C, P, G⟩ := id V.1
  have S := V.2.1
  refine sC_voice j1 j2 (by rw [e]; exact I) (by rw [e]; exact J) hK (fun r Mc' h a b => sR_voice j1 j2 I J W.2.2.2.2 (fun r' Mr' h' c d => hQ _ _ _ _ (ans (fun σ => S_voice a1 a2 a3 σ) e h h') ?_))
  have I' : iN (absR Mr') := by rw [c]; exact I
  obtain ⟨w1, w2, w3, w4, -⟩ := W
  obtain ⟨f1, f2, f3⟩ := d
  have l := len1 I'
  exact ⟨(a.trans e).trans c.symm, b, by rw [c]; exact inv_mono (by omega) V, rawT_c l.1 (fun j x y => f1 j (by omega) (by omega)) w1, rawT_c l.2 (fun j x y => f1 j (by omega) (by omega)) w2, by rw [f2]; exact w3, by rw [f2]; exact w4, f3⟩
theorem al_body {i : Nat} {a1 : Int} {Mc Mr : gSt} {Q : Int → gSt → Int → gSt → Prop} (j1 : inI a1) (R : Rel i Mc Mr) (hQ : ∀ r r' Mc' Mr', Rel (i + 6) Mc' Mr' → Q r Mc' r' Mr') : w_X8_body a1 Mc (fun r Mc' => w_Rbody a1 Mr (fun r' Mr' => Q r Mc' r' Mr')) := by
  obtain ⟨e, hK, V, W⟩ := id R
  obtain ⟨I, J, CR, T, X, C, P, G⟩ := id V.1
  have S := V.2.1
  exact sC_body j1 hK (fun r Mc' a b => sR_body j1 W.2.2.2.2 (fun r' Mr' c d => hQ _ _ _ _ (rel_now R a b c d)))
theorem al_sheet {i : Nat} {a1 a2 a3 : Int} {Mc Mr : gSt} {Q : Int → gSt → Int → gSt → Prop} (j1 : inI a1) (j2 : inI a2) (j3 : inI a3) (R : Rel i Mc Mr) (hQ : ∀ r r' Mc' Mr', wrap r = wrap r' → Rel (i + 6) Mc' Mr' → Q r Mc' r' Mr') : w_X8_sheet a1 a2 a3 Mc (fun r Mc' => w_Rsheet a1 a2 a3 Mr (fun r' Mr' => Q r Mc' r' Mr')) := by
  obtain ⟨e, hK, V, W⟩ := id R
  obtain ⟨I, J, CR, T, X, C, P, G⟩ := id V.1
  have S := V.2.1
  exact sC_sheet j1 j2 j3 hK (fun Mc' a b => sR_sheet j1 j2 j3 (fun Mr' c d => hQ _ _ _ _ (by rw [e]) (rel_of (a.trans (by rw [e])) b c (kp_sheet V) d W)))
theorem al_put {i : Nat} {a1 a2 a3 : Int} {Mc Mr : gSt} {Q : Int → gSt → Int → gSt → Prop} (j1 : inI a1) (j2 : inI a2) (j3 : inI a3) (R : Rel i Mc Mr) (hQ : ∀ r r' Mc' Mr', wrap r = wrap r' → Rel (i + 6) Mc' Mr' → Q r Mc' r' Mr') : w_X8_put a1 a2 a3 Mc (fun r Mc' => w_Rput a1 a2 a3 Mr (fun r' Mr' => Q r Mc' r' Mr')) := by
  obtain ⟨e, hK, V, W⟩ := id R
  obtain ⟨I, J, CR, T, X, C, P, G⟩ := id V.1
  have S := V.2.1
  exact sC_put j1 j2 j3 (by rw [e]; exact S) hK (fun Mc' a b => sR_put j1 j2 S (fun Mr' c d => hQ _ _ _ _ (by rw [e]) (rel_of (a.trans (by rw [e])) b c (kp_put V) d W)))
theorem al_move {i : Nat} {a1 a2 a3 a4 a5 : Int} {Mc Mr : gSt} {Q : Int → gSt → Int → gSt → Prop} (j1 : inI a1) (j2 : inI a2) (j3 : inI a3) (j4 : inI a4) (j5 : inI a5) (R : Rel i Mc Mr) (hQ : ∀ r r' Mc' Mr', wrap r = wrap r' → Rel (i + 6) Mc' Mr' → Q r Mc' r' Mr') : w_X8_move a1 a2 a3 a4 a5 Mc (fun r Mc' => w_Rmove a1 a2 a3 a4 a5 Mr (fun r' Mr' => Q r Mc' r' Mr')) := by
  obtain ⟨e, hK, V, W⟩ := id R
  obtain ⟨I, J, CR, T, X, C, P, G⟩ := id V.1
  have S := V.2.1
  exact sC_move j1 j2 j3 j4 j5 (by rw [e]; exact S) hK (fun Mc' a b => sR_move j1 j2 j3 j4 j5 S (fun Mr' c d => hQ _ _ _ _ (by rw [e]) (rel_of (a.trans (by rw [e])) b c (kp_move V) d W)))
theorem al_papers {i : Nat} {a1 : Int} {Mc Mr : gSt} {Q : Int → gSt → Int → gSt → Prop} (j1 : inI a1) (R : Rel i Mc Mr) (hQ : ∀ r r' Mc' Mr', wrap r = wrap r' → Rel (i + 6) Mc' Mr' → Q r Mc' r' Mr') : w_X8_papers a1 Mc (fun r Mc' => w_Rpapers a1 Mr (fun r' Mr' => Q r Mc' r' Mr')) := by
  obtain ⟨e, hK, V, W⟩ := id R
  obtain ⟨I, J, CR, T, X, C, P, G⟩ := id V.1
  have S := V.2.1
  exact sC_papers j1 (by rw [e]; exact I) (by rw [e]; exact S) hK (fun Mc' a b => sR_papers j1 I S (fun Mr' c d => hQ _ _ _ _ (by rw [e]) (rel_of (a.trans (by rw [e])) b c (kp_papers V) d W)))
theorem al_judge {i : Nat} {a1 a2 : Int} {Mc Mr : gSt} {Q : Int → gSt → Int → gSt → Prop} (j1 : inI a1) (j2 : inI a2) (R : Rel i Mc Mr) (hQ : ∀ r r' Mc' Mr', wrap r = wrap r' → Rel (i + 6) Mc' Mr' → Q r Mc' r' Mr') : w_X8_judge a1 a2 Mc (fun r Mc' => w_Rjudge a1 a2 Mr (fun r' Mr' => Q r Mc' r' Mr')) := by
  obtain ⟨e, hK, V, W⟩ := id R
  obtain ⟨I, J, CR, T, X, C, P, G⟩ := id V.1
  have S := V.2.1
  exact sC_judge j1 j2 (by rw [e]; exact I) (by rw [e]; exact J) (by rw [e]; exact P) (by rw [e]; exact S) hK (fun r Mc' h a b => sR_judge j1 j2 I J P S (fun r' Mr' h' c d => hQ _ _ _ _ (ans (fun σ => S_judge a1 a2 σ) e h h') (rel_now R a b c d)))
theorem al_image {i : Nat} {Mc Mr : gSt} {Q : Int → gSt → Int → gSt → Prop} (R : Rel i Mc Mr) (hQ : ∀ r r' Mc' Mr', wrap r = wrap r' → Rel (i + 6) Mc' Mr' → Q r Mc' r' Mr') : w_X8_image  Mc (fun r Mc' => w_Rimage  Mr (fun r' Mr' => Q r Mc' r' Mr')) := by
  obtain ⟨e, hK, V, W⟩ := id R
  obtain ⟨I, J, CR, T, X, C, P, G⟩ := id V.1
  have S := V.2.1
  have p := V.2.2.1.1
  refine sC_image (by rw [e]; exact I) (by rw [e]; exact p) hK (fun Mc' a b => sR_image I p (fun Mr' c d1 d2 d3 => hQ _ _ _ _ (by rw [e]) ?_))
  have V' := kp_image V
  have l := len1 I
  obtain ⟨w1, w2, w3, w4, w5⟩ := W
  refine ⟨(a.trans (by rw [e])).trans c.symm, b, by rw [c]; exact V', by rw [d1]; exact w1, by rw [d1]; exact w2, rawT_c (by rw [d2 _ (by decide) (by decide)]; exact l.1) (fun j x y => d2 j (by omega) (by omega)) w1, rawT_c (by rw [d2 _ (by decide) (by decide)]; exact l.2) (fun j x y => d2 j (by omega) (by omega)) w2, by rw [d3]; exact w5⟩
theorem al_restore {i : Nat} {Mc Mr : gSt} {Q : Int → gSt → Int → gSt → Prop} (hi : i ≤ 384) (R : Rel i Mc Mr) (hQ : ∀ r r' Mc' Mr', wrap r = wrap r' → Rel (i + 6) Mc' Mr' → Q r Mc' r' Mr') : w_X8_restore  Mc (fun r Mc' => w_Rrestore  Mr (fun r' Mr' => Q r Mc' r' Mr')) := by
  obtain ⟨e, hK, V, W⟩ := id R
  obtain ⟨I, J, CR, T, X, C, P, G⟩ := id V.1
  have S := V.2.1
  have p := V.2.2.1
  have q : absR Mr 21 0 ≠ 0 → absR Mr 10 9 ≤ 60 ∧ absR Mr 10 10 ≤ 60 := fun z => by
    have k := (V.2.2.2 z).1
    unfold iN at k
    have e9 : rstσ (absR Mr) 0 9 = absR Mr 10 9 := by unfold rstσ; rw [if_pos (by decide)]
    have e10 : rstσ (absR Mr) 0 10 = absR Mr 10 10 := by unfold rstσ; rw [if_pos (by decide)]
    omega
  have ht : absR Mr 21 0 ≠ 0 → txtOk (Mr 2) := fun z => by
    have k := q z
    rw [← rdImg] at z
    have e9 : absR Mr 10 9 = Mr 2 202 := by simp [absR, absS, z]
    have e10 : absR Mr 10 10 = Mr 2 327 := by simp [absR, absS, z]
    unfold txtOk
    omega
  refine sC_restore (by rw [e]; omega) (by rw [e]; exact q) hK (fun Mc' a b => sR_restore (by omega) ht (fun Mr' c d1 d2 => hQ _ _ _ _ (by rw [e]) ?_))
  have V' := kp_restore V
  by_cases z : absR Mr 21 0 = 0
  · exact rel_of (a.trans (by rw [e])) b c V' (d1 z) W
  · obtain ⟨f2, f3, f1⟩ := d2 z
    have I' : iN (absR Mr') := by rw [c]; exact V'.1.1
    have l := len1 I'
    obtain ⟨w1, w2, w3, w4, w5⟩ := W
    exact ⟨(a.trans (by rw [e])).trans c.symm, b, by rw [c]; exact inv_mono (by omega) V', rawT_c l.1 (fun j x y => f1 j (by omega) (by omega)) w3, rawT_c l.2 (fun j x y => f1 j (by omega) (by omega)) w4, by rw [f2]; exact w3, by rw [f2]; exact w4, by rw [f3]; exact w5⟩
theorem al_tell {i : Nat} {a1 : Int} {Mc Mr : gSt} {Q : Int → gSt → Int → gSt → Prop} (j1 : inI a1) (R : Rel i Mc Mr) (hQ : ∀ r r' Mc' Mr', wrap r = wrap r' → Rel (i + 6) Mc' Mr' → Q r Mc' r' Mr') : w_X8_tell a1 Mc (fun r Mc' => w_Rtell a1 Mr (fun r' Mr' => Q r Mc' r' Mr')) := by
  obtain ⟨e, hK, V, W⟩ := id R
  obtain ⟨I, J, CR, T, X, C, P, G⟩ := id V.1
  have S := V.2.1
  exact sC_tell (by rw [e]; exact I) hK (fun Mc' a b => sR_tell I (fun Mr' c d => hQ _ _ _ _ (by rw [e]) (rel_of (a.trans (by rw [e])) b c (kp_tell V) d W)))
theorem al_check {i : Nat} {Mc Mr : gSt} {Q : Int → gSt → Int → gSt → Prop} (R : Rel i Mc Mr) (hQ : ∀ r r' Mc' Mr', wrap r = wrap r' → Rel (i + 6) Mc' Mr' → Q r Mc' r' Mr') : w_X8_check  Mc (fun r Mc' => w_Rcheck  Mr (fun r' Mr' => Q r Mc' r' Mr')) := by
  obtain ⟨e, hK, V, W⟩ := id R
  obtain ⟨I, J, CR, T, X, C, P, G⟩ := id V.1
  have S := V.2.1
  exact sC_check (by rw [e]; exact I) (by rw [e]; exact J) (by rw [e]; exact P) (by rw [e]; exact G) hK (fun r Mc' h a b => sR_check I J P G (fun r' Mr' h' c d => hQ _ _ _ _ (ans (fun σ => (S_check σ).1) e h h') (rel_of (a.trans (by rw [e])) b c (kp_check V) d W)))
theorem cnt_2 {w : Int} {σ : gSt} : (S_count w σ).2 = σ := by
  unfold S_count
  repeat' split
  all_goals rfl
theorem al_count {i : Nat} {a1 : Int} {Mc Mr : gSt} {Q : Int → gSt → Int → gSt → Prop} (j1 : inI a1) (R : Rel i Mc Mr) (hQ : ∀ r r' Mc' Mr', Rel (i + 6) Mc' Mr' → Q r Mc' r' Mr') : w_X8_count a1 Mc (fun r Mc' => w_Rcount a1 Mr (fun r' Mr' => Q r Mc' r' Mr')) := by
  obtain ⟨e, hK, V, W⟩ := id R
  obtain ⟨I, J, CR, T, X, C, P, G⟩ := id V.1
  have S := V.2.1
  exact sC_count j1 (by rw [e]; exact I) hK (fun r Mc' _ a b => sR_count j1 I (fun r' Mr' _ c d => hQ _ _ _ _ (rel_now R (a.trans cnt_2) b (c.trans cnt_2) d)))
theorem al_told {i : Nat} {a1 : Int} {Mc Mr : gSt} {Q : Int → gSt → Int → gSt → Prop} (j1 : inI a1) (R : Rel i Mc Mr) (hQ : ∀ r r' Mc' Mr', Rel (i + 6) Mc' Mr' → Q r Mc' r' Mr') : w_X8_told a1 Mc (fun r Mc' => w_Rtold a1 Mr (fun r' Mr' => Q r Mc' r' Mr')) := by
  obtain ⟨e, hK, V, W⟩ := id R
  obtain ⟨I, J, CR, T, X, C, P, G⟩ := id V.1
  have S := V.2.1
  exact sC_told j1 hK (fun r Mc' a b => sR_told j1 (fun r' Mr' c d => hQ _ _ _ _ (rel_now R a b c d)))
