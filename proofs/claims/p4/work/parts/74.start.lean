-- the two new objects, as memories; what the tables and the premises say of the start
def M0c : gSt := fun o => match o with
  | 2 => fun i => if i = 4 then 1 else 0
  | 4 => fun i => if i = 0 then 1 else if i = 2 then 60 else 0
  | 6 => fun i => if i = 0 then 2 else if i = 2 then 10 else 0
  | 8 => fun i => if i = 0 then 3 else if i = 2 then 6 else 0
  | 10 => fun i => if i = 0 then 3 else if i = 2 then 8 else 0
  | 12 => fun i => if i = 0 then 1 else if i = 2 then 24 else 0
  | 14 => fun i => if i = 0 then 1 else if i = 2 then 60 else 0
  | 16 => fun i => if i = 0 then 1 else if i = 2 then 60 else 0
  | 21 => fun i => if i = 4 then 1 else 0
  | 23 => fun i => if i = 0 then 1 else if i = 2 then 60 else 0
  | 25 => fun i => if i = 0 then 2 else if i = 2 then 10 else 0
  | 27 => fun i => if i = 0 then 3 else if i = 2 then 6 else 0
  | 29 => fun i => if i = 0 then 3 else if i = 2 then 8 else 0
  | 31 => fun i => if i = 0 then 1 else if i = 2 then 24 else 0
  | 33 => fun i => if i = 0 then 1 else if i = 2 then 60 else 0
  | 35 => fun i => if i = 0 then 1 else if i = 2 then 60 else 0
  | 39 => fun i => if i = 4 then 1 else 0
  | 42 => fun i => if i = 4 then 1 else 0
  | 44 => fun i => if i = 0 then 1 else if i = 2 then 64 else 0
  | 48 => fun i => if i = 0 then 1 else if i = 2 then 60 else 0
  | 50 => fun i => if i = 0 then 1 else if i = 2 then 60 else 0
  | 53 => fun i => if i = 0 then 1 else if i = 2 then 30 else 0
  | _ => fun _ => 0
def M0r : gSt := fun o => match o with
  | 1 => fun i => if i = 8 then 1 else 0
  | _ => fun _ => 0
def adC (a : Nat) (u : Nat → Nat) : Nat → Nat := fun o => if o = 0 then a else if o < 56 then u (o - 1) else if o < 64 then u o else u 55
def adR (a : Nat) (u : Nat → Nat) : Nat → Nat := fun o => if o = 0 then a else u (o - 1)
theorem shF {u : Nat → Nat} {a : Nat} : (fun i : Nat => ([56, 58, 60, 62][i]?).map (adC a u)) = va_up (va_up (va_up (va_up (fun _ => none) 0 (some (u 56))) 1 (some (u 58))) 2 (some (u 60))) 3 (some (u 62)) := by
  funext i
  match i with
  | 0 => rfl
  | 1 => rfl
  | 2 => rfl
  | 3 => rfl
  | n + 4 => simp [va_up]
set_option maxRecDepth 100000 in
def wCl (a : Nat) (u : Nat → Nat) (cI cS : ClassId) (f : Nat → Option Nat) : va_W := [(a, .inr (8, [.ref (u 0), .ref (u 19), .ref (u 38), .ref (u 40), .ref (u 46), .ref (u 51), .ref (u 54), .ref (u 55), iv 0])), (u 0, .inr (1, [.ref (u 1), .ref (u 3), .ref (u 5), .ref (u 7), .ref (u 9), .ref (u 11), .ref (u 13), .ref (u 15), .ref (u 17)])), (u 1, .inr (0, [.ref (u 2), iv 0, iv 0, iv 0, iv 1])), (u 2, .inl (cI, 130, .inl (fun _ => 0))), (u 3, .inr (4, [iv 1, .ref (u 4), iv 60, iv 0])), (u 4, .inl (cI, 60, .inl (fun _ => 0))), (u 5, .inr (4, [iv 2, .ref (u 6), iv 10, iv 0])), (u 6, .inl (cI, 20, .inl (fun _ => 0))), (u 7, .inr (4, [iv 3, .ref (u 8), iv 6, iv 0])), (u 8, .inl (cI, 18, .inl (fun _ => 0))), (u 9, .inr (4, [iv 3, .ref (u 10), iv 8, iv 0])), (u 10, .inl (cI, 24, .inl (fun _ => 0))), (u 11, .inr (4, [iv 1, .ref (u 12), iv 24, iv 0])), (u 12, .inl (cI, 24, .inl (fun _ => 0))), (u 13, .inr (4, [iv 1, .ref (u 14), iv 60, iv 0])), (u 14, .inl (cI, 60, .inl (fun _ => 0))), (u 15, .inr (4, [iv 1, .ref (u 16), iv 60, iv 0])), (u 16, .inl (cI, 60, .inl (fun _ => 0))), (u 17, .inr (7, [.ref (u 18), iv 0])), (u 18, .inl (cI, 60, .inl (fun _ => 0))), (u 19, .inr (1, [.ref (u 20), .ref (u 22), .ref (u 24), .ref (u 26), .ref (u 28), .ref (u 30), .ref (u 32), .ref (u 34), .ref (u 36)])), (u 20, .inr (0, [.ref (u 21), iv 0, iv 0, iv 0, iv 1])), (u 21, .inl (cI, 130, .inl (fun _ => 0))), (u 22, .inr (4, [iv 1, .ref (u 23), iv 60, iv 0])), (u 23, .inl (cI, 60, .inl (fun _ => 0))), (u 24, .inr (4, [iv 2, .ref (u 25), iv 10, iv 0])), (u 25, .inl (cI, 20, .inl (fun _ => 0))), (u 26, .inr (4, [iv 3, .ref (u 27), iv 6, iv 0])), (u 27, .inl (cI, 18, .inl (fun _ => 0))), (u 28, .inr (4, [iv 3, .ref (u 29), iv 8, iv 0])), (u 29, .inl (cI, 24, .inl (fun _ => 0))), (u 30, .inr (4, [iv 1, .ref (u 31), iv 24, iv 0])), (u 31, .inl (cI, 24, .inl (fun _ => 0))), (u 32, .inr (4, [iv 1, .ref (u 33), iv 60, iv 0])), (u 33, .inl (cI, 60, .inl (fun _ => 0))), (u 34, .inr (4, [iv 1, .ref (u 35), iv 60, iv 0])), (u 35, .inl (cI, 60, .inl (fun _ => 0))), (u 36, .inr (7, [.ref (u 37), iv 0])), (u 37, .inl (cI, 60, .inl (fun _ => 0))), (u 38, .inr (0, [.ref (u 39), iv 0, iv 0, iv 0, iv 1])), (u 39, .inl (cI, 130, .inl (fun _ => 0))), (u 40, .inr (2, [.ref (u 41), .ref (u 43), .ref (u 45)])), (u 41, .inr (0, [.ref (u 42), iv 0, iv 0, iv 0, iv 1])), (u 42, .inl (cI, 130, .inl (fun _ => 0))), (u 43, .inr (4, [iv 1, .ref (u 44), iv 64, iv 0])), (u 44, .inl (cI, 64, .inl (fun _ => 0))), (u 45, .inl (cI, 768, .inl (fun _ => 0))), (u 46, .inr (3, [.ref (u 47), .ref (u 49), iv 0, iv 0])), (u 47, .inr (4, [iv 1, .ref (u 48), iv 60, iv 0])), (u 48, .inl (cI, 60, .inl (fun _ => 0))), (u 49, .inr (4, [iv 1, .ref (u 50), iv 60, iv 0])), (u 50, .inl (cI, 60, .inl (fun _ => 0))), (u 51, .inr (6, [.ref (u 52), iv 0, iv 0, iv 0, iv 0])), (u 52, .inr (4, [iv 1, .ref (u 53), iv 30, iv 0])), (u 53, .inl (cI, 30, .inl (fun _ => 0))), (u 54, .inl (cS, 4, .inr (.inr (.inr (.inr f))))), (u 56, .inr (5, [.ref (u 57), iv 0, iv 0])), (u 57, .inl (cI, 24, .inl (fun _ => 0))), (u 58, .inr (5, [.ref (u 59), iv 0, iv 0])), (u 59, .inl (cI, 24, .inl (fun _ => 0))), (u 60, .inr (5, [.ref (u 61), iv 0, iv 0])), (u 61, .inl (cI, 24, .inl (fun _ => 0))), (u 62, .inr (5, [.ref (u 63), iv 0, iv 0])), (u 63, .inl (cI, 24, .inl (fun _ => 0))), (u 55, .inl (cI, 7, .inl (fun _ => 0)))]
set_option maxRecDepth 100000 in
theorem wC0 {a : Nat} {u : Nat → Nat} {cI cS : ClassId} : wC (adC a u) cI cS M0c = wCl a u cI cS (va_up (va_up (va_up (va_up (fun _ => none) 0 (some (u 56))) 1 (some (u 58))) 2 (some (u 60))) 3 (some (u 62))) :=
  congrArg (wCl a u cI cS) shF
theorem upR : (fun i : Nat => Int32.ofInt (M0r 1 (i : Int))) = upd (fun _ => 0) 8 (Int32.ofInt 1) := by
  funext i
  simp only [M0r, upd]
  by_cases h : i = 8
  · rw [if_pos h, if_pos (by omega)]
  · rw [if_neg h, if_neg (by omega)]; rfl
def wRl (a : Nat) (u : Nat → Nat) (cI : ClassId) (f : Nat → Int32) : va_W := [(a, .inr (9, [.ref (u 0), .ref (u 1), .ref (u 2), iv 0, .ref (u 3), iv 0, iv 0, iv 0, iv 0, .ref (u 4), .ref (u 5), .ref (u 6), .ref (u 7), iv 0, .ref (u 8), .ref (u 9), iv 0, iv 0, iv 0, .ref (u 10), .ref (u 11), .ref (u 12), .ref (u 13)])), (u 0, .inl (cI, 536, .inl f)), (u 1, .inl (cI, 536, .inl (fun _ => 0))), (u 2, .inl (cI, 536, .inl (fun _ => 0))), (u 3, .inl (cI, 7, .inl (fun _ => 0))), (u 4, .inl (cI, 124, .inl (fun _ => 0))), (u 5, .inl (cI, 128, .inl (fun _ => 0))), (u 6, .inl (cI, 64, .inl (fun _ => 0))), (u 7, .inl (cI, 64, .inl (fun _ => 0))), (u 8, .inl (cI, 64, .inl (fun _ => 0))), (u 9, .inl (cI, 30, .inl (fun _ => 0))), (u 10, .inl (cI, 4, .inl (fun _ => 0))), (u 11, .inl (cI, 4, .inl (fun _ => 0))), (u 12, .inl (cI, 96, .inl (fun _ => 0))), (u 13, .inl (cI, 24, .inl (fun _ => 0)))]
set_option maxRecDepth 100000 in
theorem wR0 {a : Nat} {u : Nat → Nat} {cI : ClassId} : wR (adR a u) cI 9 M0r = wRl a u cI (upd (fun _ => 0) 8 (Int32.ofInt 1)) :=
  congrArg (wRl a u cI) upR
theorem startK {s : State} {args : Array Value} (hts : ∀ w ∈ lw_tbl, w.before args s = true) : ∃ (D : va_G) (cI cS : ClassId), va_K D clC [(cI, .int), (cS, .object "OldBronze$Sheet")] s := by
  obtain ⟨c0, j0, K0⟩ := u_known (C := RX0) (T := TX0) (N := 5) (n := 5) hts (fun w hw => in_tC w (inX0 w hw)) (hts _ (List.mem_append_right _ (List.mem_append_left _ (List.mem_of_getElem? (l := tables_1_1) (i := 30) rfl))))
  obtain ⟨c1, j1, K1⟩ := u_known (C := RX1) (T := TX1) (N := 9) (n := 9) hts (fun w hw => in_tC w (inX1 w hw)) (hts _ (List.mem_append_right _ (List.mem_append_left _ (List.mem_of_getElem? (l := tables_1_1) (i := 24) rfl))))
  obtain ⟨c2, j2, K2⟩ := u_known (C := RX2) (T := TX2) (N := 3) (n := 3) hts (fun w hw => in_tC w (inX2 w hw)) (hts _ (List.mem_append_right _ (List.mem_append_left _ (List.mem_of_getElem? (l := tables_1_1) (i := 127) rfl))))
  obtain ⟨c3, j3, K3⟩ := u_known (C := RX3) (T := TX3) (N := 4) (n := 4) hts (fun w hw => in_tC w (inX3 w hw)) (hts _ (List.mem_append_right _ (List.mem_append_left _ (List.mem_of_getElem? (l := tables_1_1) (i := 147) rfl))))
  obtain ⟨c4, j4, K4⟩ := u_known (C := RX4) (T := TX4) (N := 4) (n := 4) hts (fun w hw => in_tC w (inX4 w hw)) (hts _ (List.mem_append_right _ (List.mem_append_left _ (List.mem_of_getElem? (l := tables_1_1) (i := 53) rfl))))
  obtain ⟨c5, j5, K5⟩ := u_known (C := RX5) (T := TX5) (N := 3) (n := 3) hts (fun w hw => in_tC w (inX5 w hw)) (hts _ (List.mem_append_right _ (List.mem_append_left _ (List.mem_of_getElem? (l := tables_1_1) (i := 193) rfl))))
  obtain ⟨c6, j6, K6⟩ := u_known (C := RX6) (T := TX6) (N := 5) (n := 5) hts (fun w hw => in_tC w (inX6 w hw)) (hts _ (List.mem_append_right _ (List.mem_append_left _ (List.mem_of_getElem? (l := tables_1_1) (i := 168) rfl))))
  obtain ⟨c7, j7, K7⟩ := u_known (C := RX7) (T := TX7) (N := 2) (n := 2) hts (fun w hw => in_tC w (inX7 w hw)) (hts _ (List.mem_append_right _ (List.mem_append_left _ (List.mem_of_getElem? (l := tables_1_1) (i := 75) rfl))))
  obtain ⟨c8, j8, K8⟩ := u_known (C := RX8) (T := TX8) (N := 9) (n := 9) hts (fun w hw => in_tC w (inX8 w hw)) (hts _ (List.mem_append_right _ (List.mem_append_left _ (List.mem_of_getElem? (l := tables_1_1) (i := 16) rfl))))
  obtain ⟨c9, j9, K9⟩ := u_known (C := RX9) (T := TX9) (N := 23) (n := 23) hts (fun w hw => in_tR w (tR_f w hw)) (hts _ (List.mem_append_right _ (List.mem_append_right _ (List.mem_append_right _ (List.mem_append_right _ (List.mem_append_left _ (List.mem_of_getElem? (l := tables_1_4) (i := 136) rfl)))))))
  obtain ⟨cA, kA, comp, hf, hk, hkind⟩ := Cond.arrayClass_spec (hts (.arrayClass .int) (List.mem_append_right _ (List.mem_append_left _ (List.mem_of_getElem? (l := tables_1_1) (i := 51) rfl))))
  obtain ⟨comp2, cB, kB, g1, g2, g3, g4, g5⟩ := Cond.arrayOver_spec (hts (.arrayOver (.object "OldBronze$Sheet")) (List.mem_append_right _ (List.mem_append_left _ (List.mem_of_getElem? (l := tables_1_1) (i := 192) rfl))))
  refine ⟨(fun k => [c0, c1, c2, c3, c4, c5, c6, c7, c8, c9].getD k c0, fun k => [j0, j1, j2, j3, j4, j5, j6, j7, j8, j9].getD k j0), cA, cB, fun k q hq => ?_, fun k q hq => ?_⟩
  · match k, hq with
    | 0, hq => cases hq; exact K0
    | 1, hq => cases hq; exact K1
    | 2, hq => cases hq; exact K2
    | 3, hq => cases hq; exact K3
    | 4, hq => cases hq; exact K4
    | 5, hq => cases hq; exact K5
    | 6, hq => cases hq; exact K6
    | 7, hq => cases hq; exact K7
    | 8, hq => cases hq; exact K8
    | 9, hq => cases hq; exact K9
    | k + 10, hq => simp [clC] at hq
  · match k, hq with
    | 0, hq =>
      cases hq
      exact ⟨fun n z => ⟨(fun k h => by cases h), kA, hk, comp, hkind⟩, hf⟩
    | 1, hq =>
      cases hq
      exact ⟨fun n z => ⟨(fun k h => by cases h), kB, g3, comp2, g4⟩, kB, comp2, g3, g4, g1, g5⟩
    | k + 2, hq => simp at hq
theorem st_ABOVE {s : State} {b : Nat} (hts : ∀ w ∈ lw_tbl, w.before #[Value.ref b] s = true) (hg : (Jvm.Cond.and given_1 narrow_1).before #[Value.ref b] s = true) : ∃ t : Nat, va_Z "OldBronze" "ABOVE" "[I" (.ref t) (fun q => s.heap.size ≤ q) s s.heap ∧ va_T .int t 7 (fun j => iv (fb_ABOVE j)) (fun q => s.heap.size ≤ q) s s.heap := by
  have hA : ∀ a : Nat, a < s.heap.size → ¬ (fun q : Nat => s.heap.size ≤ q) a := fun a h => Nat.not_le.mpr h
  have hs := flat_of_before _ hg
  obtain ⟨t, h1, h2⟩ := va_Tof (tm := .static "OldBronze" "ABOVE" "[I") (ty := .int) (N := 7) (f := fun j => iv (fb_ABOVE j)) (A := fun q : Nat => s.heap.size ≤ q) (by decide) (hs _ (by decide +kernel)) (eq_eval (z := 7) (hs _ (by decide +kernel))) (fun j hj => by
    match j, hj with
    | 0, _ => exact eq_eval (hs _ (by decide +kernel))
    | 1, _ => exact eq_eval (hs _ (by decide +kernel))
    | 2, _ => exact eq_eval (hs _ (by decide +kernel))
    | 3, _ => exact eq_eval (hs _ (by decide +kernel))
    | 4, _ => exact eq_eval (hs _ (by decide +kernel))
    | 5, _ => exact eq_eval (hs _ (by decide +kernel))
    | 6, _ => exact eq_eval (hs _ (by decide +kernel))
    | j + 7, hj => omega) hA
  exact ⟨t, va_Zref (hts _ (List.mem_append_right _ (List.mem_append_right _ (List.mem_append_left _ (List.mem_of_getElem? (l := tables_1_2) (i := 108) rfl))))) (hts _ (List.mem_append_right _ (List.mem_append_left _ (List.mem_of_getElem? (l := tables_1_1) (i := 1) rfl)))) h1 hA, h2⟩
theorem st_NAMES {s : State} {b : Nat} (hts : ∀ w ∈ lw_tbl, w.before #[Value.ref b] s = true) (hg : (Jvm.Cond.and given_1 narrow_1).before #[Value.ref b] s = true) : ∃ t : Nat, va_Z "OldBronze" "NAMES" "[I" (.ref t) (fun q => s.heap.size ≤ q) s s.heap ∧ va_T .int t 6 (fun j => iv (fb_NAMES j)) (fun q => s.heap.size ≤ q) s s.heap := by
  have hA : ∀ a : Nat, a < s.heap.size → ¬ (fun q : Nat => s.heap.size ≤ q) a := fun a h => Nat.not_le.mpr h
  have hs := flat_of_before _ hg
  obtain ⟨t, h1, h2⟩ := va_Tof (tm := .static "OldBronze" "NAMES" "[I") (ty := .int) (N := 6) (f := fun j => iv (fb_NAMES j)) (A := fun q : Nat => s.heap.size ≤ q) (by decide) (hs _ (by decide +kernel)) (eq_eval (z := 6) (hs _ (by decide +kernel))) (fun j hj => by
    match j, hj with
    | 0, _ => exact eq_eval (hs _ (by decide +kernel))
    | 1, _ => exact eq_eval (hs _ (by decide +kernel))
    | 2, _ => exact eq_eval (hs _ (by decide +kernel))
    | 3, _ => exact eq_eval (hs _ (by decide +kernel))
    | 4, _ => exact eq_eval (hs _ (by decide +kernel))
    | 5, _ => exact eq_eval (hs _ (by decide +kernel))
    | j + 6, hj => omega) hA
  exact ⟨t, va_Zref (hts _ (List.mem_append_right _ (List.mem_append_right _ (List.mem_append_right _ (List.mem_append_left _ (List.mem_of_getElem? (l := tables_1_3) (i := 25) rfl)))))) (hts _ (List.mem_append_right _ (List.mem_append_left _ (List.mem_of_getElem? (l := tables_1_1) (i := 1) rfl)))) h1 hA, h2⟩
theorem st_BODIES {s : State} {b : Nat} (hts : ∀ w ∈ lw_tbl, w.before #[Value.ref b] s = true) (hg : (Jvm.Cond.and given_1 narrow_1).before #[Value.ref b] s = true) : ∃ t : Nat, va_Z "OldBronze" "BODIES" "[I" (.ref t) (fun q => s.heap.size ≤ q) s s.heap ∧ va_T .int t 28 (fun j => iv (fb_BODIES j)) (fun q => s.heap.size ≤ q) s s.heap := by
  have hA : ∀ a : Nat, a < s.heap.size → ¬ (fun q : Nat => s.heap.size ≤ q) a := fun a h => Nat.not_le.mpr h
  have hs := flat_of_before _ hg
  obtain ⟨t, h1, h2⟩ := va_Tof (tm := .static "OldBronze" "BODIES" "[I") (ty := .int) (N := 28) (f := fun j => iv (fb_BODIES j)) (A := fun q : Nat => s.heap.size ≤ q) (by decide) (hs _ (by decide +kernel)) (eq_eval (z := 28) (hs _ (by decide +kernel))) (fun j hj => by
    match j, hj with
    | 0, _ => exact eq_eval (hs _ (by decide +kernel))
    | 1, _ => exact eq_eval (hs _ (by decide +kernel))
    | 2, _ => exact eq_eval (hs _ (by decide +kernel))
    | 3, _ => exact eq_eval (hs _ (by decide +kernel))
    | 4, _ => exact eq_eval (hs _ (by decide +kernel))
    | 5, _ => exact eq_eval (hs _ (by decide +kernel))
    | 6, _ => exact eq_eval (hs _ (by decide +kernel))
    | 7, _ => exact eq_eval (hs _ (by decide +kernel))
    | 8, _ => exact eq_eval (hs _ (by decide +kernel))
    | 9, _ => exact eq_eval (hs _ (by decide +kernel))
    | 10, _ => exact eq_eval (hs _ (by decide +kernel))
    | 11, _ => exact eq_eval (hs _ (by decide +kernel))
    | 12, _ => exact eq_eval (hs _ (by decide +kernel))
    | 13, _ => exact eq_eval (hs _ (by decide +kernel))
    | 14, _ => exact eq_eval (hs _ (by decide +kernel))
    | 15, _ => exact eq_eval (hs _ (by decide +kernel))
    | 16, _ => exact eq_eval (hs _ (by decide +kernel))
    | 17, _ => exact eq_eval (hs _ (by decide +kernel))
    | 18, _ => exact eq_eval (hs _ (by decide +kernel))
    | 19, _ => exact eq_eval (hs _ (by decide +kernel))
    | 20, _ => exact eq_eval (hs _ (by decide +kernel))
    | 21, _ => exact eq_eval (hs _ (by decide +kernel))
    | 22, _ => exact eq_eval (hs _ (by decide +kernel))
    | 23, _ => exact eq_eval (hs _ (by decide +kernel))
    | 24, _ => exact eq_eval (hs _ (by decide +kernel))
    | 25, _ => exact eq_eval (hs _ (by decide +kernel))
    | 26, _ => exact eq_eval (hs _ (by decide +kernel))
    | 27, _ => exact eq_eval (hs _ (by decide +kernel))
    | j + 28, hj => omega) hA
  exact ⟨t, va_Zref (hts _ (List.mem_append_right _ (List.mem_append_right _ (List.mem_append_right _ (List.mem_append_right _ (List.mem_append_left _ (List.mem_of_getElem? (l := tables_1_4) (i := 0) rfl))))))) (hts _ (List.mem_append_right _ (List.mem_append_left _ (List.mem_of_getElem? (l := tables_1_1) (i := 1) rfl)))) h1 hA, h2⟩
theorem startN {s : State} {args : Array Value} (hts : ∀ w ∈ lw_tbl, w.before args s = true) : zN s := ⟨va_Nw.of rfl (hts _ (List.mem_append_right _ (List.mem_append_right _ (List.mem_append_left _ (List.mem_of_getElem? (l := tables_1_2) (i := 117) rfl))))), va_Nw.of rfl (hts _ (List.mem_append_right _ (List.mem_append_right _ (List.mem_append_left _ (List.mem_of_getElem? (l := tables_1_2) (i := 132) rfl))))), va_Nw.of rfl (hts _ (List.mem_append_right _ (List.mem_append_left _ (List.mem_of_getElem? (l := tables_1_1) (i := 31) rfl)))), va_Nw.of rfl (hts _ (List.mem_append_right _ (List.mem_append_left _ (List.mem_of_getElem? (l := tables_1_1) (i := 76) rfl)))), va_Nw.of rfl (hts _ (List.mem_append_right _ (List.mem_append_right _ (List.mem_append_left _ (List.mem_of_getElem? (l := tables_1_2) (i := 58) rfl))))), va_Nw.of rfl (hts _ (List.mem_append_right _ (List.mem_append_left _ (List.mem_of_getElem? (l := tables_1_1) (i := 133) rfl)))), va_Nw.of rfl (hts _ (List.mem_append_right _ (List.mem_append_right _ (List.mem_append_right _ (List.mem_append_right _ (List.mem_append_left _ (List.mem_of_getElem? (l := tables_1_4) (i := 1) rfl))))))), va_Nw.of rfl (hts _ (List.mem_append_right _ (List.mem_append_left _ (List.mem_of_getElem? (l := tables_1_1) (i := 25) rfl)))), va_Nw.of rfl (hts _ (List.mem_append_right _ (List.mem_append_left _ (List.mem_of_getElem? (l := tables_1_1) (i := 125) rfl)))), va_Nw.of rfl (hts _ (List.mem_append_right _ (List.mem_append_left _ (List.mem_of_getElem? (l := tables_1_1) (i := 128) rfl)))), va_Nw.of rfl (hts _ (List.mem_append_right _ (List.mem_append_left _ (List.mem_of_getElem? (l := tables_1_1) (i := 148) rfl)))), va_Nw.of rfl (hts _ (List.mem_append_right _ (List.mem_append_left _ (List.mem_of_getElem? (l := tables_1_1) (i := 169) rfl)))), va_Nw.of rfl (hts _ (List.mem_append_right _ (List.mem_append_left _ (List.mem_of_getElem? (l := tables_1_1) (i := 194) rfl)))), va_Nw.of rfl (hts _ (List.mem_append_right _ (List.mem_append_right _ (List.mem_append_right _ (List.mem_append_left _ (List.mem_of_getElem? (l := tables_1_3) (i := 228) rfl)))))), va_Nw.of rfl (hts _ (List.mem_append_right _ (List.mem_append_right _ (List.mem_append_right _ (List.mem_append_left _ (List.mem_of_getElem? (l := tables_1_3) (i := 24) rfl)))))), va_Nw.of rfl (hts _ (List.mem_append_right _ (List.mem_append_right _ (List.mem_append_right _ (List.mem_append_left _ (List.mem_of_getElem? (l := tables_1_3) (i := 239) rfl))))))⟩
theorem startY {s : State} {args : Array Value} (hts : ∀ w ∈ lw_tbl, w.before args s = true) : yC s := ⟨startN hts, va_AO.of (hts (.arrayOver (.object "OldBronze$Sheet")) (List.mem_append_right _ (List.mem_append_left _ (List.mem_of_getElem? (l := tables_1_1) (i := 192) rfl))))⟩
theorem k_perm {p : Program} {l : Launch} {e : Env} {R : Room} {s : State} {m : MethodId} {args : Array Value} {below : List Frame} {meth : Method} {c : Code} {Q : State → Prop} {D : va_G} {cl : List vw_C} {A : Nat → Prop} {nL kc ks pc : Nat} {lv : List (Nat × Value)} {st : List Value} {ws ws' : va_W} (is : List Nat) (hn : va_nd is = true) (h1 : is.filterMap (fun i => ws[i]?) = ws') (h2 : is.map (fun i => ws[i]?) = ws'.map some) (k : gK p l e R s m args below meth c Q D cl A nL kc ks pc lv st ws') : gK p l e R s m args below meth c Q D cl A nL kc ks pc lv st ws :=
  fun H locs ls hP hD hS hl => k H locs ls (hP.sub is h1) (hD.sub is hn h2) hS hl
