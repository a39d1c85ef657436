section
-- THE ABSTRACT MACHINE, ground: numbers as Int, memory as place × index → Int
abbrev gSt : Type := Nat → Int → Int
def iv (x : Int) : Value := .int (Int32.ofInt x)
def jv (x : Int) : Value := .long (Int64.ofInt x)
def wr (M : gSt) (o : Nat) (i x : Int) : gSt := fun o' i' => if o' = o ∧ i' = i then x else M o' i'
/-- an int's own value -/
def wrap (x : Int) : Int := (x + 2147483648) % 4294967296 - 2147483648
def wrapL (x : Int) : Int := (x + 9223372036854775808) % 18446744073709551616 - 9223372036854775808
theorem wrap_in {x : Int} (h1 : -2147483648 ≤ x) (h2 : x < 2147483648) : wrap x = x := by unfold wrap; omega
theorem wrapL_in {x : Int} (h1 : -9223372036854775808 ≤ x) (h2 : x < 9223372036854775808) : wrapL x = x := by unfold wrapL; omega
theorem wrap_rng (x : Int) : -2147483648 ≤ wrap x ∧ wrap x < 2147483648 := by unfold wrap; omega
theorem ofInt_toInt (x : Int) : (Int32.ofInt x).toInt = wrap x := by
  rw [Int32.toInt_ofInt]
  unfold wrap
  rw [Int.bmod_def]
  simp only [Int32.size]
  split <;> omega
theorem ofInt_toIntL (x : Int) : (Int64.ofInt x).toInt = wrapL x := by
  rw [Int64.toInt_ofInt]
  unfold wrapL
  rw [Int.bmod_def]
  simp only [Int64.size]
  split <;> omega
theorem ofInt_wrap (x : Int) : Int32.ofInt (wrap x) = Int32.ofInt x := by
  rw [← ofInt_toInt, Int32.ofInt_toInt]
theorem iv_wrap (x : Int) : iv (wrap x) = iv x := by unfold iv; rw [ofInt_wrap]
theorem ofInt_eq_iff (x y : Int) : Int32.ofInt x = Int32.ofInt y ↔ wrap x = wrap y := by
  rw [← Int32.toInt_inj, ofInt_toInt, ofInt_toInt]
theorem ofInt_lt_iff (x y : Int) : Int32.ofInt x < Int32.ofInt y ↔ wrap x < wrap y := by
  rw [Int32.lt_iff_toInt_lt, ofInt_toInt, ofInt_toInt]
theorem ofInt_le_iff (x y : Int) : Int32.ofInt x ≤ Int32.ofInt y ↔ wrap x ≤ wrap y := by
  rw [Int32.le_iff_toInt_le, ofInt_toInt, ofInt_toInt]
theorem ofInt_div (x y : Int) : Int32.ofInt x / Int32.ofInt y = Int32.ofInt ((wrap x).tdiv (wrap y)) := by
  rw [← Int32.toInt_inj, Int32.toInt_div, ofInt_toInt, ofInt_toInt, ofInt_toInt]
  unfold wrap
  rw [Int.bmod_def]
  split <;> omega
theorem ofInt_clamp {i : Int} (h0 : 0 ≤ i) (h1 : i < 2147483648) : (Int32.ofInt i).toNatClampNeg = i.toNat := by
  show (Int32.ofInt i).toInt.toNat = i.toNat
  rw [ofInt_toInt, wrap_in (by omega) h1]
theorem ofInt_in {i : Int} {n : Nat} (h0 : 0 ≤ i) (h1 : i < n) (hn : n < 2147483648) : vp_in (Int32.ofInt i) n := by
  rintro (h | h)
  · rw [Int32.lt_iff_toInt_lt, ofInt_toInt, wrap_in (by omega) (by omega)] at h
    simp at h
    omega
  · rw [ofInt_clamp h0 (by omega)] at h
    omega
end
section
-- the world of places: what each place is, and what it holds by the memory M
abbrev gLC : Type := Nat ⊕ ((Nat × List (Option Nat)) ⊕ List Nat)
def mkf (ad : Nat → Nat) (M : gSt) (o : Nat) : Nat → List (Option Nat) → List Value
  | _, [] => []
  | j, none :: fl => iv (M o j) :: mkf ad M o (j + 1) fl
  | j, some d :: fl => .ref (ad d) :: mkf ad M o (j + 1) fl
def mkc (ad : Nat → Nat) (cI cS : ClassId) (M : gSt) (o : Nat) (y : gLC) : va_E :=
  match y with
  | .inl n => .inl (cI, n, .inl (fun i => Int32.ofInt (M o (i : Int))))
  | .inr (.inl (ci, fl)) => .inr (ci, mkf ad M o 0 fl)
  | .inr (.inr ps) => .inl (cS, ps.length, .inr (.inr (.inr (.inr (fun i => (ps[i]?).map ad)))))
def wld (ad : Nat → Nat) (cI cS : ClassId) (lay : Nat → gLC) (N : Nat) (M : gSt) : va_W := (List.range N).map (fun o => (ad o, mkc ad cI cS M o (lay o)))
theorem wld_get {ad : Nat → Nat} {cI cS : ClassId} {lay : Nat → gLC} {N : Nat} (M : gSt) {o : Nat} (h : o < N) : (wld ad cI cS lay N M)[o]? = some (ad o, mkc ad cI cS M o (lay o)) := by
  simp [wld, h]
theorem wld_len {ad : Nat → Nat} {cI cS : ClassId} {lay : Nat → gLC} {N : Nat} (M : gSt) : (wld ad cI cS lay N M).length = N := by simp [wld]
theorem mkf_other {ad : Nat → Nat} {M : gSt} {o o' : Nat} {i x : Int} (h : o' ≠ o) : ∀ (fl : List (Option Nat)) (j : Nat), mkf ad (wr M o i x) o' j fl = mkf ad M o' j fl
  | [], _ => rfl
  | none :: fl, j => by
    simp only [mkf]
    rw [mkf_other h fl (j + 1)]
    simp [wr, h]
  | some d :: fl, j => by
    simp only [mkf]
    rw [mkf_other h fl (j + 1)]
theorem mkc_other {ad : Nat → Nat} {cI cS : ClassId} {M : gSt} {o o' : Nat} {i x : Int} (h : o' ≠ o) (y : gLC) : mkc ad cI cS (wr M o i x) o' y = mkc ad cI cS M o' y := by
  rcases y with n | ⟨ci, fl⟩ | ps
  · simp [mkc, wr, h]
  · simp only [mkc]
    rw [mkf_other h]
  · rfl
theorem wld_set {ad : Nat → Nat} {cI cS : ClassId} {lay : Nat → gLC} {N : Nat} {M : gSt} {o : Nat} {i x : Int} {e : va_E} (h : mkc ad cI cS (wr M o i x) o (lay o) = e) : (wld ad cI cS lay N M).set o (ad o, e) = wld ad cI cS lay N (wr M o i x) := by
  apply List.ext_getElem?
  intro k
  rw [List.getElem?_set]
  by_cases hk : o = k
  · subst hk
    by_cases hN : o < N
    · simp [wld, hN, h]
    · simp [wld, hN]
  · rw [if_neg hk]
    by_cases hN : k < N
    · rw [wld_get M hN, wld_get _ hN, mkc_other (fun e => hk e.symm)]
    · simp [wld, hN]
theorem wld_ad {ad : Nat → Nat} {cI cS : ClassId} {lay : Nat → gLC} {N : Nat} {M : gSt} {k : Nat} {q : Nat × va_E} (h : (wld ad cI cS lay N M)[k]? = some q) : k < N ∧ q.1 = ad k := by
  have hk : k < N := by
    have := (List.getElem?_eq_some_iff.mp h).1
    rwa [wld_len] at this
  rw [wld_get M hk] at h
  cases h
  exact ⟨hk, rfl⟩
theorem wld_D {ad : Nat → Nat} {cI cS : ClassId} {lay : Nat → gLC} {N : Nat} {M M' : gSt} {A : Nat → Prop} (h : va_D A (wld ad cI cS lay N M)) : va_D A (wld ad cI cS lay N M') := by
  refine ⟨fun i j p q hi hj hpq => ?_, fun k q hk => ?_⟩
  · obtain ⟨h1, e1⟩ := wld_ad hi
    obtain ⟨h2, e2⟩ := wld_ad hj
    exact h.1 i j _ _ (wld_get M h1) (wld_get M h2) (by rw [← e1, ← e2]; exact hpq)
  · obtain ⟨h1, e1⟩ := wld_ad hk
    rw [e1]
    exact h.2 k _ (wld_get M h1)
theorem wld_A {ad : Nat → Nat} {cI cS : ClassId} {lay : Nat → gLC} {N : Nat} {M M' : gSt} {sz q : Nat} (h : va_A (wld ad cI cS lay N M) sz q) : va_A (wld ad cI cS lay N M') sz q := by
  rcases h with ⟨k, e, h⟩ | h
  · obtain ⟨h1, e1⟩ := wld_ad h
    have e1 : q = ad k := e1
    subst e1
    exact va_A.in (wld_get M' h1)
  · exact Or.inr h
/-- facts of the start that a method may ask for (statics, links of nest mates): they last, and frames do not touch them -/
def gZm (Z : (Nat → Prop) → State → Prop) : Prop := (∀ (A A' : Nat → Prop) (s U : State) (locs : List Loc), Z A s → va_S A s.heap U.heap locs → s.WarmedH U.vm → (∀ q, A' q → A q) → Z A' U) ∧ ∀ (A : Nat → Prop) (U : State) (g : JFrame) (mk : MethodId) (a : Array Value), Z A U → Z A (U.calling g mk a)
/-- what stays through a method's walk: machine, code, class, words, the tables' knowledge, the addresses apart -/
def gC (p : Program) (R : Room) (s : State) (m : MethodId) (args : Array Value) (c : Code) (D : va_G) (cl : List vw_C) (tys : List (ClassId × FieldType)) (A : Nat → Prop) (wl : gSt → va_W) (nL : Nat) (cc : ByteArray) (own : String) (Ts : List Cond) (Z : (Nat → Prop) → State → Prop) : Prop :=
  p.tables.exec = Jvm.exec ∧ c.code = cc ∧ c.maxLocals = nL ∧ s.vm.findClass own = some m.cls ∧ (∀ w ∈ Ts, w.before args s = true) ∧ va_K D cl tys s ∧ (∀ M, va_D A (wl M)) ∧ (∀ q : Nat, s.heap.size ≤ q → A q) ∧ Z A s ∧ gZm Z
/-- the walk at a place of the code: from every heap that holds the memory M -/
def gG (p : Program) (l : Launch) (e : Env) (R : Room) (s : State) (m : MethodId) (args : Array Value) (below : List Frame) (meth : Method) (c : Code) (Q : State → Prop) (D : va_G) (cl : List vw_C) (A : Nat → Prop) (wl : gSt → va_W) (nL : Nat) (pc : Nat) (lv : List (Nat × Value)) (st : List Value) (M : gSt) : Prop :=
  ∀ (H : Heap) (locs : List Loc) (ls : Array Slot), va_P D cl (wl M) H → va_S A s.heap H locs → lv_has ls nL lv → W p l e R s m args below meth c H locs 0 0 Q (F0 m pc ls st)
theorem lookup_mem {i : Nat} {v : Value} : ∀ {lv : List (Nat × Value)}, List.lookup i lv = some v → (i, v) ∈ lv
  | [], h => by cases h
  | (a1, a2) :: t, h => by
    simp only [List.lookup] at h
    split at h
    · rename_i he
      have e1 : i = a1 := eq_of_beq he
      have e2 : a2 = v := Option.some.inj h
      rw [e1, e2]
      exact List.mem_cons_self
    · exact List.mem_cons_of_mem _ (lookup_mem h)
section GM
variable {p : Program} {l : Launch} {e : Env} {R : Room} {s : State} {m : MethodId} {args : Array Value} {below : List Frame} {meth : Method} {c : Code} {Q : State → Prop}
variable {D : va_G} {cl : List vw_C} {tys : List (ClassId × FieldType)} {A : Nat → Prop} {wl : gSt → va_W} {nL : Nat} {cc : ByteArray} {own : String} {Ts : List Cond} {Z : (Nat → Prop) → State → Prop}
variable {pc : Nat} {lv lv' : List (Nat × Value)} {st : List Value} {M : gSt}
theorem g_locals (h : lv'.map (fun q => List.lookup q.1 lv) = lv'.map (fun q => some q.2)) (k : gG p l e R s m args below meth c Q D cl A wl nL pc lv' st M) : gG p l e R s m args below meth c Q D cl A wl nL pc lv st M := by
  intro H locs ls hP hS hl
  refine k H locs ls hP hS ⟨hl.1, hl.2.1, fun q hq => ?_⟩
  have h1 : List.lookup q.1 lv = some q.2 := by
    obtain ⟨i, hi⟩ := List.getElem?_of_mem hq
    have h2 := congrArg (fun x => x[i]?) h
    simp only [List.getElem?_map, hi] at h2
    exact Option.some.inj h2
  exact hl.2.2 q (lookup_mem h1)
theorem g_at {ls : Array Slot} {i : Nat} {v : Value} (hl : lv_has ls nL lv) (h : List.lookup i lv = some v) : ls[i]? = some (.val v) := by
  exact hl.2.2 (i, v) (lookup_mem h)
theorem g_name {x : Int} (k : ∀ y : Int, y = x → gG p l e R s m args below meth c Q D cl A wl nL pc lv (iv y :: st) M) : gG p l e R s m args below meth c Q D cl A wl nL pc lv (iv x :: st) M := k x rfl
theorem g_nameL {x : Int} (k : ∀ y : Int, y = x → gG p l e R s m args below meth c Q D cl A wl nL pc lv (jv y :: st) M) : gG p l e R s m args below meth c Q D cl A wl nL pc lv (jv x :: st) M := k x rfl
theorem g_top {x y : Int} (h : x = y) (k : gG p l e R s m args below meth c Q D cl A wl nL pc lv (iv y :: st) M) : gG p l e R s m args below meth c Q D cl A wl nL pc lv (iv x :: st) M := h ▸ k
theorem g_topL {x y : Int} (h : x = y) (k : gG p l e R s m args below meth c Q D cl A wl nL pc lv (jv y :: st) M) : gG p l e R s m args below meth c Q D cl A wl nL pc lv (jv x :: st) M := h ▸ k
theorem g_mem {M' : gSt} (h : M = M') (k : gG p l e R s m args below meth c Q D cl A wl nL pc lv st M') : gG p l e R s m args below meth c Q D cl A wl nL pc lv st M := h ▸ k
theorem g_nop (C : gC p R s m args c D cl tys A wl nL cc own Ts Z) : True := trivial
-- loads
theorem g_iload_n (C : gC p R s m args c D cl tys A wl nL cc own Ts Z) {k : Fin 4} {x : Int} (hd : decode cc pc = .ok (.iload_n k, 1)) (h : List.lookup (k : Nat) lv = some (iv x)) (kk : gG p l e R s m args below meth c Q D cl A wl nL (pc + 1) lv (iv x :: st) M) : gG p l e R s m args below meth c Q D cl A wl nL pc lv st M :=
  fun H locs ls hP hS hl => lv_iload_n C.1 C.2.1 hd rfl (g_at hl h) (kk H locs ls hP hS hl)
theorem g_iload (C : gC p R s m args c D cl tys A wl nL cc own Ts Z) {i : Nat} {x : Int} (hd : decode cc pc = .ok (.iload i, 2)) (h : List.lookup i lv = some (iv x)) (kk : gG p l e R s m args below meth c Q D cl A wl nL (pc + 2) lv (iv x :: st) M) : gG p l e R s m args below meth c Q D cl A wl nL pc lv st M :=
  fun H locs ls hP hS hl => lv_iload C.1 C.2.1 hd (g_at hl h) (kk H locs ls hP hS hl)
theorem g_lload_n (C : gC p R s m args c D cl tys A wl nL cc own Ts Z) {k : Fin 4} {x : Int} (hd : decode cc pc = .ok (.lload_n k, 1)) (h : List.lookup (k : Nat) lv = some (jv x)) (kk : gG p l e R s m args below meth c Q D cl A wl nL (pc + 1) lv (jv x :: st) M) : gG p l e R s m args below meth c Q D cl A wl nL pc lv st M :=
  fun H locs ls hP hS hl => lv_lload_n C.1 C.2.1 hd rfl (g_at hl h) (kk H locs ls hP hS hl)
theorem g_lload (C : gC p R s m args c D cl tys A wl nL cc own Ts Z) {i : Nat} {x : Int} (hd : decode cc pc = .ok (.lload i, 2)) (h : List.lookup i lv = some (jv x)) (kk : gG p l e R s m args below meth c Q D cl A wl nL (pc + 2) lv (jv x :: st) M) : gG p l e R s m args below meth c Q D cl A wl nL pc lv st M :=
  fun H locs ls hP hS hl => lv_lload C.1 C.2.1 hd (g_at hl h) (kk H locs ls hP hS hl)
theorem g_aload_n (C : gC p R s m args c D cl tys A wl nL cc own Ts Z) {k : Fin 4} {x : Nat} (hd : decode cc pc = .ok (.aload_n k, 1)) (h : List.lookup (k : Nat) lv = some (.ref x)) (kk : gG p l e R s m args below meth c Q D cl A wl nL (pc + 1) lv (.ref x :: st) M) : gG p l e R s m args below meth c Q D cl A wl nL pc lv st M :=
  fun H locs ls hP hS hl => lv_aload_n C.1 C.2.1 hd rfl (g_at hl h) (kk H locs ls hP hS hl)
theorem g_aload (C : gC p R s m args c D cl tys A wl nL cc own Ts Z) {i : Nat} {x : Nat} (hd : decode cc pc = .ok (.aload i, 2)) (h : List.lookup i lv = some (.ref x)) (kk : gG p l e R s m args below meth c Q D cl A wl nL (pc + 2) lv (.ref x :: st) M) : gG p l e R s m args below meth c Q D cl A wl nL pc lv st M :=
  fun H locs ls hP hS hl => lv_aload C.1 C.2.1 hd (g_at hl h) (kk H locs ls hP hS hl)
-- stores
def lvs (i : Nat) (v : Value) (lv : List (Nat × Value)) : List (Nat × Value) := (i, v) :: lv.filter (fun q => !(q.1 == i) && !(q.1 + 1 == i && q.2.category == 2))
def lvs2 (i : Nat) (v : Value) (lv : List (Nat × Value)) : List (Nat × Value) := (i, v) :: lv.filter (fun q => !(q.1 == i) && (!(q.1 == i + 1) && !(q.1 + 1 == i && q.2.category == 2)))
theorem g_istore_n (C : gC p R s m args c D cl tys A wl nL cc own Ts Z) {k : Fin 4} {x : Int} (hd : decode cc pc = .ok (.istore_n k, 1)) (hn : (k : Nat) < nL) (hl' : lvs k (iv x) lv = lv') (kk : gG p l e R s m args below meth c Q D cl A wl nL (pc + 1) lv' st M) : gG p l e R s m args below meth c Q D cl A wl nL pc lv (iv x :: st) M :=
  fun H locs ls hP hS hl => lv_istore_n C.1 C.2.1 hd rfl hl hn hl' (fun ls' hl2 => kk H locs ls' hP hS hl2)
theorem g_istore (C : gC p R s m args c D cl tys A wl nL cc own Ts Z) {i : Nat} {x : Int} (hd : decode cc pc = .ok (.istore i, 2)) (hn : i < nL) (hl' : lvs i (iv x) lv = lv') (kk : gG p l e R s m args below meth c Q D cl A wl nL (pc + 2) lv' st M) : gG p l e R s m args below meth c Q D cl A wl nL pc lv (iv x :: st) M :=
  fun H locs ls hP hS hl => lv_istore C.1 C.2.1 hd hl hn hl' (fun ls' hl2 => kk H locs ls' hP hS hl2)
theorem g_lstore_n (C : gC p R s m args c D cl tys A wl nL cc own Ts Z) {k : Fin 4} {x : Int} (hd : decode cc pc = .ok (.lstore_n k, 1)) (hn : (k : Nat) + 1 < nL) (hl' : lvs2 k (jv x) lv = lv') (kk : gG p l e R s m args below meth c Q D cl A wl nL (pc + 1) lv' st M) : gG p l e R s m args below meth c Q D cl A wl nL pc lv (jv x :: st) M :=
  fun H locs ls hP hS hl => lv_lstore_n C.1 C.2.1 hd rfl hl hn hl' (fun ls' hl2 => kk H locs ls' hP hS hl2)
theorem g_lstore (C : gC p R s m args c D cl tys A wl nL cc own Ts Z) {i : Nat} {x : Int} (hd : decode cc pc = .ok (.lstore i, 2)) (hn : i + 1 < nL) (hl' : lvs2 i (jv x) lv = lv') (kk : gG p l e R s m args below meth c Q D cl A wl nL (pc + 2) lv' st M) : gG p l e R s m args below meth c Q D cl A wl nL pc lv (jv x :: st) M :=
  fun H locs ls hP hS hl => lv_lstore C.1 C.2.1 hd hl hn hl' (fun ls' hl2 => kk H locs ls' hP hS hl2)
theorem g_astore_n (C : gC p R s m args c D cl tys A wl nL cc own Ts Z) {k : Fin 4} {x : Nat} (hd : decode cc pc = .ok (.astore_n k, 1)) (hn : (k : Nat) < nL) (hl' : lvs k (.ref x) lv = lv') (kk : gG p l e R s m args below meth c Q D cl A wl nL (pc + 1) lv' st M) : gG p l e R s m args below meth c Q D cl A wl nL pc lv (.ref x :: st) M :=
  fun H locs ls hP hS hl => lv_astore_n C.1 C.2.1 hd rfl hl hn hl' (fun ls' hl2 => kk H locs ls' hP hS hl2)
theorem g_astore (C : gC p R s m args c D cl tys A wl nL cc own Ts Z) {i : Nat} {x : Nat} (hd : decode cc pc = .ok (.astore i, 2)) (hn : i < nL) (hl' : lvs i (.ref x) lv = lv') (kk : gG p l e R s m args below meth c Q D cl A wl nL (pc + 2) lv' st M) : gG p l e R s m args below meth c Q D cl A wl nL pc lv (.ref x :: st) M :=
  fun H locs ls hP hS hl => lv_astore C.1 C.2.1 hd hl hn hl' (fun ls' hl2 => kk H locs ls' hP hS hl2)
theorem g_iinc (C : gC p R s m args c D cl tys A wl nL cc own Ts Z) {i : Nat} {n x : Int} (hd : decode cc pc = .ok (.iinc i n, 3)) (h : List.lookup i lv = some (iv x)) (hn : i < nL) (hl' : lvs i (iv (x + n)) lv = lv') (kk : gG p l e R s m args below meth c Q D cl A wl nL (pc + 3) lv' st M) : gG p l e R s m args below meth c Q D cl A wl nL pc lv st M := by
  intro H locs ls hP hS hl
  have hl0 : lv_has ls nL [(i, iv x)] := ⟨hl.1, hl.2.1, fun q hq => by
    rw [List.mem_singleton] at hq
    subst hq
    exact g_at hl h⟩
  have h2 : (i, iv x) ∈ lv := lookup_mem h
  obtain ⟨k, hk⟩ := List.getElem?_of_mem h2
  exact lv_iinc (k := k) C.1 C.2.1 hd hl hk (v := Int32.ofInt (x + n)) (by rw [Int32.ofInt_add]) hn hl' (fun ls' hl2 => kk H locs ls' hP hS hl2)
-- constants
theorem g_iconst (C : gC p R s m args c D cl tys A wl nL cc own Ts Z) {n : Int} (hd : decode cc pc = .ok (.iconst n, 1)) (kk : gG p l e R s m args below meth c Q D cl A wl nL (pc + 1) lv (iv n :: st) M) : gG p l e R s m args below meth c Q D cl A wl nL pc lv st M :=
  fun H locs ls hP hS hl => lv_iconst C.1 C.2.1 hd rfl (kk H locs ls hP hS hl)
theorem g_bipush (C : gC p R s m args c D cl tys A wl nL cc own Ts Z) {n : Int} (hd : decode cc pc = .ok (.bipush n, 2)) (hv : (Int8.ofInt n).toInt32 = Int32.ofInt n) (kk : gG p l e R s m args below meth c Q D cl A wl nL (pc + 2) lv (iv n :: st) M) : gG p l e R s m args below meth c Q D cl A wl nL pc lv st M :=
  fun H locs ls hP hS hl => lv_bipush C.1 C.2.1 hd hv (kk H locs ls hP hS hl)
theorem g_sipush (C : gC p R s m args c D cl tys A wl nL cc own Ts Z) {n : Int} (hd : decode cc pc = .ok (.sipush n, 3)) (hv : (Int16.ofInt n).toInt32 = Int32.ofInt n) (kk : gG p l e R s m args below meth c Q D cl A wl nL (pc + 3) lv (iv n :: st) M) : gG p l e R s m args below meth c Q D cl A wl nL pc lv st M :=
  fun H locs ls hP hS hl => lv_sipush C.1 C.2.1 hd hv (kk H locs ls hP hS hl)
theorem g_ldc (C : gC p R s m args c D cl tys A wl nL cc own Ts Z) {i : Nat} (n : Int) {v : Int32} (hw : Cond.constant own i v ∈ Ts) (hv : Int32.ofInt n = v) (hd : decode cc pc = .ok (.ldc i, 2)) (kk : gG p l e R s m args below meth c Q D cl A wl nL (pc + 2) lv (iv n :: st) M) : gG p l e R s m args below meth c Q D cl A wl nL pc lv st M :=
  fun H locs ls hP hS hl => lv_ldc C.1 C.2.1 C.2.2.2.1 (C.2.2.2.2.1 _ hw) hd (by rw [← hv]; exact kk H locs ls hP hS hl)
theorem g_ldc2 (C : gC p R s m args c D cl tys A wl nL cc own Ts Z) {i : Nat} (n : Int) {v : Int64} (hw : Cond.constantLong own i v ∈ Ts) (hv : Int64.ofInt n = v) (hd : decode cc pc = .ok (.ldc2_w i, 3)) (kk : gG p l e R s m args below meth c Q D cl A wl nL (pc + 3) lv (jv n :: st) M) : gG p l e R s m args below meth c Q D cl A wl nL pc lv st M :=
  fun H locs ls hP hS hl => lv_ldc2 C.1 C.2.1 C.2.2.2.1 (C.2.2.2.2.1 _ hw) hd (by rw [← hv]; exact kk H locs ls hP hS hl)
theorem g_lconst (C : gC p R s m args c D cl tys A wl nL cc own Ts Z) {k : Fin 2} (n : Int) (hv : Int64.ofNat (k : Nat) = Int64.ofInt n) (hd : decode cc pc = .ok (.lconst k, 1)) (kk : gG p l e R s m args below meth c Q D cl A wl nL (pc + 1) lv (jv n :: st) M) : gG p l e R s m args below meth c Q D cl A wl nL pc lv st M :=
  fun H locs ls hP hS hl => lv_lconst C.1 C.2.1 hd hv (kk H locs ls hP hS hl)
-- the stack
theorem g_dup (C : gC p R s m args c D cl tys A wl nL cc own Ts Z) {v : Value} (hd : decode cc pc = .ok (.dup, 1)) (hc : v.category = 1) (kk : gG p l e R s m args below meth c Q D cl A wl nL (pc + 1) lv (v :: v :: st) M) : gG p l e R s m args below meth c Q D cl A wl nL pc lv (v :: st) M :=
  fun H locs ls hP hS hl => lv_dup C.1 C.2.1 hd hc (kk H locs ls hP hS hl)
theorem g_dup2 (C : gC p R s m args c D cl tys A wl nL cc own Ts Z) {v u : Value} (hd : decode cc pc = .ok (.dup2, 1)) (hc : v.category = 1) (hu : u.category = 1) (kk : gG p l e R s m args below meth c Q D cl A wl nL (pc + 1) lv (v :: u :: v :: u :: st) M) : gG p l e R s m args below meth c Q D cl A wl nL pc lv (v :: u :: st) M :=
  fun H locs ls hP hS hl => lv_dup2_11 C.1 C.2.1 hd hc hu (kk H locs ls hP hS hl)
theorem g_pop (C : gC p R s m args c D cl tys A wl nL cc own Ts Z) {v : Value} (hd : decode cc pc = .ok (.pop, 1)) (hc : v.category = 1) (kk : gG p l e R s m args below meth c Q D cl A wl nL (pc + 1) lv st M) : gG p l e R s m args below meth c Q D cl A wl nL pc lv (v :: st) M :=
  fun H locs ls hP hS hl => lv_pop C.1 C.2.1 hd hc (kk H locs ls hP hS hl)
-- arithmetic
theorem g_iadd (C : gC p R s m args c D cl tys A wl nL cc own Ts Z) {x y : Int} (hd : decode cc pc = .ok (.iadd, 1)) (kk : gG p l e R s m args below meth c Q D cl A wl nL (pc + 1) lv (iv (x + y) :: st) M) : gG p l e R s m args below meth c Q D cl A wl nL pc lv (iv y :: iv x :: st) M :=
  fun H locs ls hP hS hl => lv_iadd C.1 C.2.1 hd (by have h := kk H locs ls hP hS hl; unfold iv at h; rwa [Int32.ofInt_add] at h)
theorem g_isub (C : gC p R s m args c D cl tys A wl nL cc own Ts Z) {x y : Int} (hd : decode cc pc = .ok (.isub, 1)) (kk : gG p l e R s m args below meth c Q D cl A wl nL (pc + 1) lv (iv (x - y) :: st) M) : gG p l e R s m args below meth c Q D cl A wl nL pc lv (iv y :: iv x :: st) M :=
  fun H locs ls hP hS hl => lv_isub C.1 C.2.1 hd (by have h := kk H locs ls hP hS hl; unfold iv at h; rwa [Int32.ofInt_sub] at h)
theorem g_imul (C : gC p R s m args c D cl tys A wl nL cc own Ts Z) {x y : Int} (hd : decode cc pc = .ok (.imul, 1)) (kk : gG p l e R s m args below meth c Q D cl A wl nL (pc + 1) lv (iv (x * y) :: st) M) : gG p l e R s m args below meth c Q D cl A wl nL pc lv (iv y :: iv x :: st) M :=
  fun H locs ls hP hS hl => lv_imul C.1 C.2.1 hd (by have h := kk H locs ls hP hS hl; unfold iv at h; rwa [Int32.ofInt_mul] at h)
theorem g_ineg (C : gC p R s m args c D cl tys A wl nL cc own Ts Z) {x : Int} (hd : decode cc pc = .ok (.ineg, 1)) (kk : gG p l e R s m args below meth c Q D cl A wl nL (pc + 1) lv (iv (-x) :: st) M) : gG p l e R s m args below meth c Q D cl A wl nL pc lv (iv x :: st) M :=
  fun H locs ls hP hS hl => lv_ineg C.1 C.2.1 hd (by have h := kk H locs ls hP hS hl; unfold iv at h; rwa [Int32.ofInt_neg] at h)
theorem ofInt_ne0 {y : Int} (h : wrap y ≠ 0) : ¬ Int32.ofInt y = 0 := by
  intro q
  have : wrap y = wrap 0 := (ofInt_eq_iff y 0).mp q
  exact h this
theorem g_idiv (C : gC p R s m args c D cl tys A wl nL cc own Ts Z) {x y : Int} (hd : decode cc pc = .ok (.idiv, 1)) (hy : wrap y ≠ 0) (kk : gG p l e R s m args below meth c Q D cl A wl nL (pc + 1) lv (iv ((wrap x).tdiv (wrap y)) :: st) M) : gG p l e R s m args below meth c Q D cl A wl nL pc lv (iv y :: iv x :: st) M :=
  fun H locs ls hP hS hl => lv_idiv C.1 C.2.1 hd (ofInt_ne0 hy) (by have h := kk H locs ls hP hS hl; unfold iv at h; rwa [← ofInt_div] at h)
theorem ofInt_rem (x y : Int) : Int32.ofInt x - Int32.ofInt x / Int32.ofInt y * Int32.ofInt y = Int32.ofInt ((wrap x).tmod (wrap y)) := by
  rw [ofInt_div, ← ofInt_wrap x, ← ofInt_wrap y, ← Int32.ofInt_mul, ← Int32.ofInt_sub]
  congr 1
  rw [Int.tmod_def, Int.mul_comm]
theorem g_irem (C : gC p R s m args c D cl tys A wl nL cc own Ts Z) {x y : Int} (hd : decode cc pc = .ok (.irem, 1)) (hy : wrap y ≠ 0) (kk : gG p l e R s m args below meth c Q D cl A wl nL (pc + 1) lv (iv ((wrap x).tmod (wrap y)) :: st) M) : gG p l e R s m args below meth c Q D cl A wl nL pc lv (iv y :: iv x :: st) M :=
  fun H locs ls hP hS hl => lv_irem C.1 C.2.1 hd (ofInt_ne0 hy) (by have h := kk H locs ls hP hS hl; unfold iv at h; rwa [← ofInt_rem] at h)
def xand (x y : Int) : Int := (Int32.ofInt x &&& Int32.ofInt y).toInt
def xor2 (x y : Int) : Int := (Int32.ofInt x ||| Int32.ofInt y).toInt
def xxor (x y : Int) : Int := (Int32.ofInt x ^^^ Int32.ofInt y).toInt
def xshl (x y : Int) : Int := (Int32.ofInt x <<< (Int32.ofInt y &&& 31)).toInt
def xshr (x y : Int) : Int := (Int32.ofInt x >>> (Int32.ofInt y &&& 31)).toInt
def xushr (x y : Int) : Int := (((Int32.ofInt x).toUInt32 >>> ((Int32.ofInt y).toUInt32 &&& Int32.toUInt32 31)).toInt32).toInt
theorem ofInt_back (v : Int32) : Int32.ofInt v.toInt = v := Int32.ofInt_toInt v
theorem ofInt_backL (v : Int64) : Int64.ofInt v.toInt = v := Int64.ofInt_toInt v
theorem g_iand (C : gC p R s m args c D cl tys A wl nL cc own Ts Z) {x y : Int} (hd : decode cc pc = .ok (.iand, 1)) (kk : gG p l e R s m args below meth c Q D cl A wl nL (pc + 1) lv (iv (xand x y) :: st) M) : gG p l e R s m args below meth c Q D cl A wl nL pc lv (iv y :: iv x :: st) M :=
  fun H locs ls hP hS hl => lv_iand C.1 C.2.1 hd (by have h := kk H locs ls hP hS hl; unfold iv xand at h; rwa [ofInt_back] at h)
theorem g_ior (C : gC p R s m args c D cl tys A wl nL cc own Ts Z) {x y : Int} (hd : decode cc pc = .ok (.ior, 1)) (kk : gG p l e R s m args below meth c Q D cl A wl nL (pc + 1) lv (iv (xor2 x y) :: st) M) : gG p l e R s m args below meth c Q D cl A wl nL pc lv (iv y :: iv x :: st) M :=
  fun H locs ls hP hS hl => lv_ior C.1 C.2.1 hd (by have h := kk H locs ls hP hS hl; unfold iv xor2 at h; rwa [ofInt_back] at h)
theorem g_ixor (C : gC p R s m args c D cl tys A wl nL cc own Ts Z) {x y : Int} (hd : decode cc pc = .ok (.ixor, 1)) (kk : gG p l e R s m args below meth c Q D cl A wl nL (pc + 1) lv (iv (xxor x y) :: st) M) : gG p l e R s m args below meth c Q D cl A wl nL pc lv (iv y :: iv x :: st) M :=
  fun H locs ls hP hS hl => lv_ixor C.1 C.2.1 hd (by have h := kk H locs ls hP hS hl; unfold iv xxor at h; rwa [ofInt_back] at h)
theorem g_ishl (C : gC p R s m args c D cl tys A wl nL cc own Ts Z) {x y : Int} (hd : decode cc pc = .ok (.ishl, 1)) (kk : gG p l e R s m args below meth c Q D cl A wl nL (pc + 1) lv (iv (xshl x y) :: st) M) : gG p l e R s m args below meth c Q D cl A wl nL pc lv (iv y :: iv x :: st) M :=
  fun H locs ls hP hS hl => lv_ishl C.1 C.2.1 hd (by have h := kk H locs ls hP hS hl; unfold iv xshl at h; rwa [ofInt_back] at h)
theorem g_ishr (C : gC p R s m args c D cl tys A wl nL cc own Ts Z) {x y : Int} (hd : decode cc pc = .ok (.ishr, 1)) (kk : gG p l e R s m args below meth c Q D cl A wl nL (pc + 1) lv (iv (xshr x y) :: st) M) : gG p l e R s m args below meth c Q D cl A wl nL pc lv (iv y :: iv x :: st) M :=
  fun H locs ls hP hS hl => lv_ishr C.1 C.2.1 hd (by have h := kk H locs ls hP hS hl; unfold iv xshr at h; rwa [ofInt_back] at h)
theorem g_iushr (C : gC p R s m args c D cl tys A wl nL cc own Ts Z) {x y : Int} (hd : decode cc pc = .ok (.iushr, 1)) (kk : gG p l e R s m args below meth c Q D cl A wl nL (pc + 1) lv (iv (xushr x y) :: st) M) : gG p l e R s m args below meth c Q D cl A wl nL pc lv (iv y :: iv x :: st) M :=
  fun H locs ls hP hS hl => lv_iushr C.1 C.2.1 hd (v := Int32.ofInt (xushr x y)) (by unfold xushr; rw [ofInt_back]) (kk H locs ls hP hS hl)
theorem g_i2b (C : gC p R s m args c D cl tys A wl nL cc own Ts Z) {x : Int} (hd : decode cc pc = .ok (.i2b, 1)) (kk : gG p l e R s m args below meth c Q D cl A wl nL (pc + 1) lv (iv ((Int32.ofInt x).toInt8.toInt32.toInt) :: st) M) : gG p l e R s m args below meth c Q D cl A wl nL pc lv (iv x :: st) M :=
  fun H locs ls hP hS hl => lv_i2b C.1 C.2.1 hd rfl (by have h := kk H locs ls hP hS hl; unfold iv at h; rwa [ofInt_back] at h)
theorem g_i2s (C : gC p R s m args c D cl tys A wl nL cc own Ts Z) {x : Int} (hd : decode cc pc = .ok (.i2s, 1)) (kk : gG p l e R s m args below meth c Q D cl A wl nL (pc + 1) lv (iv ((Int32.ofInt x).toInt16.toInt32.toInt) :: st) M) : gG p l e R s m args below meth c Q D cl A wl nL pc lv (iv x :: st) M :=
  fun H locs ls hP hS hl => lv_i2s C.1 C.2.1 hd rfl (by have h := kk H locs ls hP hS hl; unfold iv at h; rwa [ofInt_back] at h)
-- longs
theorem g_ladd (C : gC p R s m args c D cl tys A wl nL cc own Ts Z) {x y : Int} (hd : decode cc pc = .ok (.ladd, 1)) (kk : gG p l e R s m args below meth c Q D cl A wl nL (pc + 1) lv (jv (x + y) :: st) M) : gG p l e R s m args below meth c Q D cl A wl nL pc lv (jv y :: jv x :: st) M :=
  fun H locs ls hP hS hl => lv_ladd C.1 C.2.1 hd (by have h := kk H locs ls hP hS hl; unfold jv at h; rwa [Int64.ofInt_add] at h)
theorem g_lsub (C : gC p R s m args c D cl tys A wl nL cc own Ts Z) {x y : Int} (hd : decode cc pc = .ok (.lsub, 1)) (kk : gG p l e R s m args below meth c Q D cl A wl nL (pc + 1) lv (jv (x - y) :: st) M) : gG p l e R s m args below meth c Q D cl A wl nL pc lv (jv y :: jv x :: st) M :=
  fun H locs ls hP hS hl => lv_lsub C.1 C.2.1 hd (by have h := kk H locs ls hP hS hl; unfold jv at h; rwa [Int64.ofInt_sub] at h)
theorem g_lmul (C : gC p R s m args c D cl tys A wl nL cc own Ts Z) {x y : Int} (hd : decode cc pc = .ok (.lmul, 1)) (kk : gG p l e R s m args below meth c Q D cl A wl nL (pc + 1) lv (jv (x * y) :: st) M) : gG p l e R s m args below meth c Q D cl A wl nL pc lv (jv y :: jv x :: st) M :=
  fun H locs ls hP hS hl => lv_lmul C.1 C.2.1 hd (by have h := kk H locs ls hP hS hl; unfold jv at h; rwa [Int64.ofInt_mul] at h)
theorem ofInt_eq_iffL (x y : Int) : Int64.ofInt x = Int64.ofInt y ↔ wrapL x = wrapL y := by
  rw [← Int64.toInt_inj, ofInt_toIntL, ofInt_toIntL]
theorem ofInt_ne0L {y : Int} (h : wrapL y ≠ 0) : ¬ Int64.ofInt y = 0 := by
  intro q
  have : wrapL y = wrapL 0 := (ofInt_eq_iffL y 0).mp q
  exact h this
theorem ofInt_divL (x y : Int) : Int64.ofInt x / Int64.ofInt y = Int64.ofInt ((wrapL x).tdiv (wrapL y)) := by
  rw [← Int64.toInt_inj, Int64.toInt_div, ofInt_toIntL, ofInt_toIntL, ofInt_toIntL]
  unfold wrapL
  rw [Int.bmod_def]
  split <;> omega
theorem g_ldiv (C : gC p R s m args c D cl tys A wl nL cc own Ts Z) {x y : Int} (hd : decode cc pc = .ok (.ldiv, 1)) (hy : wrapL y ≠ 0) (kk : gG p l e R s m args below meth c Q D cl A wl nL (pc + 1) lv (jv ((wrapL x).tdiv (wrapL y)) :: st) M) : gG p l e R s m args below meth c Q D cl A wl nL pc lv (jv y :: jv x :: st) M :=
  fun H locs ls hP hS hl => lv_ldiv C.1 C.2.1 hd (ofInt_ne0L hy) (by have h := kk H locs ls hP hS hl; unfold jv at h; rwa [← ofInt_divL] at h)
def yand (x y : Int) : Int := (Int64.ofInt x &&& Int64.ofInt y).toInt
def yor (x y : Int) : Int := (Int64.ofInt x ||| Int64.ofInt y).toInt
def yshl (x y : Int) : Int := (Int64.ofInt x <<< ((Int32.ofInt y).toInt64 &&& 63)).toInt
def yshr (x y : Int) : Int := (Int64.ofInt x >>> ((Int32.ofInt y).toInt64 &&& 63)).toInt
theorem g_land (C : gC p R s m args c D cl tys A wl nL cc own Ts Z) {x y : Int} (hd : decode cc pc = .ok (.land, 1)) (kk : gG p l e R s m args below meth c Q D cl A wl nL (pc + 1) lv (jv (yand x y) :: st) M) : gG p l e R s m args below meth c Q D cl A wl nL pc lv (jv y :: jv x :: st) M :=
  fun H locs ls hP hS hl => lv_land C.1 C.2.1 hd (by have h := kk H locs ls hP hS hl; unfold jv yand at h; rwa [ofInt_backL] at h)
theorem g_lor (C : gC p R s m args c D cl tys A wl nL cc own Ts Z) {x y : Int} (hd : decode cc pc = .ok (.lor, 1)) (kk : gG p l e R s m args below meth c Q D cl A wl nL (pc + 1) lv (jv (yor x y) :: st) M) : gG p l e R s m args below meth c Q D cl A wl nL pc lv (jv y :: jv x :: st) M :=
  fun H locs ls hP hS hl => lv_lor C.1 C.2.1 hd (by have h := kk H locs ls hP hS hl; unfold jv yor at h; rwa [ofInt_backL] at h)
theorem g_lshl (C : gC p R s m args c D cl tys A wl nL cc own Ts Z) {x y : Int} (hd : decode cc pc = .ok (.lshl, 1)) (kk : gG p l e R s m args below meth c Q D cl A wl nL (pc + 1) lv (jv (yshl x y) :: st) M) : gG p l e R s m args below meth c Q D cl A wl nL pc lv (iv y :: jv x :: st) M :=
  fun H locs ls hP hS hl => lv_lshl C.1 C.2.1 hd rfl (by have h := kk H locs ls hP hS hl; unfold jv yshl at h; rwa [ofInt_backL] at h)
theorem g_lshr (C : gC p R s m args c D cl tys A wl nL cc own Ts Z) {x y : Int} (hd : decode cc pc = .ok (.lshr, 1)) (kk : gG p l e R s m args below meth c Q D cl A wl nL (pc + 1) lv (jv (yshr x y) :: st) M) : gG p l e R s m args below meth c Q D cl A wl nL pc lv (iv y :: jv x :: st) M :=
  fun H locs ls hP hS hl => lv_lshr C.1 C.2.1 hd rfl (by have h := kk H locs ls hP hS hl; unfold jv yshr at h; rwa [ofInt_backL] at h)
theorem ofInt_i2l (x : Int) : (Int32.ofInt x).toInt64 = Int64.ofInt (wrap x) := by
  rw [← Int64.toInt_inj, Int32.toInt_toInt64, ofInt_toInt, ofInt_toIntL, wrapL_in] <;> (have := wrap_rng x; omega)
theorem ofInt_l2i (x : Int) : (Int64.ofInt x).toInt32 = Int32.ofInt x := by
  rw [← Int32.toInt_inj, Int64.toInt_toInt32, ofInt_toIntL, ofInt_toInt]
  unfold wrap wrapL
  rw [Int.bmod_def]
  split <;> omega
theorem g_i2l (C : gC p R s m args c D cl tys A wl nL cc own Ts Z) {x : Int} (hd : decode cc pc = .ok (.i2l, 1)) (kk : gG p l e R s m args below meth c Q D cl A wl nL (pc + 1) lv (jv (wrap x) :: st) M) : gG p l e R s m args below meth c Q D cl A wl nL pc lv (iv x :: st) M :=
  fun H locs ls hP hS hl => lv_i2l C.1 C.2.1 hd (ofInt_i2l x) (kk H locs ls hP hS hl)
theorem g_l2i (C : gC p R s m args c D cl tys A wl nL cc own Ts Z) {x : Int} (hd : decode cc pc = .ok (.l2i, 1)) (kk : gG p l e R s m args below meth c Q D cl A wl nL (pc + 1) lv (iv x :: st) M) : gG p l e R s m args below meth c Q D cl A wl nL pc lv (jv x :: st) M :=
  fun H locs ls hP hS hl => lv_l2i C.1 C.2.1 hd (ofInt_l2i x) (kk H locs ls hP hS hl)
-- branches
theorem g_goto (C : gC p R s m args c D cl tys A wl nL cc own Ts Z) {off : Int} (tgt : Nat) (hd : decode cc pc = .ok (.goto off, 3)) (ht : (pc : Int) + off = (tgt : Int)) (kk : gG p l e R s m args below meth c Q D cl A wl nL tgt lv st M) : gG p l e R s m args below meth c Q D cl A wl nL pc lv st M :=
  fun H locs ls hP hS hl => lv_goto C.1 C.2.1 hd ht (kk H locs ls hP hS hl)
theorem g_icmp_eq (C : gC p R s m args c D cl tys A wl nL cc own Ts Z) {x y off : Int} (tgt : Nat) (hd : decode cc pc = .ok (.if_icmp .eq off, 3)) (ht : (pc : Int) + off = (tgt : Int)) (kt : wrap x = wrap y → gG p l e R s m args below meth c Q D cl A wl nL tgt lv st M) (kf : ¬ wrap x = wrap y → gG p l e R s m args below meth c Q D cl A wl nL (pc + 3) lv st M) : gG p l e R s m args below meth c Q D cl A wl nL pc lv (iv y :: iv x :: st) M :=
  fun H locs ls hP hS hl => lv_icmp_eq C.1 C.2.1 hd ht (fun h => kt ((ofInt_eq_iff x y).mp h) H locs ls hP hS hl) (fun h => kf (fun q => h ((ofInt_eq_iff x y).mpr q)) H locs ls hP hS hl)
theorem g_icmp_ne (C : gC p R s m args c D cl tys A wl nL cc own Ts Z) {x y off : Int} (tgt : Nat) (hd : decode cc pc = .ok (.if_icmp .ne off, 3)) (ht : (pc : Int) + off = (tgt : Int)) (kt : ¬ wrap x = wrap y → gG p l e R s m args below meth c Q D cl A wl nL tgt lv st M) (kf : wrap x = wrap y → gG p l e R s m args below meth c Q D cl A wl nL (pc + 3) lv st M) : gG p l e R s m args below meth c Q D cl A wl nL pc lv (iv y :: iv x :: st) M :=
  fun H locs ls hP hS hl => lv_icmp_ne C.1 C.2.1 hd ht (fun h => kt (fun q => h ((ofInt_eq_iff x y).mpr q)) H locs ls hP hS hl) (fun h => kf ((ofInt_eq_iff x y).mp (h)) H locs ls hP hS hl)
theorem g_icmp_lt (C : gC p R s m args c D cl tys A wl nL cc own Ts Z) {x y off : Int} (tgt : Nat) (hd : decode cc pc = .ok (.if_icmp .lt off, 3)) (ht : (pc : Int) + off = (tgt : Int)) (kt : wrap x < wrap y → gG p l e R s m args below meth c Q D cl A wl nL tgt lv st M) (kf : wrap y ≤ wrap x → gG p l e R s m args below meth c Q D cl A wl nL (pc + 3) lv st M) : gG p l e R s m args below meth c Q D cl A wl nL pc lv (iv y :: iv x :: st) M :=
  fun H locs ls hP hS hl => lv_icmp_lt C.1 C.2.1 hd ht (fun h => kt ((ofInt_lt_iff x y).mp h) H locs ls hP hS hl) (fun h => kf (Int.not_lt.mp (fun q => h ((ofInt_lt_iff x y).mpr q))) H locs ls hP hS hl)
theorem g_icmp_ge (C : gC p R s m args c D cl tys A wl nL cc own Ts Z) {x y off : Int} (tgt : Nat) (hd : decode cc pc = .ok (.if_icmp .ge off, 3)) (ht : (pc : Int) + off = (tgt : Int)) (kt : wrap y ≤ wrap x → gG p l e R s m args below meth c Q D cl A wl nL tgt lv st M) (kf : wrap x < wrap y → gG p l e R s m args below meth c Q D cl A wl nL (pc + 3) lv st M) : gG p l e R s m args below meth c Q D cl A wl nL pc lv (iv y :: iv x :: st) M :=
  fun H locs ls hP hS hl => lv_icmp_ge C.1 C.2.1 hd ht (fun h => kt ((ofInt_le_iff y x).mp h) H locs ls hP hS hl) (fun h => kf (Int.not_le.mp (fun q => h ((ofInt_le_iff y x).mpr q))) H locs ls hP hS hl)
theorem g_icmp_gt (C : gC p R s m args c D cl tys A wl nL cc own Ts Z) {x y off : Int} (tgt : Nat) (hd : decode cc pc = .ok (.if_icmp .gt off, 3)) (ht : (pc : Int) + off = (tgt : Int)) (kt : wrap y < wrap x → gG p l e R s m args below meth c Q D cl A wl nL tgt lv st M) (kf : wrap x ≤ wrap y → gG p l e R s m args below meth c Q D cl A wl nL (pc + 3) lv st M) : gG p l e R s m args below meth c Q D cl A wl nL pc lv (iv y :: iv x :: st) M :=
  fun H locs ls hP hS hl => lv_icmp_gt C.1 C.2.1 hd ht (fun h => kt ((ofInt_lt_iff y x).mp h) H locs ls hP hS hl) (fun h => kf (Int.not_lt.mp (fun q => h ((ofInt_lt_iff y x).mpr q))) H locs ls hP hS hl)
theorem g_icmp_le (C : gC p R s m args c D cl tys A wl nL cc own Ts Z) {x y off : Int} (tgt : Nat) (hd : decode cc pc = .ok (.if_icmp .le off, 3)) (ht : (pc : Int) + off = (tgt : Int)) (kt : wrap x ≤ wrap y → gG p l e R s m args below meth c Q D cl A wl nL tgt lv st M) (kf : wrap y < wrap x → gG p l e R s m args below meth c Q D cl A wl nL (pc + 3) lv st M) : gG p l e R s m args below meth c Q D cl A wl nL pc lv (iv y :: iv x :: st) M :=
  fun H locs ls hP hS hl => lv_icmp_le C.1 C.2.1 hd ht (fun h => kt ((ofInt_le_iff x y).mp h) H locs ls hP hS hl) (fun h => kf (Int.not_le.mp (fun q => h ((ofInt_le_iff x y).mpr q))) H locs ls hP hS hl)
theorem wrap_0 : wrap 0 = 0 := by decide
theorem ofInt_0 : (0 : Int32) = Int32.ofInt 0 := rfl
theorem g_if_eq (C : gC p R s m args c D cl tys A wl nL cc own Ts Z) {x off : Int} (tgt : Nat) (hd : decode cc pc = .ok (.ifCond .eq off, 3)) (ht : (pc : Int) + off = (tgt : Int)) (kt : wrap x = 0 → gG p l e R s m args below meth c Q D cl A wl nL tgt lv st M) (kf : ¬ wrap x = 0 → gG p l e R s m args below meth c Q D cl A wl nL (pc + 3) lv st M) : gG p l e R s m args below meth c Q D cl A wl nL pc lv (iv x :: st) M :=
  fun H locs ls hP hS hl => lv_if_eq C.1 C.2.1 hd ht (fun h => kt (((ofInt_eq_iff x 0).mp h).trans wrap_0) H locs ls hP hS hl) (fun h => kf (fun q => h ((ofInt_eq_iff x 0).mpr (q.trans wrap_0.symm))) H locs ls hP hS hl)
theorem g_if_ne (C : gC p R s m args c D cl tys A wl nL cc own Ts Z) {x off : Int} (tgt : Nat) (hd : decode cc pc = .ok (.ifCond .ne off, 3)) (ht : (pc : Int) + off = (tgt : Int)) (kt : ¬ wrap x = 0 → gG p l e R s m args below meth c Q D cl A wl nL tgt lv st M) (kf : wrap x = 0 → gG p l e R s m args below meth c Q D cl A wl nL (pc + 3) lv st M) : gG p l e R s m args below meth c Q D cl A wl nL pc lv (iv x :: st) M :=
  fun H locs ls hP hS hl => lv_if_ne C.1 C.2.1 hd ht (fun h => kt (fun q => h ((ofInt_eq_iff x 0).mpr (q.trans wrap_0.symm))) H locs ls hP hS hl) (fun h => kf (((ofInt_eq_iff x 0).mp (h)).trans wrap_0) H locs ls hP hS hl)
theorem g_if_lt (C : gC p R s m args c D cl tys A wl nL cc own Ts Z) {x off : Int} (tgt : Nat) (hd : decode cc pc = .ok (.ifCond .lt off, 3)) (ht : (pc : Int) + off = (tgt : Int)) (kt : wrap x < 0 → gG p l e R s m args below meth c Q D cl A wl nL tgt lv st M) (kf : 0 ≤ wrap x → gG p l e R s m args below meth c Q D cl A wl nL (pc + 3) lv st M) : gG p l e R s m args below meth c Q D cl A wl nL pc lv (iv x :: st) M :=
  fun H locs ls hP hS hl => lv_if_lt C.1 C.2.1 hd ht (fun h => kt (by have := (ofInt_lt_iff x 0).mp h; rwa [wrap_0] at this) H locs ls hP hS hl) (fun h => kf (Int.not_lt.mp (fun q => h ((ofInt_lt_iff x 0).mpr (by rwa [wrap_0])))) H locs ls hP hS hl)
theorem g_if_ge (C : gC p R s m args c D cl tys A wl nL cc own Ts Z) {x off : Int} (tgt : Nat) (hd : decode cc pc = .ok (.ifCond .ge off, 3)) (ht : (pc : Int) + off = (tgt : Int)) (kt : 0 ≤ wrap x → gG p l e R s m args below meth c Q D cl A wl nL tgt lv st M) (kf : wrap x < 0 → gG p l e R s m args below meth c Q D cl A wl nL (pc + 3) lv st M) : gG p l e R s m args below meth c Q D cl A wl nL pc lv (iv x :: st) M :=
  fun H locs ls hP hS hl => lv_if_ge C.1 C.2.1 hd ht (fun h => kt (by have := (ofInt_le_iff 0 x).mp h; rwa [wrap_0] at this) H locs ls hP hS hl) (fun h => kf (Int.not_le.mp (fun q => h ((ofInt_le_iff 0 x).mpr (by rwa [wrap_0])))) H locs ls hP hS hl)
theorem g_if_gt (C : gC p R s m args c D cl tys A wl nL cc own Ts Z) {x off : Int} (tgt : Nat) (hd : decode cc pc = .ok (.ifCond .gt off, 3)) (ht : (pc : Int) + off = (tgt : Int)) (kt : 0 < wrap x → gG p l e R s m args below meth c Q D cl A wl nL tgt lv st M) (kf : wrap x ≤ 0 → gG p l e R s m args below meth c Q D cl A wl nL (pc + 3) lv st M) : gG p l e R s m args below meth c Q D cl A wl nL pc lv (iv x :: st) M :=
  fun H locs ls hP hS hl => lv_if_gt C.1 C.2.1 hd ht (fun h => kt (by have := (ofInt_lt_iff 0 x).mp h; rwa [wrap_0] at this) H locs ls hP hS hl) (fun h => kf (Int.not_lt.mp (fun q => h ((ofInt_lt_iff 0 x).mpr (by rwa [wrap_0])))) H locs ls hP hS hl)
theorem g_if_le (C : gC p R s m args c D cl tys A wl nL cc own Ts Z) {x off : Int} (tgt : Nat) (hd : decode cc pc = .ok (.ifCond .le off, 3)) (ht : (pc : Int) + off = (tgt : Int)) (kt : wrap x ≤ 0 → gG p l e R s m args below meth c Q D cl A wl nL tgt lv st M) (kf : 0 < wrap x → gG p l e R s m args below meth c Q D cl A wl nL (pc + 3) lv st M) : gG p l e R s m args below meth c Q D cl A wl nL pc lv (iv x :: st) M :=
  fun H locs ls hP hS hl => lv_if_le C.1 C.2.1 hd ht (fun h => kt (by have := (ofInt_le_iff x 0).mp h; rwa [wrap_0] at this) H locs ls hP hS hl) (fun h => kf (Int.not_le.mp (fun q => h ((ofInt_le_iff x 0).mpr (by rwa [wrap_0])))) H locs ls hP hS hl)
def ycmp (x y : Int) : Int := if wrapL y < wrapL x then 1 else if wrapL x = wrapL y then 0 else -1
theorem ofInt_cmp (x y : Int) : lg_cmp (Int64.ofInt x) (Int64.ofInt y) = Int32.ofInt (ycmp x y) := by
  have h1 : (Int64.ofInt x > Int64.ofInt y) ↔ wrapL y < wrapL x := by
    show Int64.ofInt y < Int64.ofInt x ↔ _
    rw [Int64.lt_iff_toInt_lt, ofInt_toIntL, ofInt_toIntL]
  have h2 := ofInt_eq_iffL x y
  unfold lg_cmp ycmp
  by_cases q1 : wrapL y < wrapL x
  · rw [if_pos (h1.mpr q1), if_pos q1]; rfl
  · rw [if_neg (fun h => q1 (h1.mp h)), if_neg q1]
    by_cases q2 : wrapL x = wrapL y
    · rw [if_pos (h2.mpr q2), if_pos q2]; rfl
    · rw [if_neg (fun h => q2 (h2.mp h)), if_neg q2]; rfl
theorem g_lcmp (C : gC p R s m args c D cl tys A wl nL cc own Ts Z) {x y : Int} (hd : decode cc pc = .ok (.lcmp, 1)) (kk : gG p l e R s m args below meth c Q D cl A wl nL (pc + 1) lv (iv (ycmp x y) :: st) M) : gG p l e R s m args below meth c Q D cl A wl nL pc lv (jv y :: jv x :: st) M :=
  fun H locs ls hP hS hl => W.lcmp C.1 C.2.1 hd (by have h := kk H locs ls hP hS hl; unfold iv at h; rwa [← ofInt_cmp] at h)
theorem g_tableIn (C : gC p R s m args c D cl tys A wl nL cc own Ts Z) {dflt lo hi off x : Int} {offs : Array Int} {len : Nat} (tgt : Nat) (hd : decode cc pc = .ok (.tableswitch dflt lo hi offs, len)) (h1 : lo ≤ wrap x) (h2 : wrap x ≤ hi) (ho : offs[(wrap x - lo).toNat]? = some off) (ht : (pc : Int) + off = (tgt : Int)) (kk : gG p l e R s m args below meth c Q D cl A wl nL tgt lv st M) : gG p l e R s m args below meth c Q D cl A wl nL pc lv (iv x :: st) M :=
  fun H locs ls hP hS hl => lv_tableIn C.1 C.2.1 hd (by rw [ofInt_toInt]; omega) (by rw [ofInt_toInt]; omega) (by rw [ofInt_toInt]; exact ho) ht (kk H locs ls hP hS hl)
theorem g_tableOut (C : gC p R s m args c D cl tys A wl nL cc own Ts Z) {dflt lo hi x : Int} {offs : Array Int} {len : Nat} (tgt : Nat) (hd : decode cc pc = .ok (.tableswitch dflt lo hi offs, len)) (h : wrap x < lo ∨ hi < wrap x) (ht : (pc : Int) + dflt = (tgt : Int)) (kk : gG p l e R s m args below meth c Q D cl A wl nL tgt lv st M) : gG p l e R s m args below meth c Q D cl A wl nL pc lv (iv x :: st) M :=
  fun H locs ls hP hS hl => lv_tableOut C.1 C.2.1 hd (by rw [ofInt_toInt]; exact h) ht (kk H locs ls hP hS hl)
theorem g_lookup (C : gC p R s m args c D cl tys A wl nL cc own Ts Z) {dflt off x : Int} {ps : Array (Int × Int)} {len : Nat} (tgt : Nat) (hd : decode cc pc = .ok (.lookupswitch dflt ps, len)) (hp : (ps.toList.zip (ps.toList.drop 1)).all (fun (a, next) => a.1 < next.1) = true) (ho : Op.lookupswitch.offset ps.toList dflt (wrap x) = off) (ht : (pc : Int) + off = (tgt : Int)) (kk : gG p l e R s m args below meth c Q D cl A wl nL tgt lv st M) : gG p l e R s m args below meth c Q D cl A wl nL pc lv (iv x :: st) M :=
  fun H locs ls hP hS hl => lv_lookup C.1 C.2.1 hd hp (by rw [ofInt_toInt]; exact ho) ht (kk H locs ls hP hS hl)
end GM
end
section
-- rows that read and write the memory, calls, and a method's contract
theorem lc_arr {ad : Nat → Nat} {cI cS : ClassId} {lay : Nat → gLC} {N : Nat} {M : gSt} {o n : Nat} (hN : o < N) (hl : lay o = .inl n) : (wld ad cI cS lay N M)[o]? = some (ad o, .inl (cI, n, .inl (fun i => Int32.ofInt (M o (i : Int))))) := by
  rw [wld_get M hN, hl]; rfl
theorem lc_obj {ad : Nat → Nat} {cI cS : ClassId} {lay : Nat → gLC} {N : Nat} {M : gSt} {o ci : Nat} {fl : List (Option Nat)} (hN : o < N) (hl : lay o = .inr (.inl (ci, fl))) : (wld ad cI cS lay N M)[o]? = some (ad o, .inr (ci, mkf ad M o 0 fl)) := by
  rw [wld_get M hN, hl]; rfl
theorem mkf_len {ad : Nat → Nat} {M : gSt} {o : Nat} : ∀ (fl : List (Option Nat)) (j : Nat), (mkf ad M o j fl).length = fl.length
  | [], _ => rfl
  | none :: fl, j => by simp [mkf, mkf_len fl]
  | some d :: fl, j => by simp [mkf, mkf_len fl]
theorem mkf_set {ad : Nat → Nat} {M : gSt} {o : Nat} {x : Int} : ∀ (fl : List (Option Nat)) (j k : Nat), fl[k]? = some none → (mkf ad M o j fl).set k (iv x) = mkf ad (wr M o ((j + k : Nat) : Int) x) o j fl
  | [], _, _, h => by simp at h
  | none :: fl, j, 0, _ => by
    simp only [mkf, List.set_cons_zero]
    congr 1
    · simp [wr]
    · have aux : ∀ (fl : List (Option Nat)) (j' : Nat), j < j' → mkf ad M o j' fl = mkf ad (wr M o ((j + 0 : Nat) : Int) x) o j' fl := by
        intro fl
        induction fl with
        | nil => intro j' _; rfl
        | cons a t ih =>
          intro j' hj
          cases a with
          | none =>
            simp only [mkf]
            rw [ih (j' + 1) (by omega)]
            have hne : ¬ ((j' : Int) = ((j + 0 : Nat) : Int)) := by omega
            simp only [wr, hne, and_false, if_false]
          | some d =>
            simp only [mkf]
            rw [ih (j' + 1) (by omega)]
      exact aux fl (j + 1) (by omega)
  | some d :: fl, j, 0, h => by simp at h
  | none :: fl, j, k + 1, h => by
    simp only [mkf, List.set_cons_succ]
    have h' : fl[k]? = some none := by simpa using h
    rw [mkf_set fl (j + 1) k h', show j + 1 + k = j + (k + 1) from by omega]
    congr 1
    have hne : ¬ ((j : Int) = ((j + (k + 1) : Nat) : Int)) := by omega
    simp only [wr, hne, and_false, if_false]
  | some d :: fl, j, k + 1, h => by
    simp only [mkf, List.set_cons_succ]
    have h' : fl[k]? = some none := by simpa using h
    rw [mkf_set fl (j + 1) k h', show j + 1 + k = j + (k + 1) from by omega]
theorem gm_arr_set {M : gSt} {o : Nat} {i x : Int} (h0 : 0 ≤ i) : upd (fun k : Nat => Int32.ofInt (M o (k : Int))) i.toNat (Int32.ofInt x) = fun k : Nat => Int32.ofInt (wr M o i x o (k : Int)) := by
  funext k
  unfold upd wr
  by_cases hk : k = i.toNat
  · have h2 : (k : Int) = i := by omega
    rw [if_pos hk, if_pos ⟨rfl, h2⟩]
  · have h2 : ¬ (k : Int) = i := by omega
    rw [if_neg hk, if_neg (fun h => h2 h.2)]
section GMM
variable {p : Program} {l : Launch} {e : Env} {R : Room} {s : State} {m : MethodId} {args : Array Value} {below : List Frame} {meth : Method} {c : Code} {Q : State → Prop}
variable {D : va_G} {cl : List vw_C} {tys : List (ClassId × FieldType)} {A : Nat → Prop} {nL : Nat} {cc : ByteArray} {own : String} {Ts : List Cond} {Z : (Nat → Prop) → State → Prop}
variable {pc : Nat} {lv lv' : List (Nat × Value)} {st : List Value} {M : gSt}
variable {ad : Nat → Nat} {cI cS : ClassId} {lay : Nat → gLC} {N : Nat}
theorem g_iald (C : gC p R s m args c D cl ((cI, .int) :: tys) A (wld ad cI cS lay N) nL cc own Ts Z) {o n : Nat} {i : Int} (hd : decode cc pc = .ok (.iaload, 1)) (hl : lay o = .inl n) (hi : o < N ∧ n < 2147483648) (h0 : 0 ≤ i ∧ i < n) (kk : gG p l e R s m args below meth c Q D cl A (wld ad cI cS lay N) nL (pc + 1) lv (iv (M o i) :: st) M) : gG p l e R s m args below meth c Q D cl A (wld ad cI cS lay N) nL pc lv (iv i :: .ref (ad o) :: st) M := by
  intro H locs ls hP hS hL
  refine va_iald C.1 C.2.1 C.2.2.2.2.2.1 hP o 0 (lc_arr hi.1 hl) rfl (ofInt_in h0.1 h0.2 hi.2) hd ?_
  have h := kk H locs ls hP hS hL
  rw [ofInt_clamp h0.1 (by omega), Int.toNat_of_nonneg h0.1]
  exact h
theorem g_iast (C : gC p R s m args c D cl ((cI, .int) :: tys) A (wld ad cI cS lay N) nL cc own Ts Z) {o n : Nat} {i x : Int} (hd : decode cc pc = .ok (.iastore, 1)) (hl : lay o = .inl n) (hi : o < N ∧ n < 2147483648) (h0 : 0 ≤ i ∧ i < n) (kk : gG p l e R s m args below meth c Q D cl A (wld ad cI cS lay N) nL (pc + 1) lv st (wr M o i x)) : gG p l e R s m args below meth c Q D cl A (wld ad cI cS lay N) nL pc lv (iv x :: iv i :: .ref (ad o) :: st) M := by
  intro H locs ls hP hS hL
  refine va_iast C.1 C.2.1 C.2.2.2.2.2.1 hP (C.2.2.2.2.2.2.1 M) hS o 0 (lc_arr hi.1 hl) rfl (ofInt_in h0.1 h0.2 hi.2) hd (fun H1 locs1 hP1 _ hS1 => ?_)
  rw [ofInt_clamp h0.1 (by omega)] at hP1
  rw [wld_set (M := M) (o := o) (i := i) (x := x) (by rw [hl]; simp only [mkc]; rw [← gm_arr_set h0.1])] at hP1
  exact kk H1 locs1 ls hP1 hS1 hL
theorem g_alen (C : gC p R s m args c D cl ((cI, .int) :: tys) A (wld ad cI cS lay N) nL cc own Ts Z) {o n : Nat} (hd : decode cc pc = .ok (.arraylength, 1)) (hl : lay o = .inl n) (hi : o < N) (kk : gG p l e R s m args below meth c Q D cl A (wld ad cI cS lay N) nL (pc + 1) lv (iv n :: st) M) : gG p l e R s m args below meth c Q D cl A (wld ad cI cS lay N) nL pc lv (.ref (ad o) :: st) M := by
  intro H locs ls hP hS hL
  exact va_alen C.1 C.2.1 C.2.2.2.2.2.1 hP o 0 (lc_arr hi hl) rfl (v := Int32.ofInt n) (by rw [Int32.ofInt_eq_ofNat]) hd (kk H locs ls hP hS hL)
theorem g_getf (C : gC p R s m args c D cl tys A (wld ad cI cS lay N) nL cc own Ts Z) {o ci k idx NF : Nat} {fl : List (Option Nat)} {v : Value} {Cn ref : String} {T : u_T} (hl : lay o = .inr (.inl (ci, fl))) (hi : o < N) (hc : cl[ci]? = some (Cn, T, NF)) (hk : k < NF) (hin : ∀ w ∈ u_ws Cn T NF, w ∈ Ts) (hw : Cond.fieldLink own idx ref (T k).2.1 (T k).2.2.1 ∈ Ts) (hsame : (T k).1 = ref) (hd : decode cc pc = .ok (.getfield idx, 3)) (hv : (mkf ad M o 0 fl)[k]? = some v) (kk : gG p l e R s m args below meth c Q D cl A (wld ad cI cS lay N) nL (pc + 3) lv (v :: st) M) : gG p l e R s m args below meth c Q D cl A (wld ad cI cS lay N) nL pc lv (.ref (ad o) :: st) M := by
  intro H locs ls hP hS hL
  exact va_get C.1 C.2.1 C.2.2.2.2.1 hin C.2.2.2.1 C.2.2.2.2.2.1 hP o (lc_obj hi hl) hc k hk (C.2.2.2.2.1 _ hw) (fun x h => by rw [hsame] at h; exact h) hv hd (kk H locs ls hP hS hL)
theorem g_putf (C : gC p R s m args c D cl tys A (wld ad cI cS lay N) nL cc own Ts Z) {o ci k idx NF : Nat} {fl : List (Option Nat)} {x : Int} {Cn ref : String} {T : u_T} {ty : FieldType} (hl : lay o = .inr (.inl (ci, fl))) (hi : o < N) (hc : cl[ci]? = some (Cn, T, NF)) (hk : k < NF) (hin : ∀ w ∈ u_ws Cn T NF, w ∈ Ts) (ty0 : Nat → FieldType) (hty : ∀ k, k < NF → parseFieldDescriptor (T k).2.2.1 = some (ty0 k)) (hnm : ∀ a, a < NF → ∀ b, b < NF → a ≠ b → (T a).2.1 ≠ (T b).2.1) (hw : Cond.fieldLink own idx ref (T k).2.1 (T k).2.2.1 ∈ Ts) (hsame : (T k).1 = ref) (hfin : (T k).2.2.2 = false) (hdt : parseFieldDescriptor (T k).2.2.1 = some ty) (hfk : fl[k]? = some none) (hd : decode cc pc = .ok (.putfield idx, 3)) (hn : narrow ty (iv x) = iv x ∧ fits ty (iv x) = true) (kk : gG p l e R s m args below meth c Q D cl A (wld ad cI cS lay N) nL (pc + 3) lv st (wr M o k x)) : gG p l e R s m args below meth c Q D cl A (wld ad cI cS lay N) nL pc lv (iv x :: .ref (ad o) :: st) M := by
  intro H locs ls hP hS hL
  have hlen : k < (mkf ad M o 0 fl).length := by rw [mkf_len]; exact (List.getElem?_eq_some_iff.mp hfk).1
  refine va_put C.1 C.2.1 C.2.2.2.2.1 hin ty0 hty hnm C.2.2.2.1 C.2.2.2.2.2.1 hP (C.2.2.2.2.2.2.1 M) hS o (lc_obj hi hl) hc k hk (C.2.2.2.2.1 _ hw) (fun x h => by rw [hsame] at h; exact h) hfin hdt hn.1 hn.2 hlen hd (fun H1 locs1 hP1 _ hS1 => ?_)
  rw [wld_set (M := M) (o := o) (i := (k : Int)) (x := x) (by rw [hl]; simp only [mkc]; rw [mkf_set fl 0 k hfk, Nat.zero_add])] at hP1
  exact kk H1 locs1 ls hP1 hS1 hL
end GMM
/-- what a method's cells are at its start, at its end -/
def gPre (D : va_G) (cl : List vw_C) (tys : List (ClassId × FieldType)) (wl : gSt → va_W) (Z : (Nat → Prop) → State → Prop) (sz : Nat) (M : gSt) (U : State) : Prop := U.heap.size = sz ∧ va_P D cl (wl M) U.heap ∧ va_K D cl tys U ∧ va_D (fun _ => True) (wl M) ∧ Z (va_A (wl M) sz) U ∧ gZm Z
def gPost (D : va_G) (cl : List vw_C) (tys : List (ClassId × FieldType)) (wl : gSt → va_W) (A : Nat → Prop) (M : gSt) (t : State) : Prop := va_P D cl (wl M) t.heap ∧ va_K D cl tys t ∧ va_D A (wl M)
/-- a method that answers an int (boolean), a void one: from arguments vs and memory M it comes to an answer and a memory of which k holds -/
def MOi (l : Launch) (y : MethodName) (b : ByteArray) (n : Nat) (rt : FieldType) (rm : Room) (D : va_G) (cl : List vw_C) (tys : List (ClassId × FieldType)) (wl : gSt → va_W) (Ts : List Cond) (Z : (Nat → Prop) → State → Prop) (vs : List Value) (M : gSt) (k : Int → gSt → Prop) : Prop :=
  ∀ sz : Nat, Met l y (Cond.code y b n (some rt) :: Ts) rm (va_Pc vs (gPre D cl tys wl Z sz M)) (va_Qi (fun (r : Int32) (u : Int × gSt) => r = Int32.ofInt u.1 ∧ k u.1 u.2) (fun u t => gPost D cl tys wl (va_A (wl M) sz) u.2 t) (va_A (wl M) sz)) 0 0 (va_A (wl M) sz)
def MOv (l : Launch) (y : MethodName) (b : ByteArray) (n : Nat) (rm : Room) (D : va_G) (cl : List vw_C) (tys : List (ClassId × FieldType)) (wl : gSt → va_W) (Ts : List Cond) (Z : (Nat → Prop) → State → Prop) (vs : List Value) (M : gSt) (k : gSt → Prop) : Prop :=
  ∀ sz : Nat, Met l y (Cond.code y b n none :: Ts) rm (va_Pc vs (gPre D cl tys wl Z sz M)) (va_Qv (fun (u : gSt) => k u) (fun u t => gPost D cl tys wl (va_A (wl M) sz) u t) (va_A (wl M) sz)) 0 0 (va_A (wl M) sz)
theorem gPre_blind {D : va_G} {cl : List vw_C} {tys : List (ClassId × FieldType)} {wl : gSt → va_W} {Z : (Nat → Prop) → State → Prop} {sz : Nat} {M : gSt} {vs : List Value} : FrameBlind (va_Pc vs (gPre D cl tys wl Z sz M)) := fun a U g mk q => by
  obtain ⟨q0, q1, qP, qK, qD, qZ, qm⟩ := q
  exact ⟨q0, q1, qP, va_K.moved (u := U) (U := U.calling g mk a) (Vm.Alike.refl U.vm) qK, qD, qm.2 _ _ _ _ _ qZ, qm⟩
section GI
variable {l : Launch} {y : MethodName} {b : ByteArray} {n : Nat} {rm : Room} {D : va_G} {cl : List vw_C} {tys : List (ClassId × FieldType)} {Ts : List Cond} {Z : (Nat → Prop) → State → Prop} {vs : List Value} {M : gSt}
variable {ad : Nat → Nat} {cI cS : ClassId} {lay : Nat → gLC} {N : Nat}
theorem moi_intro {rt : FieldType} {k : Int → gSt → Prop} (hy : plainName y.cls = true) (hfit : (lg_sl vs).length ≤ n) (hself : Cond.code y b n (some rt) ∈ Ts)
    (body : ∀ (p : Program) (e : Env) (s : State) (m : MethodId) (args : Array Value) (below : List Frame) (meth : Method) (c : Code) (A : Nat → Prop) (Q : State → Prop), gC p rm s m args c D cl tys A (wld ad cI cS lay N) n b y.cls Ts Z →
      (∀ (pc : Nat) (lv : List (Nat × Value)) (x : Int) (M' : gSt), decode b pc = .ok (.ireturn, 1) → narrow rt (iv x) = iv x → k x M' → gG p l e rm s m args below meth c Q D cl A (wld ad cI cS lay N) n pc lv [iv x] M') →
      gG p l e rm s m args below meth c Q D cl A (wld ad cI cS lay N) n 0 (lv_args 0 vs) [] M) : MOi l y b n rt rm D cl tys (wld ad cI cS lay N) Ts Z vs M k := by
  intro sz
  refine Met.ofW (cc := b) (maxL := n) (ret := some rt) hy rfl ?_
  intro p e s m args below meth c s₁ B hml hv
  obtain ⟨rfl, hsz, hP, hK, hD0, hZ, hZm⟩ := hv
  have hts := atoms_spec (ws := Cond.code y b n (some rt) :: Ts) B.pre
  subst hsz
  have hD := hD0.self (sz := s.heap.size)
  have C : gC p rm s m vs.toArray c D cl tys (va_A (wld ad cI cS lay N M) s.heap.size) (wld ad cI cS lay N) n b y.cls Ts Z :=
    ⟨B.exec, B.bytes, hml, findClass_of_methodNamed B.named, fun w hw => hts w (List.mem_cons_of_mem _ hw), hK, fun M' => wld_D hD, fun q h => Or.inr h, hZ, hZm⟩
  have hl := lv_entry vs (n := n) hfit
  rw [lg_entry_eq]
  refine body p e s m vs.toArray below meth c (va_A (wld ad cI cS lay N M) s.heap.size) _ C ?_ s.heap [] _ hP va_S.rf hl
  intro pc lv x M' hd hnw hk H locs ls hP' hS' hl'
  have hlocks := B.notSynchronized
  exact W.zret (v := Int32.ofInt x) B.exec B.bytes B.returns hnw (fun t ht hW => ⟨⟨Int32.ofInt x, (x, M'), rfl, ⟨rfl, hk⟩, by rw [ht]; exact hP', va_K.moved hW.alike hK, wld_D hD⟩, hS'.F ht⟩) hS'.2.2 hd
theorem mov_intro {k : gSt → Prop} (hy : plainName y.cls = true) (hfit : (lg_sl vs).length ≤ n) (hself : Cond.code y b n none ∈ Ts)
    (body : ∀ (p : Program) (e : Env) (s : State) (m : MethodId) (args : Array Value) (below : List Frame) (meth : Method) (c : Code) (A : Nat → Prop) (Q : State → Prop), gC p rm s m args c D cl tys A (wld ad cI cS lay N) n b y.cls Ts Z →
      (∀ (pc : Nat) (lv : List (Nat × Value)) (M' : gSt), decode b pc = .ok (.return_, 1) → k M' → gG p l e rm s m args below meth c Q D cl A (wld ad cI cS lay N) n pc lv [] M') →
      gG p l e rm s m args below meth c Q D cl A (wld ad cI cS lay N) n 0 (lv_args 0 vs) [] M) : MOv l y b n rm D cl tys (wld ad cI cS lay N) Ts Z vs M k := by
  intro sz
  refine Met.ofW (cc := b) (maxL := n) (ret := none) hy rfl ?_
  intro p e s m args below meth c s₁ B hml hv
  obtain ⟨rfl, hsz, hP, hK, hD0, hZ, hZm⟩ := hv
  have hts := atoms_spec (ws := Cond.code y b n none :: Ts) B.pre
  subst hsz
  have hD := hD0.self (sz := s.heap.size)
  have C : gC p rm s m vs.toArray c D cl tys (va_A (wld ad cI cS lay N M) s.heap.size) (wld ad cI cS lay N) n b y.cls Ts Z :=
    ⟨B.exec, B.bytes, hml, findClass_of_methodNamed B.named, fun w hw => hts w (List.mem_cons_of_mem _ hw), hK, fun M' => wld_D hD, fun q h => Or.inr h, hZ, hZm⟩
  have hl := lv_entry vs (n := n) hfit
  rw [lg_entry_eq]
  refine body p e s m vs.toArray below meth c (va_A (wld ad cI cS lay N M) s.heap.size) _ C ?_ s.heap [] _ hP va_S.rf hl
  intro pc lv M' hd hk H locs ls hP' hS' hl'
  have hlocks := B.notSynchronized
  exact W.vret B.exec B.bytes B.returns (fun t ht hW => ⟨⟨M', rfl, hk, by rw [ht]; exact hP', va_K.moved hW.alike hK, wld_D hD⟩, hS'.F ht⟩) hS'.2.2 hd
end GI
section GCALL
variable {p : Program} {l : Launch} {e : Env} {R : Room} {s : State} {m : MethodId} {args : Array Value} {below : List Frame} {meth : Method} {c : Code} {Q : State → Prop}
variable {D : va_G} {cl : List vw_C} {tys : List (ClassId × FieldType)} {A : Nat → Prop} {nL : Nat} {cc : ByteArray} {own : String} {Ts : List Cond} {Z : (Nat → Prop) → State → Prop}
variable {pc : Nat} {lv : List (Nat × Value)} {st st0 : List Value} {M : gSt}
variable {ad : Nat → Nat} {cI cS : ClassId} {lay : Nat → gLC} {N : Nat}
theorem wld_free (C : gC p R s m args c D cl tys A (wld ad cI cS lay N) nL cc own Ts Z) {H : Heap} {locs : List Loc} (hS : va_S A s.heap H locs) : ∀ q, va_A (wld ad cI cS lay N M) H.size q → A q := by
  intro q h
  rcases h with ⟨k, e, h⟩ | h
  · exact (C.2.2.2.2.2.2.1 M).2 k _ h
  · exact C.2.2.2.2.2.2.2.1 q (Nat.le_trans hS.1 h)
/-- a call of an instance method, and what its answer leads to -/
theorem g_callVi (C : gC p R s m args c D cl tys A (wld ad cI cS lay N) nL cc own Ts Z) {y : MethodName} {b : ByteArray} {n nargs idx o ci : Nat} {rt : FieldType} {rm : Room} {As : List Value} {k1 : Int → gSt → Prop} {fl : List (Option Nat)} {vc : vw_C}
    (hM : MOi l y b n rt rm D cl tys (wld ad cI cS lay N) Ts Z (.ref (ad o) :: As) M k1)
    (hl : lay o = .inr (.inl (ci, fl))) (hi : o < N) (hc : cl[ci]? = some vc) (hvc : vc.1 = y.cls)
    (hG : GoodIn Ts (wsV own idx y.cls y (Cond.code y b n (some rt) :: Ts))) (hy : y.cls ≠ "java/lang/invoke/MethodHandle" ∧ y.cls ≠ "java/lang/invoke/VarHandle" ∧ (parseMethodDescriptor y.desc).map (fun d => d.parameters.length) = some nargs) (hrm : rm.cells = 0 ∧ rm.slots = 0)
    (hd : decode cc pc = .ok (.invokevirtual idx, 3)) (hR : rm.frames + 1 ≤ R.frames ∧ 8 + (n + 11) + rm.locals ≤ R.locals) (hn : As.length = nargs) (hst : st0 = As.reverse ++ .ref (ad o) :: st) (hcat : (st.map fun v => v.category).sum ≤ 8) (kk : ∀ (r : Int) (M' : gSt), k1 r M' → gG p l e R s m args below meth c Q D cl A (wld ad cI cS lay N) nL (pc + 3) lv (iv r :: st) M') : gG p l e R s m args below meth c Q D cl A (wld ad cI cS lay N) nL pc lv st0 M := by
  subst hst
  intro H locs ls hP hS hL
  have hFc := wld_free (M := M) C hS
  have hK := C.2.2.2.2.2.1
  have hts := C.2.2.2.2.1
  have hown := C.2.2.2.1
  refine va_calli (va_runV (C := y.cls) (As := As) (rest := st) ⟨C.1, C.2.1, C.2.2.1, hown, hts⟩ (hM H.size) (cwV nargs hts hG rfl hrm.1 hrm.2 ⟨rfl, hy⟩ hR) ⟨gPre_blind, by have h := va_recv hK hP (ci := ci) (q0 := o) hc (lc_obj hi hl); rw [hvc] at h; exact h, fun U hU hW => ⟨rfl, by rw [hU], by rw [hU]; exact hP, va_K.moved hW.alike hK, (C.2.2.2.2.2.2.1 M).weaken (fun _ _ _ _ => trivial), C.2.2.2.2.2.2.2.2.2.1 _ _ _ U locs C.2.2.2.2.2.2.2.2.1 (by rw [hU]; exact hS) hW (fun q h => hFc q h), C.2.2.2.2.2.2.2.2.2⟩⟩ rfl hn hL.1 rfl (lv_room hcat) hd ⟨Nat.zero_le _, Nat.zero_le _⟩) hS (fun q _ h => hFc q h) hFc (fun r u t H1 locs1 ht hvm hw hB hz hk hS1 => ?_)
  obtain ⟨rfl, hw2⟩ := hw
  obtain ⟨hP1, -, -⟩ := hB
  rw [ht] at hP1
  exact kk _ _ hw2 H1 locs1 ls hP1 hS1 hL
theorem g_callVv (C : gC p R s m args c D cl tys A (wld ad cI cS lay N) nL cc own Ts Z) {y : MethodName} {b : ByteArray} {n nargs idx o ci : Nat} {rm : Room} {As : List Value} {k1 : gSt → Prop} {fl : List (Option Nat)} {vc : vw_C}
    (hM : MOv l y b n rm D cl tys (wld ad cI cS lay N) Ts Z (.ref (ad o) :: As) M k1)
    (hl : lay o = .inr (.inl (ci, fl))) (hi : o < N) (hc : cl[ci]? = some vc) (hvc : vc.1 = y.cls)
    (hG : GoodIn Ts (wsV own idx y.cls y (Cond.code y b n none :: Ts))) (hy : y.cls ≠ "java/lang/invoke/MethodHandle" ∧ y.cls ≠ "java/lang/invoke/VarHandle" ∧ (parseMethodDescriptor y.desc).map (fun d => d.parameters.length) = some nargs) (hrm : rm.cells = 0 ∧ rm.slots = 0)
    (hd : decode cc pc = .ok (.invokevirtual idx, 3)) (hR : rm.frames + 1 ≤ R.frames ∧ 8 + (n + 11) + rm.locals ≤ R.locals) (hn : As.length = nargs) (hst : st0 = As.reverse ++ .ref (ad o) :: st) (hcat : (st.map fun v => v.category).sum ≤ 8) (kk : ∀ (M' : gSt), k1 M' → gG p l e R s m args below meth c Q D cl A (wld ad cI cS lay N) nL (pc + 3) lv st M') : gG p l e R s m args below meth c Q D cl A (wld ad cI cS lay N) nL pc lv st0 M := by
  subst hst
  intro H locs ls hP hS hL
  have hFc := wld_free (M := M) C hS
  have hK := C.2.2.2.2.2.1
  have hts := C.2.2.2.2.1
  have hown := C.2.2.2.1
  refine va_callv (va_runV (C := y.cls) (As := As) (rest := st) ⟨C.1, C.2.1, C.2.2.1, hown, hts⟩ (hM H.size) (cwV nargs hts hG rfl hrm.1 hrm.2 ⟨rfl, hy⟩ hR) ⟨gPre_blind, by have h := va_recv hK hP (ci := ci) (q0 := o) hc (lc_obj hi hl); rw [hvc] at h; exact h, fun U hU hW => ⟨rfl, by rw [hU], by rw [hU]; exact hP, va_K.moved hW.alike hK, (C.2.2.2.2.2.2.1 M).weaken (fun _ _ _ _ => trivial), C.2.2.2.2.2.2.2.2.2.1 _ _ _ U locs C.2.2.2.2.2.2.2.2.1 (by rw [hU]; exact hS) hW (fun q h => hFc q h), C.2.2.2.2.2.2.2.2.2⟩⟩ rfl hn hL.1 rfl (lv_room hcat) hd ⟨Nat.zero_le _, Nat.zero_le _⟩) hS (fun q _ h => hFc q h) hFc (fun u t H1 locs1 ht hvm hw hB hz hk hS1 => ?_)
  obtain ⟨hP1, -, -⟩ := hB
  rw [ht] at hP1
  exact kk _ hw H1 locs1 ls hP1 hS1 hL
/-- static calls -/
theorem g_callSi (C : gC p R s m args c D cl tys A (wld ad cI cS lay N) nL cc own Ts Z) {y : MethodName} {b : ByteArray} {n nargs idx : Nat} {rt : FieldType} {rm : Room} {As : List Value} {k1 : Int → gSt → Prop}
    (hM : MOi l y b n rt rm D cl tys (wld ad cI cS lay N) Ts Z As M k1)
    (hG : GoodIn Ts (va_wsS own idx y (Cond.code y b n (some rt) :: Ts))) (hy : y.cls ≠ "java/lang/invoke/MethodHandle" ∧ y.cls ≠ "java/lang/invoke/VarHandle" ∧ (parseMethodDescriptor y.desc).map (fun d => d.parameters.length) = some nargs) (hrm : rm.cells = 0 ∧ rm.slots = 0)
    (hd : decode cc pc = .ok (.invokestatic idx, 3)) (hR : rm.frames + 1 ≤ R.frames ∧ 8 + (n + 11) + rm.locals ≤ R.locals) (hn : As.length = nargs) (hst : st0 = As.reverse ++ st) (hcat : (st.map fun v => v.category).sum ≤ 8) (kk : ∀ (r : Int) (M' : gSt), k1 r M' → gG p l e R s m args below meth c Q D cl A (wld ad cI cS lay N) nL (pc + 3) lv (iv r :: st) M') : gG p l e R s m args below meth c Q D cl A (wld ad cI cS lay N) nL pc lv st0 M := by
  subst hst
  intro H locs ls hP hS hL
  have hFc := wld_free (M := M) C hS
  have hK := C.2.2.2.2.2.1
  have hts := C.2.2.2.2.1
  have hown := C.2.2.2.1
  refine va_calli (va_runS (As := As) (rest := st) ⟨C.1, C.2.1, C.2.2.1, hown, hts⟩ (hM H.size) (va_cwS nargs hts hG rfl hrm.1 hrm.2 hy hR) ⟨gPre_blind, fun U hU hW => ⟨rfl, by rw [hU], by rw [hU]; exact hP, va_K.moved hW.alike hK, (C.2.2.2.2.2.2.1 M).weaken (fun _ _ _ _ => trivial), C.2.2.2.2.2.2.2.2.2.1 _ _ _ U locs C.2.2.2.2.2.2.2.2.1 (by rw [hU]; exact hS) hW (fun q h => hFc q h), C.2.2.2.2.2.2.2.2.2⟩⟩ rfl hn hL.1 rfl (lv_room hcat) hd ⟨Nat.zero_le _, Nat.zero_le _⟩) hS (fun q _ h => hFc q h) hFc (fun r u t H1 locs1 ht hvm hw hB hz hk hS1 => ?_)
  obtain ⟨rfl, hw2⟩ := hw
  obtain ⟨hP1, -, -⟩ := hB
  rw [ht] at hP1
  exact kk _ _ hw2 H1 locs1 ls hP1 hS1 hL
theorem g_callSv (C : gC p R s m args c D cl tys A (wld ad cI cS lay N) nL cc own Ts Z) {y : MethodName} {b : ByteArray} {n nargs idx : Nat} {rm : Room} {As : List Value} {k1 : gSt → Prop}
    (hM : MOv l y b n rm D cl tys (wld ad cI cS lay N) Ts Z As M k1)
    (hG : GoodIn Ts (va_wsS own idx y (Cond.code y b n none :: Ts))) (hy : y.cls ≠ "java/lang/invoke/MethodHandle" ∧ y.cls ≠ "java/lang/invoke/VarHandle" ∧ (parseMethodDescriptor y.desc).map (fun d => d.parameters.length) = some nargs) (hrm : rm.cells = 0 ∧ rm.slots = 0)
    (hd : decode cc pc = .ok (.invokestatic idx, 3)) (hR : rm.frames + 1 ≤ R.frames ∧ 8 + (n + 11) + rm.locals ≤ R.locals) (hn : As.length = nargs) (hst : st0 = As.reverse ++ st) (hcat : (st.map fun v => v.category).sum ≤ 8) (kk : ∀ (M' : gSt), k1 M' → gG p l e R s m args below meth c Q D cl A (wld ad cI cS lay N) nL (pc + 3) lv st M') : gG p l e R s m args below meth c Q D cl A (wld ad cI cS lay N) nL pc lv st0 M := by
  subst hst
  intro H locs ls hP hS hL
  have hFc := wld_free (M := M) C hS
  have hK := C.2.2.2.2.2.1
  have hts := C.2.2.2.2.1
  have hown := C.2.2.2.1
  refine va_callv (va_runS (As := As) (rest := st) ⟨C.1, C.2.1, C.2.2.1, hown, hts⟩ (hM H.size) (va_cwS nargs hts hG rfl hrm.1 hrm.2 hy hR) ⟨gPre_blind, fun U hU hW => ⟨rfl, by rw [hU], by rw [hU]; exact hP, va_K.moved hW.alike hK, (C.2.2.2.2.2.2.1 M).weaken (fun _ _ _ _ => trivial), C.2.2.2.2.2.2.2.2.2.1 _ _ _ U locs C.2.2.2.2.2.2.2.2.1 (by rw [hU]; exact hS) hW (fun q h => hFc q h), C.2.2.2.2.2.2.2.2.2⟩⟩ rfl hn hL.1 rfl (lv_room hcat) hd ⟨Nat.zero_le _, Nat.zero_le _⟩) hS (fun q _ h => hFc q h) hFc (fun u t H1 locs1 ht hvm hw hB hz hk hS1 => ?_)
  obtain ⟨hP1, -, -⟩ := hB
  rw [ht] at hP1
  exact kk _ hw H1 locs1 ls hP1 hS1 hL
end GCALL
end
section
/-- a method that answers a reference (a place) or null -/
def MOr (l : Launch) (y : MethodName) (b : ByteArray) (n : Nat) (rt : FieldType) (rm : Room) (D : va_G) (cl : List vw_C) (tys : List (ClassId × FieldType)) (ad : Nat → Nat) (wl : gSt → va_W) (Ts : List Cond) (Z : (Nat → Prop) → State → Prop) (vs : List Value) (M : gSt) (k : Option Nat → gSt → Prop) : Prop :=
  ∀ sz : Nat, Met l y (Cond.code y b n (some rt) :: Ts) rm (va_Pc vs (gPre D cl tys wl Z sz M)) (va_Qq (fun (r : Option Nat) (u : Option Nat × gSt) => r = u.1.map ad ∧ k u.1 u.2) (fun u t => gPost D cl tys wl (va_A (wl M) sz) u.2 t) (va_A (wl M) sz)) 0 0 (va_A (wl M) sz)
def orv (ad : Nat → Nat) (r : Option Nat) : Value := va_rf (r.map ad)
section GI2
variable {l : Launch} {y : MethodName} {b : ByteArray} {n : Nat} {rm : Room} {D : va_G} {cl : List vw_C} {tys : List (ClassId × FieldType)} {Ts : List Cond} {Z : (Nat → Prop) → State → Prop} {vs : List Value} {M : gSt}
variable {ad : Nat → Nat} {cI cS : ClassId} {lay : Nat → gLC} {N : Nat}
theorem mor_intro {rt : FieldType} {k : Option Nat → gSt → Prop} (hy : plainName y.cls = true) (hfit : (lg_sl vs).length ≤ n) (hself : Cond.code y b n (some rt) ∈ Ts) (hrt : (∃ n, rt = .object n) ∨ ∃ t, rt = .array t)
    (body : ∀ (p : Program) (e : Env) (s : State) (m : MethodId) (args : Array Value) (below : List Frame) (meth : Method) (c : Code) (A : Nat → Prop) (Q : State → Prop), gC p rm s m args c D cl tys A (wld ad cI cS lay N) n b y.cls Ts Z →
      (∀ (pc : Nat) (lv : List (Nat × Value)) (r : Option Nat) (v : Value) (M' : gSt), decode b pc = .ok (.areturn, 1) → v = orv ad r → k r M' → gG p l e rm s m args below meth c Q D cl A (wld ad cI cS lay N) n pc lv [v] M') →
      gG p l e rm s m args below meth c Q D cl A (wld ad cI cS lay N) n 0 (lv_args 0 vs) [] M) : MOr l y b n rt rm D cl tys ad (wld ad cI cS lay N) Ts Z vs M k := by
  intro sz
  refine Met.ofW (cc := b) (maxL := n) (ret := some rt) hy rfl ?_
  intro p e s m args below meth c s₁ B hml hv
  obtain ⟨rfl, hsz, hP, hK, hD0, hZ, hZm⟩ := hv
  have hts := atoms_spec (ws := Cond.code y b n (some rt) :: Ts) B.pre
  subst hsz
  have hD := hD0.self (sz := s.heap.size)
  have C : gC p rm s m vs.toArray c D cl tys (va_A (wld ad cI cS lay N M) s.heap.size) (wld ad cI cS lay N) n b y.cls Ts Z :=
    ⟨B.exec, B.bytes, hml, findClass_of_methodNamed B.named, fun w hw => hts w (List.mem_cons_of_mem _ hw), hK, fun M' => wld_D hD, fun q h => Or.inr h, hZ, hZm⟩
  have hl := lv_entry vs (n := n) hfit
  rw [lg_entry_eq]
  refine body p e s m vs.toArray below meth c (va_A (wld ad cI cS lay N M) s.heap.size) _ C ?_ s.heap [] _ hP va_S.rf hl
  intro pc lv r v M' hd hv hk H locs ls hP' hS' hl'
  have hlocks := B.notSynchronized
  subst hv
  exact W.aret (v := orv ad r) B.exec B.bytes B.returns hrt (by cases r with
    | none => exact Or.inl rfl
    | some q => exact Or.inr ⟨ad q, rfl⟩) (fun t ht hW => ⟨⟨r.map ad, (r, M'), rfl, ⟨rfl, hk⟩, by rw [ht]; exact hP', va_K.moved hW.alike hK, wld_D hD⟩, hS'.F ht⟩) hS'.2.2 hd
end GI2
section GCALL2
variable {p : Program} {l : Launch} {e : Env} {R : Room} {s : State} {m : MethodId} {args : Array Value} {below : List Frame} {meth : Method} {c : Code} {Q : State → Prop}
variable {D : va_G} {cl : List vw_C} {tys : List (ClassId × FieldType)} {A : Nat → Prop} {nL : Nat} {cc : ByteArray} {own : String} {Ts : List Cond} {Z : (Nat → Prop) → State → Prop}
variable {pc : Nat} {lv : List (Nat × Value)} {st st0 : List Value} {M : gSt}
variable {ad : Nat → Nat} {cI cS : ClassId} {lay : Nat → gLC} {N : Nat}
theorem g_callVr (C : gC p R s m args c D cl tys A (wld ad cI cS lay N) nL cc own Ts Z) {y : MethodName} {b : ByteArray} {n nargs idx o ci : Nat} {rt : FieldType} {rm : Room} {As : List Value} {k1 : Option Nat → gSt → Prop} {fl : List (Option Nat)} {vc : vw_C}
    (hM : MOr l y b n rt rm D cl tys ad (wld ad cI cS lay N) Ts Z (.ref (ad o) :: As) M k1)
    (hl : lay o = .inr (.inl (ci, fl))) (hi : o < N) (hc : cl[ci]? = some vc) (hvc : vc.1 = y.cls)
    (hG : GoodIn Ts (wsV own idx y.cls y (Cond.code y b n (some rt) :: Ts))) (hy : y.cls ≠ "java/lang/invoke/MethodHandle" ∧ y.cls ≠ "java/lang/invoke/VarHandle" ∧ (parseMethodDescriptor y.desc).map (fun d => d.parameters.length) = some nargs) (hrm : rm.cells = 0 ∧ rm.slots = 0)
    (hd : decode cc pc = .ok (.invokevirtual idx, 3)) (hR : rm.frames + 1 ≤ R.frames ∧ 8 + (n + 11) + rm.locals ≤ R.locals) (hn : As.length = nargs) (hst : st0 = As.reverse ++ .ref (ad o) :: st) (hcat : (st.map fun v => v.category).sum ≤ 8) (kk : ∀ (r : Option Nat) (M' : gSt), k1 r M' → gG p l e R s m args below meth c Q D cl A (wld ad cI cS lay N) nL (pc + 3) lv (orv ad r :: st) M') : gG p l e R s m args below meth c Q D cl A (wld ad cI cS lay N) nL pc lv st0 M := by
  subst hst
  intro H locs ls hP hS hL
  have hFc := wld_free (M := M) C hS
  have hK := C.2.2.2.2.2.1
  have hts := C.2.2.2.2.1
  have hown := C.2.2.2.1
  refine va_callq (va_runV (C := y.cls) (As := As) (rest := st) ⟨C.1, C.2.1, C.2.2.1, hown, hts⟩ (hM H.size) (cwV nargs hts hG rfl hrm.1 hrm.2 ⟨rfl, hy⟩ hR) ⟨gPre_blind, by have h := va_recv hK hP (ci := ci) (q0 := o) hc (lc_obj hi hl); rw [hvc] at h; exact h, fun U hU hW => ⟨rfl, by rw [hU], by rw [hU]; exact hP, va_K.moved hW.alike hK, (C.2.2.2.2.2.2.1 M).weaken (fun _ _ _ _ => trivial), C.2.2.2.2.2.2.2.2.2.1 _ _ _ U locs C.2.2.2.2.2.2.2.2.1 (by rw [hU]; exact hS) hW (fun q h => hFc q h), C.2.2.2.2.2.2.2.2.2⟩⟩ rfl hn hL.1 rfl (lv_room hcat) hd ⟨Nat.zero_le _, Nat.zero_le _⟩) hS (fun q _ h => hFc q h) hFc (fun r u t H1 locs1 ht hvm hw hB hz hk hS1 => ?_)
  obtain ⟨rfl, hw2⟩ := hw
  obtain ⟨hP1, -, -⟩ := hB
  rw [ht] at hP1
  exact kk _ _ hw2 H1 locs1 ls hP1 hS1 hL
/-- a private method of a nest mate: its link is a fact of the start -/
theorem g_callNi (C : gC p R s m args c D cl tys A (wld ad cI cS lay N) nL cc own Ts Z) {y : MethodName} {host : String} {b : ByteArray} {n nargs idx o ci : Nat} {rt : FieldType} {rm : Room} {As : List Value} {k1 : Int → gSt → Prop} {fl : List (Option Nat)} {vc : vw_C}
    (hM : MOi l y b n rt rm D cl tys (wld ad cI cS lay N) Ts Z (.ref (ad o) :: As) M k1)
    (hl : lay o = .inr (.inl (ci, fl))) (hi : o < N) (hc : cl[ci]? = some vc) (hvc : vc.1 = y.cls)
    (hz : ∀ (A : Nat → Prop) (u : State), Z A u → va_Nw (.methodLinkNest own idx y host) u) (hG : GoodIn Ts (Cond.code y b n (some rt) :: Ts)) (hini : Cond.initialized y.cls ∈ Ts) (hins : Cond.instanceMethod y ∈ Ts) (hsel : Cond.selects y.cls y y ∈ Ts) (hy : y.cls ≠ "java/lang/invoke/MethodHandle" ∧ y.cls ≠ "java/lang/invoke/VarHandle" ∧ (parseMethodDescriptor y.desc).map (fun d => d.parameters.length) = some nargs) (hrm : rm.cells = 0 ∧ rm.slots = 0)
    (hd : decode cc pc = .ok (.invokevirtual idx, 3)) (hR : rm.frames + 1 ≤ R.frames ∧ 8 + (n + 11) + rm.locals ≤ R.locals) (hn : As.length = nargs) (hst : st0 = As.reverse ++ .ref (ad o) :: st) (hcat : (st.map fun v => v.category).sum ≤ 8) (kk : ∀ (r : Int) (M' : gSt), k1 r M' → gG p l e R s m args below meth c Q D cl A (wld ad cI cS lay N) nL (pc + 3) lv (iv r :: st) M') : gG p l e R s m args below meth c Q D cl A (wld ad cI cS lay N) nL pc lv st0 M := by
  subst hst
  intro H locs ls hP hS hL
  have hFc := wld_free (M := M) C hS
  have hK := C.2.2.2.2.2.1
  have hts := C.2.2.2.2.1
  have hown := C.2.2.2.1
  refine va_calli (va_runVN (C := y.cls) (As := As) (rest := st) ⟨C.1, C.2.1, C.2.2.1, hown, hts⟩ (hM H.size) ⟨va_cnB nargs hts hG rfl hrm.1 hrm.2 (hz _ _ C.2.2.2.2.2.2.2.2.1) (hts _ hini) hy hR, hts _ hins, hts _ hsel⟩ ⟨gPre_blind, by have h := va_recv hK hP (ci := ci) (q0 := o) hc (lc_obj hi hl); rw [hvc] at h; exact h, fun U hU hW => ⟨rfl, by rw [hU], by rw [hU]; exact hP, va_K.moved hW.alike hK, (C.2.2.2.2.2.2.1 M).weaken (fun _ _ _ _ => trivial), C.2.2.2.2.2.2.2.2.2.1 _ _ _ U locs C.2.2.2.2.2.2.2.2.1 (by rw [hU]; exact hS) hW (fun q h => hFc q h), C.2.2.2.2.2.2.2.2.2⟩⟩ rfl hn hL.1 rfl (lv_room hcat) hd ⟨Nat.zero_le _, Nat.zero_le _⟩) hS (fun q _ h => hFc q h) hFc (fun r u t H1 locs1 ht hvm hw hB hz hk hS1 => ?_)
  obtain ⟨rfl, hw2⟩ := hw
  obtain ⟨hP1, -, -⟩ := hB
  rw [ht] at hP1
  exact kk _ _ hw2 H1 locs1 ls hP1 hS1 hL
theorem g_callNSi (C : gC p R s m args c D cl tys A (wld ad cI cS lay N) nL cc own Ts Z) {y : MethodName} {host : String} {b : ByteArray} {n nargs idx : Nat} {rt : FieldType} {rm : Room} {As : List Value} {k1 : Int → gSt → Prop}
    (hM : MOi l y b n rt rm D cl tys (wld ad cI cS lay N) Ts Z As M k1)
    (hz : ∀ (A : Nat → Prop) (u : State), Z A u → va_Nw (.methodLinkNest own idx y host) u) (hG : GoodIn Ts (Cond.code y b n (some rt) :: Ts)) (hini : Cond.initialized y.cls ∈ Ts) (hsta : Cond.static y ∈ Ts) (hy : y.cls ≠ "java/lang/invoke/MethodHandle" ∧ y.cls ≠ "java/lang/invoke/VarHandle" ∧ (parseMethodDescriptor y.desc).map (fun d => d.parameters.length) = some nargs) (hrm : rm.cells = 0 ∧ rm.slots = 0)
    (hd : decode cc pc = .ok (.invokestatic idx, 3)) (hR : rm.frames + 1 ≤ R.frames ∧ 8 + (n + 11) + rm.locals ≤ R.locals) (hn : As.length = nargs) (hst : st0 = As.reverse ++ st) (hcat : (st.map fun v => v.category).sum ≤ 8) (kk : ∀ (r : Int) (M' : gSt), k1 r M' → gG p l e R s m args below meth c Q D cl A (wld ad cI cS lay N) nL (pc + 3) lv (iv r :: st) M') : gG p l e R s m args below meth c Q D cl A (wld ad cI cS lay N) nL pc lv st0 M := by
  subst hst
  intro H locs ls hP hS hL
  have hFc := wld_free (M := M) C hS
  have hK := C.2.2.2.2.2.1
  have hts := C.2.2.2.2.1
  have hown := C.2.2.2.1
  refine va_calli (va_runSN (As := As) (rest := st) ⟨C.1, C.2.1, C.2.2.1, hown, hts⟩ (hM H.size) ⟨va_cnB nargs hts hG rfl hrm.1 hrm.2 (hz _ _ C.2.2.2.2.2.2.2.2.1) (hts _ hini) hy hR, hts _ hsta, trivial⟩ ⟨gPre_blind, fun U hU hW => ⟨rfl, by rw [hU], by rw [hU]; exact hP, va_K.moved hW.alike hK, (C.2.2.2.2.2.2.1 M).weaken (fun _ _ _ _ => trivial), C.2.2.2.2.2.2.2.2.2.1 _ _ _ U locs C.2.2.2.2.2.2.2.2.1 (by rw [hU]; exact hS) hW (fun q h => hFc q h), C.2.2.2.2.2.2.2.2.2⟩⟩ rfl hn hL.1 rfl (lv_room hcat) hd ⟨Nat.zero_le _, Nat.zero_le _⟩) hS (fun q _ h => hFc q h) hFc (fun r u t H1 locs1 ht hvm hw hB hz hk hS1 => ?_)
  obtain ⟨rfl, hw2⟩ := hw
  obtain ⟨hP1, -, -⟩ := hB
  rw [ht] at hP1
  exact kk _ _ hw2 H1 locs1 ls hP1 hS1 hL
/-- a static table that nobody writes -/
theorem g_getsT (C : gC p R s m args c D cl tys A (wld ad cI cS lay N) nL cc own Ts Z) {Cn nm ref : String} {idx t : Nat} (hz : va_Z Cn nm "[I" (.ref t) A s s.heap) (hw : Cond.fieldLink own idx ref nm "[I" ∈ Ts) (hsame : Cn = ref) (hd : decode cc pc = .ok (.getstatic idx, 3)) (kk : gG p l e R s m args below meth c Q D cl A (wld ad cI cS lay N) nL (pc + 3) lv (.ref t :: st) M) : gG p l e R s m args below meth c Q D cl A (wld ad cI cS lay N) nL pc lv st M := by
  subst hsame
  intro H locs ls hP hS hL
  exact va_gets C.1 C.2.1 hz hS C.2.2.2.1 (C.2.2.2.2.1 _ hw) (fun _ h => h) hd (kk H locs ls hP hS hL)
theorem g_getsTN (C : gC p R s m args c D cl tys A (wld ad cI cS lay N) nL cc own Ts Z) {Cn nm ref host : String} {idx t : Nat} (hz : va_Z Cn nm "[I" (.ref t) A s s.heap) (hw : va_Nw (.fieldLinkNest own idx ref nm "[I" host) s) (hsame : Cn = ref) (hd : decode cc pc = .ok (.getstatic idx, 3)) (kk : gG p l e R s m args below meth c Q D cl A (wld ad cI cS lay N) nL (pc + 3) lv (.ref t :: st) M) : gG p l e R s m args below meth c Q D cl A (wld ad cI cS lay N) nL pc lv st M := by
  subst hsame
  intro H locs ls hP hS hL
  exact va_getsN C.1 C.2.1 hz hS C.2.2.2.1 (va_Nw.use rfl hw) (fun _ h => h) hd (kk H locs ls hP hS hL)
theorem g_tald (C : gC p R s m args c D cl tys A (wld ad cI cS lay N) nL cc own Ts Z) {t n : Nat} {f : Nat → Int} {i : Int} (hd : decode cc pc = .ok (.iaload, 1)) (hT : va_T .int t n (fun j => iv (f j)) A s s.heap) (hn : n < 2147483648) (h0 : 0 ≤ i ∧ i < n) (kk : gG p l e R s m args below meth c Q D cl A (wld ad cI cS lay N) nL (pc + 1) lv (iv (f i.toNat) :: st) M) : gG p l e R s m args below meth c Q D cl A (wld ad cI cS lay N) nL pc lv (iv i :: .ref t :: st) M := by
  intro H locs ls hP hS hL
  exact va_ti C.1 C.2.1 hT hS (ofInt_in h0.1 h0.2 hn) (v := iv (f i.toNat)) (by rw [ofInt_clamp h0.1 (by omega)]) hd (kk H locs ls hP hS hL)
theorem g_talen (C : gC p R s m args c D cl tys A (wld ad cI cS lay N) nL cc own Ts Z) {t n : Nat} {f : Nat → Int} (hd : decode cc pc = .ok (.arraylength, 1)) (hT : va_T .int t n (fun j => iv (f j)) A s s.heap) (kk : gG p l e R s m args below meth c Q D cl A (wld ad cI cS lay N) nL (pc + 1) lv (iv n :: st) M) : gG p l e R s m args below meth c Q D cl A (wld ad cI cS lay N) nL pc lv (.ref t :: st) M := by
  intro H locs ls hP hS hL
  exact va_tlen C.1 C.2.1 hT hS (v := Int32.ofInt n) (by rw [Int32.ofInt_eq_ofNat]) hd (kk H locs ls hP hS hL)
/-- an array of references that stay -/
theorem g_aald (C : gC p R s m args c D cl ((cI, .int) :: (cS, .object "OldBronze$Sheet") :: tys) A (wld ad cI cS lay N) nL cc own Ts Z) {o q : Nat} {ps : List Nat} {i : Int} (hd : decode cc pc = .ok (.aaload, 1)) (hl : lay o = .inr (.inr ps)) (hi : o < N ∧ ps.length < 2147483648) (h0 : 0 ≤ i ∧ i < ps.length) (hq : ps[i.toNat]? = some q) (kk : gG p l e R s m args below meth c Q D cl A (wld ad cI cS lay N) nL (pc + 1) lv (.ref (ad q) :: st) M) : gG p l e R s m args below meth c Q D cl A (wld ad cI cS lay N) nL pc lv (iv i :: .ref (ad o) :: st) M := by
  intro H locs ls hP hS hL
  have e : (wld ad cI cS lay N M)[o]? = some (ad o, .inl (cS, ps.length, .inr (.inr (.inr (.inr (fun i => (ps[i]?).map ad)))))) := by rw [wld_get M hi.1, hl]; rfl
  refine va_aldq C.1 C.2.1 C.2.2.2.2.2.1 hP o 1 e rfl (ofInt_in h0.1 h0.2 hi.2) hd ?_
  rw [ofInt_clamp h0.1 (by omega), hq]
  exact kk H locs ls hP hS hL
theorem g_aalen (C : gC p R s m args c D cl ((cI, .int) :: (cS, .object "OldBronze$Sheet") :: tys) A (wld ad cI cS lay N) nL cc own Ts Z) {o : Nat} {ps : List Nat} (hd : decode cc pc = .ok (.arraylength, 1)) (hl : lay o = .inr (.inr ps)) (hi : o < N) (kk : gG p l e R s m args below meth c Q D cl A (wld ad cI cS lay N) nL (pc + 1) lv (iv ps.length :: st) M) : gG p l e R s m args below meth c Q D cl A (wld ad cI cS lay N) nL pc lv (.ref (ad o) :: st) M := by
  intro H locs ls hP hS hL
  have e : (wld ad cI cS lay N M)[o]? = some (ad o, .inl (cS, ps.length, .inr (.inr (.inr (.inr (fun i => (ps[i]?).map ad)))))) := by rw [wld_get M hi, hl]; rfl
  exact va_alen C.1 C.2.1 C.2.2.2.2.2.1 hP o 1 e rfl (v := Int32.ofInt ps.length) (by rw [Int32.ofInt_eq_ofNat]) hd (kk H locs ls hP hS hL)
/-- memory behind a copy of n numbers of place a from i on to place b from j on -/
def cpy (M : gSt) (a : Nat) (i : Int) (b : Nat) (j n : Int) : gSt := fun o k => if o = b ∧ j ≤ k ∧ k < j + n then M a (i + (k - j)) else M o k
theorem wld_cpy {M : gSt} {a b : Nat} {i j n : Int} {e : va_E} (h : mkc ad cI cS (cpy M a i b j n) b (lay b) = e) : (wld ad cI cS lay N M).set b (ad b, e) = wld ad cI cS lay N (cpy M a i b j n) := by
  apply List.ext_getElem?
  intro k
  rw [List.getElem?_set]
  by_cases hk : b = k
  · subst hk
    by_cases hN : b < N
    · simp [wld, hN, h]
    · simp [wld, hN]
  · rw [if_neg hk]
    by_cases hN : k < N
    · rw [wld_get M hN, wld_get _ hN]
      have hf : ∀ (fl : List (Option Nat)) (z : Nat), mkf ad (cpy M a i b j n) k z fl = mkf ad M k z fl := by
        intro fl
        induction fl with
        | nil => intro z; rfl
        | cons x t ih =>
          intro z
          cases x <;> simp only [mkf, ih] <;> simp [cpy, Ne.symm hk]
      rcases lay k with n' | ⟨ci, fl⟩ | ps
      · simp [mkc, cpy, Ne.symm hk]
      · simp only [mkc, hf]
      · rfl
    · simp [wld, hN]
theorem g_copy (C : gC p R s m args c D cl ((cI, .int) :: tys) A (wld ad cI cS lay N) nL cc own Ts Z) {a b na nb idx : Nat} {i j n : Int} (hd : decode cc pc = .ok (.invokestatic idx, 3)) (hla : lay a = .inl na) (hlb : lay b = .inl nb) (hi : a < N ∧ b < N ∧ na < 2147483648 ∧ nb < 2147483648) (h0 : 0 ≤ i ∧ 0 ≤ j ∧ 0 ≤ n ∧ i + n ≤ na ∧ j + n ≤ nb) (hw : Cond.methodLink own idx arraycopyName ∈ Ts) (hn1 : Cond.native arraycopyName ∈ Ts) (hn2 : Cond.static arraycopyName ∈ Ts) (hn3 : Cond.initialized "java/lang/System" ∈ Ts) (hf : 1 ≤ R.frames) (hlo : (st.map fun v => v.category).sum + (nativeFrameWords "java/lang/System" "arraycopy" 5 + 11) ≤ R.locals) (kk : gG p l e R s m args below meth c Q D cl A (wld ad cI cS lay N) nL (pc + 3) lv st (cpy M a i b j n)) : gG p l e R s m args below meth c Q D cl A (wld ad cI cS lay N) nL pc lv (iv n :: iv j :: .ref (ad b) :: iv i :: .ref (ad a) :: st) M := by
  intro H locs ls hP hS hL
  have hts := C.2.2.2.2.1
  have nn : ∀ z : Int, 0 ≤ z → z < 2147483648 → ¬ Int32.ofInt z < 0 := by
    intro z h1 h2 h
    rw [Int32.lt_iff_toInt_lt, ofInt_toInt, wrap_in (by omega) h2] at h
    simp at h
    omega
  refine va_copyi C.1 C.2.1 (by rw [C.2.2.1]; exact hL.1.symm) C.2.2.2.1 (hts _ hw) (hts _ hn1) (hts _ hn2) (hts _ hn3) C.2.2.2.2.2.1 hP (C.2.2.2.2.2.2.1 M) hS a b 0 0 (lc_arr hi.1 hla) (lc_arr hi.2.1 hlb) rfl rfl rfl (nn i h0.1 (by omega)) (nn j h0.2.1 (by omega)) (nn n h0.2.2.1 (by omega)) (by rw [ofInt_clamp h0.1 (by omega), ofInt_clamp h0.2.2.1 (by omega)]; omega) (by rw [ofInt_clamp h0.2.1 (by omega), ofInt_clamp h0.2.2.1 (by omega)]; omega) (fun _ _ => rfl) hf hlo hd (fun H1 locs1 hP1 _ hS1 => ?_)
  rw [ofInt_clamp h0.1 (by omega), ofInt_clamp h0.2.1 (by omega), ofInt_clamp h0.2.2.1 (by omega)] at hP1
  rw [wld_cpy (M := M) (a := a) (b := b) (i := i) (j := j) (n := n) (by
    rw [hlb]
    simp only [mkc]
    congr 3
    congr 1
    funext k
    unfold va_cpy cpy
    by_cases hk : j.toNat ≤ k ∧ k < j.toNat + n.toNat
    · rw [if_pos hk, if_pos ⟨rfl, by omega, by omega⟩]
      congr 2
      omega
    · rw [if_neg hk, if_neg (fun h => hk ⟨by omega, by omega⟩)])] at hP1
  exact kk H1 locs1 ls hP1 hS1 hL
theorem g_ldcw (C : gC p R s m args c D cl tys A (wld ad cI cS lay N) nL cc own Ts Z) {i : Nat} (n : Int) {v : Int32} (hw : Cond.constant own i v ∈ Ts) (hv : Int32.ofInt n = v) (hd : decode cc pc = .ok (.ldc_w i, 3)) (kk : gG p l e R s m args below meth c Q D cl A (wld ad cI cS lay N) nL (pc + 3) lv (iv n :: st) M) : gG p l e R s m args below meth c Q D cl A (wld ad cI cS lay N) nL pc lv st M :=
  fun H locs ls hP hS hl => lv_ldcw C.1 C.2.1 C.2.2.2.1 (C.2.2.2.2.1 _ hw) hd (by rw [← hv]; exact kk H locs ls hP hS hl)
theorem g_ifnull (C : gC p R s m args c D cl tys A (wld ad cI cS lay N) nL cc own Ts Z) {r : Option Nat} {off : Int} (tgt : Nat) (hd : decode cc pc = .ok (.ifnull off, 3)) (ht : (pc : Int) + off = (tgt : Int)) (kt : r = none → gG p l e R s m args below meth c Q D cl A (wld ad cI cS lay N) nL tgt lv st M) (kf : ∀ q, r = some q → gG p l e R s m args below meth c Q D cl A (wld ad cI cS lay N) nL (pc + 3) lv st M) : gG p l e R s m args below meth c Q D cl A (wld ad cI cS lay N) nL pc lv (orv ad r :: st) M := by
  intro H locs ls hP hS hl
  cases r with
  | none => exact lv_ifnullN C.1 C.2.1 hd ht (kt rfl H locs ls hP hS hl)
  | some q => exact lv_ifnull C.1 C.2.1 hd (kf q rfl H locs ls hP hS hl)
theorem g_ifnonnull (C : gC p R s m args c D cl tys A (wld ad cI cS lay N) nL cc own Ts Z) {r : Option Nat} {off : Int} (tgt : Nat) (hd : decode cc pc = .ok (.ifnonnull off, 3)) (ht : (pc : Int) + off = (tgt : Int)) (kt : ∀ q, r = some q → gG p l e R s m args below meth c Q D cl A (wld ad cI cS lay N) nL tgt lv st M) (kf : r = none → gG p l e R s m args below meth c Q D cl A (wld ad cI cS lay N) nL (pc + 3) lv st M) : gG p l e R s m args below meth c Q D cl A (wld ad cI cS lay N) nL pc lv (orv ad r :: st) M := by
  intro H locs ls hP hS hl
  cases r with
  | none => exact lv_ifnonnullN C.1 C.2.1 hd (kf rfl H locs ls hP hS hl)
  | some q => exact lv_ifnonnull C.1 C.2.1 hd ht (kt q rfl H locs ls hP hS hl)
theorem g_astoreO (C : gC p R s m args c D cl tys A (wld ad cI cS lay N) nL cc own Ts Z) {k : Fin 4} {r : Option Nat} {lv' : List (Nat × Value)} (hd : decode cc pc = .ok (.astore_n k, 1)) (hn : (k : Nat) < nL) (hl' : lvs k (orv ad r) lv = lv') (kk : gG p l e R s m args below meth c Q D cl A (wld ad cI cS lay N) nL (pc + 1) lv' st M) : gG p l e R s m args below meth c Q D cl A (wld ad cI cS lay N) nL pc lv (orv ad r :: st) M := by
  intro H locs ls hP hS hl
  cases r with
  | none => exact lv_astore_nN C.1 C.2.1 hd rfl hl hn hl' (fun ls' hl2 => kk H locs ls' hP hS hl2)
  | some q => exact lv_astore_n C.1 C.2.1 hd rfl hl hn hl' (fun ls' hl2 => kk H locs ls' hP hS hl2)
theorem g_astoreO' (C : gC p R s m args c D cl tys A (wld ad cI cS lay N) nL cc own Ts Z) {k : Nat} {r : Option Nat} {lv' : List (Nat × Value)} (hd : decode cc pc = .ok (.astore k, 2)) (hn : k < nL) (hl' : lvs k (orv ad r) lv = lv') (kk : gG p l e R s m args below meth c Q D cl A (wld ad cI cS lay N) nL (pc + 2) lv' st M) : gG p l e R s m args below meth c Q D cl A (wld ad cI cS lay N) nL pc lv (orv ad r :: st) M := by
  intro H locs ls hP hS hl
  cases r with
  | none => exact lv_astoreN C.1 C.2.1 hd hl hn hl' (fun ls' hl2 => kk H locs ls' hP hS hl2)
  | some q => exact lv_astore C.1 C.2.1 hd hl hn hl' (fun ls' hl2 => kk H locs ls' hP hS hl2)
theorem g_aloadO (C : gC p R s m args c D cl tys A (wld ad cI cS lay N) nL cc own Ts Z) {k : Fin 4} {r : Option Nat} (hd : decode cc pc = .ok (.aload_n k, 1)) (h : List.lookup (k : Nat) lv = some (orv ad r)) (kk : gG p l e R s m args below meth c Q D cl A (wld ad cI cS lay N) nL (pc + 1) lv (orv ad r :: st) M) : gG p l e R s m args below meth c Q D cl A (wld ad cI cS lay N) nL pc lv st M := by
  intro H locs ls hP hS hl
  cases r with
  | none => exact lv_aload_nN C.1 C.2.1 hd rfl (g_at hl h) (kk H locs ls hP hS hl)
  | some q => exact lv_aload_n C.1 C.2.1 hd rfl (g_at hl h) (kk H locs ls hP hS hl)
theorem g_aloadO' (C : gC p R s m args c D cl tys A (wld ad cI cS lay N) nL cc own Ts Z) {k : Nat} {r : Option Nat} (hd : decode cc pc = .ok (.aload k, 2)) (h : List.lookup k lv = some (orv ad r)) (kk : gG p l e R s m args below meth c Q D cl A (wld ad cI cS lay N) nL (pc + 2) lv (orv ad r :: st) M) : gG p l e R s m args below meth c Q D cl A (wld ad cI cS lay N) nL pc lv st M := by
  intro H locs ls hP hS hl
  cases r with
  | none => exact lv_aloadN C.1 C.2.1 hd (g_at hl h) (kk H locs ls hP hS hl)
  | some q => exact lv_aload C.1 C.2.1 hd (g_at hl h) (kk H locs ls hP hS hl)
end GCALL2
section GN
variable {p : Program} {l : Launch} {e : Env} {R : Room} {s : State} {m : MethodId} {args : Array Value} {below : List Frame} {meth : Method} {c : Code} {Q : State → Prop}
variable {D : va_G} {cl : List vw_C} {tys : List (ClassId × FieldType)} {A : Nat → Prop} {nL : Nat} {cc : ByteArray} {own : String} {Ts : List Cond} {Z : (Nat → Prop) → State → Prop}
variable {pc : Nat} {lv : List (Nat × Value)} {st : List Value} {M : gSt} {wl : gSt → va_W} {ad : Nat → Nat}
theorem g_aconst_null (C : gC p R s m args c D cl tys A wl nL cc own Ts Z) (hd : decode cc pc = .ok (.aconst_null, 1)) (kk : gG p l e R s m args below meth c Q D cl A wl nL (pc + 1) lv (orv ad none :: st) M) : gG p l e R s m args below meth c Q D cl A wl nL pc lv st M :=
  fun H locs ls hP hS hl => lv_null C.1 C.2.1 hd (kk H locs ls hP hS hl)
end GN
def xmax (x y : Int) : Int := if wrap x < wrap y then y else x
def xmin (x y : Int) : Int := if wrap y < wrap x then y else x
def xabs (x : Int) : Int := if 0 ≤ wrap x then x else 0 - x
section GMATH
variable {p : Program} {l : Launch} {e : Env} {R : Room} {s : State} {m : MethodId} {args : Array Value} {below : List Frame} {meth : Method} {c : Code} {Q : State → Prop}
variable {D : va_G} {cl : List vw_C} {tys : List (ClassId × FieldType)} {A : Nat → Prop} {nL : Nat} {cc : ByteArray} {own : String} {Ts : List Cond} {Z : (Nat → Prop) → State → Prop}
variable {pc : Nat} {lv : List (Nat × Value)} {st : List Value} {M : gSt} {wl : gSt → va_W}
theorem g_mmax (C : gC p R s m args c D cl tys A wl nL cc own Ts Z) {idx : Nat} {x y : Int} (hd : decode cc pc = .ok (.invokestatic idx, 3)) (h1 : Cond.methodLink own idx Lib.Math.max.name ∈ Ts) (h2 : Cond.static Lib.Math.max.name ∈ Ts) (h3 : Cond.initialized "java/lang/Math" ∈ Ts) (h4 : Cond.code Lib.Math.max.name Lib.Math.max.code 2 (some .int) ∈ Ts) (hf : 1 ≤ R.frames) (hlo : (st.map fun v => v.category).sum + 13 ≤ R.locals) (kk : gG p l e R s m args below meth c Q D cl A wl nL (pc + 3) lv (iv (xmax x y) :: st) M) : gG p l e R s m args below meth c Q D cl A wl nL pc lv (iv y :: iv x :: st) M := by
  intro H locs ls hP hS hL
  have hts := C.2.2.2.2.1
  refine va_mmax C.1 C.2.1 (by rw [C.2.2.1]; exact hL.1.symm) C.2.2.2.1 (hts _ h1) (hts _ h2) (hts _ h3) (hts _ h4) hf hlo (Nat.zero_le _) (Nat.zero_le _) hd ?_
  have h := kk H locs ls hP hS hL
  unfold xmax at h
  have e := ofInt_lt_iff x y
  by_cases q : wrap x < wrap y
  · rw [if_pos q] at h; rw [if_pos (e.mpr q)]; exact h
  · rw [if_neg q] at h; rw [if_neg (fun z => q (e.mp z))]; exact h
theorem g_mmin (C : gC p R s m args c D cl tys A wl nL cc own Ts Z) {idx : Nat} {x y : Int} (hd : decode cc pc = .ok (.invokestatic idx, 3)) (h1 : Cond.methodLink own idx Lib.Math.min.name ∈ Ts) (h2 : Cond.static Lib.Math.min.name ∈ Ts) (h3 : Cond.initialized "java/lang/Math" ∈ Ts) (h4 : Cond.code Lib.Math.min.name Lib.Math.min.code 2 (some .int) ∈ Ts) (hf : 1 ≤ R.frames) (hlo : (st.map fun v => v.category).sum + 13 ≤ R.locals) (kk : gG p l e R s m args below meth c Q D cl A wl nL (pc + 3) lv (iv (xmin x y) :: st) M) : gG p l e R s m args below meth c Q D cl A wl nL pc lv (iv y :: iv x :: st) M := by
  intro H locs ls hP hS hL
  have hts := C.2.2.2.2.1
  refine va_mmin C.1 C.2.1 (by rw [C.2.2.1]; exact hL.1.symm) C.2.2.2.1 (hts _ h1) (hts _ h2) (hts _ h3) (hts _ h4) hf hlo (Nat.zero_le _) (Nat.zero_le _) hd ?_
  have h := kk H locs ls hP hS hL
  unfold xmin at h
  have e := ofInt_lt_iff y x
  by_cases q : wrap y < wrap x
  · rw [if_pos q] at h; rw [if_pos (e.mpr q)]; exact h
  · rw [if_neg q] at h; rw [if_neg (fun z => q (e.mp z))]; exact h
theorem g_mabs (C : gC p R s m args c D cl tys A wl nL cc own Ts Z) {idx : Nat} {x : Int} (hd : decode cc pc = .ok (.invokestatic idx, 3)) (h1 : Cond.methodLink own idx Lib.Math.abs.name ∈ Ts) (h2 : Cond.static Lib.Math.abs.name ∈ Ts) (h3 : Cond.initialized "java/lang/Math" ∈ Ts) (h4 : Cond.code Lib.Math.abs.name Lib.Math.abs.code 1 (some .int) ∈ Ts) (hf : 1 ≤ R.frames) (hlo : (st.map fun v => v.category).sum + 13 ≤ R.locals) (kk : gG p l e R s m args below meth c Q D cl A wl nL (pc + 3) lv (iv (xabs x) :: st) M) : gG p l e R s m args below meth c Q D cl A wl nL pc lv (iv x :: st) M := by
  intro H locs ls hP hS hL
  have hts := C.2.2.2.2.1
  refine va_mabs C.1 C.2.1 (by rw [C.2.2.1]; exact hL.1.symm) C.2.2.2.1 (hts _ h1) (hts _ h2) (hts _ h3) (hts _ h4) hf hlo (Nat.zero_le _) (Nat.zero_le _) hd ?_
  have h := kk H locs ls hP hS hL
  unfold xabs at h
  have e : (0 : Int32) ≤ Int32.ofInt x ↔ 0 ≤ wrap x := by
    have h0 := ofInt_le_iff 0 x
    rw [wrap_0] at h0
    exact h0
  by_cases q : 0 ≤ wrap x
  · rw [if_pos q] at h; rw [if_pos (e.mpr q)]; exact h
  · rw [if_neg q] at h; rw [if_neg (fun z => q (e.mp z))]
    unfold iv at h
    rw [Int32.ofInt_sub] at h
    exact h
end GMATH
end
section
-- the reference's names, words, fields
def RX9 : String := "OldBronzeModel"
def TX9 : u_T := fun k => match k with
  | 0 => ("OldBronzeModel", "s", "[I", true)
  | 1 => ("OldBronzeModel", "kept", "[I", true)
  | 2 => ("OldBronzeModel", "put", "[I", true)
  | 3 => ("OldBronzeModel", "images", "I", false)
  | 4 => ("OldBronzeModel", "errors", "[I", true)
  | 5 => ("OldBronzeModel", "at", "I", false)
  | 6 => ("OldBronzeModel", "open", "I", false)
  | 7 => ("OldBronzeModel", "steps", "I", false)
  | 8 => ("OldBronzeModel", "use", "I", false)
  | 9 => ("OldBronzeModel", "step", "[I", true)
  | 10 => ("OldBronzeModel", "named", "[I", true)
  | 11 => ("OldBronzeModel", "pile", "[I", true)
  | 12 => ("OldBronzeModel", "fit", "[I", true)
  | 13 => ("OldBronzeModel", "many", "I", false)
  | 14 => ("OldBronzeModel", "seen", "[I", true)
  | 15 => ("OldBronzeModel", "trace", "[I", true)
  | 16 => ("OldBronzeModel", "traced", "I", false)
  | 17 => ("OldBronzeModel", "speaks", "I", false)
  | 18 => ("OldBronzeModel", "isParted", "Z", false)
  | 19 => ("OldBronzeModel", "bits", "[I", true)
  | 20 => ("OldBronzeModel", "sizes", "[I", true)
  | 21 => ("OldBronzeModel", "number", "[I", true)
  | _ => ("OldBronzeModel", "aside", "[I", true)
def tyX9 : Nat → FieldType := fun k => match k with
  | 0 => .array .int
  | 1 => .array .int
  | 2 => .array .int
  | 3 => .int
  | 4 => .array .int
  | 5 => .int
  | 6 => .int
  | 7 => .int
  | 8 => .int
  | 9 => .array .int
  | 10 => .array .int
  | 11 => .array .int
  | 12 => .array .int
  | 13 => .int
  | 14 => .array .int
  | 15 => .array .int
  | 16 => .int
  | 17 => .int
  | 18 => .boolean
  | 19 => .array .int
  | 20 => .array .int
  | 21 => .array .int
  | _ => .array .int
abbrev wsX90 : List Cond := u_ws RX9 TX9 23
theorem nmX9 : ∀ a, a < 23 → ∀ b, b < 23 → a ≠ b → (TX9 a).2.1 ≠ (TX9 b).2.1 := by decide +kernel
theorem tyX9_ok : ∀ k, k < 23 → parseFieldDescriptor (TX9 k).2.2.1 = some (tyX9 k) := by decide +kernel
abbrev cX9_init : ByteArray := prog_11_method_1_code
def yX9_init : MethodName := ⟨RX9, "<init>", "()V"⟩
abbrev cX9_error : ByteArray := prog_11_method_2_code
def yX9_error : MethodName := ⟨RX9, "error", "(I)I"⟩
abbrev cX9_in : ByteArray := prog_11_method_3_code
def yX9_in : MethodName := ⟨RX9, "in", "(III)Z"⟩
abbrev cX9_held : ByteArray := prog_11_method_4_code
def yX9_held : MethodName := ⟨RX9, "held", "(III)I"⟩
abbrev cX9_carry : ByteArray := prog_11_method_5_code
def yX9_carry : MethodName := ⟨RX9, "carry", "([I[I)V"⟩
abbrev cX9_isThing : ByteArray := prog_11_method_6_code
def yX9_isThing : MethodName := ⟨RX9, "isThing", "(I)Z"⟩
abbrev cX9_its : ByteArray := prog_11_method_7_code
def yX9_its : MethodName := ⟨RX9, "its", "(II)I"⟩
abbrev cX9_lays1 : ByteArray := prog_11_method_8_code
def yX9_lays1 : MethodName := ⟨RX9, "lays1", "(III)V"⟩
abbrev cX9_addThing : ByteArray := prog_11_method_9_code
def yX9_addThing : MethodName := ⟨RX9, "addThing", "(I)I"⟩
abbrev cX9_thing : ByteArray := prog_11_method_10_code
def yX9_thing : MethodName := ⟨RX9, "thing", "(II)I"⟩
abbrev cX9_told1 : ByteArray := prog_11_method_11_code
def yX9_told1 : MethodName := ⟨RX9, "told1", "(II)I"⟩
abbrev cX9_thingIs : ByteArray := prog_11_method_12_code
def yX9_thingIs : MethodName := ⟨RX9, "thingIs", "(II)I"⟩
abbrev cX9_isUnder : ByteArray := prog_11_method_13_code
def yX9_isUnder : MethodName := ⟨RX9, "isUnder", "(II)Z"⟩
abbrev cX9_as : ByteArray := prog_11_method_14_code
def yX9_as : MethodName := ⟨RX9, "as", "(II)I"⟩
abbrev cX9_set : ByteArray := prog_11_method_15_code
def yX9_set : MethodName := ⟨RX9, "set", "(III)I"⟩
abbrev cX9_moves : ByteArray := prog_11_method_16_code
def yX9_moves : MethodName := ⟨RX9, "moves", "(III)V"⟩
abbrev cX9_melt : ByteArray := prog_11_method_17_code
def yX9_melt : MethodName := ⟨RX9, "melt", "(II)I"⟩
abbrev cX9_crucible : ByteArray := prog_11_method_18_code
def yX9_crucible : MethodName := ⟨RX9, "crucible", "(I)I"⟩
abbrev cX9_partOf : ByteArray := prog_11_method_19_code
def yX9_partOf : MethodName := ⟨RX9, "partOf", "(III)I"⟩
abbrev cX9_cast : ByteArray := prog_11_method_20_code
def yX9_cast : MethodName := ⟨RX9, "cast", "(III)I"⟩
abbrev cX9_draw : ByteArray := prog_11_method_21_code
def yX9_draw : MethodName := ⟨RX9, "draw", "()I"⟩
abbrev cX9_year : ByteArray := prog_11_method_22_code
def yX9_year : MethodName := ⟨RX9, "year", "()V"⟩
abbrev cX9_go : ByteArray := prog_11_method_23_code
def yX9_go : MethodName := ⟨RX9, "go", "(I)V"⟩
abbrev cX9_allGrams : ByteArray := prog_11_method_24_code
def yX9_allGrams : MethodName := ⟨RX9, "allGrams", "()I"⟩
abbrev cX9_years : ByteArray := prog_11_method_25_code
def yX9_years : MethodName := ⟨RX9, "years", "(I)I"⟩
abbrev cX9_then : ByteArray := prog_11_method_26_code
def yX9_then : MethodName := ⟨RX9, "then", "(III)I"⟩
abbrev cX9_seed : ByteArray := prog_11_method_27_code
def yX9_seed : MethodName := ⟨RX9, "seed", "(I)I"⟩
abbrev cX9_feed : ByteArray := prog_11_method_28_code
def yX9_feed : MethodName := ⟨RX9, "feed", "(JI)I"⟩
abbrev cX9_look : ByteArray := prog_11_method_29_code
def yX9_look : MethodName := ⟨RX9, "look", "()I"⟩
abbrev cX9_isName : ByteArray := prog_11_method_30_code
def yX9_isName : MethodName := ⟨RX9, "isName", "(I)Z"⟩
abbrev cX9_lays : ByteArray := prog_11_method_31_code
def yX9_lays : MethodName := ⟨RX9, "lays", "(II)V"⟩
abbrev cX9_whole : ByteArray := prog_11_method_32_code
def yX9_whole : MethodName := ⟨RX9, "whole", "()Z"⟩
abbrev cX9_both : ByteArray := prog_11_method_33_code
def yX9_both : MethodName := ⟨RX9, "both", "()Z"⟩
abbrev cX9_compared : ByteArray := prog_11_method_34_code
def yX9_compared : MethodName := ⟨RX9, "compared", "()Z"⟩
abbrev cX9_sum : ByteArray := prog_11_method_35_code
def yX9_sum : MethodName := ⟨RX9, "sum", "()Z"⟩
abbrev cX9_product : ByteArray := prog_11_method_36_code
def yX9_product : MethodName := ⟨RX9, "product", "()Z"⟩
abbrev cX9_opens : ByteArray := prog_11_method_37_code
def yX9_opens : MethodName := ⟨RX9, "opens", "()Z"⟩
abbrev cX9_one : ByteArray := prog_11_method_38_code
def yX9_one : MethodName := ⟨RX9, "one", "()Z"⟩
abbrev cX9_hasText : ByteArray := prog_11_method_39_code
def yX9_hasText : MethodName := ⟨RX9, "hasText", "(I)Z"⟩
abbrev cX9_text : ByteArray := prog_11_method_40_code
def yX9_text : MethodName := ⟨RX9, "text", "(I)I"⟩
abbrev cX9_untell : ByteArray := prog_11_method_41_code
def yX9_untell : MethodName := ⟨RX9, "untell", "(I)I"⟩
abbrev cX9_joined : ByteArray := prog_11_method_42_code
def yX9_joined : MethodName := ⟨RX9, "joined", "(III)I"⟩
abbrev cX9_worked : ByteArray := prog_11_method_43_code
def yX9_worked : MethodName := ⟨RX9, "worked", "(I)I"⟩
abbrev cX9_thousandths : ByteArray := prog_11_method_44_code
def yX9_thousandths : MethodName := ⟨RX9, "thousandths", "(I)I"⟩
abbrev cX9_rings : ByteArray := prog_11_method_45_code
def yX9_rings : MethodName := ⟨RX9, "rings", "(I)I"⟩
abbrev cX9_tone : ByteArray := prog_11_method_46_code
def yX9_tone : MethodName := ⟨RX9, "tone", "(I)I"⟩
abbrev cX9_isClaim : ByteArray := prog_11_method_47_code
def yX9_isClaim : MethodName := ⟨RX9, "isClaim", "(I)Z"⟩
abbrev cX9_of : ByteArray := prog_11_method_48_code
def yX9_of : MethodName := ⟨RX9, "of", "(II)I"⟩
abbrev cX9_manyOn : ByteArray := prog_11_method_49_code
def yX9_manyOn : MethodName := ⟨RX9, "manyOn", "(I)I"⟩
abbrev cX9_counts : ByteArray := prog_11_method_50_code
def yX9_counts : MethodName := ⟨RX9, "counts", "(I)I"⟩
abbrev cX9_claim : ByteArray := prog_11_method_51_code
def yX9_claim : MethodName := ⟨RX9, "claim", "(II)I"⟩
abbrev cX9_claimIs : ByteArray := prog_11_method_52_code
def yX9_claimIs : MethodName := ⟨RX9, "claimIs", "(II)I"⟩
abbrev cX9_countsBelow : ByteArray := prog_11_method_53_code
def yX9_countsBelow : MethodName := ⟨RX9, "countsBelow", "(II)I"⟩
abbrev cX9_shareOf : ByteArray := prog_11_method_54_code
def yX9_shareOf : MethodName := ⟨RX9, "shareOf", "(II)I"⟩
abbrev cX9_isLaw : ByteArray := prog_11_method_55_code
def yX9_isLaw : MethodName := ⟨RX9, "isLaw", "(I)Z"⟩
abbrev cX9_share : ByteArray := prog_11_method_56_code
def yX9_share : MethodName := ⟨RX9, "share", "(II)I"⟩
abbrev cX9_left : ByteArray := prog_11_method_57_code
def yX9_left : MethodName := ⟨RX9, "left", "(II)I"⟩
abbrev cX9_isPaper : ByteArray := prog_11_method_58_code
def yX9_isPaper : MethodName := ⟨RX9, "isPaper", "(III)Z"⟩
abbrev cX9_addPaper : ByteArray := prog_11_method_59_code
def yX9_addPaper : MethodName := ⟨RX9, "addPaper", "(III)V"⟩
abbrev cX9_paper : ByteArray := prog_11_method_60_code
def yX9_paper : MethodName := ⟨RX9, "paper", "(III)I"⟩
abbrev cX9_weigh : ByteArray := prog_11_method_61_code
def yX9_weigh : MethodName := ⟨RX9, "weigh", "(III)I"⟩
abbrev cX9_forget : ByteArray := prog_11_method_62_code
def yX9_forget : MethodName := ⟨RX9, "forget", "(I)I"⟩
abbrev cX9_allPapers : ByteArray := prog_11_method_63_code
def yX9_allPapers : MethodName := ⟨RX9, "allPapers", "()I"⟩
abbrev cX9_isHistory : ByteArray := prog_11_method_64_code
def yX9_isHistory : MethodName := ⟨RX9, "isHistory", "(I)Z"⟩
abbrev cX9_goesBy : ByteArray := prog_11_method_65_code
def yX9_goesBy : MethodName := ⟨RX9, "goesBy", "(I)V"⟩
abbrev cX9_after : ByteArray := prog_11_method_66_code
def yX9_after : MethodName := ⟨RX9, "after", "(III)I"⟩
abbrev cX9_by : ByteArray := prog_11_method_67_code
def yX9_by : MethodName := ⟨RX9, "by", "(III)I"⟩
abbrev cX9_doesFit : ByteArray := prog_11_method_68_code
def yX9_doesFit : MethodName := ⟨RX9, "doesFit", "(I)Z"⟩
abbrev cX9_findFits : ByteArray := prog_11_method_69_code
def yX9_findFits : MethodName := ⟨RX9, "findFits", "()V"⟩
abbrev cX9_bitsOf : ByteArray := prog_11_method_70_code
def yX9_bitsOf : MethodName := ⟨RX9, "bitsOf", "(I)I"⟩
abbrev cX9_fits : ByteArray := prog_11_method_71_code
def yX9_fits : MethodName := ⟨RX9, "fits", "(I)I"⟩
abbrev cX9_span : ByteArray := prog_11_method_72_code
def yX9_span : MethodName := ⟨RX9, "span", "(III)I"⟩
abbrev cX9_heap : ByteArray := prog_11_method_73_code
def yX9_heap : MethodName := ⟨RX9, "heap", "(I)I"⟩
abbrev cX9_next : ByteArray := prog_11_method_74_code
def yX9_next : MethodName := ⟨RX9, "next", "()I"⟩
abbrev cX9_together : ByteArray := prog_11_method_75_code
def yX9_together : MethodName := ⟨RX9, "together", "(II)I"⟩
abbrev cX9_haveGrams : ByteArray := prog_11_method_76_code
def yX9_haveGrams : MethodName := ⟨RX9, "haveGrams", "(I)Z"⟩
abbrev cX9_most : ByteArray := prog_11_method_77_code
def yX9_most : MethodName := ⟨RX9, "most", "(III)I"⟩
abbrev cX9_begins : ByteArray := prog_11_method_78_code
def yX9_begins : MethodName := ⟨RX9, "begins", "(I)V"⟩
abbrev cX9_above : ByteArray := prog_11_method_79_code
def yX9_above : MethodName := ⟨RX9, "above", "(I)I"⟩
abbrev cX9_kindNow : ByteArray := prog_11_method_80_code
def yX9_kindNow : MethodName := ⟨RX9, "kindNow", "()I"⟩
abbrev cX9_mNow : ByteArray := prog_11_method_81_code
def yX9_mNow : MethodName := ⟨RX9, "mNow", "()I"⟩
abbrev cX9_ringsBy : ByteArray := prog_11_method_82_code
def yX9_ringsBy : MethodName := ⟨RX9, "ringsBy", "(II)I"⟩
abbrev cX9_weighsBy : ByteArray := prog_11_method_83_code
def yX9_weighsBy : MethodName := ⟨RX9, "weighsBy", "(II)I"⟩
abbrev cX9_meltsBy : ByteArray := prog_11_method_84_code
def yX9_meltsBy : MethodName := ⟨RX9, "meltsBy", "(II)I"⟩
abbrev cX9_partsBy : ByteArray := prog_11_method_85_code
def yX9_partsBy : MethodName := ⟨RX9, "partsBy", "(II)I"⟩
abbrev cX9_voice : ByteArray := prog_11_method_86_code
def yX9_voice : MethodName := ⟨RX9, "voice", "(III)I"⟩
abbrev cX9_body : ByteArray := prog_11_method_87_code
def yX9_body : MethodName := ⟨RX9, "body", "(I)I"⟩
abbrev cX9_isSheet : ByteArray := prog_11_method_88_code
def yX9_isSheet : MethodName := ⟨RX9, "isSheet", "(I)Z"⟩
abbrev cX9_sheet : ByteArray := prog_11_method_89_code
def yX9_sheet : MethodName := ⟨RX9, "sheet", "(III)I"⟩
abbrev cX9_put : ByteArray := prog_11_method_90_code
def yX9_put : MethodName := ⟨RX9, "put", "(III)I"⟩
abbrev cX9_move : ByteArray := prog_11_method_91_code
def yX9_move : MethodName := ⟨RX9, "move", "(IIIII)I"⟩
abbrev cX9_lacks : ByteArray := prog_11_method_92_code
def yX9_lacks : MethodName := ⟨RX9, "lacks", "(I)I"⟩
abbrev cX9_papers : ByteArray := prog_11_method_93_code
def yX9_papers : MethodName := ⟨RX9, "papers", "(I)I"⟩
abbrev cX9_judge : ByteArray := prog_11_method_94_code
def yX9_judge : MethodName := ⟨RX9, "judge", "(II)I"⟩
abbrev cX9_image : ByteArray := prog_11_method_95_code
def yX9_image : MethodName := ⟨RX9, "image", "()I"⟩
abbrev cX9_restore : ByteArray := prog_11_method_96_code
def yX9_restore : MethodName := ⟨RX9, "restore", "()I"⟩
abbrev cX9_tell : ByteArray := prog_11_method_97_code
def yX9_tell : MethodName := ⟨RX9, "tell", "(I)I"⟩
abbrev cX9_check : ByteArray := prog_11_method_98_code
def yX9_check : MethodName := ⟨RX9, "check", "()I"⟩
abbrev cX9_count : ByteArray := prog_11_method_99_code
def yX9_count : MethodName := ⟨RX9, "count", "(I)I"⟩
abbrev cX9_told : ByteArray := prog_11_method_100_code
def yX9_told : MethodName := ⟨RX9, "told", "(I)I"⟩

theorem gV_good {Ts : List Cond} (hT : ∀ w ∈ Ts, goodWord w = true) {own : String} {idx : Nat} {y : MethodName} {b : ByteArray} {n : Nat} {rt : Option FieldType} (h1 : Cond.methodLink own idx y ∈ Ts) (h2 : Cond.instanceMethod y ∈ Ts) (h3 : Cond.selects y.cls y y ∈ Ts) (h4 : Cond.initialized y.cls ∈ Ts) (h5 : Cond.code y b n rt ∈ Ts) : GoodIn Ts (wsV own idx y.cls y (Cond.code y b n rt :: Ts)) := by
  intro w hw
  have h : w ∈ Ts := by
    simp only [wsV, List.cons_append, List.nil_append, List.mem_cons] at hw
    rcases hw with rfl | rfl | rfl | rfl | rfl | h
    · exact h1
    · exact h2
    · exact h3
    · exact h4
    · exact h5
    · exact h
  exact ⟨h, good_of_word (hT w h)⟩
theorem gS_good {Ts : List Cond} (hT : ∀ w ∈ Ts, goodWord w = true) {own : String} {idx : Nat} {y : MethodName} {b : ByteArray} {n : Nat} {rt : Option FieldType} (h1 : Cond.methodLink own idx y ∈ Ts) (h2 : Cond.static y ∈ Ts) (h4 : Cond.initialized y.cls ∈ Ts) (h5 : Cond.code y b n rt ∈ Ts) : GoodIn Ts (va_wsS own idx y (Cond.code y b n rt :: Ts)) := by
  intro w hw
  have h : w ∈ Ts := by
    simp only [va_wsS, List.cons_append, List.nil_append, List.mem_cons] at hw
    rcases hw with rfl | rfl | rfl | rfl | h
    · exact h1
    · exact h2
    · exact h4
    · exact h5
    · exact h
  exact ⟨h, good_of_word (hT w h)⟩
def tRa : List Cond := [
  .methodLink RX9 1 objectInit,
  .instanceMethod objectInit,
  .code objectInit ⟨#[0xb1]⟩ 1 none,
  .arrayClass .int,
  .fieldLink RX9 7 "OldBronzeModel" "s" "[I",
  .fieldLink RX9 13 "OldBronzeModel" "kept" "[I",
  .fieldLink RX9 16 "OldBronzeModel" "put" "[I",
  .fieldLink RX9 19 "OldBronzeModel" "errors" "[I",
  .fieldLink RX9 22 "OldBronzeModel" "step" "[I",
  .fieldLink RX9 25 "OldBronzeModel" "named" "[I",
  .fieldLink RX9 28 "OldBronzeModel" "pile" "[I",
  .fieldLink RX9 31 "OldBronzeModel" "fit" "[I",
  .fieldLink RX9 34 "OldBronzeModel" "seen" "[I",
  .fieldLink RX9 37 "OldBronzeModel" "trace" "[I",
  .fieldLink RX9 40 "OldBronzeModel" "bits" "[I",
  .fieldLink RX9 43 "OldBronzeModel" "sizes" "[I",
  .fieldLink RX9 46 "OldBronzeModel" "number" "[I",
  .fieldLink RX9 49 "OldBronzeModel" "aside" "[I",
  .code yX9_init cX9_init 1 none,
  .constant RX9 52 (-1000000000),
  .code yX9_error cX9_error 2 (some .int),
  .code yX9_in cX9_in 3 (some .boolean),
  .code yX9_held cX9_held 3 (some .int),
  .code yX9_carry cX9_carry 3 none,
  .methodLink RX9 53 yX9_in,
  .static yX9_in,
  .initialized RX9,
  .code yX9_isThing cX9_isThing 2 (some .boolean),
  .code yX9_its cX9_its 3 (some .int),
  .code yX9_lays1 cX9_lays1 4 none,
  .methodLink RX9 57 yX9_lays1,
  .instanceMethod yX9_lays1,
  .selects RX9 yX9_lays1 yX9_lays1,
  .code yX9_addThing cX9_addThing 4 (some .int),
  .constant RX9 61 (9999999),
  .constant RX9 69 (1000000),
  .methodLink RX9 62 yX9_error,
  .instanceMethod yX9_error,
  .selects RX9 yX9_error yX9_error,
  .methodLink RX9 66 yX9_addThing,
  .instanceMethod yX9_addThing,
  .selects RX9 yX9_addThing yX9_addThing,
  .code yX9_thing cX9_thing 4 (some .int),
  .code yX9_partOf cX9_partOf 3 (some .int),
  .methodLink RX9 73 yX9_its,
  .instanceMethod yX9_its,
  .selects RX9 yX9_its yX9_its,
  .methodLink RX9 99 yX9_partOf,
  .static yX9_partOf,
  .code yX9_thousandths cX9_thousandths 2 (some .int),
  .code yX9_hasText cX9_hasText 2 (some .boolean),
  .code yX9_joined cX9_joined 3 (some .int),
  .methodLink RX9 171 yX9_joined,
  .static yX9_joined,
  .code yX9_worked cX9_worked 7 (some .int),
  .methodLink RX9 174 yX9_thousandths,
  .instanceMethod yX9_thousandths,
  .selects RX9 yX9_thousandths yX9_thousandths,
  .methodLink RX9 168 yX9_hasText,
  .instanceMethod yX9_hasText,
  .selects RX9 yX9_hasText yX9_hasText,
  .methodLink RX9 92 yX9_held,
  .static yX9_held,
  .methodLink RX9 177 yX9_worked,
  .instanceMethod yX9_worked,
  .selects RX9 yX9_worked yX9_worked,
  .code yX9_rings cX9_rings 3 (some .int),
  .methodLink RX9 180 yX9_rings,
  .instanceMethod yX9_rings,
  .selects RX9 yX9_rings yX9_rings,
  .code yX9_tone cX9_tone 4 (some .int),
  .methodLink RX9 70 yX9_tone,
  .instanceMethod yX9_tone,
  .selects RX9 yX9_tone yX9_tone,
  .code yX9_told1 cX9_told1 3 (some .int),
  .methodLink RX9 77 yX9_isThing,
  .instanceMethod yX9_isThing,
  .selects RX9 yX9_isThing yX9_isThing,
  .methodLink RX9 81 yX9_told1,
  .instanceMethod yX9_told1,
  .selects RX9 yX9_told1 yX9_told1,
  .code yX9_thingIs cX9_thingIs 3 (some .int),
  .code yX9_isUnder cX9_isUnder 2 (some .boolean),
  .methodLink RX9 84 yX9_isUnder,
  .static yX9_isUnder,
  .code yX9_as cX9_as 3 (some .int),
  .code yX9_set cX9_set 5 (some .int),
  .constantLong RX9 88 (8),
  .constantLong RX9 90 (9999999),
  .code yX9_moves cX9_moves 11 none,
  .methodLink RX9 96 yX9_moves,
  .instanceMethod yX9_moves,
  .selects RX9 yX9_moves yX9_moves,
  .code yX9_melt cX9_melt 3 (some .int),
  .code yX9_crucible cX9_crucible 2 (some .int),
  .code yX9_cast cX9_cast 16 (some .int),
  .constant RX9 102 (1103515245),
  .code yX9_draw cX9_draw 1 (some .int),
  .methodLink RX9 103 yX9_draw,
  .instanceMethod yX9_draw,
  .selects RX9 yX9_draw yX9_draw,
  .code yX9_year cX9_year 3 none,
  .methodLink RX9 107 yX9_year,
  .instanceMethod yX9_year,
  .selects RX9 yX9_year yX9_year,
  .code yX9_go cX9_go 3 none,
  .code yX9_allGrams cX9_allGrams 3 (some .int),
  .methodLink RX9 110 yX9_go,
  .instanceMethod yX9_go,
  .selects RX9 yX9_go yX9_go,
  .methodLink RX9 114 yX9_allGrams,
  .instanceMethod yX9_allGrams,
  .selects RX9 yX9_allGrams yX9_allGrams,
  .code yX9_years cX9_years 2 (some .int),
  .methodLink RX9 117 yX9_carry,
  .static yX9_carry,
  .code yX9_then cX9_then 5 (some .int),
  .code yX9_seed cX9_seed 3 (some .int),
  .constantLong RX9 121 (255),
  .code yX9_feed cX9_feed 5 (some .int),
  .fieldLink RX9 123 "OldBronzeModel" "at" "I",
  .code yX9_look cX9_look 1 (some .int),
  .fieldLink RX9 127 "OldBronzeModel" "use" "I",
  .code yX9_isName cX9_isName 2 (some .boolean),
  .fieldLink RX9 130 "OldBronzeModel" "steps" "I",
  .code yX9_lays cX9_lays 3 none,
  .fieldLink RX9 156 "OldBronzeModel" "open" "I",
  .code yX9_opens cX9_opens 1 (some .boolean),
  .methodLink RX9 144 yX9_compared,
  .instanceMethod yX9_compared,
  .selects RX9 yX9_compared yX9_compared,
  .methodLink RX9 137 yX9_look,
  .instanceMethod yX9_look,
  .selects RX9 yX9_look yX9_look,
  .methodLink RX9 140 yX9_lays,
  .instanceMethod yX9_lays,
  .selects RX9 yX9_lays yX9_lays,
  .code yX9_compared cX9_compared 2 (some .boolean),
  .methodLink RX9 147 yX9_sum,
  .instanceMethod yX9_sum,
  .selects RX9 yX9_sum yX9_sum,
  .code yX9_one cX9_one 4 (some .boolean),
  .methodLink RX9 159 yX9_isName,
  .instanceMethod yX9_isName,
  .selects RX9 yX9_isName yX9_isName,
  .methodLink RX9 162 yX9_opens,
  .instanceMethod yX9_opens,
  .selects RX9 yX9_opens yX9_opens,
  .methodLink RX9 153 yX9_one,
  .instanceMethod yX9_one,
  .selects RX9 yX9_one yX9_one,
  .methodLink RX9 165 yX9_whole,
  .instanceMethod yX9_whole,
  .selects RX9 yX9_whole yX9_whole,
  .code yX9_product cX9_product 2 (some .boolean),
  .code yX9_sum cX9_sum 2 (some .boolean),
  .methodLink RX9 150 yX9_product,
  .instanceMethod yX9_product,
  .selects RX9 yX9_product yX9_product,
  .code yX9_whole cX9_whole 1 (some .boolean),
  .methodLink RX9 133 yX9_both,
  .instanceMethod yX9_both,
  .selects RX9 yX9_both yX9_both,
  .code yX9_both cX9_both 1 (some .boolean),
  .code yX9_text cX9_text 5 (some .int),
  .code yX9_untell cX9_untell 3 (some .int),
  .code yX9_isClaim cX9_isClaim 2 (some .boolean),
  .code yX9_of cX9_of 3 (some .int),
  .methodLink RX9 183 yX9_of,
  .instanceMethod yX9_of,
  .selects RX9 yX9_of yX9_of,
  .code yX9_manyOn cX9_manyOn 4 (some .int),
  .methodLink RX9 186 yX9_manyOn,
  .instanceMethod yX9_manyOn,
  .selects RX9 yX9_manyOn yX9_manyOn,
  .code yX9_counts cX9_counts 3 (some .int),
  .constant RX9 189 (99999),
  .code yX9_claim cX9_claim 3 (some .int),
  .methodLink RX9 190 yX9_isClaim,
  .instanceMethod yX9_isClaim,
  .selects RX9 yX9_isClaim yX9_isClaim,
  .methodLink RX9 193 yX9_counts,
  .instanceMethod yX9_counts,
  .selects RX9 yX9_counts yX9_counts,
  .code yX9_claimIs cX9_claimIs 3 (some .int),
  .code yX9_countsBelow cX9_countsBelow 5 (some .int),
  .methodLink RX9 196 yX9_countsBelow,
  .instanceMethod yX9_countsBelow,
  .selects RX9 yX9_countsBelow yX9_countsBelow,
  .code yX9_shareOf cX9_shareOf 7 (some .int),
  .code yX9_isLaw cX9_isLaw 1 (some .boolean),
  .methodLink RX9 199 yX9_isLaw,
  .static yX9_isLaw,
  .methodLink RX9 202 yX9_shareOf,
  .instanceMethod yX9_shareOf,
  .selects RX9 yX9_shareOf yX9_shareOf,
  .code yX9_share cX9_share 3 (some .int),
  .code yX9_left cX9_left 5 (some .int),
  .code yX9_isPaper cX9_isPaper 4 (some .boolean),
  .code yX9_addPaper cX9_addPaper 5 none,
  .methodLink RX9 205 yX9_isPaper,
  .instanceMethod yX9_isPaper,
  .selects RX9 yX9_isPaper yX9_isPaper,
  .methodLink RX9 208 yX9_addPaper,
  .instanceMethod yX9_addPaper,
  .selects RX9 yX9_addPaper yX9_addPaper,
  .code yX9_paper cX9_paper 4 (some .int),
  .code yX9_weigh cX9_weigh 5 (some .int),
  .code yX9_forget cX9_forget 3 (some .int),
  .code yX9_allPapers cX9_allPapers 1 (some .int),
  .methodLink RX9 211 yX9_allPapers,
  .instanceMethod yX9_allPapers,
  .selects RX9 yX9_allPapers yX9_allPapers,
  .code yX9_isHistory cX9_isHistory 2 (some .boolean),
  .code yX9_goesBy cX9_goesBy 3 none,
  .methodLink RX9 214 yX9_goesBy,
  .instanceMethod yX9_goesBy,
  .selects RX9 yX9_goesBy yX9_goesBy,
  .code yX9_after cX9_after 5 (some .int),
  .methodLink RX9 217 yX9_isHistory,
  .instanceMethod yX9_isHistory,
  .selects RX9 yX9_isHistory yX9_isHistory,
  .methodLink RX9 220 yX9_after,
  .instanceMethod yX9_after,
  .selects RX9 yX9_after yX9_after,
  .code yX9_by cX9_by 4 (some .int),
  .code yX9_doesFit cX9_doesFit 6 (some .boolean),
  .fieldLink RX9 223 "OldBronzeModel" "many" "I",
  .methodLink RX9 226 yX9_doesFit,
  .instanceMethod yX9_doesFit,
  .selects RX9 yX9_doesFit yX9_doesFit,
  .code yX9_findFits cX9_findFits 2 none,
  .code yX9_bitsOf cX9_bitsOf 3 (some .int),
  .methodLink RX9 229 yX9_findFits,
  .instanceMethod yX9_findFits,
  .selects RX9 yX9_findFits yX9_findFits,
  .methodLink RX9 232 yX9_bitsOf,
  .static yX9_bitsOf,
  .code yX9_fits cX9_fits 6 (some .int),
  .code yX9_span cX9_span 7 (some .int),
  .code yX9_heap cX9_heap 6 (some .int),
  .methodLink RX9 235 yX9_heap,
  .instanceMethod yX9_heap,
  .selects RX9 yX9_heap yX9_heap,
  .code yX9_next cX9_next 3 (some .int),
  .code yX9_together cX9_together 8 (some .int),
  .code yX9_haveGrams cX9_haveGrams 4 (some .boolean),
  .methodLink RX9 238 yX9_haveGrams,
  .instanceMethod yX9_haveGrams,
  .selects RX9 yX9_haveGrams yX9_haveGrams,
  .methodLink RX9 241 yX9_together,
  .instanceMethod yX9_together,
  .selects RX9 yX9_together yX9_together,
  .code yX9_most cX9_most 7 (some .int),
  .fieldLink RX9 244 "OldBronzeModel" "traced" "I",
  .code yX9_begins cX9_begins 2 none,
  .code yX9_above cX9_above 1 (some .int),
  .fieldLink RX9 247 "OldBronzeModel" "speaks" "I",
  .code yX9_kindNow cX9_kindNow 1 (some .int),
  .code yX9_mNow cX9_mNow 1 (some .int),
  .methodLink RX9 250 yX9_begins,
  .instanceMethod yX9_begins,
  .selects RX9 yX9_begins yX9_begins,
  .methodLink RX9 253 yX9_above,
  .static yX9_above,
  .methodLink RX9 256 yX9_ringsBy,
  .instanceMethod yX9_ringsBy,
  .selects RX9 yX9_ringsBy yX9_ringsBy,
  .code yX9_ringsBy cX9_ringsBy 3 (some .int),
  .methodLink RX9 259 yX9_kindNow,
  .instanceMethod yX9_kindNow,
  .selects RX9 yX9_kindNow yX9_kindNow,
  .methodLink RX9 262 yX9_weighsBy,
  .instanceMethod yX9_weighsBy,
  .selects RX9 yX9_weighsBy yX9_weighsBy,
  .methodLink RX9 265 yX9_mNow,
  .instanceMethod yX9_mNow,
  .selects RX9 yX9_mNow yX9_mNow,
  .code yX9_weighsBy cX9_weighsBy 3 (some .int),
  .methodLink RX9 268 yX9_meltsBy,
  .instanceMethod yX9_meltsBy,
  .selects RX9 yX9_meltsBy yX9_meltsBy,
  .code yX9_meltsBy cX9_meltsBy 3 (some .int),
  .fieldLink RX9 271 "OldBronzeModel" "isParted" "Z",
  .methodLink RX9 275 yX9_partsBy,
  .instanceMethod yX9_partsBy,
  .selects RX9 yX9_partsBy yX9_partsBy,
  .code yX9_partsBy cX9_partsBy 5 (some .int),
  .code yX9_voice cX9_voice 6 (some .int),
  .code yX9_body cX9_body 2 (some .int),
  .code yX9_isSheet cX9_isSheet 1 (some .boolean),
  .methodLink RX9 278 yX9_isSheet,
  .static yX9_isSheet,
  .code yX9_sheet cX9_sheet 5 (some .int),
  .code yX9_put cX9_put 5 (some .int),
  .code yX9_move cX9_move 7 (some .int),
  .code yX9_lacks cX9_lacks 2 (some .int),
  .methodLink RX9 281 yX9_lacks,
  .instanceMethod yX9_lacks,
  .selects RX9 yX9_lacks yX9_lacks,
  .code yX9_papers cX9_papers 5 (some .int),
  .code yX9_judge cX9_judge 5 (some .int),
  .fieldLink RX9 284 "OldBronzeModel" "images" "I",
  .code yX9_image cX9_image 1 (some .int),
  .code yX9_restore cX9_restore 1 (some .int),
  .code yX9_tell cX9_tell 2 (some .int),
  .code yX9_check cX9_check 3 (some .int),
  .code yX9_count cX9_count 2 (some .int),
  .code yX9_told cX9_told 2 (some .int)]
def tR : List Cond := tRa ++ wsX90
theorem tR_good : ∀ w ∈ tR, goodWord w = true := List.all_eq_true.mp (by decide +kernel)
theorem tR_f : ∀ w ∈ u_ws RX9 TX9 23, w ∈ tR := fun _ h => List.mem_append_right _ h
theorem wi_0 : Cond.methodLink RX9 1 objectInit ∈ tR := List.mem_append_left _ (List.mem_of_getElem? (i := 0) rfl)
theorem wi_1 : Cond.instanceMethod objectInit ∈ tR := List.mem_append_left _ (List.mem_of_getElem? (i := 1) rfl)
theorem wi_2 : Cond.code objectInit ⟨#[0xb1]⟩ 1 none ∈ tR := List.mem_append_left _ (List.mem_of_getElem? (i := 2) rfl)
theorem wi_3 : Cond.arrayClass .int ∈ tR := List.mem_append_left _ (List.mem_of_getElem? (i := 3) rfl)
theorem wi_4 : Cond.fieldLink RX9 7 "OldBronzeModel" "s" "[I" ∈ tR := List.mem_append_left _ (List.mem_of_getElem? (i := 4) rfl)
theorem wi_5 : Cond.fieldLink RX9 13 "OldBronzeModel" "kept" "[I" ∈ tR := List.mem_append_left _ (List.mem_of_getElem? (i := 5) rfl)
theorem wi_6 : Cond.fieldLink RX9 16 "OldBronzeModel" "put" "[I" ∈ tR := List.mem_append_left _ (List.mem_of_getElem? (i := 6) rfl)
theorem wi_7 : Cond.fieldLink RX9 19 "OldBronzeModel" "errors" "[I" ∈ tR := List.mem_append_left _ (List.mem_of_getElem? (i := 7) rfl)
theorem wi_8 : Cond.fieldLink RX9 22 "OldBronzeModel" "step" "[I" ∈ tR := List.mem_append_left _ (List.mem_of_getElem? (i := 8) rfl)
theorem wi_9 : Cond.fieldLink RX9 25 "OldBronzeModel" "named" "[I" ∈ tR := List.mem_append_left _ (List.mem_of_getElem? (i := 9) rfl)
theorem wi_10 : Cond.fieldLink RX9 28 "OldBronzeModel" "pile" "[I" ∈ tR := List.mem_append_left _ (List.mem_of_getElem? (i := 10) rfl)
theorem wi_11 : Cond.fieldLink RX9 31 "OldBronzeModel" "fit" "[I" ∈ tR := List.mem_append_left _ (List.mem_of_getElem? (i := 11) rfl)
theorem wi_12 : Cond.fieldLink RX9 34 "OldBronzeModel" "seen" "[I" ∈ tR := List.mem_append_left _ (List.mem_of_getElem? (i := 12) rfl)
theorem wi_13 : Cond.fieldLink RX9 37 "OldBronzeModel" "trace" "[I" ∈ tR := List.mem_append_left _ (List.mem_of_getElem? (i := 13) rfl)
theorem wi_14 : Cond.fieldLink RX9 40 "OldBronzeModel" "bits" "[I" ∈ tR := List.mem_append_left _ (List.mem_of_getElem? (i := 14) rfl)
theorem wi_15 : Cond.fieldLink RX9 43 "OldBronzeModel" "sizes" "[I" ∈ tR := List.mem_append_left _ (List.mem_of_getElem? (i := 15) rfl)
theorem wi_16 : Cond.fieldLink RX9 46 "OldBronzeModel" "number" "[I" ∈ tR := List.mem_append_left _ (List.mem_of_getElem? (i := 16) rfl)
theorem wi_17 : Cond.fieldLink RX9 49 "OldBronzeModel" "aside" "[I" ∈ tR := List.mem_append_left _ (List.mem_of_getElem? (i := 17) rfl)
theorem wi_18 : Cond.code yX9_init cX9_init 1 none ∈ tR := List.mem_append_left _ (List.mem_of_getElem? (i := 18) rfl)
theorem wi_19 : Cond.constant RX9 52 (-1000000000) ∈ tR := List.mem_append_left _ (List.mem_of_getElem? (i := 19) rfl)
theorem wi_20 : Cond.code yX9_error cX9_error 2 (some .int) ∈ tR := List.mem_append_left _ (List.mem_of_getElem? (i := 20) rfl)
theorem wi_21 : Cond.code yX9_in cX9_in 3 (some .boolean) ∈ tR := List.mem_append_left _ (List.mem_of_getElem? (i := 21) rfl)
theorem wi_22 : Cond.code yX9_held cX9_held 3 (some .int) ∈ tR := List.mem_append_left _ (List.mem_of_getElem? (i := 22) rfl)
theorem wi_23 : Cond.code yX9_carry cX9_carry 3 none ∈ tR := List.mem_append_left _ (List.mem_of_getElem? (i := 23) rfl)
theorem wi_24 : Cond.methodLink RX9 53 yX9_in ∈ tR := List.mem_append_left _ (List.mem_of_getElem? (i := 24) rfl)
theorem wi_25 : Cond.static yX9_in ∈ tR := List.mem_append_left _ (List.mem_of_getElem? (i := 25) rfl)
theorem wi_26 : Cond.initialized RX9 ∈ tR := List.mem_append_left _ (List.mem_of_getElem? (i := 26) rfl)
theorem wi_27 : Cond.code yX9_isThing cX9_isThing 2 (some .boolean) ∈ tR := List.mem_append_left _ (List.mem_of_getElem? (i := 27) rfl)
theorem wi_28 : Cond.code yX9_its cX9_its 3 (some .int) ∈ tR := List.mem_append_left _ (List.mem_of_getElem? (i := 28) rfl)
theorem wi_29 : Cond.code yX9_lays1 cX9_lays1 4 none ∈ tR := List.mem_append_left _ (List.mem_of_getElem? (i := 29) rfl)
theorem wi_30 : Cond.methodLink RX9 57 yX9_lays1 ∈ tR := List.mem_append_left _ (List.mem_of_getElem? (i := 30) rfl)
theorem wi_31 : Cond.instanceMethod yX9_lays1 ∈ tR := List.mem_append_left _ (List.mem_of_getElem? (i := 31) rfl)
theorem wi_32 : Cond.selects RX9 yX9_lays1 yX9_lays1 ∈ tR := List.mem_append_left _ (List.mem_of_getElem? (i := 32) rfl)
theorem wi_33 : Cond.code yX9_addThing cX9_addThing 4 (some .int) ∈ tR := List.mem_append_left _ (List.mem_of_getElem? (i := 33) rfl)
theorem wi_34 : Cond.constant RX9 61 (9999999) ∈ tR := List.mem_append_left _ (List.mem_of_getElem? (i := 34) rfl)
theorem wi_35 : Cond.constant RX9 69 (1000000) ∈ tR := List.mem_append_left _ (List.mem_of_getElem? (i := 35) rfl)
theorem wi_36 : Cond.methodLink RX9 62 yX9_error ∈ tR := List.mem_append_left _ (List.mem_of_getElem? (i := 36) rfl)
theorem wi_37 : Cond.instanceMethod yX9_error ∈ tR := List.mem_append_left _ (List.mem_of_getElem? (i := 37) rfl)
theorem wi_38 : Cond.selects RX9 yX9_error yX9_error ∈ tR := List.mem_append_left _ (List.mem_of_getElem? (i := 38) rfl)
theorem wi_39 : Cond.methodLink RX9 66 yX9_addThing ∈ tR := List.mem_append_left _ (List.mem_of_getElem? (i := 39) rfl)
theorem wi_40 : Cond.instanceMethod yX9_addThing ∈ tR := List.mem_append_left _ (List.mem_of_getElem? (i := 40) rfl)
theorem wi_41 : Cond.selects RX9 yX9_addThing yX9_addThing ∈ tR := List.mem_append_left _ (List.mem_of_getElem? (i := 41) rfl)
theorem wi_42 : Cond.code yX9_thing cX9_thing 4 (some .int) ∈ tR := List.mem_append_left _ (List.mem_of_getElem? (i := 42) rfl)
theorem wi_43 : Cond.code yX9_partOf cX9_partOf 3 (some .int) ∈ tR := List.mem_append_left _ (List.mem_of_getElem? (i := 43) rfl)
theorem wi_44 : Cond.methodLink RX9 73 yX9_its ∈ tR := List.mem_append_left _ (List.mem_of_getElem? (i := 44) rfl)
theorem wi_45 : Cond.instanceMethod yX9_its ∈ tR := List.mem_append_left _ (List.mem_of_getElem? (i := 45) rfl)
theorem wi_46 : Cond.selects RX9 yX9_its yX9_its ∈ tR := List.mem_append_left _ (List.mem_of_getElem? (i := 46) rfl)
theorem wi_47 : Cond.methodLink RX9 99 yX9_partOf ∈ tR := List.mem_append_left _ (List.mem_of_getElem? (i := 47) rfl)
theorem wi_48 : Cond.static yX9_partOf ∈ tR := List.mem_append_left _ (List.mem_of_getElem? (i := 48) rfl)
theorem wi_49 : Cond.code yX9_thousandths cX9_thousandths 2 (some .int) ∈ tR := List.mem_append_left _ (List.mem_of_getElem? (i := 49) rfl)
theorem wi_50 : Cond.code yX9_hasText cX9_hasText 2 (some .boolean) ∈ tR := List.mem_append_left _ (List.mem_of_getElem? (i := 50) rfl)
theorem wi_51 : Cond.code yX9_joined cX9_joined 3 (some .int) ∈ tR := List.mem_append_left _ (List.mem_of_getElem? (i := 51) rfl)
theorem wi_52 : Cond.methodLink RX9 171 yX9_joined ∈ tR := List.mem_append_left _ (List.mem_of_getElem? (i := 52) rfl)
theorem wi_53 : Cond.static yX9_joined ∈ tR := List.mem_append_left _ (List.mem_of_getElem? (i := 53) rfl)
theorem wi_54 : Cond.code yX9_worked cX9_worked 7 (some .int) ∈ tR := List.mem_append_left _ (List.mem_of_getElem? (i := 54) rfl)
theorem wi_55 : Cond.methodLink RX9 174 yX9_thousandths ∈ tR := List.mem_append_left _ (List.mem_of_getElem? (i := 55) rfl)
theorem wi_56 : Cond.instanceMethod yX9_thousandths ∈ tR := List.mem_append_left _ (List.mem_of_getElem? (i := 56) rfl)
theorem wi_57 : Cond.selects RX9 yX9_thousandths yX9_thousandths ∈ tR := List.mem_append_left _ (List.mem_of_getElem? (i := 57) rfl)
theorem wi_58 : Cond.methodLink RX9 168 yX9_hasText ∈ tR := List.mem_append_left _ (List.mem_of_getElem? (i := 58) rfl)
theorem wi_59 : Cond.instanceMethod yX9_hasText ∈ tR := List.mem_append_left _ (List.mem_of_getElem? (i := 59) rfl)
theorem wi_60 : Cond.selects RX9 yX9_hasText yX9_hasText ∈ tR := List.mem_append_left _ (List.mem_of_getElem? (i := 60) rfl)
theorem wi_61 : Cond.methodLink RX9 92 yX9_held ∈ tR := List.mem_append_left _ (List.mem_of_getElem? (i := 61) rfl)
theorem wi_62 : Cond.static yX9_held ∈ tR := List.mem_append_left _ (List.mem_of_getElem? (i := 62) rfl)
theorem wi_63 : Cond.methodLink RX9 177 yX9_worked ∈ tR := List.mem_append_left _ (List.mem_of_getElem? (i := 63) rfl)
theorem wi_64 : Cond.instanceMethod yX9_worked ∈ tR := List.mem_append_left _ (List.mem_of_getElem? (i := 64) rfl)
theorem wi_65 : Cond.selects RX9 yX9_worked yX9_worked ∈ tR := List.mem_append_left _ (List.mem_of_getElem? (i := 65) rfl)
theorem wi_66 : Cond.code yX9_rings cX9_rings 3 (some .int) ∈ tR := List.mem_append_left _ (List.mem_of_getElem? (i := 66) rfl)
theorem wi_67 : Cond.methodLink RX9 180 yX9_rings ∈ tR := List.mem_append_left _ (List.mem_of_getElem? (i := 67) rfl)
theorem wi_68 : Cond.instanceMethod yX9_rings ∈ tR := List.mem_append_left _ (List.mem_of_getElem? (i := 68) rfl)
theorem wi_69 : Cond.selects RX9 yX9_rings yX9_rings ∈ tR := List.mem_append_left _ (List.mem_of_getElem? (i := 69) rfl)
theorem wi_70 : Cond.code yX9_tone cX9_tone 4 (some .int) ∈ tR := List.mem_append_left _ (List.mem_of_getElem? (i := 70) rfl)
theorem wi_71 : Cond.methodLink RX9 70 yX9_tone ∈ tR := List.mem_append_left _ (List.mem_of_getElem? (i := 71) rfl)
theorem wi_72 : Cond.instanceMethod yX9_tone ∈ tR := List.mem_append_left _ (List.mem_of_getElem? (i := 72) rfl)
theorem wi_73 : Cond.selects RX9 yX9_tone yX9_tone ∈ tR := List.mem_append_left _ (List.mem_of_getElem? (i := 73) rfl)
theorem wi_74 : Cond.code yX9_told1 cX9_told1 3 (some .int) ∈ tR := List.mem_append_left _ (List.mem_of_getElem? (i := 74) rfl)
theorem wi_75 : Cond.methodLink RX9 77 yX9_isThing ∈ tR := List.mem_append_left _ (List.mem_of_getElem? (i := 75) rfl)
theorem wi_76 : Cond.instanceMethod yX9_isThing ∈ tR := List.mem_append_left _ (List.mem_of_getElem? (i := 76) rfl)
theorem wi_77 : Cond.selects RX9 yX9_isThing yX9_isThing ∈ tR := List.mem_append_left _ (List.mem_of_getElem? (i := 77) rfl)
theorem wi_78 : Cond.methodLink RX9 81 yX9_told1 ∈ tR := List.mem_append_left _ (List.mem_of_getElem? (i := 78) rfl)
theorem wi_79 : Cond.instanceMethod yX9_told1 ∈ tR := List.mem_append_left _ (List.mem_of_getElem? (i := 79) rfl)
theorem wi_80 : Cond.selects RX9 yX9_told1 yX9_told1 ∈ tR := List.mem_append_left _ (List.mem_of_getElem? (i := 80) rfl)
theorem wi_81 : Cond.code yX9_thingIs cX9_thingIs 3 (some .int) ∈ tR := List.mem_append_left _ (List.mem_of_getElem? (i := 81) rfl)
theorem wi_82 : Cond.code yX9_isUnder cX9_isUnder 2 (some .boolean) ∈ tR := List.mem_append_left _ (List.mem_of_getElem? (i := 82) rfl)
theorem wi_83 : Cond.methodLink RX9 84 yX9_isUnder ∈ tR := List.mem_append_left _ (List.mem_of_getElem? (i := 83) rfl)
theorem wi_84 : Cond.static yX9_isUnder ∈ tR := List.mem_append_left _ (List.mem_of_getElem? (i := 84) rfl)
theorem wi_85 : Cond.code yX9_as cX9_as 3 (some .int) ∈ tR := List.mem_append_left _ (List.mem_of_getElem? (i := 85) rfl)
theorem wi_86 : Cond.code yX9_set cX9_set 5 (some .int) ∈ tR := List.mem_append_left _ (List.mem_of_getElem? (i := 86) rfl)
theorem wi_87 : Cond.constantLong RX9 88 (8) ∈ tR := List.mem_append_left _ (List.mem_of_getElem? (i := 87) rfl)
theorem wi_88 : Cond.constantLong RX9 90 (9999999) ∈ tR := List.mem_append_left _ (List.mem_of_getElem? (i := 88) rfl)
theorem wi_89 : Cond.code yX9_moves cX9_moves 11 none ∈ tR := List.mem_append_left _ (List.mem_of_getElem? (i := 89) rfl)
theorem wi_90 : Cond.methodLink RX9 96 yX9_moves ∈ tR := List.mem_append_left _ (List.mem_of_getElem? (i := 90) rfl)
theorem wi_91 : Cond.instanceMethod yX9_moves ∈ tR := List.mem_append_left _ (List.mem_of_getElem? (i := 91) rfl)
theorem wi_92 : Cond.selects RX9 yX9_moves yX9_moves ∈ tR := List.mem_append_left _ (List.mem_of_getElem? (i := 92) rfl)
theorem wi_93 : Cond.code yX9_melt cX9_melt 3 (some .int) ∈ tR := List.mem_append_left _ (List.mem_of_getElem? (i := 93) rfl)
theorem wi_94 : Cond.code yX9_crucible cX9_crucible 2 (some .int) ∈ tR := List.mem_append_left _ (List.mem_of_getElem? (i := 94) rfl)
theorem wi_95 : Cond.code yX9_cast cX9_cast 16 (some .int) ∈ tR := List.mem_append_left _ (List.mem_of_getElem? (i := 95) rfl)
theorem wi_96 : Cond.constant RX9 102 (1103515245) ∈ tR := List.mem_append_left _ (List.mem_of_getElem? (i := 96) rfl)
theorem wi_97 : Cond.code yX9_draw cX9_draw 1 (some .int) ∈ tR := List.mem_append_left _ (List.mem_of_getElem? (i := 97) rfl)
theorem wi_98 : Cond.methodLink RX9 103 yX9_draw ∈ tR := List.mem_append_left _ (List.mem_of_getElem? (i := 98) rfl)
theorem wi_99 : Cond.instanceMethod yX9_draw ∈ tR := List.mem_append_left _ (List.mem_of_getElem? (i := 99) rfl)
theorem wi_100 : Cond.selects RX9 yX9_draw yX9_draw ∈ tR := List.mem_append_left _ (List.mem_of_getElem? (i := 100) rfl)
theorem wi_101 : Cond.code yX9_year cX9_year 3 none ∈ tR := List.mem_append_left _ (List.mem_of_getElem? (i := 101) rfl)
theorem wi_102 : Cond.methodLink RX9 107 yX9_year ∈ tR := List.mem_append_left _ (List.mem_of_getElem? (i := 102) rfl)
theorem wi_103 : Cond.instanceMethod yX9_year ∈ tR := List.mem_append_left _ (List.mem_of_getElem? (i := 103) rfl)
theorem wi_104 : Cond.selects RX9 yX9_year yX9_year ∈ tR := List.mem_append_left _ (List.mem_of_getElem? (i := 104) rfl)
theorem wi_105 : Cond.code yX9_go cX9_go 3 none ∈ tR := List.mem_append_left _ (List.mem_of_getElem? (i := 105) rfl)
theorem wi_106 : Cond.code yX9_allGrams cX9_allGrams 3 (some .int) ∈ tR := List.mem_append_left _ (List.mem_of_getElem? (i := 106) rfl)
theorem wi_107 : Cond.methodLink RX9 110 yX9_go ∈ tR := List.mem_append_left _ (List.mem_of_getElem? (i := 107) rfl)
theorem wi_108 : Cond.instanceMethod yX9_go ∈ tR := List.mem_append_left _ (List.mem_of_getElem? (i := 108) rfl)
theorem wi_109 : Cond.selects RX9 yX9_go yX9_go ∈ tR := List.mem_append_left _ (List.mem_of_getElem? (i := 109) rfl)
theorem wi_110 : Cond.methodLink RX9 114 yX9_allGrams ∈ tR := List.mem_append_left _ (List.mem_of_getElem? (i := 110) rfl)
theorem wi_111 : Cond.instanceMethod yX9_allGrams ∈ tR := List.mem_append_left _ (List.mem_of_getElem? (i := 111) rfl)
theorem wi_112 : Cond.selects RX9 yX9_allGrams yX9_allGrams ∈ tR := List.mem_append_left _ (List.mem_of_getElem? (i := 112) rfl)
theorem wi_113 : Cond.code yX9_years cX9_years 2 (some .int) ∈ tR := List.mem_append_left _ (List.mem_of_getElem? (i := 113) rfl)
theorem wi_114 : Cond.methodLink RX9 117 yX9_carry ∈ tR := List.mem_append_left _ (List.mem_of_getElem? (i := 114) rfl)
theorem wi_115 : Cond.static yX9_carry ∈ tR := List.mem_append_left _ (List.mem_of_getElem? (i := 115) rfl)
theorem wi_116 : Cond.code yX9_then cX9_then 5 (some .int) ∈ tR := List.mem_append_left _ (List.mem_of_getElem? (i := 116) rfl)
theorem wi_117 : Cond.code yX9_seed cX9_seed 3 (some .int) ∈ tR := List.mem_append_left _ (List.mem_of_getElem? (i := 117) rfl)
theorem wi_118 : Cond.constantLong RX9 121 (255) ∈ tR := List.mem_append_left _ (List.mem_of_getElem? (i := 118) rfl)
theorem wi_119 : Cond.code yX9_feed cX9_feed 5 (some .int) ∈ tR := List.mem_append_left _ (List.mem_of_getElem? (i := 119) rfl)
theorem wi_120 : Cond.fieldLink RX9 123 "OldBronzeModel" "at" "I" ∈ tR := List.mem_append_left _ (List.mem_of_getElem? (i := 120) rfl)
theorem wi_121 : Cond.code yX9_look cX9_look 1 (some .int) ∈ tR := List.mem_append_left _ (List.mem_of_getElem? (i := 121) rfl)
theorem wi_122 : Cond.fieldLink RX9 127 "OldBronzeModel" "use" "I" ∈ tR := List.mem_append_left _ (List.mem_of_getElem? (i := 122) rfl)
theorem wi_123 : Cond.code yX9_isName cX9_isName 2 (some .boolean) ∈ tR := List.mem_append_left _ (List.mem_of_getElem? (i := 123) rfl)
theorem wi_124 : Cond.fieldLink RX9 130 "OldBronzeModel" "steps" "I" ∈ tR := List.mem_append_left _ (List.mem_of_getElem? (i := 124) rfl)
theorem wi_125 : Cond.code yX9_lays cX9_lays 3 none ∈ tR := List.mem_append_left _ (List.mem_of_getElem? (i := 125) rfl)
theorem wi_126 : Cond.fieldLink RX9 156 "OldBronzeModel" "open" "I" ∈ tR := List.mem_append_left _ (List.mem_of_getElem? (i := 126) rfl)
theorem wi_127 : Cond.code yX9_opens cX9_opens 1 (some .boolean) ∈ tR := List.mem_append_left _ (List.mem_of_getElem? (i := 127) rfl)
theorem wi_128 : Cond.methodLink RX9 144 yX9_compared ∈ tR := List.mem_append_left _ (List.mem_of_getElem? (i := 128) rfl)
theorem wi_129 : Cond.instanceMethod yX9_compared ∈ tR := List.mem_append_left _ (List.mem_of_getElem? (i := 129) rfl)
theorem wi_130 : Cond.selects RX9 yX9_compared yX9_compared ∈ tR := List.mem_append_left _ (List.mem_of_getElem? (i := 130) rfl)
theorem wi_131 : Cond.methodLink RX9 137 yX9_look ∈ tR := List.mem_append_left _ (List.mem_of_getElem? (i := 131) rfl)
theorem wi_132 : Cond.instanceMethod yX9_look ∈ tR := List.mem_append_left _ (List.mem_of_getElem? (i := 132) rfl)
theorem wi_133 : Cond.selects RX9 yX9_look yX9_look ∈ tR := List.mem_append_left _ (List.mem_of_getElem? (i := 133) rfl)
theorem wi_134 : Cond.methodLink RX9 140 yX9_lays ∈ tR := List.mem_append_left _ (List.mem_of_getElem? (i := 134) rfl)
theorem wi_135 : Cond.instanceMethod yX9_lays ∈ tR := List.mem_append_left _ (List.mem_of_getElem? (i := 135) rfl)
theorem wi_136 : Cond.selects RX9 yX9_lays yX9_lays ∈ tR := List.mem_append_left _ (List.mem_of_getElem? (i := 136) rfl)
theorem wi_137 : Cond.code yX9_compared cX9_compared 2 (some .boolean) ∈ tR := List.mem_append_left _ (List.mem_of_getElem? (i := 137) rfl)
theorem wi_138 : Cond.methodLink RX9 147 yX9_sum ∈ tR := List.mem_append_left _ (List.mem_of_getElem? (i := 138) rfl)
theorem wi_139 : Cond.instanceMethod yX9_sum ∈ tR := List.mem_append_left _ (List.mem_of_getElem? (i := 139) rfl)
theorem wi_140 : Cond.selects RX9 yX9_sum yX9_sum ∈ tR := List.mem_append_left _ (List.mem_of_getElem? (i := 140) rfl)
theorem wi_141 : Cond.code yX9_one cX9_one 4 (some .boolean) ∈ tR := List.mem_append_left _ (List.mem_of_getElem? (i := 141) rfl)
theorem wi_142 : Cond.methodLink RX9 159 yX9_isName ∈ tR := List.mem_append_left _ (List.mem_of_getElem? (i := 142) rfl)
theorem wi_143 : Cond.instanceMethod yX9_isName ∈ tR := List.mem_append_left _ (List.mem_of_getElem? (i := 143) rfl)
theorem wi_144 : Cond.selects RX9 yX9_isName yX9_isName ∈ tR := List.mem_append_left _ (List.mem_of_getElem? (i := 144) rfl)
theorem wi_145 : Cond.methodLink RX9 162 yX9_opens ∈ tR := List.mem_append_left _ (List.mem_of_getElem? (i := 145) rfl)
theorem wi_146 : Cond.instanceMethod yX9_opens ∈ tR := List.mem_append_left _ (List.mem_of_getElem? (i := 146) rfl)
theorem wi_147 : Cond.selects RX9 yX9_opens yX9_opens ∈ tR := List.mem_append_left _ (List.mem_of_getElem? (i := 147) rfl)
theorem wi_148 : Cond.methodLink RX9 153 yX9_one ∈ tR := List.mem_append_left _ (List.mem_of_getElem? (i := 148) rfl)
theorem wi_149 : Cond.instanceMethod yX9_one ∈ tR := List.mem_append_left _ (List.mem_of_getElem? (i := 149) rfl)
theorem wi_150 : Cond.selects RX9 yX9_one yX9_one ∈ tR := List.mem_append_left _ (List.mem_of_getElem? (i := 150) rfl)
theorem wi_151 : Cond.methodLink RX9 165 yX9_whole ∈ tR := List.mem_append_left _ (List.mem_of_getElem? (i := 151) rfl)
theorem wi_152 : Cond.instanceMethod yX9_whole ∈ tR := List.mem_append_left _ (List.mem_of_getElem? (i := 152) rfl)
theorem wi_153 : Cond.selects RX9 yX9_whole yX9_whole ∈ tR := List.mem_append_left _ (List.mem_of_getElem? (i := 153) rfl)
theorem wi_154 : Cond.code yX9_product cX9_product 2 (some .boolean) ∈ tR := List.mem_append_left _ (List.mem_of_getElem? (i := 154) rfl)
theorem wi_155 : Cond.code yX9_sum cX9_sum 2 (some .boolean) ∈ tR := List.mem_append_left _ (List.mem_of_getElem? (i := 155) rfl)
theorem wi_156 : Cond.methodLink RX9 150 yX9_product ∈ tR := List.mem_append_left _ (List.mem_of_getElem? (i := 156) rfl)
theorem wi_157 : Cond.instanceMethod yX9_product ∈ tR := List.mem_append_left _ (List.mem_of_getElem? (i := 157) rfl)
theorem wi_158 : Cond.selects RX9 yX9_product yX9_product ∈ tR := List.mem_append_left _ (List.mem_of_getElem? (i := 158) rfl)
theorem wi_159 : Cond.code yX9_whole cX9_whole 1 (some .boolean) ∈ tR := List.mem_append_left _ (List.mem_of_getElem? (i := 159) rfl)
theorem wi_160 : Cond.methodLink RX9 133 yX9_both ∈ tR := List.mem_append_left _ (List.mem_of_getElem? (i := 160) rfl)
theorem wi_161 : Cond.instanceMethod yX9_both ∈ tR := List.mem_append_left _ (List.mem_of_getElem? (i := 161) rfl)
theorem wi_162 : Cond.selects RX9 yX9_both yX9_both ∈ tR := List.mem_append_left _ (List.mem_of_getElem? (i := 162) rfl)
theorem wi_163 : Cond.code yX9_both cX9_both 1 (some .boolean) ∈ tR := List.mem_append_left _ (List.mem_of_getElem? (i := 163) rfl)
theorem wi_164 : Cond.code yX9_text cX9_text 5 (some .int) ∈ tR := List.mem_append_left _ (List.mem_of_getElem? (i := 164) rfl)
theorem wi_165 : Cond.code yX9_untell cX9_untell 3 (some .int) ∈ tR := List.mem_append_left _ (List.mem_of_getElem? (i := 165) rfl)
theorem wi_166 : Cond.code yX9_isClaim cX9_isClaim 2 (some .boolean) ∈ tR := List.mem_append_left _ (List.mem_of_getElem? (i := 166) rfl)
theorem wi_167 : Cond.code yX9_of cX9_of 3 (some .int) ∈ tR := List.mem_append_left _ (List.mem_of_getElem? (i := 167) rfl)
theorem wi_168 : Cond.methodLink RX9 183 yX9_of ∈ tR := List.mem_append_left _ (List.mem_of_getElem? (i := 168) rfl)
theorem wi_169 : Cond.instanceMethod yX9_of ∈ tR := List.mem_append_left _ (List.mem_of_getElem? (i := 169) rfl)
theorem wi_170 : Cond.selects RX9 yX9_of yX9_of ∈ tR := List.mem_append_left _ (List.mem_of_getElem? (i := 170) rfl)
theorem wi_171 : Cond.code yX9_manyOn cX9_manyOn 4 (some .int) ∈ tR := List.mem_append_left _ (List.mem_of_getElem? (i := 171) rfl)
theorem wi_172 : Cond.methodLink RX9 186 yX9_manyOn ∈ tR := List.mem_append_left _ (List.mem_of_getElem? (i := 172) rfl)
theorem wi_173 : Cond.instanceMethod yX9_manyOn ∈ tR := List.mem_append_left _ (List.mem_of_getElem? (i := 173) rfl)
theorem wi_174 : Cond.selects RX9 yX9_manyOn yX9_manyOn ∈ tR := List.mem_append_left _ (List.mem_of_getElem? (i := 174) rfl)
theorem wi_175 : Cond.code yX9_counts cX9_counts 3 (some .int) ∈ tR := List.mem_append_left _ (List.mem_of_getElem? (i := 175) rfl)
theorem wi_176 : Cond.constant RX9 189 (99999) ∈ tR := List.mem_append_left _ (List.mem_of_getElem? (i := 176) rfl)
theorem wi_177 : Cond.code yX9_claim cX9_claim 3 (some .int) ∈ tR := List.mem_append_left _ (List.mem_of_getElem? (i := 177) rfl)
theorem wi_178 : Cond.methodLink RX9 190 yX9_isClaim ∈ tR := List.mem_append_left _ (List.mem_of_getElem? (i := 178) rfl)
theorem wi_179 : Cond.instanceMethod yX9_isClaim ∈ tR := List.mem_append_left _ (List.mem_of_getElem? (i := 179) rfl)
theorem wi_180 : Cond.selects RX9 yX9_isClaim yX9_isClaim ∈ tR := List.mem_append_left _ (List.mem_of_getElem? (i := 180) rfl)
theorem wi_181 : Cond.methodLink RX9 193 yX9_counts ∈ tR := List.mem_append_left _ (List.mem_of_getElem? (i := 181) rfl)
theorem wi_182 : Cond.instanceMethod yX9_counts ∈ tR := List.mem_append_left _ (List.mem_of_getElem? (i := 182) rfl)
theorem wi_183 : Cond.selects RX9 yX9_counts yX9_counts ∈ tR := List.mem_append_left _ (List.mem_of_getElem? (i := 183) rfl)
theorem wi_184 : Cond.code yX9_claimIs cX9_claimIs 3 (some .int) ∈ tR := List.mem_append_left _ (List.mem_of_getElem? (i := 184) rfl)
theorem wi_185 : Cond.code yX9_countsBelow cX9_countsBelow 5 (some .int) ∈ tR := List.mem_append_left _ (List.mem_of_getElem? (i := 185) rfl)
theorem wi_186 : Cond.methodLink RX9 196 yX9_countsBelow ∈ tR := List.mem_append_left _ (List.mem_of_getElem? (i := 186) rfl)
theorem wi_187 : Cond.instanceMethod yX9_countsBelow ∈ tR := List.mem_append_left _ (List.mem_of_getElem? (i := 187) rfl)
theorem wi_188 : Cond.selects RX9 yX9_countsBelow yX9_countsBelow ∈ tR := List.mem_append_left _ (List.mem_of_getElem? (i := 188) rfl)
theorem wi_189 : Cond.code yX9_shareOf cX9_shareOf 7 (some .int) ∈ tR := List.mem_append_left _ (List.mem_of_getElem? (i := 189) rfl)
theorem wi_190 : Cond.code yX9_isLaw cX9_isLaw 1 (some .boolean) ∈ tR := List.mem_append_left _ (List.mem_of_getElem? (i := 190) rfl)
theorem wi_191 : Cond.methodLink RX9 199 yX9_isLaw ∈ tR := List.mem_append_left _ (List.mem_of_getElem? (i := 191) rfl)
theorem wi_192 : Cond.static yX9_isLaw ∈ tR := List.mem_append_left _ (List.mem_of_getElem? (i := 192) rfl)
theorem wi_193 : Cond.methodLink RX9 202 yX9_shareOf ∈ tR := List.mem_append_left _ (List.mem_of_getElem? (i := 193) rfl)
theorem wi_194 : Cond.instanceMethod yX9_shareOf ∈ tR := List.mem_append_left _ (List.mem_of_getElem? (i := 194) rfl)
theorem wi_195 : Cond.selects RX9 yX9_shareOf yX9_shareOf ∈ tR := List.mem_append_left _ (List.mem_of_getElem? (i := 195) rfl)
theorem wi_196 : Cond.code yX9_share cX9_share 3 (some .int) ∈ tR := List.mem_append_left _ (List.mem_of_getElem? (i := 196) rfl)
theorem wi_197 : Cond.code yX9_left cX9_left 5 (some .int) ∈ tR := List.mem_append_left _ (List.mem_of_getElem? (i := 197) rfl)
theorem wi_198 : Cond.code yX9_isPaper cX9_isPaper 4 (some .boolean) ∈ tR := List.mem_append_left _ (List.mem_of_getElem? (i := 198) rfl)
theorem wi_199 : Cond.code yX9_addPaper cX9_addPaper 5 none ∈ tR := List.mem_append_left _ (List.mem_of_getElem? (i := 199) rfl)
theorem wi_200 : Cond.methodLink RX9 205 yX9_isPaper ∈ tR := List.mem_append_left _ (List.mem_of_getElem? (i := 200) rfl)
theorem wi_201 : Cond.instanceMethod yX9_isPaper ∈ tR := List.mem_append_left _ (List.mem_of_getElem? (i := 201) rfl)
theorem wi_202 : Cond.selects RX9 yX9_isPaper yX9_isPaper ∈ tR := List.mem_append_left _ (List.mem_of_getElem? (i := 202) rfl)
theorem wi_203 : Cond.methodLink RX9 208 yX9_addPaper ∈ tR := List.mem_append_left _ (List.mem_of_getElem? (i := 203) rfl)
theorem wi_204 : Cond.instanceMethod yX9_addPaper ∈ tR := List.mem_append_left _ (List.mem_of_getElem? (i := 204) rfl)
theorem wi_205 : Cond.selects RX9 yX9_addPaper yX9_addPaper ∈ tR := List.mem_append_left _ (List.mem_of_getElem? (i := 205) rfl)
theorem wi_206 : Cond.code yX9_paper cX9_paper 4 (some .int) ∈ tR := List.mem_append_left _ (List.mem_of_getElem? (i := 206) rfl)
theorem wi_207 : Cond.code yX9_weigh cX9_weigh 5 (some .int) ∈ tR := List.mem_append_left _ (List.mem_of_getElem? (i := 207) rfl)
theorem wi_208 : Cond.code yX9_forget cX9_forget 3 (some .int) ∈ tR := List.mem_append_left _ (List.mem_of_getElem? (i := 208) rfl)
theorem wi_209 : Cond.code yX9_allPapers cX9_allPapers 1 (some .int) ∈ tR := List.mem_append_left _ (List.mem_of_getElem? (i := 209) rfl)
theorem wi_210 : Cond.methodLink RX9 211 yX9_allPapers ∈ tR := List.mem_append_left _ (List.mem_of_getElem? (i := 210) rfl)
theorem wi_211 : Cond.instanceMethod yX9_allPapers ∈ tR := List.mem_append_left _ (List.mem_of_getElem? (i := 211) rfl)
theorem wi_212 : Cond.selects RX9 yX9_allPapers yX9_allPapers ∈ tR := List.mem_append_left _ (List.mem_of_getElem? (i := 212) rfl)
theorem wi_213 : Cond.code yX9_isHistory cX9_isHistory 2 (some .boolean) ∈ tR := List.mem_append_left _ (List.mem_of_getElem? (i := 213) rfl)
theorem wi_214 : Cond.code yX9_goesBy cX9_goesBy 3 none ∈ tR := List.mem_append_left _ (List.mem_of_getElem? (i := 214) rfl)
theorem wi_215 : Cond.methodLink RX9 214 yX9_goesBy ∈ tR := List.mem_append_left _ (List.mem_of_getElem? (i := 215) rfl)
theorem wi_216 : Cond.instanceMethod yX9_goesBy ∈ tR := List.mem_append_left _ (List.mem_of_getElem? (i := 216) rfl)
theorem wi_217 : Cond.selects RX9 yX9_goesBy yX9_goesBy ∈ tR := List.mem_append_left _ (List.mem_of_getElem? (i := 217) rfl)
theorem wi_218 : Cond.code yX9_after cX9_after 5 (some .int) ∈ tR := List.mem_append_left _ (List.mem_of_getElem? (i := 218) rfl)
theorem wi_219 : Cond.methodLink RX9 217 yX9_isHistory ∈ tR := List.mem_append_left _ (List.mem_of_getElem? (i := 219) rfl)
theorem wi_220 : Cond.instanceMethod yX9_isHistory ∈ tR := List.mem_append_left _ (List.mem_of_getElem? (i := 220) rfl)
theorem wi_221 : Cond.selects RX9 yX9_isHistory yX9_isHistory ∈ tR := List.mem_append_left _ (List.mem_of_getElem? (i := 221) rfl)
theorem wi_222 : Cond.methodLink RX9 220 yX9_after ∈ tR := List.mem_append_left _ (List.mem_of_getElem? (i := 222) rfl)
theorem wi_223 : Cond.instanceMethod yX9_after ∈ tR := List.mem_append_left _ (List.mem_of_getElem? (i := 223) rfl)
theorem wi_224 : Cond.selects RX9 yX9_after yX9_after ∈ tR := List.mem_append_left _ (List.mem_of_getElem? (i := 224) rfl)
theorem wi_225 : Cond.code yX9_by cX9_by 4 (some .int) ∈ tR := List.mem_append_left _ (List.mem_of_getElem? (i := 225) rfl)
theorem wi_226 : Cond.code yX9_doesFit cX9_doesFit 6 (some .boolean) ∈ tR := List.mem_append_left _ (List.mem_of_getElem? (i := 226) rfl)
theorem wi_227 : Cond.fieldLink RX9 223 "OldBronzeModel" "many" "I" ∈ tR := List.mem_append_left _ (List.mem_of_getElem? (i := 227) rfl)
theorem wi_228 : Cond.methodLink RX9 226 yX9_doesFit ∈ tR := List.mem_append_left _ (List.mem_of_getElem? (i := 228) rfl)
theorem wi_229 : Cond.instanceMethod yX9_doesFit ∈ tR := List.mem_append_left _ (List.mem_of_getElem? (i := 229) rfl)
theorem wi_230 : Cond.selects RX9 yX9_doesFit yX9_doesFit ∈ tR := List.mem_append_left _ (List.mem_of_getElem? (i := 230) rfl)
theorem wi_231 : Cond.code yX9_findFits cX9_findFits 2 none ∈ tR := List.mem_append_left _ (List.mem_of_getElem? (i := 231) rfl)
theorem wi_232 : Cond.code yX9_bitsOf cX9_bitsOf 3 (some .int) ∈ tR := List.mem_append_left _ (List.mem_of_getElem? (i := 232) rfl)
theorem wi_233 : Cond.methodLink RX9 229 yX9_findFits ∈ tR := List.mem_append_left _ (List.mem_of_getElem? (i := 233) rfl)
theorem wi_234 : Cond.instanceMethod yX9_findFits ∈ tR := List.mem_append_left _ (List.mem_of_getElem? (i := 234) rfl)
theorem wi_235 : Cond.selects RX9 yX9_findFits yX9_findFits ∈ tR := List.mem_append_left _ (List.mem_of_getElem? (i := 235) rfl)
theorem wi_236 : Cond.methodLink RX9 232 yX9_bitsOf ∈ tR := List.mem_append_left _ (List.mem_of_getElem? (i := 236) rfl)
theorem wi_237 : Cond.static yX9_bitsOf ∈ tR := List.mem_append_left _ (List.mem_of_getElem? (i := 237) rfl)
theorem wi_238 : Cond.code yX9_fits cX9_fits 6 (some .int) ∈ tR := List.mem_append_left _ (List.mem_of_getElem? (i := 238) rfl)
theorem wi_239 : Cond.code yX9_span cX9_span 7 (some .int) ∈ tR := List.mem_append_left _ (List.mem_of_getElem? (i := 239) rfl)
theorem wi_240 : Cond.code yX9_heap cX9_heap 6 (some .int) ∈ tR := List.mem_append_left _ (List.mem_of_getElem? (i := 240) rfl)
theorem wi_241 : Cond.methodLink RX9 235 yX9_heap ∈ tR := List.mem_append_left _ (List.mem_of_getElem? (i := 241) rfl)
theorem wi_242 : Cond.instanceMethod yX9_heap ∈ tR := List.mem_append_left _ (List.mem_of_getElem? (i := 242) rfl)
theorem wi_243 : Cond.selects RX9 yX9_heap yX9_heap ∈ tR := List.mem_append_left _ (List.mem_of_getElem? (i := 243) rfl)
theorem wi_244 : Cond.code yX9_next cX9_next 3 (some .int) ∈ tR := List.mem_append_left _ (List.mem_of_getElem? (i := 244) rfl)
theorem wi_245 : Cond.code yX9_together cX9_together 8 (some .int) ∈ tR := List.mem_append_left _ (List.mem_of_getElem? (i := 245) rfl)
theorem wi_246 : Cond.code yX9_haveGrams cX9_haveGrams 4 (some .boolean) ∈ tR := List.mem_append_left _ (List.mem_of_getElem? (i := 246) rfl)
theorem wi_247 : Cond.methodLink RX9 238 yX9_haveGrams ∈ tR := List.mem_append_left _ (List.mem_of_getElem? (i := 247) rfl)
theorem wi_248 : Cond.instanceMethod yX9_haveGrams ∈ tR := List.mem_append_left _ (List.mem_of_getElem? (i := 248) rfl)
theorem wi_249 : Cond.selects RX9 yX9_haveGrams yX9_haveGrams ∈ tR := List.mem_append_left _ (List.mem_of_getElem? (i := 249) rfl)
theorem wi_250 : Cond.methodLink RX9 241 yX9_together ∈ tR := List.mem_append_left _ (List.mem_of_getElem? (i := 250) rfl)
theorem wi_251 : Cond.instanceMethod yX9_together ∈ tR := List.mem_append_left _ (List.mem_of_getElem? (i := 251) rfl)
theorem wi_252 : Cond.selects RX9 yX9_together yX9_together ∈ tR := List.mem_append_left _ (List.mem_of_getElem? (i := 252) rfl)
theorem wi_253 : Cond.code yX9_most cX9_most 7 (some .int) ∈ tR := List.mem_append_left _ (List.mem_of_getElem? (i := 253) rfl)
theorem wi_254 : Cond.fieldLink RX9 244 "OldBronzeModel" "traced" "I" ∈ tR := List.mem_append_left _ (List.mem_of_getElem? (i := 254) rfl)
theorem wi_255 : Cond.code yX9_begins cX9_begins 2 none ∈ tR := List.mem_append_left _ (List.mem_of_getElem? (i := 255) rfl)
theorem wi_256 : Cond.code yX9_above cX9_above 1 (some .int) ∈ tR := List.mem_append_left _ (List.mem_of_getElem? (i := 256) rfl)
theorem wi_257 : Cond.fieldLink RX9 247 "OldBronzeModel" "speaks" "I" ∈ tR := List.mem_append_left _ (List.mem_of_getElem? (i := 257) rfl)
theorem wi_258 : Cond.code yX9_kindNow cX9_kindNow 1 (some .int) ∈ tR := List.mem_append_left _ (List.mem_of_getElem? (i := 258) rfl)
theorem wi_259 : Cond.code yX9_mNow cX9_mNow 1 (some .int) ∈ tR := List.mem_append_left _ (List.mem_of_getElem? (i := 259) rfl)
theorem wi_260 : Cond.methodLink RX9 250 yX9_begins ∈ tR := List.mem_append_left _ (List.mem_of_getElem? (i := 260) rfl)
theorem wi_261 : Cond.instanceMethod yX9_begins ∈ tR := List.mem_append_left _ (List.mem_of_getElem? (i := 261) rfl)
theorem wi_262 : Cond.selects RX9 yX9_begins yX9_begins ∈ tR := List.mem_append_left _ (List.mem_of_getElem? (i := 262) rfl)
theorem wi_263 : Cond.methodLink RX9 253 yX9_above ∈ tR := List.mem_append_left _ (List.mem_of_getElem? (i := 263) rfl)
theorem wi_264 : Cond.static yX9_above ∈ tR := List.mem_append_left _ (List.mem_of_getElem? (i := 264) rfl)
theorem wi_265 : Cond.methodLink RX9 256 yX9_ringsBy ∈ tR := List.mem_append_left _ (List.mem_of_getElem? (i := 265) rfl)
theorem wi_266 : Cond.instanceMethod yX9_ringsBy ∈ tR := List.mem_append_left _ (List.mem_of_getElem? (i := 266) rfl)
theorem wi_267 : Cond.selects RX9 yX9_ringsBy yX9_ringsBy ∈ tR := List.mem_append_left _ (List.mem_of_getElem? (i := 267) rfl)
theorem wi_268 : Cond.code yX9_ringsBy cX9_ringsBy 3 (some .int) ∈ tR := List.mem_append_left _ (List.mem_of_getElem? (i := 268) rfl)
theorem wi_269 : Cond.methodLink RX9 259 yX9_kindNow ∈ tR := List.mem_append_left _ (List.mem_of_getElem? (i := 269) rfl)
theorem wi_270 : Cond.instanceMethod yX9_kindNow ∈ tR := List.mem_append_left _ (List.mem_of_getElem? (i := 270) rfl)
theorem wi_271 : Cond.selects RX9 yX9_kindNow yX9_kindNow ∈ tR := List.mem_append_left _ (List.mem_of_getElem? (i := 271) rfl)
theorem wi_272 : Cond.methodLink RX9 262 yX9_weighsBy ∈ tR := List.mem_append_left _ (List.mem_of_getElem? (i := 272) rfl)
theorem wi_273 : Cond.instanceMethod yX9_weighsBy ∈ tR := List.mem_append_left _ (List.mem_of_getElem? (i := 273) rfl)
theorem wi_274 : Cond.selects RX9 yX9_weighsBy yX9_weighsBy ∈ tR := List.mem_append_left _ (List.mem_of_getElem? (i := 274) rfl)
theorem wi_275 : Cond.methodLink RX9 265 yX9_mNow ∈ tR := List.mem_append_left _ (List.mem_of_getElem? (i := 275) rfl)
theorem wi_276 : Cond.instanceMethod yX9_mNow ∈ tR := List.mem_append_left _ (List.mem_of_getElem? (i := 276) rfl)
theorem wi_277 : Cond.selects RX9 yX9_mNow yX9_mNow ∈ tR := List.mem_append_left _ (List.mem_of_getElem? (i := 277) rfl)
theorem wi_278 : Cond.code yX9_weighsBy cX9_weighsBy 3 (some .int) ∈ tR := List.mem_append_left _ (List.mem_of_getElem? (i := 278) rfl)
theorem wi_279 : Cond.methodLink RX9 268 yX9_meltsBy ∈ tR := List.mem_append_left _ (List.mem_of_getElem? (i := 279) rfl)
theorem wi_280 : Cond.instanceMethod yX9_meltsBy ∈ tR := List.mem_append_left _ (List.mem_of_getElem? (i := 280) rfl)
theorem wi_281 : Cond.selects RX9 yX9_meltsBy yX9_meltsBy ∈ tR := List.mem_append_left _ (List.mem_of_getElem? (i := 281) rfl)
theorem wi_282 : Cond.code yX9_meltsBy cX9_meltsBy 3 (some .int) ∈ tR := List.mem_append_left _ (List.mem_of_getElem? (i := 282) rfl)
theorem wi_283 : Cond.fieldLink RX9 271 "OldBronzeModel" "isParted" "Z" ∈ tR := List.mem_append_left _ (List.mem_of_getElem? (i := 283) rfl)
theorem wi_284 : Cond.methodLink RX9 275 yX9_partsBy ∈ tR := List.mem_append_left _ (List.mem_of_getElem? (i := 284) rfl)
theorem wi_285 : Cond.instanceMethod yX9_partsBy ∈ tR := List.mem_append_left _ (List.mem_of_getElem? (i := 285) rfl)
theorem wi_286 : Cond.selects RX9 yX9_partsBy yX9_partsBy ∈ tR := List.mem_append_left _ (List.mem_of_getElem? (i := 286) rfl)
theorem wi_287 : Cond.code yX9_partsBy cX9_partsBy 5 (some .int) ∈ tR := List.mem_append_left _ (List.mem_of_getElem? (i := 287) rfl)
theorem wi_288 : Cond.code yX9_voice cX9_voice 6 (some .int) ∈ tR := List.mem_append_left _ (List.mem_of_getElem? (i := 288) rfl)
theorem wi_289 : Cond.code yX9_body cX9_body 2 (some .int) ∈ tR := List.mem_append_left _ (List.mem_of_getElem? (i := 289) rfl)
theorem wi_290 : Cond.code yX9_isSheet cX9_isSheet 1 (some .boolean) ∈ tR := List.mem_append_left _ (List.mem_of_getElem? (i := 290) rfl)
theorem wi_291 : Cond.methodLink RX9 278 yX9_isSheet ∈ tR := List.mem_append_left _ (List.mem_of_getElem? (i := 291) rfl)
theorem wi_292 : Cond.static yX9_isSheet ∈ tR := List.mem_append_left _ (List.mem_of_getElem? (i := 292) rfl)
theorem wi_293 : Cond.code yX9_sheet cX9_sheet 5 (some .int) ∈ tR := List.mem_append_left _ (List.mem_of_getElem? (i := 293) rfl)
theorem wi_294 : Cond.code yX9_put cX9_put 5 (some .int) ∈ tR := List.mem_append_left _ (List.mem_of_getElem? (i := 294) rfl)
theorem wi_295 : Cond.code yX9_move cX9_move 7 (some .int) ∈ tR := List.mem_append_left _ (List.mem_of_getElem? (i := 295) rfl)
theorem wi_296 : Cond.code yX9_lacks cX9_lacks 2 (some .int) ∈ tR := List.mem_append_left _ (List.mem_of_getElem? (i := 296) rfl)
theorem wi_297 : Cond.methodLink RX9 281 yX9_lacks ∈ tR := List.mem_append_left _ (List.mem_of_getElem? (i := 297) rfl)
theorem wi_298 : Cond.instanceMethod yX9_lacks ∈ tR := List.mem_append_left _ (List.mem_of_getElem? (i := 298) rfl)
theorem wi_299 : Cond.selects RX9 yX9_lacks yX9_lacks ∈ tR := List.mem_append_left _ (List.mem_of_getElem? (i := 299) rfl)
theorem wi_300 : Cond.code yX9_papers cX9_papers 5 (some .int) ∈ tR := List.mem_append_left _ (List.mem_of_getElem? (i := 300) rfl)
theorem wi_301 : Cond.code yX9_judge cX9_judge 5 (some .int) ∈ tR := List.mem_append_left _ (List.mem_of_getElem? (i := 301) rfl)
theorem wi_302 : Cond.fieldLink RX9 284 "OldBronzeModel" "images" "I" ∈ tR := List.mem_append_left _ (List.mem_of_getElem? (i := 302) rfl)
theorem wi_303 : Cond.code yX9_image cX9_image 1 (some .int) ∈ tR := List.mem_append_left _ (List.mem_of_getElem? (i := 303) rfl)
theorem wi_304 : Cond.code yX9_restore cX9_restore 1 (some .int) ∈ tR := List.mem_append_left _ (List.mem_of_getElem? (i := 304) rfl)
theorem wi_305 : Cond.code yX9_tell cX9_tell 2 (some .int) ∈ tR := List.mem_append_left _ (List.mem_of_getElem? (i := 305) rfl)
theorem wi_306 : Cond.code yX9_check cX9_check 3 (some .int) ∈ tR := List.mem_append_left _ (List.mem_of_getElem? (i := 306) rfl)
theorem wi_307 : Cond.code yX9_count cX9_count 2 (some .int) ∈ tR := List.mem_append_left _ (List.mem_of_getElem? (i := 307) rfl)
theorem wi_308 : Cond.code yX9_told cX9_told 2 (some .int) ∈ tR := List.mem_append_left _ (List.mem_of_getElem? (i := 308) rfl)
def layR (ci : Nat) : Nat → gLC := fun o => match o with
  | 0 => .inr (.inl (ci, [some 1, some 2, some 3, none, some 4, none, none, none, none, some 5, some 6, some 7, some 8, none, some 9, some 10, none, none, none, some 11, some 12, some 13, some 14]))
  | 1 => .inl 536
  | 2 => .inl 536
  | 3 => .inl 536
  | 4 => .inl 7
  | 5 => .inl 124
  | 6 => .inl 128
  | 7 => .inl 64
  | 8 => .inl 64
  | 9 => .inl 64
  | 10 => .inl 30
  | 11 => .inl 4
  | 12 => .inl 4
  | 13 => .inl 96
  | _ => .inl 24
abbrev wR (ad : Nat → Nat) (cI : ClassId) (ci : Nat) : gSt → va_W := wld ad cI cI (layR ci) 15
section RF
variable {p : Program} {l : Launch} {e : Env} {R : Room} {s : State} {m : MethodId} {args : Array Value} {below : List Frame} {meth : Method} {c : Code} {Q : State → Prop}
variable {D : va_G} {cl : List vw_C} {tys : List (ClassId × FieldType)} {A : Nat → Prop} {nL : Nat} {cc : ByteArray} {Z : (Nat → Prop) → State → Prop}
variable {pc : Nat} {lv : List (Nat × Value)} {st : List Value} {M : gSt} {ad : Nat → Nat} {cI : ClassId} {ci : Nat}
theorem rf_s (C : gC p R s m args c D cl tys A (wR ad cI ci) nL cc RX9 tR Z) (hci : cl[ci]? = some (RX9, TX9, 23)) (hd : decode cc pc = .ok (.getfield 7, 3)) (kk : gG p l e R s m args below meth c Q D cl A (wR ad cI ci) nL (pc + 3) lv (.ref (ad 1) :: st) M) : gG p l e R s m args below meth c Q D cl A (wR ad cI ci) nL pc lv (.ref (ad 0) :: st) M :=
  g_getf C (o := 0) (k := 0) (T := TX9) rfl (by decide) hci (by decide) tR_f wi_4 rfl hd rfl kk
theorem rf_kept (C : gC p R s m args c D cl tys A (wR ad cI ci) nL cc RX9 tR Z) (hci : cl[ci]? = some (RX9, TX9, 23)) (hd : decode cc pc = .ok (.getfield 13, 3)) (kk : gG p l e R s m args below meth c Q D cl A (wR ad cI ci) nL (pc + 3) lv (.ref (ad 2) :: st) M) : gG p l e R s m args below meth c Q D cl A (wR ad cI ci) nL pc lv (.ref (ad 0) :: st) M :=
  g_getf C (o := 0) (k := 1) (T := TX9) rfl (by decide) hci (by decide) tR_f wi_5 rfl hd rfl kk
theorem rf_put (C : gC p R s m args c D cl tys A (wR ad cI ci) nL cc RX9 tR Z) (hci : cl[ci]? = some (RX9, TX9, 23)) (hd : decode cc pc = .ok (.getfield 16, 3)) (kk : gG p l e R s m args below meth c Q D cl A (wR ad cI ci) nL (pc + 3) lv (.ref (ad 3) :: st) M) : gG p l e R s m args below meth c Q D cl A (wR ad cI ci) nL pc lv (.ref (ad 0) :: st) M :=
  g_getf C (o := 0) (k := 2) (T := TX9) rfl (by decide) hci (by decide) tR_f wi_6 rfl hd rfl kk
theorem rf_images (C : gC p R s m args c D cl tys A (wR ad cI ci) nL cc RX9 tR Z) (hci : cl[ci]? = some (RX9, TX9, 23)) (hd : decode cc pc = .ok (.getfield 284, 3)) (kk : gG p l e R s m args below meth c Q D cl A (wR ad cI ci) nL (pc + 3) lv (iv (M 0 3) :: st) M) : gG p l e R s m args below meth c Q D cl A (wR ad cI ci) nL pc lv (.ref (ad 0) :: st) M :=
  g_getf C (o := 0) (k := 3) (T := TX9) rfl (by decide) hci (by decide) tR_f wi_302 rfl hd rfl kk
theorem rp_images (C : gC p R s m args c D cl tys A (wR ad cI ci) nL cc RX9 tR Z) (hci : cl[ci]? = some (RX9, TX9, 23)) {x : Int} (hd : decode cc pc = .ok (.putfield 284, 3)) (kk : gG p l e R s m args below meth c Q D cl A (wR ad cI ci) nL (pc + 3) lv st (wr M 0 3 x)) : gG p l e R s m args below meth c Q D cl A (wR ad cI ci) nL pc lv (iv x :: .ref (ad 0) :: st) M :=
  g_putf C (o := 0) (k := 3) (T := TX9) (ty := .int) rfl (by decide) hci (by decide) tR_f tyX9 tyX9_ok nmX9 wi_302 rfl rfl (by decide +kernel) rfl hd ⟨rfl, rfl⟩ kk
theorem rf_errors (C : gC p R s m args c D cl tys A (wR ad cI ci) nL cc RX9 tR Z) (hci : cl[ci]? = some (RX9, TX9, 23)) (hd : decode cc pc = .ok (.getfield 19, 3)) (kk : gG p l e R s m args below meth c Q D cl A (wR ad cI ci) nL (pc + 3) lv (.ref (ad 4) :: st) M) : gG p l e R s m args below meth c Q D cl A (wR ad cI ci) nL pc lv (.ref (ad 0) :: st) M :=
  g_getf C (o := 0) (k := 4) (T := TX9) rfl (by decide) hci (by decide) tR_f wi_7 rfl hd rfl kk
theorem rf_at (C : gC p R s m args c D cl tys A (wR ad cI ci) nL cc RX9 tR Z) (hci : cl[ci]? = some (RX9, TX9, 23)) (hd : decode cc pc = .ok (.getfield 123, 3)) (kk : gG p l e R s m args below meth c Q D cl A (wR ad cI ci) nL (pc + 3) lv (iv (M 0 5) :: st) M) : gG p l e R s m args below meth c Q D cl A (wR ad cI ci) nL pc lv (.ref (ad 0) :: st) M :=
  g_getf C (o := 0) (k := 5) (T := TX9) rfl (by decide) hci (by decide) tR_f wi_120 rfl hd rfl kk
theorem rp_at (C : gC p R s m args c D cl tys A (wR ad cI ci) nL cc RX9 tR Z) (hci : cl[ci]? = some (RX9, TX9, 23)) {x : Int} (hd : decode cc pc = .ok (.putfield 123, 3)) (kk : gG p l e R s m args below meth c Q D cl A (wR ad cI ci) nL (pc + 3) lv st (wr M 0 5 x)) : gG p l e R s m args below meth c Q D cl A (wR ad cI ci) nL pc lv (iv x :: .ref (ad 0) :: st) M :=
  g_putf C (o := 0) (k := 5) (T := TX9) (ty := .int) rfl (by decide) hci (by decide) tR_f tyX9 tyX9_ok nmX9 wi_120 rfl rfl (by decide +kernel) rfl hd ⟨rfl, rfl⟩ kk
theorem rf_open (C : gC p R s m args c D cl tys A (wR ad cI ci) nL cc RX9 tR Z) (hci : cl[ci]? = some (RX9, TX9, 23)) (hd : decode cc pc = .ok (.getfield 156, 3)) (kk : gG p l e R s m args below meth c Q D cl A (wR ad cI ci) nL (pc + 3) lv (iv (M 0 6) :: st) M) : gG p l e R s m args below meth c Q D cl A (wR ad cI ci) nL pc lv (.ref (ad 0) :: st) M :=
  g_getf C (o := 0) (k := 6) (T := TX9) rfl (by decide) hci (by decide) tR_f wi_126 rfl hd rfl kk
theorem rp_open (C : gC p R s m args c D cl tys A (wR ad cI ci) nL cc RX9 tR Z) (hci : cl[ci]? = some (RX9, TX9, 23)) {x : Int} (hd : decode cc pc = .ok (.putfield 156, 3)) (kk : gG p l e R s m args below meth c Q D cl A (wR ad cI ci) nL (pc + 3) lv st (wr M 0 6 x)) : gG p l e R s m args below meth c Q D cl A (wR ad cI ci) nL pc lv (iv x :: .ref (ad 0) :: st) M :=
  g_putf C (o := 0) (k := 6) (T := TX9) (ty := .int) rfl (by decide) hci (by decide) tR_f tyX9 tyX9_ok nmX9 wi_126 rfl rfl (by decide +kernel) rfl hd ⟨rfl, rfl⟩ kk
theorem rf_steps (C : gC p R s m args c D cl tys A (wR ad cI ci) nL cc RX9 tR Z) (hci : cl[ci]? = some (RX9, TX9, 23)) (hd : decode cc pc = .ok (.getfield 130, 3)) (kk : gG p l e R s m args below meth c Q D cl A (wR ad cI ci) nL (pc + 3) lv (iv (M 0 7) :: st) M) : gG p l e R s m args below meth c Q D cl A (wR ad cI ci) nL pc lv (.ref (ad 0) :: st) M :=
  g_getf C (o := 0) (k := 7) (T := TX9) rfl (by decide) hci (by decide) tR_f wi_124 rfl hd rfl kk
theorem rp_steps (C : gC p R s m args c D cl tys A (wR ad cI ci) nL cc RX9 tR Z) (hci : cl[ci]? = some (RX9, TX9, 23)) {x : Int} (hd : decode cc pc = .ok (.putfield 130, 3)) (kk : gG p l e R s m args below meth c Q D cl A (wR ad cI ci) nL (pc + 3) lv st (wr M 0 7 x)) : gG p l e R s m args below meth c Q D cl A (wR ad cI ci) nL pc lv (iv x :: .ref (ad 0) :: st) M :=
  g_putf C (o := 0) (k := 7) (T := TX9) (ty := .int) rfl (by decide) hci (by decide) tR_f tyX9 tyX9_ok nmX9 wi_124 rfl rfl (by decide +kernel) rfl hd ⟨rfl, rfl⟩ kk
theorem rf_use (C : gC p R s m args c D cl tys A (wR ad cI ci) nL cc RX9 tR Z) (hci : cl[ci]? = some (RX9, TX9, 23)) (hd : decode cc pc = .ok (.getfield 127, 3)) (kk : gG p l e R s m args below meth c Q D cl A (wR ad cI ci) nL (pc + 3) lv (iv (M 0 8) :: st) M) : gG p l e R s m args below meth c Q D cl A (wR ad cI ci) nL pc lv (.ref (ad 0) :: st) M :=
  g_getf C (o := 0) (k := 8) (T := TX9) rfl (by decide) hci (by decide) tR_f wi_122 rfl hd rfl kk
theorem rp_use (C : gC p R s m args c D cl tys A (wR ad cI ci) nL cc RX9 tR Z) (hci : cl[ci]? = some (RX9, TX9, 23)) {x : Int} (hd : decode cc pc = .ok (.putfield 127, 3)) (kk : gG p l e R s m args below meth c Q D cl A (wR ad cI ci) nL (pc + 3) lv st (wr M 0 8 x)) : gG p l e R s m args below meth c Q D cl A (wR ad cI ci) nL pc lv (iv x :: .ref (ad 0) :: st) M :=
  g_putf C (o := 0) (k := 8) (T := TX9) (ty := .int) rfl (by decide) hci (by decide) tR_f tyX9 tyX9_ok nmX9 wi_122 rfl rfl (by decide +kernel) rfl hd ⟨rfl, rfl⟩ kk
theorem rf_step (C : gC p R s m args c D cl tys A (wR ad cI ci) nL cc RX9 tR Z) (hci : cl[ci]? = some (RX9, TX9, 23)) (hd : decode cc pc = .ok (.getfield 22, 3)) (kk : gG p l e R s m args below meth c Q D cl A (wR ad cI ci) nL (pc + 3) lv (.ref (ad 5) :: st) M) : gG p l e R s m args below meth c Q D cl A (wR ad cI ci) nL pc lv (.ref (ad 0) :: st) M :=
  g_getf C (o := 0) (k := 9) (T := TX9) rfl (by decide) hci (by decide) tR_f wi_8 rfl hd rfl kk
theorem rf_named (C : gC p R s m args c D cl tys A (wR ad cI ci) nL cc RX9 tR Z) (hci : cl[ci]? = some (RX9, TX9, 23)) (hd : decode cc pc = .ok (.getfield 25, 3)) (kk : gG p l e R s m args below meth c Q D cl A (wR ad cI ci) nL (pc + 3) lv (.ref (ad 6) :: st) M) : gG p l e R s m args below meth c Q D cl A (wR ad cI ci) nL pc lv (.ref (ad 0) :: st) M :=
  g_getf C (o := 0) (k := 10) (T := TX9) rfl (by decide) hci (by decide) tR_f wi_9 rfl hd rfl kk
theorem rf_pile (C : gC p R s m args c D cl tys A (wR ad cI ci) nL cc RX9 tR Z) (hci : cl[ci]? = some (RX9, TX9, 23)) (hd : decode cc pc = .ok (.getfield 28, 3)) (kk : gG p l e R s m args below meth c Q D cl A (wR ad cI ci) nL (pc + 3) lv (.ref (ad 7) :: st) M) : gG p l e R s m args below meth c Q D cl A (wR ad cI ci) nL pc lv (.ref (ad 0) :: st) M :=
  g_getf C (o := 0) (k := 11) (T := TX9) rfl (by decide) hci (by decide) tR_f wi_10 rfl hd rfl kk
theorem rf_fit (C : gC p R s m args c D cl tys A (wR ad cI ci) nL cc RX9 tR Z) (hci : cl[ci]? = some (RX9, TX9, 23)) (hd : decode cc pc = .ok (.getfield 31, 3)) (kk : gG p l e R s m args below meth c Q D cl A (wR ad cI ci) nL (pc + 3) lv (.ref (ad 8) :: st) M) : gG p l e R s m args below meth c Q D cl A (wR ad cI ci) nL pc lv (.ref (ad 0) :: st) M :=
  g_getf C (o := 0) (k := 12) (T := TX9) rfl (by decide) hci (by decide) tR_f wi_11 rfl hd rfl kk
theorem rf_many (C : gC p R s m args c D cl tys A (wR ad cI ci) nL cc RX9 tR Z) (hci : cl[ci]? = some (RX9, TX9, 23)) (hd : decode cc pc = .ok (.getfield 223, 3)) (kk : gG p l e R s m args below meth c Q D cl A (wR ad cI ci) nL (pc + 3) lv (iv (M 0 13) :: st) M) : gG p l e R s m args below meth c Q D cl A (wR ad cI ci) nL pc lv (.ref (ad 0) :: st) M :=
  g_getf C (o := 0) (k := 13) (T := TX9) rfl (by decide) hci (by decide) tR_f wi_227 rfl hd rfl kk
theorem rp_many (C : gC p R s m args c D cl tys A (wR ad cI ci) nL cc RX9 tR Z) (hci : cl[ci]? = some (RX9, TX9, 23)) {x : Int} (hd : decode cc pc = .ok (.putfield 223, 3)) (kk : gG p l e R s m args below meth c Q D cl A (wR ad cI ci) nL (pc + 3) lv st (wr M 0 13 x)) : gG p l e R s m args below meth c Q D cl A (wR ad cI ci) nL pc lv (iv x :: .ref (ad 0) :: st) M :=
  g_putf C (o := 0) (k := 13) (T := TX9) (ty := .int) rfl (by decide) hci (by decide) tR_f tyX9 tyX9_ok nmX9 wi_227 rfl rfl (by decide +kernel) rfl hd ⟨rfl, rfl⟩ kk
theorem rf_seen (C : gC p R s m args c D cl tys A (wR ad cI ci) nL cc RX9 tR Z) (hci : cl[ci]? = some (RX9, TX9, 23)) (hd : decode cc pc = .ok (.getfield 34, 3)) (kk : gG p l e R s m args below meth c Q D cl A (wR ad cI ci) nL (pc + 3) lv (.ref (ad 9) :: st) M) : gG p l e R s m args below meth c Q D cl A (wR ad cI ci) nL pc lv (.ref (ad 0) :: st) M :=
  g_getf C (o := 0) (k := 14) (T := TX9) rfl (by decide) hci (by decide) tR_f wi_12 rfl hd rfl kk
theorem rf_trace (C : gC p R s m args c D cl tys A (wR ad cI ci) nL cc RX9 tR Z) (hci : cl[ci]? = some (RX9, TX9, 23)) (hd : decode cc pc = .ok (.getfield 37, 3)) (kk : gG p l e R s m args below meth c Q D cl A (wR ad cI ci) nL (pc + 3) lv (.ref (ad 10) :: st) M) : gG p l e R s m args below meth c Q D cl A (wR ad cI ci) nL pc lv (.ref (ad 0) :: st) M :=
  g_getf C (o := 0) (k := 15) (T := TX9) rfl (by decide) hci (by decide) tR_f wi_13 rfl hd rfl kk
theorem rf_traced (C : gC p R s m args c D cl tys A (wR ad cI ci) nL cc RX9 tR Z) (hci : cl[ci]? = some (RX9, TX9, 23)) (hd : decode cc pc = .ok (.getfield 244, 3)) (kk : gG p l e R s m args below meth c Q D cl A (wR ad cI ci) nL (pc + 3) lv (iv (M 0 16) :: st) M) : gG p l e R s m args below meth c Q D cl A (wR ad cI ci) nL pc lv (.ref (ad 0) :: st) M :=
  g_getf C (o := 0) (k := 16) (T := TX9) rfl (by decide) hci (by decide) tR_f wi_254 rfl hd rfl kk
theorem rp_traced (C : gC p R s m args c D cl tys A (wR ad cI ci) nL cc RX9 tR Z) (hci : cl[ci]? = some (RX9, TX9, 23)) {x : Int} (hd : decode cc pc = .ok (.putfield 244, 3)) (kk : gG p l e R s m args below meth c Q D cl A (wR ad cI ci) nL (pc + 3) lv st (wr M 0 16 x)) : gG p l e R s m args below meth c Q D cl A (wR ad cI ci) nL pc lv (iv x :: .ref (ad 0) :: st) M :=
  g_putf C (o := 0) (k := 16) (T := TX9) (ty := .int) rfl (by decide) hci (by decide) tR_f tyX9 tyX9_ok nmX9 wi_254 rfl rfl (by decide +kernel) rfl hd ⟨rfl, rfl⟩ kk
theorem rf_speaks (C : gC p R s m args c D cl tys A (wR ad cI ci) nL cc RX9 tR Z) (hci : cl[ci]? = some (RX9, TX9, 23)) (hd : decode cc pc = .ok (.getfield 247, 3)) (kk : gG p l e R s m args below meth c Q D cl A (wR ad cI ci) nL (pc + 3) lv (iv (M 0 17) :: st) M) : gG p l e R s m args below meth c Q D cl A (wR ad cI ci) nL pc lv (.ref (ad 0) :: st) M :=
  g_getf C (o := 0) (k := 17) (T := TX9) rfl (by decide) hci (by decide) tR_f wi_257 rfl hd rfl kk
theorem rp_speaks (C : gC p R s m args c D cl tys A (wR ad cI ci) nL cc RX9 tR Z) (hci : cl[ci]? = some (RX9, TX9, 23)) {x : Int} (hd : decode cc pc = .ok (.putfield 247, 3)) (kk : gG p l e R s m args below meth c Q D cl A (wR ad cI ci) nL (pc + 3) lv st (wr M 0 17 x)) : gG p l e R s m args below meth c Q D cl A (wR ad cI ci) nL pc lv (iv x :: .ref (ad 0) :: st) M :=
  g_putf C (o := 0) (k := 17) (T := TX9) (ty := .int) rfl (by decide) hci (by decide) tR_f tyX9 tyX9_ok nmX9 wi_257 rfl rfl (by decide +kernel) rfl hd ⟨rfl, rfl⟩ kk
theorem rf_isParted (C : gC p R s m args c D cl tys A (wR ad cI ci) nL cc RX9 tR Z) (hci : cl[ci]? = some (RX9, TX9, 23)) (hd : decode cc pc = .ok (.getfield 271, 3)) (kk : gG p l e R s m args below meth c Q D cl A (wR ad cI ci) nL (pc + 3) lv (iv (M 0 18) :: st) M) : gG p l e R s m args below meth c Q D cl A (wR ad cI ci) nL pc lv (.ref (ad 0) :: st) M :=
  g_getf C (o := 0) (k := 18) (T := TX9) rfl (by decide) hci (by decide) tR_f wi_283 rfl hd rfl kk
theorem rp_isParted (C : gC p R s m args c D cl tys A (wR ad cI ci) nL cc RX9 tR Z) (hci : cl[ci]? = some (RX9, TX9, 23)) {x : Int} (hd : decode cc pc = .ok (.putfield 271, 3)) (hn : narrow .boolean (iv x) = iv x ∧ fits .boolean (iv x) = true) (kk : gG p l e R s m args below meth c Q D cl A (wR ad cI ci) nL (pc + 3) lv st (wr M 0 18 x)) : gG p l e R s m args below meth c Q D cl A (wR ad cI ci) nL pc lv (iv x :: .ref (ad 0) :: st) M :=
  g_putf C (o := 0) (k := 18) (T := TX9) (ty := .boolean) rfl (by decide) hci (by decide) tR_f tyX9 tyX9_ok nmX9 wi_283 rfl rfl (by decide +kernel) rfl hd hn kk
theorem rf_bits (C : gC p R s m args c D cl tys A (wR ad cI ci) nL cc RX9 tR Z) (hci : cl[ci]? = some (RX9, TX9, 23)) (hd : decode cc pc = .ok (.getfield 40, 3)) (kk : gG p l e R s m args below meth c Q D cl A (wR ad cI ci) nL (pc + 3) lv (.ref (ad 11) :: st) M) : gG p l e R s m args below meth c Q D cl A (wR ad cI ci) nL pc lv (.ref (ad 0) :: st) M :=
  g_getf C (o := 0) (k := 19) (T := TX9) rfl (by decide) hci (by decide) tR_f wi_14 rfl hd rfl kk
theorem rf_sizes (C : gC p R s m args c D cl tys A (wR ad cI ci) nL cc RX9 tR Z) (hci : cl[ci]? = some (RX9, TX9, 23)) (hd : decode cc pc = .ok (.getfield 43, 3)) (kk : gG p l e R s m args below meth c Q D cl A (wR ad cI ci) nL (pc + 3) lv (.ref (ad 12) :: st) M) : gG p l e R s m args below meth c Q D cl A (wR ad cI ci) nL pc lv (.ref (ad 0) :: st) M :=
  g_getf C (o := 0) (k := 20) (T := TX9) rfl (by decide) hci (by decide) tR_f wi_15 rfl hd rfl kk
theorem rf_number (C : gC p R s m args c D cl tys A (wR ad cI ci) nL cc RX9 tR Z) (hci : cl[ci]? = some (RX9, TX9, 23)) (hd : decode cc pc = .ok (.getfield 46, 3)) (kk : gG p l e R s m args below meth c Q D cl A (wR ad cI ci) nL (pc + 3) lv (.ref (ad 13) :: st) M) : gG p l e R s m args below meth c Q D cl A (wR ad cI ci) nL pc lv (.ref (ad 0) :: st) M :=
  g_getf C (o := 0) (k := 21) (T := TX9) rfl (by decide) hci (by decide) tR_f wi_16 rfl hd rfl kk
theorem rf_aside (C : gC p R s m args c D cl tys A (wR ad cI ci) nL cc RX9 tR Z) (hci : cl[ci]? = some (RX9, TX9, 23)) (hd : decode cc pc = .ok (.getfield 49, 3)) (kk : gG p l e R s m args below meth c Q D cl A (wR ad cI ci) nL (pc + 3) lv (.ref (ad 14) :: st) M) : gG p l e R s m args below meth c Q D cl A (wR ad cI ci) nL pc lv (.ref (ad 0) :: st) M :=
  g_getf C (o := 0) (k := 22) (T := TX9) rfl (by decide) hci (by decide) tR_f wi_17 rfl hd rfl kk
end RF
theorem gd_above : GoodIn tR (va_wsS RX9 253 yX9_above (Cond.code yX9_above cX9_above 1 (some .int) :: tR)) := gS_good tR_good wi_263 wi_264 wi_26 wi_256
theorem gd_addPaper : GoodIn tR (wsV RX9 208 yX9_addPaper.cls yX9_addPaper (Cond.code yX9_addPaper cX9_addPaper 5 none :: tR)) := gV_good tR_good wi_203 wi_204 wi_205 wi_26 wi_199
theorem gd_addThing : GoodIn tR (wsV RX9 66 yX9_addThing.cls yX9_addThing (Cond.code yX9_addThing cX9_addThing 4 (some .int) :: tR)) := gV_good tR_good wi_39 wi_40 wi_41 wi_26 wi_33
theorem gd_after : GoodIn tR (wsV RX9 220 yX9_after.cls yX9_after (Cond.code yX9_after cX9_after 5 (some .int) :: tR)) := gV_good tR_good wi_222 wi_223 wi_224 wi_26 wi_218
theorem gd_allGrams : GoodIn tR (wsV RX9 114 yX9_allGrams.cls yX9_allGrams (Cond.code yX9_allGrams cX9_allGrams 3 (some .int) :: tR)) := gV_good tR_good wi_110 wi_111 wi_112 wi_26 wi_106
theorem gd_allPapers : GoodIn tR (wsV RX9 211 yX9_allPapers.cls yX9_allPapers (Cond.code yX9_allPapers cX9_allPapers 1 (some .int) :: tR)) := gV_good tR_good wi_210 wi_211 wi_212 wi_26 wi_209
theorem gd_begins : GoodIn tR (wsV RX9 250 yX9_begins.cls yX9_begins (Cond.code yX9_begins cX9_begins 2 none :: tR)) := gV_good tR_good wi_260 wi_261 wi_262 wi_26 wi_255
theorem gd_bitsOf : GoodIn tR (va_wsS RX9 232 yX9_bitsOf (Cond.code yX9_bitsOf cX9_bitsOf 3 (some .int) :: tR)) := gS_good tR_good wi_236 wi_237 wi_26 wi_232
theorem gd_both : GoodIn tR (wsV RX9 133 yX9_both.cls yX9_both (Cond.code yX9_both cX9_both 1 (some .boolean) :: tR)) := gV_good tR_good wi_160 wi_161 wi_162 wi_26 wi_163
theorem gd_carry : GoodIn tR (va_wsS RX9 117 yX9_carry (Cond.code yX9_carry cX9_carry 3 none :: tR)) := gS_good tR_good wi_114 wi_115 wi_26 wi_23
theorem gd_compared : GoodIn tR (wsV RX9 144 yX9_compared.cls yX9_compared (Cond.code yX9_compared cX9_compared 2 (some .boolean) :: tR)) := gV_good tR_good wi_128 wi_129 wi_130 wi_26 wi_137
theorem gd_counts : GoodIn tR (wsV RX9 193 yX9_counts.cls yX9_counts (Cond.code yX9_counts cX9_counts 3 (some .int) :: tR)) := gV_good tR_good wi_181 wi_182 wi_183 wi_26 wi_175
theorem gd_countsBelow : GoodIn tR (wsV RX9 196 yX9_countsBelow.cls yX9_countsBelow (Cond.code yX9_countsBelow cX9_countsBelow 5 (some .int) :: tR)) := gV_good tR_good wi_186 wi_187 wi_188 wi_26 wi_185
theorem gd_doesFit : GoodIn tR (wsV RX9 226 yX9_doesFit.cls yX9_doesFit (Cond.code yX9_doesFit cX9_doesFit 6 (some .boolean) :: tR)) := gV_good tR_good wi_228 wi_229 wi_230 wi_26 wi_226
theorem gd_draw : GoodIn tR (wsV RX9 103 yX9_draw.cls yX9_draw (Cond.code yX9_draw cX9_draw 1 (some .int) :: tR)) := gV_good tR_good wi_98 wi_99 wi_100 wi_26 wi_97
theorem gd_error : GoodIn tR (wsV RX9 62 yX9_error.cls yX9_error (Cond.code yX9_error cX9_error 2 (some .int) :: tR)) := gV_good tR_good wi_36 wi_37 wi_38 wi_26 wi_20
theorem gd_findFits : GoodIn tR (wsV RX9 229 yX9_findFits.cls yX9_findFits (Cond.code yX9_findFits cX9_findFits 2 none :: tR)) := gV_good tR_good wi_233 wi_234 wi_235 wi_26 wi_231
theorem gd_go : GoodIn tR (wsV RX9 110 yX9_go.cls yX9_go (Cond.code yX9_go cX9_go 3 none :: tR)) := gV_good tR_good wi_107 wi_108 wi_109 wi_26 wi_105
theorem gd_goesBy : GoodIn tR (wsV RX9 214 yX9_goesBy.cls yX9_goesBy (Cond.code yX9_goesBy cX9_goesBy 3 none :: tR)) := gV_good tR_good wi_215 wi_216 wi_217 wi_26 wi_214
theorem gd_hasText : GoodIn tR (wsV RX9 168 yX9_hasText.cls yX9_hasText (Cond.code yX9_hasText cX9_hasText 2 (some .boolean) :: tR)) := gV_good tR_good wi_58 wi_59 wi_60 wi_26 wi_50
theorem gd_haveGrams : GoodIn tR (wsV RX9 238 yX9_haveGrams.cls yX9_haveGrams (Cond.code yX9_haveGrams cX9_haveGrams 4 (some .boolean) :: tR)) := gV_good tR_good wi_247 wi_248 wi_249 wi_26 wi_246
theorem gd_heap : GoodIn tR (wsV RX9 235 yX9_heap.cls yX9_heap (Cond.code yX9_heap cX9_heap 6 (some .int) :: tR)) := gV_good tR_good wi_241 wi_242 wi_243 wi_26 wi_240
theorem gd_held : GoodIn tR (va_wsS RX9 92 yX9_held (Cond.code yX9_held cX9_held 3 (some .int) :: tR)) := gS_good tR_good wi_61 wi_62 wi_26 wi_22
theorem gd_in : GoodIn tR (va_wsS RX9 53 yX9_in (Cond.code yX9_in cX9_in 3 (some .boolean) :: tR)) := gS_good tR_good wi_24 wi_25 wi_26 wi_21
theorem gd_isClaim : GoodIn tR (wsV RX9 190 yX9_isClaim.cls yX9_isClaim (Cond.code yX9_isClaim cX9_isClaim 2 (some .boolean) :: tR)) := gV_good tR_good wi_178 wi_179 wi_180 wi_26 wi_166
theorem gd_isHistory : GoodIn tR (wsV RX9 217 yX9_isHistory.cls yX9_isHistory (Cond.code yX9_isHistory cX9_isHistory 2 (some .boolean) :: tR)) := gV_good tR_good wi_219 wi_220 wi_221 wi_26 wi_213
theorem gd_isLaw : GoodIn tR (va_wsS RX9 199 yX9_isLaw (Cond.code yX9_isLaw cX9_isLaw 1 (some .boolean) :: tR)) := gS_good tR_good wi_191 wi_192 wi_26 wi_190
theorem gd_isName : GoodIn tR (wsV RX9 159 yX9_isName.cls yX9_isName (Cond.code yX9_isName cX9_isName 2 (some .boolean) :: tR)) := gV_good tR_good wi_142 wi_143 wi_144 wi_26 wi_123
theorem gd_isPaper : GoodIn tR (wsV RX9 205 yX9_isPaper.cls yX9_isPaper (Cond.code yX9_isPaper cX9_isPaper 4 (some .boolean) :: tR)) := gV_good tR_good wi_200 wi_201 wi_202 wi_26 wi_198
theorem gd_isSheet : GoodIn tR (va_wsS RX9 278 yX9_isSheet (Cond.code yX9_isSheet cX9_isSheet 1 (some .boolean) :: tR)) := gS_good tR_good wi_291 wi_292 wi_26 wi_290
theorem gd_isThing : GoodIn tR (wsV RX9 77 yX9_isThing.cls yX9_isThing (Cond.code yX9_isThing cX9_isThing 2 (some .boolean) :: tR)) := gV_good tR_good wi_75 wi_76 wi_77 wi_26 wi_27
theorem gd_isUnder : GoodIn tR (va_wsS RX9 84 yX9_isUnder (Cond.code yX9_isUnder cX9_isUnder 2 (some .boolean) :: tR)) := gS_good tR_good wi_83 wi_84 wi_26 wi_82
theorem gd_its : GoodIn tR (wsV RX9 73 yX9_its.cls yX9_its (Cond.code yX9_its cX9_its 3 (some .int) :: tR)) := gV_good tR_good wi_44 wi_45 wi_46 wi_26 wi_28
theorem gd_joined : GoodIn tR (va_wsS RX9 171 yX9_joined (Cond.code yX9_joined cX9_joined 3 (some .int) :: tR)) := gS_good tR_good wi_52 wi_53 wi_26 wi_51
theorem gd_kindNow : GoodIn tR (wsV RX9 259 yX9_kindNow.cls yX9_kindNow (Cond.code yX9_kindNow cX9_kindNow 1 (some .int) :: tR)) := gV_good tR_good wi_269 wi_270 wi_271 wi_26 wi_258
theorem gd_lacks : GoodIn tR (wsV RX9 281 yX9_lacks.cls yX9_lacks (Cond.code yX9_lacks cX9_lacks 2 (some .int) :: tR)) := gV_good tR_good wi_297 wi_298 wi_299 wi_26 wi_296
theorem gd_lays : GoodIn tR (wsV RX9 140 yX9_lays.cls yX9_lays (Cond.code yX9_lays cX9_lays 3 none :: tR)) := gV_good tR_good wi_134 wi_135 wi_136 wi_26 wi_125
theorem gd_lays1 : GoodIn tR (wsV RX9 57 yX9_lays1.cls yX9_lays1 (Cond.code yX9_lays1 cX9_lays1 4 none :: tR)) := gV_good tR_good wi_30 wi_31 wi_32 wi_26 wi_29
theorem gd_look : GoodIn tR (wsV RX9 137 yX9_look.cls yX9_look (Cond.code yX9_look cX9_look 1 (some .int) :: tR)) := gV_good tR_good wi_131 wi_132 wi_133 wi_26 wi_121
theorem gd_mNow : GoodIn tR (wsV RX9 265 yX9_mNow.cls yX9_mNow (Cond.code yX9_mNow cX9_mNow 1 (some .int) :: tR)) := gV_good tR_good wi_275 wi_276 wi_277 wi_26 wi_259
theorem gd_manyOn : GoodIn tR (wsV RX9 186 yX9_manyOn.cls yX9_manyOn (Cond.code yX9_manyOn cX9_manyOn 4 (some .int) :: tR)) := gV_good tR_good wi_172 wi_173 wi_174 wi_26 wi_171
theorem gd_meltsBy : GoodIn tR (wsV RX9 268 yX9_meltsBy.cls yX9_meltsBy (Cond.code yX9_meltsBy cX9_meltsBy 3 (some .int) :: tR)) := gV_good tR_good wi_279 wi_280 wi_281 wi_26 wi_282
theorem gd_moves : GoodIn tR (wsV RX9 96 yX9_moves.cls yX9_moves (Cond.code yX9_moves cX9_moves 11 none :: tR)) := gV_good tR_good wi_90 wi_91 wi_92 wi_26 wi_89
theorem gd_of : GoodIn tR (wsV RX9 183 yX9_of.cls yX9_of (Cond.code yX9_of cX9_of 3 (some .int) :: tR)) := gV_good tR_good wi_168 wi_169 wi_170 wi_26 wi_167
theorem gd_one : GoodIn tR (wsV RX9 153 yX9_one.cls yX9_one (Cond.code yX9_one cX9_one 4 (some .boolean) :: tR)) := gV_good tR_good wi_148 wi_149 wi_150 wi_26 wi_141
theorem gd_opens : GoodIn tR (wsV RX9 162 yX9_opens.cls yX9_opens (Cond.code yX9_opens cX9_opens 1 (some .boolean) :: tR)) := gV_good tR_good wi_145 wi_146 wi_147 wi_26 wi_127
theorem gd_partOf : GoodIn tR (va_wsS RX9 99 yX9_partOf (Cond.code yX9_partOf cX9_partOf 3 (some .int) :: tR)) := gS_good tR_good wi_47 wi_48 wi_26 wi_43
theorem gd_partsBy : GoodIn tR (wsV RX9 275 yX9_partsBy.cls yX9_partsBy (Cond.code yX9_partsBy cX9_partsBy 5 (some .int) :: tR)) := gV_good tR_good wi_284 wi_285 wi_286 wi_26 wi_287
theorem gd_product : GoodIn tR (wsV RX9 150 yX9_product.cls yX9_product (Cond.code yX9_product cX9_product 2 (some .boolean) :: tR)) := gV_good tR_good wi_156 wi_157 wi_158 wi_26 wi_154
theorem gd_rings : GoodIn tR (wsV RX9 180 yX9_rings.cls yX9_rings (Cond.code yX9_rings cX9_rings 3 (some .int) :: tR)) := gV_good tR_good wi_67 wi_68 wi_69 wi_26 wi_66
theorem gd_ringsBy : GoodIn tR (wsV RX9 256 yX9_ringsBy.cls yX9_ringsBy (Cond.code yX9_ringsBy cX9_ringsBy 3 (some .int) :: tR)) := gV_good tR_good wi_265 wi_266 wi_267 wi_26 wi_268
theorem gd_shareOf : GoodIn tR (wsV RX9 202 yX9_shareOf.cls yX9_shareOf (Cond.code yX9_shareOf cX9_shareOf 7 (some .int) :: tR)) := gV_good tR_good wi_193 wi_194 wi_195 wi_26 wi_189
theorem gd_sum : GoodIn tR (wsV RX9 147 yX9_sum.cls yX9_sum (Cond.code yX9_sum cX9_sum 2 (some .boolean) :: tR)) := gV_good tR_good wi_138 wi_139 wi_140 wi_26 wi_155
theorem gd_thousandths : GoodIn tR (wsV RX9 174 yX9_thousandths.cls yX9_thousandths (Cond.code yX9_thousandths cX9_thousandths 2 (some .int) :: tR)) := gV_good tR_good wi_55 wi_56 wi_57 wi_26 wi_49
theorem gd_together : GoodIn tR (wsV RX9 241 yX9_together.cls yX9_together (Cond.code yX9_together cX9_together 8 (some .int) :: tR)) := gV_good tR_good wi_250 wi_251 wi_252 wi_26 wi_245
theorem gd_told1 : GoodIn tR (wsV RX9 81 yX9_told1.cls yX9_told1 (Cond.code yX9_told1 cX9_told1 3 (some .int) :: tR)) := gV_good tR_good wi_78 wi_79 wi_80 wi_26 wi_74
theorem gd_tone : GoodIn tR (wsV RX9 70 yX9_tone.cls yX9_tone (Cond.code yX9_tone cX9_tone 4 (some .int) :: tR)) := gV_good tR_good wi_71 wi_72 wi_73 wi_26 wi_70
theorem gd_weighsBy : GoodIn tR (wsV RX9 262 yX9_weighsBy.cls yX9_weighsBy (Cond.code yX9_weighsBy cX9_weighsBy 3 (some .int) :: tR)) := gV_good tR_good wi_272 wi_273 wi_274 wi_26 wi_278
theorem gd_whole : GoodIn tR (wsV RX9 165 yX9_whole.cls yX9_whole (Cond.code yX9_whole cX9_whole 1 (some .boolean) :: tR)) := gV_good tR_good wi_151 wi_152 wi_153 wi_26 wi_159
theorem gd_worked : GoodIn tR (wsV RX9 177 yX9_worked.cls yX9_worked (Cond.code yX9_worked cX9_worked 7 (some .int) :: tR)) := gV_good tR_good wi_63 wi_64 wi_65 wi_26 wi_54
theorem gd_year : GoodIn tR (wsV RX9 107 yX9_year.cls yX9_year (Cond.code yX9_year cX9_year 3 none :: tR)) := gV_good tR_good wi_102 wi_103 wi_104 wi_26 wi_101
end
section
-- what single opcodes decode to, for any code: out of single bytes
def rd (c : ByteArray) (p b : Nat) : Prop := ∃ h : p < c.size, (c[p]'h).toNat = b
theorem u1_rd {c : ByteArray} {p b : Nat} (h : rd c p b) : Jvm.ClassFile.Reader.runAt (Jvm.ClassFile.Reader.u1 : Jvm.ClassFile.Decoder Nat) c p = .ok (b, p + 1) := by
  obtain ⟨h1, h2⟩ := h
  subst h2
  change (dite (p < c.size) (fun h => (do set (p + 1); pure (c[p]'h).toNat : Jvm.ClassFile.Decoder Nat)) (fun _ => throw (Jvm.ClassFile.HasTruncated.truncated p))) c p = _
  rw [dif_pos h1]
  rfl
theorem rd_bind {α β : Type} {r : Jvm.ClassFile.Decoder α} {f : α → Jvm.ClassFile.Decoder β} {c : ByteArray} {p q : Nat} {a : α} (h : Jvm.ClassFile.Reader.runAt r c p = .ok (a, q)) : Jvm.ClassFile.Reader.runAt (r >>= f) c p = Jvm.ClassFile.Reader.runAt (f a) c q := by
  change Except.bind (Jvm.ClassFile.Reader.runAt r c p) (fun x => Jvm.ClassFile.Reader.runAt (f x.1) c x.2) = _
  rw [h]
  rfl
theorem rd_map {α β : Type} {r : Jvm.ClassFile.Decoder α} {f : α → β} {c : ByteArray} {p q : Nat} {a : α} (h : Jvm.ClassFile.Reader.runAt r c p = .ok (a, q)) : Jvm.ClassFile.Reader.runAt (f <$> r) c p = .ok (f a, q) := by
  change Except.bind (Jvm.ClassFile.Reader.runAt r c p) (fun x => .ok (f x.1, x.2)) = _
  rw [h]
  rfl
theorem u2_rd {c : ByteArray} {p a b : Nat} (ha : rd c p a) (hb : rd c (p + 1) b) : Jvm.ClassFile.Reader.runAt (Jvm.ClassFile.Reader.u2 : Jvm.ClassFile.Decoder Nat) c p = .ok (a * 256 + b, p + 2) := by
  unfold Jvm.ClassFile.Reader.u2
  rw [rd_bind (u1_rd ha), rd_bind (u1_rd hb)]
  rfl
theorem s1_rd {c : ByteArray} {p a : Nat} (ha : rd c p a) : Jvm.ClassFile.Reader.runAt (Jvm.ClassFile.Reader.s1 : Jvm.ClassFile.Decoder Int) c p = .ok (Jvm.ClassFile.Reader.signed 8 a, p + 1) := rd_map (u1_rd ha)
theorem s2_rd {c : ByteArray} {p a b : Nat} (ha : rd c p a) (hb : rd c (p + 1) b) : Jvm.ClassFile.Reader.runAt (Jvm.ClassFile.Reader.s2 : Jvm.ClassFile.Decoder Int) c p = .ok (Jvm.ClassFile.Reader.signed 16 (a * 256 + b), p + 2) := rd_map (u2_rd ha hb)
theorem dec_of {c : ByteArray} {p n : Nat} {ins : Jvm.ClassFile.Instr} (h : Jvm.ClassFile.Reader.runAt (Jvm.ClassFile.Decoder.instr p) c p = .ok (ins, p + n)) : Jvm.ClassFile.decode c p = .ok (ins, n) := by
  unfold Jvm.ClassFile.decode
  rw [h]
  show Except.ok (ins, p + n - p) = _
  rw [Nat.add_sub_cancel_left]
theorem rdSeg {c : ByteArray} {A : List UInt8} {j : Nat} (D : c.data.toList.drop j = A) (r : Nat) {x : UInt8} {b : Nat} (h : A[r]? = some x) (hb : x.toNat = b) : rd c (j + r) b := by
  have e : c.data.toList[j + r]? = some x := by rw [← List.getElem?_drop, D]; exact h
  obtain ⟨hl, hx⟩ := List.getElem?_eq_some_iff.mp e
  refine ⟨hl, ?_⟩
  show (c.data.toList[j + r]'hl).toNat = b
  rw [hx]
  exact hb
theorem sg_next {L A B : List UInt8} {j : Nat} (h : L.drop j = A) (e : A.drop 32 = B) : L.drop (j + 32) = B := by
  rw [← List.drop_drop, h, e]
theorem op_1 {c : ByteArray} {p : Nat} (h : rd c p 1) : Jvm.ClassFile.decode c p = .ok (.aconst_null, 1) := by
  refine dec_of ?_
  unfold Jvm.ClassFile.Decoder.instr
  rw [rd_bind (u1_rd h)]
  rfl
theorem op_2 {c : ByteArray} {p : Nat} (h : rd c p 2) : Jvm.ClassFile.decode c p = .ok (.iconst (-1), 1) := by
  refine dec_of ?_
  unfold Jvm.ClassFile.Decoder.instr
  rw [rd_bind (u1_rd h)]
  rfl
theorem op_9 {c : ByteArray} {p : Nat} (h : rd c p 9) : Jvm.ClassFile.decode c p = .ok (.lconst 0, 1) := by
  refine dec_of ?_
  unfold Jvm.ClassFile.Decoder.instr
  rw [rd_bind (u1_rd h)]
  rfl
theorem op_10 {c : ByteArray} {p : Nat} (h : rd c p 10) : Jvm.ClassFile.decode c p = .ok (.lconst 1, 1) := by
  refine dec_of ?_
  unfold Jvm.ClassFile.Decoder.instr
  rw [rd_bind (u1_rd h)]
  rfl
theorem op_46 {c : ByteArray} {p : Nat} (h : rd c p 46) : Jvm.ClassFile.decode c p = .ok (.iaload, 1) := by
  refine dec_of ?_
  unfold Jvm.ClassFile.Decoder.instr
  rw [rd_bind (u1_rd h)]
  rfl
theorem op_50 {c : ByteArray} {p : Nat} (h : rd c p 50) : Jvm.ClassFile.decode c p = .ok (.aaload, 1) := by
  refine dec_of ?_
  unfold Jvm.ClassFile.Decoder.instr
  rw [rd_bind (u1_rd h)]
  rfl
theorem op_79 {c : ByteArray} {p : Nat} (h : rd c p 79) : Jvm.ClassFile.decode c p = .ok (.iastore, 1) := by
  refine dec_of ?_
  unfold Jvm.ClassFile.Decoder.instr
  rw [rd_bind (u1_rd h)]
  rfl
theorem op_83 {c : ByteArray} {p : Nat} (h : rd c p 83) : Jvm.ClassFile.decode c p = .ok (.aastore, 1) := by
  refine dec_of ?_
  unfold Jvm.ClassFile.Decoder.instr
  rw [rd_bind (u1_rd h)]
  rfl
theorem op_87 {c : ByteArray} {p : Nat} (h : rd c p 87) : Jvm.ClassFile.decode c p = .ok (.pop, 1) := by
  refine dec_of ?_
  unfold Jvm.ClassFile.Decoder.instr
  rw [rd_bind (u1_rd h)]
  rfl
theorem op_89 {c : ByteArray} {p : Nat} (h : rd c p 89) : Jvm.ClassFile.decode c p = .ok (.dup, 1) := by
  refine dec_of ?_
  unfold Jvm.ClassFile.Decoder.instr
  rw [rd_bind (u1_rd h)]
  rfl
theorem op_92 {c : ByteArray} {p : Nat} (h : rd c p 92) : Jvm.ClassFile.decode c p = .ok (.dup2, 1) := by
  refine dec_of ?_
  unfold Jvm.ClassFile.Decoder.instr
  rw [rd_bind (u1_rd h)]
  rfl
theorem op_96 {c : ByteArray} {p : Nat} (h : rd c p 96) : Jvm.ClassFile.decode c p = .ok (.iadd, 1) := by
  refine dec_of ?_
  unfold Jvm.ClassFile.Decoder.instr
  rw [rd_bind (u1_rd h)]
  rfl
theorem op_97 {c : ByteArray} {p : Nat} (h : rd c p 97) : Jvm.ClassFile.decode c p = .ok (.ladd, 1) := by
  refine dec_of ?_
  unfold Jvm.ClassFile.Decoder.instr
  rw [rd_bind (u1_rd h)]
  rfl
theorem op_100 {c : ByteArray} {p : Nat} (h : rd c p 100) : Jvm.ClassFile.decode c p = .ok (.isub, 1) := by
  refine dec_of ?_
  unfold Jvm.ClassFile.Decoder.instr
  rw [rd_bind (u1_rd h)]
  rfl
theorem op_104 {c : ByteArray} {p : Nat} (h : rd c p 104) : Jvm.ClassFile.decode c p = .ok (.imul, 1) := by
  refine dec_of ?_
  unfold Jvm.ClassFile.Decoder.instr
  rw [rd_bind (u1_rd h)]
  rfl
theorem op_105 {c : ByteArray} {p : Nat} (h : rd c p 105) : Jvm.ClassFile.decode c p = .ok (.lmul, 1) := by
  refine dec_of ?_
  unfold Jvm.ClassFile.Decoder.instr
  rw [rd_bind (u1_rd h)]
  rfl
theorem op_108 {c : ByteArray} {p : Nat} (h : rd c p 108) : Jvm.ClassFile.decode c p = .ok (.idiv, 1) := by
  refine dec_of ?_
  unfold Jvm.ClassFile.Decoder.instr
  rw [rd_bind (u1_rd h)]
  rfl
theorem op_109 {c : ByteArray} {p : Nat} (h : rd c p 109) : Jvm.ClassFile.decode c p = .ok (.ldiv, 1) := by
  refine dec_of ?_
  unfold Jvm.ClassFile.Decoder.instr
  rw [rd_bind (u1_rd h)]
  rfl
theorem op_112 {c : ByteArray} {p : Nat} (h : rd c p 112) : Jvm.ClassFile.decode c p = .ok (.irem, 1) := by
  refine dec_of ?_
  unfold Jvm.ClassFile.Decoder.instr
  rw [rd_bind (u1_rd h)]
  rfl
theorem op_116 {c : ByteArray} {p : Nat} (h : rd c p 116) : Jvm.ClassFile.decode c p = .ok (.ineg, 1) := by
  refine dec_of ?_
  unfold Jvm.ClassFile.Decoder.instr
  rw [rd_bind (u1_rd h)]
  rfl
theorem op_120 {c : ByteArray} {p : Nat} (h : rd c p 120) : Jvm.ClassFile.decode c p = .ok (.ishl, 1) := by
  refine dec_of ?_
  unfold Jvm.ClassFile.Decoder.instr
  rw [rd_bind (u1_rd h)]
  rfl
theorem op_121 {c : ByteArray} {p : Nat} (h : rd c p 121) : Jvm.ClassFile.decode c p = .ok (.lshl, 1) := by
  refine dec_of ?_
  unfold Jvm.ClassFile.Decoder.instr
  rw [rd_bind (u1_rd h)]
  rfl
theorem op_122 {c : ByteArray} {p : Nat} (h : rd c p 122) : Jvm.ClassFile.decode c p = .ok (.ishr, 1) := by
  refine dec_of ?_
  unfold Jvm.ClassFile.Decoder.instr
  rw [rd_bind (u1_rd h)]
  rfl
theorem op_123 {c : ByteArray} {p : Nat} (h : rd c p 123) : Jvm.ClassFile.decode c p = .ok (.lshr, 1) := by
  refine dec_of ?_
  unfold Jvm.ClassFile.Decoder.instr
  rw [rd_bind (u1_rd h)]
  rfl
theorem op_124 {c : ByteArray} {p : Nat} (h : rd c p 124) : Jvm.ClassFile.decode c p = .ok (.iushr, 1) := by
  refine dec_of ?_
  unfold Jvm.ClassFile.Decoder.instr
  rw [rd_bind (u1_rd h)]
  rfl
theorem op_126 {c : ByteArray} {p : Nat} (h : rd c p 126) : Jvm.ClassFile.decode c p = .ok (.iand, 1) := by
  refine dec_of ?_
  unfold Jvm.ClassFile.Decoder.instr
  rw [rd_bind (u1_rd h)]
  rfl
theorem op_127 {c : ByteArray} {p : Nat} (h : rd c p 127) : Jvm.ClassFile.decode c p = .ok (.land, 1) := by
  refine dec_of ?_
  unfold Jvm.ClassFile.Decoder.instr
  rw [rd_bind (u1_rd h)]
  rfl
theorem op_128 {c : ByteArray} {p : Nat} (h : rd c p 128) : Jvm.ClassFile.decode c p = .ok (.ior, 1) := by
  refine dec_of ?_
  unfold Jvm.ClassFile.Decoder.instr
  rw [rd_bind (u1_rd h)]
  rfl
theorem op_129 {c : ByteArray} {p : Nat} (h : rd c p 129) : Jvm.ClassFile.decode c p = .ok (.lor, 1) := by
  refine dec_of ?_
  unfold Jvm.ClassFile.Decoder.instr
  rw [rd_bind (u1_rd h)]
  rfl
theorem op_130 {c : ByteArray} {p : Nat} (h : rd c p 130) : Jvm.ClassFile.decode c p = .ok (.ixor, 1) := by
  refine dec_of ?_
  unfold Jvm.ClassFile.Decoder.instr
  rw [rd_bind (u1_rd h)]
  rfl
theorem op_133 {c : ByteArray} {p : Nat} (h : rd c p 133) : Jvm.ClassFile.decode c p = .ok (.i2l, 1) := by
  refine dec_of ?_
  unfold Jvm.ClassFile.Decoder.instr
  rw [rd_bind (u1_rd h)]
  rfl
theorem op_136 {c : ByteArray} {p : Nat} (h : rd c p 136) : Jvm.ClassFile.decode c p = .ok (.l2i, 1) := by
  refine dec_of ?_
  unfold Jvm.ClassFile.Decoder.instr
  rw [rd_bind (u1_rd h)]
  rfl
theorem op_148 {c : ByteArray} {p : Nat} (h : rd c p 148) : Jvm.ClassFile.decode c p = .ok (.lcmp, 1) := by
  refine dec_of ?_
  unfold Jvm.ClassFile.Decoder.instr
  rw [rd_bind (u1_rd h)]
  rfl
theorem op_172 {c : ByteArray} {p : Nat} (h : rd c p 172) : Jvm.ClassFile.decode c p = .ok (.ireturn, 1) := by
  refine dec_of ?_
  unfold Jvm.ClassFile.Decoder.instr
  rw [rd_bind (u1_rd h)]
  rfl
theorem op_176 {c : ByteArray} {p : Nat} (h : rd c p 176) : Jvm.ClassFile.decode c p = .ok (.areturn, 1) := by
  refine dec_of ?_
  unfold Jvm.ClassFile.Decoder.instr
  rw [rd_bind (u1_rd h)]
  rfl
theorem op_177 {c : ByteArray} {p : Nat} (h : rd c p 177) : Jvm.ClassFile.decode c p = .ok (.return_, 1) := by
  refine dec_of ?_
  unfold Jvm.ClassFile.Decoder.instr
  rw [rd_bind (u1_rd h)]
  rfl
theorem op_190 {c : ByteArray} {p : Nat} (h : rd c p 190) : Jvm.ClassFile.decode c p = .ok (.arraylength, 1) := by
  refine dec_of ?_
  unfold Jvm.ClassFile.Decoder.instr
  rw [rd_bind (u1_rd h)]
  rfl
theorem op_3 {c : ByteArray} {p : Nat} (h : rd c p 3) : Jvm.ClassFile.decode c p = .ok (.iconst 0, 1) := by
  refine dec_of ?_
  unfold Jvm.ClassFile.Decoder.instr
  rw [rd_bind (u1_rd h)]
  rfl
theorem op_4 {c : ByteArray} {p : Nat} (h : rd c p 4) : Jvm.ClassFile.decode c p = .ok (.iconst 1, 1) := by
  refine dec_of ?_
  unfold Jvm.ClassFile.Decoder.instr
  rw [rd_bind (u1_rd h)]
  rfl
theorem op_5 {c : ByteArray} {p : Nat} (h : rd c p 5) : Jvm.ClassFile.decode c p = .ok (.iconst 2, 1) := by
  refine dec_of ?_
  unfold Jvm.ClassFile.Decoder.instr
  rw [rd_bind (u1_rd h)]
  rfl
theorem op_6 {c : ByteArray} {p : Nat} (h : rd c p 6) : Jvm.ClassFile.decode c p = .ok (.iconst 3, 1) := by
  refine dec_of ?_
  unfold Jvm.ClassFile.Decoder.instr
  rw [rd_bind (u1_rd h)]
  rfl
theorem op_7 {c : ByteArray} {p : Nat} (h : rd c p 7) : Jvm.ClassFile.decode c p = .ok (.iconst 4, 1) := by
  refine dec_of ?_
  unfold Jvm.ClassFile.Decoder.instr
  rw [rd_bind (u1_rd h)]
  rfl
theorem op_8 {c : ByteArray} {p : Nat} (h : rd c p 8) : Jvm.ClassFile.decode c p = .ok (.iconst 5, 1) := by
  refine dec_of ?_
  unfold Jvm.ClassFile.Decoder.instr
  rw [rd_bind (u1_rd h)]
  rfl
theorem op_26 {c : ByteArray} {p : Nat} (h : rd c p 26) : Jvm.ClassFile.decode c p = .ok (.iload_n 0, 1) := by
  refine dec_of ?_
  unfold Jvm.ClassFile.Decoder.instr
  rw [rd_bind (u1_rd h)]
  rfl
theorem op_27 {c : ByteArray} {p : Nat} (h : rd c p 27) : Jvm.ClassFile.decode c p = .ok (.iload_n 1, 1) := by
  refine dec_of ?_
  unfold Jvm.ClassFile.Decoder.instr
  rw [rd_bind (u1_rd h)]
  rfl
theorem op_28 {c : ByteArray} {p : Nat} (h : rd c p 28) : Jvm.ClassFile.decode c p = .ok (.iload_n 2, 1) := by
  refine dec_of ?_
  unfold Jvm.ClassFile.Decoder.instr
  rw [rd_bind (u1_rd h)]
  rfl
theorem op_29 {c : ByteArray} {p : Nat} (h : rd c p 29) : Jvm.ClassFile.decode c p = .ok (.iload_n 3, 1) := by
  refine dec_of ?_
  unfold Jvm.ClassFile.Decoder.instr
  rw [rd_bind (u1_rd h)]
  rfl
theorem op_30 {c : ByteArray} {p : Nat} (h : rd c p 30) : Jvm.ClassFile.decode c p = .ok (.lload_n 0, 1) := by
  refine dec_of ?_
  unfold Jvm.ClassFile.Decoder.instr
  rw [rd_bind (u1_rd h)]
  rfl
theorem op_31 {c : ByteArray} {p : Nat} (h : rd c p 31) : Jvm.ClassFile.decode c p = .ok (.lload_n 1, 1) := by
  refine dec_of ?_
  unfold Jvm.ClassFile.Decoder.instr
  rw [rd_bind (u1_rd h)]
  rfl
theorem op_32 {c : ByteArray} {p : Nat} (h : rd c p 32) : Jvm.ClassFile.decode c p = .ok (.lload_n 2, 1) := by
  refine dec_of ?_
  unfold Jvm.ClassFile.Decoder.instr
  rw [rd_bind (u1_rd h)]
  rfl
theorem op_33 {c : ByteArray} {p : Nat} (h : rd c p 33) : Jvm.ClassFile.decode c p = .ok (.lload_n 3, 1) := by
  refine dec_of ?_
  unfold Jvm.ClassFile.Decoder.instr
  rw [rd_bind (u1_rd h)]
  rfl
theorem op_42 {c : ByteArray} {p : Nat} (h : rd c p 42) : Jvm.ClassFile.decode c p = .ok (.aload_n 0, 1) := by
  refine dec_of ?_
  unfold Jvm.ClassFile.Decoder.instr
  rw [rd_bind (u1_rd h)]
  rfl
theorem op_43 {c : ByteArray} {p : Nat} (h : rd c p 43) : Jvm.ClassFile.decode c p = .ok (.aload_n 1, 1) := by
  refine dec_of ?_
  unfold Jvm.ClassFile.Decoder.instr
  rw [rd_bind (u1_rd h)]
  rfl
theorem op_44 {c : ByteArray} {p : Nat} (h : rd c p 44) : Jvm.ClassFile.decode c p = .ok (.aload_n 2, 1) := by
  refine dec_of ?_
  unfold Jvm.ClassFile.Decoder.instr
  rw [rd_bind (u1_rd h)]
  rfl
theorem op_45 {c : ByteArray} {p : Nat} (h : rd c p 45) : Jvm.ClassFile.decode c p = .ok (.aload_n 3, 1) := by
  refine dec_of ?_
  unfold Jvm.ClassFile.Decoder.instr
  rw [rd_bind (u1_rd h)]
  rfl
theorem op_59 {c : ByteArray} {p : Nat} (h : rd c p 59) : Jvm.ClassFile.decode c p = .ok (.istore_n 0, 1) := by
  refine dec_of ?_
  unfold Jvm.ClassFile.Decoder.instr
  rw [rd_bind (u1_rd h)]
  rfl
theorem op_60 {c : ByteArray} {p : Nat} (h : rd c p 60) : Jvm.ClassFile.decode c p = .ok (.istore_n 1, 1) := by
  refine dec_of ?_
  unfold Jvm.ClassFile.Decoder.instr
  rw [rd_bind (u1_rd h)]
  rfl
theorem op_61 {c : ByteArray} {p : Nat} (h : rd c p 61) : Jvm.ClassFile.decode c p = .ok (.istore_n 2, 1) := by
  refine dec_of ?_
  unfold Jvm.ClassFile.Decoder.instr
  rw [rd_bind (u1_rd h)]
  rfl
theorem op_62 {c : ByteArray} {p : Nat} (h : rd c p 62) : Jvm.ClassFile.decode c p = .ok (.istore_n 3, 1) := by
  refine dec_of ?_
  unfold Jvm.ClassFile.Decoder.instr
  rw [rd_bind (u1_rd h)]
  rfl
theorem op_63 {c : ByteArray} {p : Nat} (h : rd c p 63) : Jvm.ClassFile.decode c p = .ok (.lstore_n 0, 1) := by
  refine dec_of ?_
  unfold Jvm.ClassFile.Decoder.instr
  rw [rd_bind (u1_rd h)]
  rfl
theorem op_64 {c : ByteArray} {p : Nat} (h : rd c p 64) : Jvm.ClassFile.decode c p = .ok (.lstore_n 1, 1) := by
  refine dec_of ?_
  unfold Jvm.ClassFile.Decoder.instr
  rw [rd_bind (u1_rd h)]
  rfl
theorem op_65 {c : ByteArray} {p : Nat} (h : rd c p 65) : Jvm.ClassFile.decode c p = .ok (.lstore_n 2, 1) := by
  refine dec_of ?_
  unfold Jvm.ClassFile.Decoder.instr
  rw [rd_bind (u1_rd h)]
  rfl
theorem op_66 {c : ByteArray} {p : Nat} (h : rd c p 66) : Jvm.ClassFile.decode c p = .ok (.lstore_n 3, 1) := by
  refine dec_of ?_
  unfold Jvm.ClassFile.Decoder.instr
  rw [rd_bind (u1_rd h)]
  rfl
theorem op_75 {c : ByteArray} {p : Nat} (h : rd c p 75) : Jvm.ClassFile.decode c p = .ok (.astore_n 0, 1) := by
  refine dec_of ?_
  unfold Jvm.ClassFile.Decoder.instr
  rw [rd_bind (u1_rd h)]
  rfl
theorem op_76 {c : ByteArray} {p : Nat} (h : rd c p 76) : Jvm.ClassFile.decode c p = .ok (.astore_n 1, 1) := by
  refine dec_of ?_
  unfold Jvm.ClassFile.Decoder.instr
  rw [rd_bind (u1_rd h)]
  rfl
theorem op_77 {c : ByteArray} {p : Nat} (h : rd c p 77) : Jvm.ClassFile.decode c p = .ok (.astore_n 2, 1) := by
  refine dec_of ?_
  unfold Jvm.ClassFile.Decoder.instr
  rw [rd_bind (u1_rd h)]
  rfl
theorem op_78 {c : ByteArray} {p : Nat} (h : rd c p 78) : Jvm.ClassFile.decode c p = .ok (.astore_n 3, 1) := by
  refine dec_of ?_
  unfold Jvm.ClassFile.Decoder.instr
  rw [rd_bind (u1_rd h)]
  rfl
theorem op_19 {c : ByteArray} {p a b n : Nat} (h : rd c p 19) (ha : rd c (p + 1) a) (hb : rd c (p + 2) b) (hn : a * 256 + b = n) : Jvm.ClassFile.decode c p = .ok (.ldc_w n, 3) := by
  subst hn
  refine dec_of ?_
  unfold Jvm.ClassFile.Decoder.instr
  rw [rd_bind (u1_rd h)]
  change Jvm.ClassFile.Reader.runAt ((Jvm.ClassFile.Reader.u2 : Jvm.ClassFile.Decoder Nat) >>= fun x => (pure (.ldc_w x) : Jvm.ClassFile.Decoder Jvm.ClassFile.Instr)) c (p + 1) = _
  rw [rd_bind (u2_rd ha hb)]
  rfl
theorem op_20 {c : ByteArray} {p a b n : Nat} (h : rd c p 20) (ha : rd c (p + 1) a) (hb : rd c (p + 2) b) (hn : a * 256 + b = n) : Jvm.ClassFile.decode c p = .ok (.ldc2_w n, 3) := by
  subst hn
  refine dec_of ?_
  unfold Jvm.ClassFile.Decoder.instr
  rw [rd_bind (u1_rd h)]
  change Jvm.ClassFile.Reader.runAt ((Jvm.ClassFile.Reader.u2 : Jvm.ClassFile.Decoder Nat) >>= fun x => (pure (.ldc2_w x) : Jvm.ClassFile.Decoder Jvm.ClassFile.Instr)) c (p + 1) = _
  rw [rd_bind (u2_rd ha hb)]
  rfl
theorem op_178 {c : ByteArray} {p a b n : Nat} (h : rd c p 178) (ha : rd c (p + 1) a) (hb : rd c (p + 2) b) (hn : a * 256 + b = n) : Jvm.ClassFile.decode c p = .ok (.getstatic n, 3) := by
  subst hn
  refine dec_of ?_
  unfold Jvm.ClassFile.Decoder.instr
  rw [rd_bind (u1_rd h)]
  change Jvm.ClassFile.Reader.runAt ((Jvm.ClassFile.Reader.u2 : Jvm.ClassFile.Decoder Nat) >>= fun x => (pure (.getstatic x) : Jvm.ClassFile.Decoder Jvm.ClassFile.Instr)) c (p + 1) = _
  rw [rd_bind (u2_rd ha hb)]
  rfl
theorem op_180 {c : ByteArray} {p a b n : Nat} (h : rd c p 180) (ha : rd c (p + 1) a) (hb : rd c (p + 2) b) (hn : a * 256 + b = n) : Jvm.ClassFile.decode c p = .ok (.getfield n, 3) := by
  subst hn
  refine dec_of ?_
  unfold Jvm.ClassFile.Decoder.instr
  rw [rd_bind (u1_rd h)]
  change Jvm.ClassFile.Reader.runAt ((Jvm.ClassFile.Reader.u2 : Jvm.ClassFile.Decoder Nat) >>= fun x => (pure (.getfield x) : Jvm.ClassFile.Decoder Jvm.ClassFile.Instr)) c (p + 1) = _
  rw [rd_bind (u2_rd ha hb)]
  rfl
theorem op_181 {c : ByteArray} {p a b n : Nat} (h : rd c p 181) (ha : rd c (p + 1) a) (hb : rd c (p + 2) b) (hn : a * 256 + b = n) : Jvm.ClassFile.decode c p = .ok (.putfield n, 3) := by
  subst hn
  refine dec_of ?_
  unfold Jvm.ClassFile.Decoder.instr
  rw [rd_bind (u1_rd h)]
  change Jvm.ClassFile.Reader.runAt ((Jvm.ClassFile.Reader.u2 : Jvm.ClassFile.Decoder Nat) >>= fun x => (pure (.putfield x) : Jvm.ClassFile.Decoder Jvm.ClassFile.Instr)) c (p + 1) = _
  rw [rd_bind (u2_rd ha hb)]
  rfl
theorem op_182 {c : ByteArray} {p a b n : Nat} (h : rd c p 182) (ha : rd c (p + 1) a) (hb : rd c (p + 2) b) (hn : a * 256 + b = n) : Jvm.ClassFile.decode c p = .ok (.invokevirtual n, 3) := by
  subst hn
  refine dec_of ?_
  unfold Jvm.ClassFile.Decoder.instr
  rw [rd_bind (u1_rd h)]
  change Jvm.ClassFile.Reader.runAt ((Jvm.ClassFile.Reader.u2 : Jvm.ClassFile.Decoder Nat) >>= fun x => (pure (.invokevirtual x) : Jvm.ClassFile.Decoder Jvm.ClassFile.Instr)) c (p + 1) = _
  rw [rd_bind (u2_rd ha hb)]
  rfl
theorem op_183 {c : ByteArray} {p a b n : Nat} (h : rd c p 183) (ha : rd c (p + 1) a) (hb : rd c (p + 2) b) (hn : a * 256 + b = n) : Jvm.ClassFile.decode c p = .ok (.invokespecial n, 3) := by
  subst hn
  refine dec_of ?_
  unfold Jvm.ClassFile.Decoder.instr
  rw [rd_bind (u1_rd h)]
  change Jvm.ClassFile.Reader.runAt ((Jvm.ClassFile.Reader.u2 : Jvm.ClassFile.Decoder Nat) >>= fun x => (pure (.invokespecial x) : Jvm.ClassFile.Decoder Jvm.ClassFile.Instr)) c (p + 1) = _
  rw [rd_bind (u2_rd ha hb)]
  rfl
theorem op_184 {c : ByteArray} {p a b n : Nat} (h : rd c p 184) (ha : rd c (p + 1) a) (hb : rd c (p + 2) b) (hn : a * 256 + b = n) : Jvm.ClassFile.decode c p = .ok (.invokestatic n, 3) := by
  subst hn
  refine dec_of ?_
  unfold Jvm.ClassFile.Decoder.instr
  rw [rd_bind (u1_rd h)]
  change Jvm.ClassFile.Reader.runAt ((Jvm.ClassFile.Reader.u2 : Jvm.ClassFile.Decoder Nat) >>= fun x => (pure (.invokestatic x) : Jvm.ClassFile.Decoder Jvm.ClassFile.Instr)) c (p + 1) = _
  rw [rd_bind (u2_rd ha hb)]
  rfl
theorem op_187 {c : ByteArray} {p a b n : Nat} (h : rd c p 187) (ha : rd c (p + 1) a) (hb : rd c (p + 2) b) (hn : a * 256 + b = n) : Jvm.ClassFile.decode c p = .ok (.new n, 3) := by
  subst hn
  refine dec_of ?_
  unfold Jvm.ClassFile.Decoder.instr
  rw [rd_bind (u1_rd h)]
  change Jvm.ClassFile.Reader.runAt ((Jvm.ClassFile.Reader.u2 : Jvm.ClassFile.Decoder Nat) >>= fun x => (pure (.new x) : Jvm.ClassFile.Decoder Jvm.ClassFile.Instr)) c (p + 1) = _
  rw [rd_bind (u2_rd ha hb)]
  rfl
theorem op_17 {c : ByteArray} {p a b : Nat} {n : Int} (h : rd c p 17) (ha : rd c (p + 1) a) (hb : rd c (p + 2) b) (hn : Jvm.ClassFile.Reader.signed 16 (a * 256 + b) = n) : Jvm.ClassFile.decode c p = .ok (.sipush n, 3) := by
  subst hn
  refine dec_of ?_
  unfold Jvm.ClassFile.Decoder.instr
  rw [rd_bind (u1_rd h)]
  change Jvm.ClassFile.Reader.runAt ((Jvm.ClassFile.Reader.s2 : Jvm.ClassFile.Decoder Int) >>= fun x => (pure (.sipush x) : Jvm.ClassFile.Decoder Jvm.ClassFile.Instr)) c (p + 1) = _
  rw [rd_bind (s2_rd ha hb)]
  rfl
theorem op_153 {c : ByteArray} {p a b : Nat} {n : Int} (h : rd c p 153) (ha : rd c (p + 1) a) (hb : rd c (p + 2) b) (hn : Jvm.ClassFile.Reader.signed 16 (a * 256 + b) = n) : Jvm.ClassFile.decode c p = .ok (.ifCond .eq n, 3) := by
  subst hn
  refine dec_of ?_
  unfold Jvm.ClassFile.Decoder.instr
  rw [rd_bind (u1_rd h)]
  change Jvm.ClassFile.Reader.runAt ((Jvm.ClassFile.Reader.s2 : Jvm.ClassFile.Decoder Int) >>= fun x => (pure (.ifCond .eq x) : Jvm.ClassFile.Decoder Jvm.ClassFile.Instr)) c (p + 1) = _
  rw [rd_bind (s2_rd ha hb)]
  rfl
theorem op_154 {c : ByteArray} {p a b : Nat} {n : Int} (h : rd c p 154) (ha : rd c (p + 1) a) (hb : rd c (p + 2) b) (hn : Jvm.ClassFile.Reader.signed 16 (a * 256 + b) = n) : Jvm.ClassFile.decode c p = .ok (.ifCond .ne n, 3) := by
  subst hn
  refine dec_of ?_
  unfold Jvm.ClassFile.Decoder.instr
  rw [rd_bind (u1_rd h)]
  change Jvm.ClassFile.Reader.runAt ((Jvm.ClassFile.Reader.s2 : Jvm.ClassFile.Decoder Int) >>= fun x => (pure (.ifCond .ne x) : Jvm.ClassFile.Decoder Jvm.ClassFile.Instr)) c (p + 1) = _
  rw [rd_bind (s2_rd ha hb)]
  rfl
theorem op_155 {c : ByteArray} {p a b : Nat} {n : Int} (h : rd c p 155) (ha : rd c (p + 1) a) (hb : rd c (p + 2) b) (hn : Jvm.ClassFile.Reader.signed 16 (a * 256 + b) = n) : Jvm.ClassFile.decode c p = .ok (.ifCond .lt n, 3) := by
  subst hn
  refine dec_of ?_
  unfold Jvm.ClassFile.Decoder.instr
  rw [rd_bind (u1_rd h)]
  change Jvm.ClassFile.Reader.runAt ((Jvm.ClassFile.Reader.s2 : Jvm.ClassFile.Decoder Int) >>= fun x => (pure (.ifCond .lt x) : Jvm.ClassFile.Decoder Jvm.ClassFile.Instr)) c (p + 1) = _
  rw [rd_bind (s2_rd ha hb)]
  rfl
theorem op_156 {c : ByteArray} {p a b : Nat} {n : Int} (h : rd c p 156) (ha : rd c (p + 1) a) (hb : rd c (p + 2) b) (hn : Jvm.ClassFile.Reader.signed 16 (a * 256 + b) = n) : Jvm.ClassFile.decode c p = .ok (.ifCond .ge n, 3) := by
  subst hn
  refine dec_of ?_
  unfold Jvm.ClassFile.Decoder.instr
  rw [rd_bind (u1_rd h)]
  change Jvm.ClassFile.Reader.runAt ((Jvm.ClassFile.Reader.s2 : Jvm.ClassFile.Decoder Int) >>= fun x => (pure (.ifCond .ge x) : Jvm.ClassFile.Decoder Jvm.ClassFile.Instr)) c (p + 1) = _
  rw [rd_bind (s2_rd ha hb)]
  rfl
theorem op_157 {c : ByteArray} {p a b : Nat} {n : Int} (h : rd c p 157) (ha : rd c (p + 1) a) (hb : rd c (p + 2) b) (hn : Jvm.ClassFile.Reader.signed 16 (a * 256 + b) = n) : Jvm.ClassFile.decode c p = .ok (.ifCond .gt n, 3) := by
  subst hn
  refine dec_of ?_
  unfold Jvm.ClassFile.Decoder.instr
  rw [rd_bind (u1_rd h)]
  change Jvm.ClassFile.Reader.runAt ((Jvm.ClassFile.Reader.s2 : Jvm.ClassFile.Decoder Int) >>= fun x => (pure (.ifCond .gt x) : Jvm.ClassFile.Decoder Jvm.ClassFile.Instr)) c (p + 1) = _
  rw [rd_bind (s2_rd ha hb)]
  rfl
theorem op_158 {c : ByteArray} {p a b : Nat} {n : Int} (h : rd c p 158) (ha : rd c (p + 1) a) (hb : rd c (p + 2) b) (hn : Jvm.ClassFile.Reader.signed 16 (a * 256 + b) = n) : Jvm.ClassFile.decode c p = .ok (.ifCond .le n, 3) := by
  subst hn
  refine dec_of ?_
  unfold Jvm.ClassFile.Decoder.instr
  rw [rd_bind (u1_rd h)]
  change Jvm.ClassFile.Reader.runAt ((Jvm.ClassFile.Reader.s2 : Jvm.ClassFile.Decoder Int) >>= fun x => (pure (.ifCond .le x) : Jvm.ClassFile.Decoder Jvm.ClassFile.Instr)) c (p + 1) = _
  rw [rd_bind (s2_rd ha hb)]
  rfl
theorem op_159 {c : ByteArray} {p a b : Nat} {n : Int} (h : rd c p 159) (ha : rd c (p + 1) a) (hb : rd c (p + 2) b) (hn : Jvm.ClassFile.Reader.signed 16 (a * 256 + b) = n) : Jvm.ClassFile.decode c p = .ok (.if_icmp .eq n, 3) := by
  subst hn
  refine dec_of ?_
  unfold Jvm.ClassFile.Decoder.instr
  rw [rd_bind (u1_rd h)]
  change Jvm.ClassFile.Reader.runAt ((Jvm.ClassFile.Reader.s2 : Jvm.ClassFile.Decoder Int) >>= fun x => (pure (.if_icmp .eq x) : Jvm.ClassFile.Decoder Jvm.ClassFile.Instr)) c (p + 1) = _
  rw [rd_bind (s2_rd ha hb)]
  rfl
theorem op_160 {c : ByteArray} {p a b : Nat} {n : Int} (h : rd c p 160) (ha : rd c (p + 1) a) (hb : rd c (p + 2) b) (hn : Jvm.ClassFile.Reader.signed 16 (a * 256 + b) = n) : Jvm.ClassFile.decode c p = .ok (.if_icmp .ne n, 3) := by
  subst hn
  refine dec_of ?_
  unfold Jvm.ClassFile.Decoder.instr
  rw [rd_bind (u1_rd h)]
  change Jvm.ClassFile.Reader.runAt ((Jvm.ClassFile.Reader.s2 : Jvm.ClassFile.Decoder Int) >>= fun x => (pure (.if_icmp .ne x) : Jvm.ClassFile.Decoder Jvm.ClassFile.Instr)) c (p + 1) = _
  rw [rd_bind (s2_rd ha hb)]
  rfl
theorem op_161 {c : ByteArray} {p a b : Nat} {n : Int} (h : rd c p 161) (ha : rd c (p + 1) a) (hb : rd c (p + 2) b) (hn : Jvm.ClassFile.Reader.signed 16 (a * 256 + b) = n) : Jvm.ClassFile.decode c p = .ok (.if_icmp .lt n, 3) := by
  subst hn
  refine dec_of ?_
  unfold Jvm.ClassFile.Decoder.instr
  rw [rd_bind (u1_rd h)]
  change Jvm.ClassFile.Reader.runAt ((Jvm.ClassFile.Reader.s2 : Jvm.ClassFile.Decoder Int) >>= fun x => (pure (.if_icmp .lt x) : Jvm.ClassFile.Decoder Jvm.ClassFile.Instr)) c (p + 1) = _
  rw [rd_bind (s2_rd ha hb)]
  rfl
theorem op_162 {c : ByteArray} {p a b : Nat} {n : Int} (h : rd c p 162) (ha : rd c (p + 1) a) (hb : rd c (p + 2) b) (hn : Jvm.ClassFile.Reader.signed 16 (a * 256 + b) = n) : Jvm.ClassFile.decode c p = .ok (.if_icmp .ge n, 3) := by
  subst hn
  refine dec_of ?_
  unfold Jvm.ClassFile.Decoder.instr
  rw [rd_bind (u1_rd h)]
  change Jvm.ClassFile.Reader.runAt ((Jvm.ClassFile.Reader.s2 : Jvm.ClassFile.Decoder Int) >>= fun x => (pure (.if_icmp .ge x) : Jvm.ClassFile.Decoder Jvm.ClassFile.Instr)) c (p + 1) = _
  rw [rd_bind (s2_rd ha hb)]
  rfl
theorem op_163 {c : ByteArray} {p a b : Nat} {n : Int} (h : rd c p 163) (ha : rd c (p + 1) a) (hb : rd c (p + 2) b) (hn : Jvm.ClassFile.Reader.signed 16 (a * 256 + b) = n) : Jvm.ClassFile.decode c p = .ok (.if_icmp .gt n, 3) := by
  subst hn
  refine dec_of ?_
  unfold Jvm.ClassFile.Decoder.instr
  rw [rd_bind (u1_rd h)]
  change Jvm.ClassFile.Reader.runAt ((Jvm.ClassFile.Reader.s2 : Jvm.ClassFile.Decoder Int) >>= fun x => (pure (.if_icmp .gt x) : Jvm.ClassFile.Decoder Jvm.ClassFile.Instr)) c (p + 1) = _
  rw [rd_bind (s2_rd ha hb)]
  rfl
theorem op_164 {c : ByteArray} {p a b : Nat} {n : Int} (h : rd c p 164) (ha : rd c (p + 1) a) (hb : rd c (p + 2) b) (hn : Jvm.ClassFile.Reader.signed 16 (a * 256 + b) = n) : Jvm.ClassFile.decode c p = .ok (.if_icmp .le n, 3) := by
  subst hn
  refine dec_of ?_
  unfold Jvm.ClassFile.Decoder.instr
  rw [rd_bind (u1_rd h)]
  change Jvm.ClassFile.Reader.runAt ((Jvm.ClassFile.Reader.s2 : Jvm.ClassFile.Decoder Int) >>= fun x => (pure (.if_icmp .le x) : Jvm.ClassFile.Decoder Jvm.ClassFile.Instr)) c (p + 1) = _
  rw [rd_bind (s2_rd ha hb)]
  rfl
theorem op_167 {c : ByteArray} {p a b : Nat} {n : Int} (h : rd c p 167) (ha : rd c (p + 1) a) (hb : rd c (p + 2) b) (hn : Jvm.ClassFile.Reader.signed 16 (a * 256 + b) = n) : Jvm.ClassFile.decode c p = .ok (.goto n, 3) := by
  subst hn
  refine dec_of ?_
  unfold Jvm.ClassFile.Decoder.instr
  rw [rd_bind (u1_rd h)]
  change Jvm.ClassFile.Reader.runAt ((Jvm.ClassFile.Reader.s2 : Jvm.ClassFile.Decoder Int) >>= fun x => (pure (.goto x) : Jvm.ClassFile.Decoder Jvm.ClassFile.Instr)) c (p + 1) = _
  rw [rd_bind (s2_rd ha hb)]
  rfl
theorem op_198 {c : ByteArray} {p a b : Nat} {n : Int} (h : rd c p 198) (ha : rd c (p + 1) a) (hb : rd c (p + 2) b) (hn : Jvm.ClassFile.Reader.signed 16 (a * 256 + b) = n) : Jvm.ClassFile.decode c p = .ok (.ifnull n, 3) := by
  subst hn
  refine dec_of ?_
  unfold Jvm.ClassFile.Decoder.instr
  rw [rd_bind (u1_rd h)]
  change Jvm.ClassFile.Reader.runAt ((Jvm.ClassFile.Reader.s2 : Jvm.ClassFile.Decoder Int) >>= fun x => (pure (.ifnull x) : Jvm.ClassFile.Decoder Jvm.ClassFile.Instr)) c (p + 1) = _
  rw [rd_bind (s2_rd ha hb)]
  rfl
theorem op_199 {c : ByteArray} {p a b : Nat} {n : Int} (h : rd c p 199) (ha : rd c (p + 1) a) (hb : rd c (p + 2) b) (hn : Jvm.ClassFile.Reader.signed 16 (a * 256 + b) = n) : Jvm.ClassFile.decode c p = .ok (.ifnonnull n, 3) := by
  subst hn
  refine dec_of ?_
  unfold Jvm.ClassFile.Decoder.instr
  rw [rd_bind (u1_rd h)]
  change Jvm.ClassFile.Reader.runAt ((Jvm.ClassFile.Reader.s2 : Jvm.ClassFile.Decoder Int) >>= fun x => (pure (.ifnonnull x) : Jvm.ClassFile.Decoder Jvm.ClassFile.Instr)) c (p + 1) = _
  rw [rd_bind (s2_rd ha hb)]
  rfl
theorem op_16 {c : ByteArray} {p a : Nat} {n : Int} (h : rd c p 16) (ha : rd c (p + 1) a) (hn : Jvm.ClassFile.Reader.signed 8 a = n) : Jvm.ClassFile.decode c p = .ok (.bipush n, 2) := by
  subst hn
  refine dec_of ?_
  unfold Jvm.ClassFile.Decoder.instr
  rw [rd_bind (u1_rd h)]
  change Jvm.ClassFile.Reader.runAt ((Jvm.ClassFile.Reader.s1 : Jvm.ClassFile.Decoder Int) >>= fun x => (pure (.bipush x) : Jvm.ClassFile.Decoder Jvm.ClassFile.Instr)) c (p + 1) = _
  rw [rd_bind (s1_rd ha)]
  rfl
theorem op_18 {c : ByteArray} {p a : Nat} (h : rd c p 18) (ha : rd c (p + 1) a) : Jvm.ClassFile.decode c p = .ok (.ldc a, 2) := by
  refine dec_of ?_
  unfold Jvm.ClassFile.Decoder.instr
  rw [rd_bind (u1_rd h)]
  change Jvm.ClassFile.Reader.runAt ((Jvm.ClassFile.Reader.u1 : Jvm.ClassFile.Decoder Nat) >>= fun x => (pure (.ldc x) : Jvm.ClassFile.Decoder Jvm.ClassFile.Instr)) c (p + 1) = _
  rw [rd_bind (u1_rd ha)]
  rfl
theorem op_21 {c : ByteArray} {p a : Nat} (h : rd c p 21) (ha : rd c (p + 1) a) : Jvm.ClassFile.decode c p = .ok (.iload a, 2) := by
  refine dec_of ?_
  unfold Jvm.ClassFile.Decoder.instr
  rw [rd_bind (u1_rd h)]
  change Jvm.ClassFile.Reader.runAt ((Jvm.ClassFile.Reader.u1 : Jvm.ClassFile.Decoder Nat) >>= fun x => (pure (.iload x) : Jvm.ClassFile.Decoder Jvm.ClassFile.Instr)) c (p + 1) = _
  rw [rd_bind (u1_rd ha)]
  rfl
theorem op_22 {c : ByteArray} {p a : Nat} (h : rd c p 22) (ha : rd c (p + 1) a) : Jvm.ClassFile.decode c p = .ok (.lload a, 2) := by
  refine dec_of ?_
  unfold Jvm.ClassFile.Decoder.instr
  rw [rd_bind (u1_rd h)]
  change Jvm.ClassFile.Reader.runAt ((Jvm.ClassFile.Reader.u1 : Jvm.ClassFile.Decoder Nat) >>= fun x => (pure (.lload x) : Jvm.ClassFile.Decoder Jvm.ClassFile.Instr)) c (p + 1) = _
  rw [rd_bind (u1_rd ha)]
  rfl
theorem op_25 {c : ByteArray} {p a : Nat} (h : rd c p 25) (ha : rd c (p + 1) a) : Jvm.ClassFile.decode c p = .ok (.aload a, 2) := by
  refine dec_of ?_
  unfold Jvm.ClassFile.Decoder.instr
  rw [rd_bind (u1_rd h)]
  change Jvm.ClassFile.Reader.runAt ((Jvm.ClassFile.Reader.u1 : Jvm.ClassFile.Decoder Nat) >>= fun x => (pure (.aload x) : Jvm.ClassFile.Decoder Jvm.ClassFile.Instr)) c (p + 1) = _
  rw [rd_bind (u1_rd ha)]
  rfl
theorem op_54 {c : ByteArray} {p a : Nat} (h : rd c p 54) (ha : rd c (p + 1) a) : Jvm.ClassFile.decode c p = .ok (.istore a, 2) := by
  refine dec_of ?_
  unfold Jvm.ClassFile.Decoder.instr
  rw [rd_bind (u1_rd h)]
  change Jvm.ClassFile.Reader.runAt ((Jvm.ClassFile.Reader.u1 : Jvm.ClassFile.Decoder Nat) >>= fun x => (pure (.istore x) : Jvm.ClassFile.Decoder Jvm.ClassFile.Instr)) c (p + 1) = _
  rw [rd_bind (u1_rd ha)]
  rfl
theorem op_55 {c : ByteArray} {p a : Nat} (h : rd c p 55) (ha : rd c (p + 1) a) : Jvm.ClassFile.decode c p = .ok (.lstore a, 2) := by
  refine dec_of ?_
  unfold Jvm.ClassFile.Decoder.instr
  rw [rd_bind (u1_rd h)]
  change Jvm.ClassFile.Reader.runAt ((Jvm.ClassFile.Reader.u1 : Jvm.ClassFile.Decoder Nat) >>= fun x => (pure (.lstore x) : Jvm.ClassFile.Decoder Jvm.ClassFile.Instr)) c (p + 1) = _
  rw [rd_bind (u1_rd ha)]
  rfl
theorem op_58 {c : ByteArray} {p a : Nat} (h : rd c p 58) (ha : rd c (p + 1) a) : Jvm.ClassFile.decode c p = .ok (.astore a, 2) := by
  refine dec_of ?_
  unfold Jvm.ClassFile.Decoder.instr
  rw [rd_bind (u1_rd h)]
  change Jvm.ClassFile.Reader.runAt ((Jvm.ClassFile.Reader.u1 : Jvm.ClassFile.Decoder Nat) >>= fun x => (pure (.astore x) : Jvm.ClassFile.Decoder Jvm.ClassFile.Instr)) c (p + 1) = _
  rw [rd_bind (u1_rd ha)]
  rfl
theorem op_132 {c : ByteArray} {p a b : Nat} {n : Int} (h : rd c p 132) (ha : rd c (p + 1) a) (hb : rd c (p + 2) b) (hn : Jvm.ClassFile.Reader.signed 8 b = n) : Jvm.ClassFile.decode c p = .ok (.iinc a n, 3) := by
  subst hn
  refine dec_of ?_
  unfold Jvm.ClassFile.Decoder.instr
  rw [rd_bind (u1_rd h)]
  change Jvm.ClassFile.Reader.runAt ((Jvm.ClassFile.Reader.u1 : Jvm.ClassFile.Decoder Nat) >>= fun x => (Jvm.ClassFile.Reader.s1 : Jvm.ClassFile.Decoder Int) >>= fun y => (pure (.iinc x y) : Jvm.ClassFile.Decoder Jvm.ClassFile.Instr)) c (p + 1) = _
  rw [rd_bind (u1_rd ha), rd_bind (s1_rd hb)]
  rfl
end
