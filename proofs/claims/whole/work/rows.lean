section
-- THE ABSTRACT MACHINE, ground: numbers as Int, memory as place × index → Int
abbrev gSt : Type := Nat → Int → Int
def iv (x : Int) : Value := .int (Int32.ofInt x)
def jv (x : Int) : Value := .long (Int64.ofInt x)
def wr (M : gSt) (o : Nat) (i x : Int) : gSt := fun o' i' => if o' = o ∧ i' = i then x else M o' i'
/-- an int's own value -/
def wrap (x : Int) : Int := (x + 2147483648) % 4294967296 - 2147483648
def wrapL (x : Int) : Int := (x + 9223372036854775808) % 18446744073709551616 - 9223372036854775808
theorem wrap_in {x : Int} (h1 : -2147483648 ≤ x) (h2 : x < 2147483648) : wrap x = x := by unfold wrap; omega
theorem wrapL_in {x : Int} (h1 : -9223372036854775808 ≤ x) (h2 : x < 9223372036854775808) : wrapL x = x := by unfold wrapL; omega
theorem wrap_rng (x : Int) : -2147483648 ≤ wrap x ∧ wrap x < 2147483648 := by unfold wrap; omega
theorem ofInt_toInt (x : Int) : (Int32.ofInt x).toInt = wrap x := by
  rw [Int32.toInt_ofInt]
  unfold wrap
  rw [Int.bmod_def]
  simp only [Int32.size]
  split <;> omega
theorem ofInt_toIntL (x : Int) : (Int64.ofInt x).toInt = wrapL x := by
  rw [Int64.toInt_ofInt]
  unfold wrapL
  rw [Int.bmod_def]
  simp only [Int64.size]
  split <;> omega
theorem ofInt_wrap (x : Int) : Int32.ofInt (wrap x) = Int32.ofInt x := by
  rw [← ofInt_toInt, Int32.ofInt_toInt]
theorem iv_wrap (x : Int) : iv (wrap x) = iv x := by unfold iv; rw [ofInt_wrap]
theorem ofInt_eq_iff (x y : Int) : Int32.ofInt x = Int32.ofInt y ↔ wrap x = wrap y := by
  rw [← Int32.toInt_inj, ofInt_toInt, ofInt_toInt]
theorem ofInt_lt_iff (x y : Int) : Int32.ofInt x < Int32.ofInt y ↔ wrap x < wrap y := by
  rw [Int32.lt_iff_toInt_lt, ofInt_toInt, ofInt_toInt]
theorem ofInt_le_iff (x y : Int) : Int32.ofInt x ≤ Int32.ofInt y ↔ wrap x ≤ wrap y := by
  rw [Int32.le_iff_toInt_le, ofInt_toInt, ofInt_toInt]
theorem ofInt_div (x y : Int) : Int32.ofInt x / Int32.ofInt y = Int32.ofInt ((wrap x).tdiv (wrap y)) := by
  rw [← Int32.toInt_inj, Int32.toInt_div, ofInt_toInt, ofInt_toInt, ofInt_toInt]
  unfold wrap
  rw [Int.bmod_def]
  split <;> omega
theorem ofInt_clamp {i : Int} (h0 : 0 ≤ i) (h1 : i < 2147483648) : (Int32.ofInt i).toNatClampNeg = i.toNat := by
  show (Int32.ofInt i).toInt.toNat = i.toNat
  rw [ofInt_toInt, wrap_in (by omega) h1]
theorem ofInt_in {i : Int} {n : Nat} (h0 : 0 ≤ i) (h1 : i < n) (hn : n < 2147483648) : vp_in (Int32.ofInt i) n := by
  rintro (h | h)
  · rw [Int32.lt_iff_toInt_lt, ofInt_toInt, wrap_in (by omega) (by omega)] at h
    simp at h
    omega
  · rw [ofInt_clamp h0 (by omega)] at h
    omega
end
section
-- the world of places: what each place is, and what it holds by the memory M
abbrev gLC : Type := Nat ⊕ ((Nat × List (Option Nat)) ⊕ List Nat)
def mkf (ad : Nat → Nat) (M : gSt) (o : Nat) : Nat → List (Option Nat) → List Value
  | _, [] => []
  | j, none :: fl => iv (M o j) :: mkf ad M o (j + 1) fl
  | j, some d :: fl => .ref (ad d) :: mkf ad M o (j + 1) fl
def mkc (ad : Nat → Nat) (cI cS : ClassId) (M : gSt) (o : Nat) (y : gLC) : va_E :=
  match y with
  | .inl n => .inl (cI, n, .inl (fun i => Int32.ofInt (M o (i : Int))))
  | .inr (.inl (ci, fl)) => .inr (ci, mkf ad M o 0 fl)
  | .inr (.inr ps) => .inl (cS, ps.length, .inr (.inr (.inr (.inr (fun i => (ps[i]?).map ad)))))
def wld (ad : Nat → Nat) (cI cS : ClassId) (lay : Nat → gLC) (N : Nat) (M : gSt) : va_W := (List.range N).map (fun o => (ad o, mkc ad cI cS M o (lay o)))
theorem wld_get {ad : Nat → Nat} {cI cS : ClassId} {lay : Nat → gLC} {N : Nat} (M : gSt) {o : Nat} (h : o < N) : (wld ad cI cS lay N M)[o]? = some (ad o, mkc ad cI cS M o (lay o)) := by
  simp [wld, h]
theorem wld_len {ad : Nat → Nat} {cI cS : ClassId} {lay : Nat → gLC} {N : Nat} (M : gSt) : (wld ad cI cS lay N M).length = N := by simp [wld]
theorem mkf_other {ad : Nat → Nat} {M : gSt} {o o' : Nat} {i x : Int} (h : o' ≠ o) : ∀ (fl : List (Option Nat)) (j : Nat), mkf ad (wr M o i x) o' j fl = mkf ad M o' j fl
  | [], _ => rfl
  | none :: fl, j => by
    simp only [mkf]
    rw [mkf_other h fl (j + 1)]
    simp [wr, h]
  | some d :: fl, j => by
    simp only [mkf]
    rw [mkf_other h fl (j + 1)]
theorem mkc_other {ad : Nat → Nat} {cI cS : ClassId} {M : gSt} {o o' : Nat} {i x : Int} (h : o' ≠ o) (y : gLC) : mkc ad cI cS (wr M o i x) o' y = mkc ad cI cS M o' y := by
  rcases y with n | ⟨ci, fl⟩ | ps
  · simp [mkc, wr, h]
  · simp only [mkc]
    rw [mkf_other h]
  · rfl
theorem wld_set {ad : Nat → Nat} {cI cS : ClassId} {lay : Nat → gLC} {N : Nat} {M : gSt} {o : Nat} {i x : Int} {e : va_E} (h : mkc ad cI cS (wr M o i x) o (lay o) = e) : (wld ad cI cS lay N M).set o (ad o, e) = wld ad cI cS lay N (wr M o i x) := by
  apply List.ext_getElem?
  intro k
  rw [List.getElem?_set]
  by_cases hk : o = k
  · subst hk
    by_cases hN : o < N
    · simp [wld, hN, h]
    · simp [wld, hN]
  · rw [if_neg hk]
    by_cases hN : k < N
    · rw [wld_get M hN, wld_get _ hN, mkc_other (fun e => hk e.symm)]
    · simp [wld, hN]
theorem wld_ad {ad : Nat → Nat} {cI cS : ClassId} {lay : Nat → gLC} {N : Nat} {M : gSt} {k : Nat} {q : Nat × va_E} (h : (wld ad cI cS lay N M)[k]? = some q) : k < N ∧ q.1 = ad k := by
  have hk : k < N := by
    have := (List.getElem?_eq_some_iff.mp h).1
    rwa [wld_len] at this
  rw [wld_get M hk] at h
  cases h
  exact ⟨hk, rfl⟩
theorem wld_D {ad : Nat → Nat} {cI cS : ClassId} {lay : Nat → gLC} {N : Nat} {M M' : gSt} {A : Nat → Prop} (h : va_D A (wld ad cI cS lay N M)) : va_D A (wld ad cI cS lay N M') := by
  refine ⟨fun i j p q hi hj hpq => ?_, fun k q hk => ?_⟩
  · obtain ⟨h1, e1⟩ := wld_ad hi
    obtain ⟨h2, e2⟩ := wld_ad hj
    exact h.1 i j _ _ (wld_get M h1) (wld_get M h2) (by rw [← e1, ← e2]; exact hpq)
  · obtain ⟨h1, e1⟩ := wld_ad hk
    rw [e1]
    exact h.2 k _ (wld_get M h1)
theorem wld_A {ad : Nat → Nat} {cI cS : ClassId} {lay : Nat → gLC} {N : Nat} {M M' : gSt} {sz q : Nat} (h : va_A (wld ad cI cS lay N M) sz q) : va_A (wld ad cI cS lay N M') sz q := by
  rcases h with ⟨k, e, h⟩ | h
  · obtain ⟨h1, e1⟩ := wld_ad h
    have e1 : q = ad k := e1
    subst e1
    exact va_A.in (wld_get M' h1)
  · exact Or.inr h
/-- what stays through a method's walk: machine, code, class, words, the tables' knowledge, the addresses apart -/
def gC (p : Program) (R : Room) (s : State) (m : MethodId) (args : Array Value) (c : Code) (D : va_G) (cl : List vw_C) (tys : List (ClassId × FieldType)) (A : Nat → Prop) (wl : gSt → va_W) (nL : Nat) (cc : ByteArray) (own : String) (Ts : List Cond) : Prop :=
  p.tables.exec = Jvm.exec ∧ c.code = cc ∧ c.maxLocals = nL ∧ s.vm.findClass own = some m.cls ∧ (∀ w ∈ Ts, w.before args s = true) ∧ va_K D cl tys s ∧ (∀ M, va_D A (wl M)) ∧ (∀ q : Nat, s.heap.size ≤ q → A q) ∧ R = R
/-- the walk at a place of the code: from every heap that holds the memory M -/
def gG (p : Program) (l : Launch) (e : Env) (R : Room) (s : State) (m : MethodId) (args : Array Value) (below : List Frame) (meth : Method) (c : Code) (Q : State → Prop) (D : va_G) (cl : List vw_C) (A : Nat → Prop) (wl : gSt → va_W) (nL : Nat) (pc : Nat) (lv : List (Nat × Value)) (st : List Value) (M : gSt) : Prop :=
  ∀ (H : Heap) (locs : List Loc) (ls : Array Slot), va_P D cl (wl M) H → va_S A s.heap H locs → lv_has ls nL lv → W p l e R s m args below meth c H locs 0 0 Q (F0 m pc ls st)
theorem lookup_mem {i : Nat} {v : Value} : ∀ {lv : List (Nat × Value)}, List.lookup i lv = some v → (i, v) ∈ lv
  | [], h => by cases h
  | (a1, a2) :: t, h => by
    simp only [List.lookup] at h
    split at h
    · rename_i he
      have e1 : i = a1 := eq_of_beq he
      have e2 : a2 = v := Option.some.inj h
      rw [e1, e2]
      exact List.mem_cons_self
    · exact List.mem_cons_of_mem _ (lookup_mem h)
section GM
variable {p : Program} {l : Launch} {e : Env} {R : Room} {s : State} {m : MethodId} {args : Array Value} {below : List Frame} {meth : Method} {c : Code} {Q : State → Prop}
variable {D : va_G} {cl : List vw_C} {tys : List (ClassId × FieldType)} {A : Nat → Prop} {wl : gSt → va_W} {nL : Nat} {cc : ByteArray} {own : String} {Ts : List Cond}
variable {pc : Nat} {lv lv' : List (Nat × Value)} {st : List Value} {M : gSt}
theorem g_locals (h : lv'.map (fun q => List.lookup q.1 lv) = lv'.map (fun q => some q.2)) (k : gG p l e R s m args below meth c Q D cl A wl nL pc lv' st M) : gG p l e R s m args below meth c Q D cl A wl nL pc lv st M := by
  intro H locs ls hP hS hl
  refine k H locs ls hP hS ⟨hl.1, hl.2.1, fun q hq => ?_⟩
  have h1 : List.lookup q.1 lv = some q.2 := by
    obtain ⟨i, hi⟩ := List.getElem?_of_mem hq
    have h2 := congrArg (fun x => x[i]?) h
    simp only [List.getElem?_map, hi] at h2
    exact Option.some.inj h2
  exact hl.2.2 q (lookup_mem h1)
theorem g_at {ls : Array Slot} {i : Nat} {v : Value} (hl : lv_has ls nL lv) (h : List.lookup i lv = some v) : ls[i]? = some (.val v) := by
  exact hl.2.2 (i, v) (lookup_mem h)
theorem g_name {x : Int} (k : ∀ y : Int, y = x → gG p l e R s m args below meth c Q D cl A wl nL pc lv (iv y :: st) M) : gG p l e R s m args below meth c Q D cl A wl nL pc lv (iv x :: st) M := k x rfl
theorem g_nameL {x : Int} (k : ∀ y : Int, y = x → gG p l e R s m args below meth c Q D cl A wl nL pc lv (jv y :: st) M) : gG p l e R s m args below meth c Q D cl A wl nL pc lv (jv x :: st) M := k x rfl
theorem g_top {x y : Int} (h : x = y) (k : gG p l e R s m args below meth c Q D cl A wl nL pc lv (iv y :: st) M) : gG p l e R s m args below meth c Q D cl A wl nL pc lv (iv x :: st) M := h ▸ k
theorem g_topL {x y : Int} (h : x = y) (k : gG p l e R s m args below meth c Q D cl A wl nL pc lv (jv y :: st) M) : gG p l e R s m args below meth c Q D cl A wl nL pc lv (jv x :: st) M := h ▸ k
theorem g_mem {M' : gSt} (h : M = M') (k : gG p l e R s m args below meth c Q D cl A wl nL pc lv st M') : gG p l e R s m args below meth c Q D cl A wl nL pc lv st M := h ▸ k
theorem g_nop (C : gC p R s m args c D cl tys A wl nL cc own Ts) : True := trivial
-- loads
theorem g_iload_n (C : gC p R s m args c D cl tys A wl nL cc own Ts) {k : Fin 4} {x : Int} (hd : decode cc pc = .ok (.iload_n k, 1)) (h : List.lookup (k : Nat) lv = some (iv x)) (kk : gG p l e R s m args below meth c Q D cl A wl nL (pc + 1) lv (iv x :: st) M) : gG p l e R s m args below meth c Q D cl A wl nL pc lv st M :=
  fun H locs ls hP hS hl => lv_iload_n C.1 C.2.1 hd rfl (g_at hl h) (kk H locs ls hP hS hl)
theorem g_iload (C : gC p R s m args c D cl tys A wl nL cc own Ts) {i : Nat} {x : Int} (hd : decode cc pc = .ok (.iload i, 2)) (h : List.lookup i lv = some (iv x)) (kk : gG p l e R s m args below meth c Q D cl A wl nL (pc + 2) lv (iv x :: st) M) : gG p l e R s m args below meth c Q D cl A wl nL pc lv st M :=
  fun H locs ls hP hS hl => lv_iload C.1 C.2.1 hd (g_at hl h) (kk H locs ls hP hS hl)
theorem g_lload_n (C : gC p R s m args c D cl tys A wl nL cc own Ts) {k : Fin 4} {x : Int} (hd : decode cc pc = .ok (.lload_n k, 1)) (h : List.lookup (k : Nat) lv = some (jv x)) (kk : gG p l e R s m args below meth c Q D cl A wl nL (pc + 1) lv (jv x :: st) M) : gG p l e R s m args below meth c Q D cl A wl nL pc lv st M :=
  fun H locs ls hP hS hl => lv_lload_n C.1 C.2.1 hd rfl (g_at hl h) (kk H locs ls hP hS hl)
theorem g_lload (C : gC p R s m args c D cl tys A wl nL cc own Ts) {i : Nat} {x : Int} (hd : decode cc pc = .ok (.lload i, 2)) (h : List.lookup i lv = some (jv x)) (kk : gG p l e R s m args below meth c Q D cl A wl nL (pc + 2) lv (jv x :: st) M) : gG p l e R s m args below meth c Q D cl A wl nL pc lv st M :=
  fun H locs ls hP hS hl => lv_lload C.1 C.2.1 hd (g_at hl h) (kk H locs ls hP hS hl)
theorem g_aload_n (C : gC p R s m args c D cl tys A wl nL cc own Ts) {k : Fin 4} {x : Nat} (hd : decode cc pc = .ok (.aload_n k, 1)) (h : List.lookup (k : Nat) lv = some (.ref x)) (kk : gG p l e R s m args below meth c Q D cl A wl nL (pc + 1) lv (.ref x :: st) M) : gG p l e R s m args below meth c Q D cl A wl nL pc lv st M :=
  fun H locs ls hP hS hl => lv_aload_n C.1 C.2.1 hd rfl (g_at hl h) (kk H locs ls hP hS hl)
theorem g_aload (C : gC p R s m args c D cl tys A wl nL cc own Ts) {i : Nat} {x : Nat} (hd : decode cc pc = .ok (.aload i, 2)) (h : List.lookup i lv = some (.ref x)) (kk : gG p l e R s m args below meth c Q D cl A wl nL (pc + 2) lv (.ref x :: st) M) : gG p l e R s m args below meth c Q D cl A wl nL pc lv st M :=
  fun H locs ls hP hS hl => lv_aload C.1 C.2.1 hd (g_at hl h) (kk H locs ls hP hS hl)
-- stores
def lvs (i : Nat) (v : Value) (lv : List (Nat × Value)) : List (Nat × Value) := (i, v) :: lv.filter (fun q => !(q.1 == i) && !(q.1 + 1 == i && q.2.category == 2))
def lvs2 (i : Nat) (v : Value) (lv : List (Nat × Value)) : List (Nat × Value) := (i, v) :: lv.filter (fun q => !(q.1 == i) && (!(q.1 == i + 1) && !(q.1 + 1 == i && q.2.category == 2)))
theorem g_istore_n (C : gC p R s m args c D cl tys A wl nL cc own Ts) {k : Fin 4} {x : Int} (hd : decode cc pc = .ok (.istore_n k, 1)) (hn : (k : Nat) < nL) (hl' : lvs k (iv x) lv = lv') (kk : gG p l e R s m args below meth c Q D cl A wl nL (pc + 1) lv' st M) : gG p l e R s m args below meth c Q D cl A wl nL pc lv (iv x :: st) M :=
  fun H locs ls hP hS hl => lv_istore_n C.1 C.2.1 hd rfl hl hn hl' (fun ls' hl2 => kk H locs ls' hP hS hl2)
theorem g_istore (C : gC p R s m args c D cl tys A wl nL cc own Ts) {i : Nat} {x : Int} (hd : decode cc pc = .ok (.istore i, 2)) (hn : i < nL) (hl' : lvs i (iv x) lv = lv') (kk : gG p l e R s m args below meth c Q D cl A wl nL (pc + 2) lv' st M) : gG p l e R s m args below meth c Q D cl A wl nL pc lv (iv x :: st) M :=
  fun H locs ls hP hS hl => lv_istore C.1 C.2.1 hd hl hn hl' (fun ls' hl2 => kk H locs ls' hP hS hl2)
theorem g_lstore_n (C : gC p R s m args c D cl tys A wl nL cc own Ts) {k : Fin 4} {x : Int} (hd : decode cc pc = .ok (.lstore_n k, 1)) (hn : (k : Nat) + 1 < nL) (hl' : lvs2 k (jv x) lv = lv') (kk : gG p l e R s m args below meth c Q D cl A wl nL (pc + 1) lv' st M) : gG p l e R s m args below meth c Q D cl A wl nL pc lv (jv x :: st) M :=
  fun H locs ls hP hS hl => lv_lstore_n C.1 C.2.1 hd rfl hl hn hl' (fun ls' hl2 => kk H locs ls' hP hS hl2)
theorem g_lstore (C : gC p R s m args c D cl tys A wl nL cc own Ts) {i : Nat} {x : Int} (hd : decode cc pc = .ok (.lstore i, 2)) (hn : i + 1 < nL) (hl' : lvs2 i (jv x) lv = lv') (kk : gG p l e R s m args below meth c Q D cl A wl nL (pc + 2) lv' st M) : gG p l e R s m args below meth c Q D cl A wl nL pc lv (jv x :: st) M :=
  fun H locs ls hP hS hl => lv_lstore C.1 C.2.1 hd hl hn hl' (fun ls' hl2 => kk H locs ls' hP hS hl2)
theorem g_astore_n (C : gC p R s m args c D cl tys A wl nL cc own Ts) {k : Fin 4} {x : Nat} (hd : decode cc pc = .ok (.astore_n k, 1)) (hn : (k : Nat) < nL) (hl' : lvs k (.ref x) lv = lv') (kk : gG p l e R s m args below meth c Q D cl A wl nL (pc + 1) lv' st M) : gG p l e R s m args below meth c Q D cl A wl nL pc lv (.ref x :: st) M :=
  fun H locs ls hP hS hl => lv_astore_n C.1 C.2.1 hd rfl hl hn hl' (fun ls' hl2 => kk H locs ls' hP hS hl2)
theorem g_astore (C : gC p R s m args c D cl tys A wl nL cc own Ts) {i : Nat} {x : Nat} (hd : decode cc pc = .ok (.astore i, 2)) (hn : i < nL) (hl' : lvs i (.ref x) lv = lv') (kk : gG p l e R s m args below meth c Q D cl A wl nL (pc + 2) lv' st M) : gG p l e R s m args below meth c Q D cl A wl nL pc lv (.ref x :: st) M :=
  fun H locs ls hP hS hl => lv_astore C.1 C.2.1 hd hl hn hl' (fun ls' hl2 => kk H locs ls' hP hS hl2)
theorem g_iinc (C : gC p R s m args c D cl tys A wl nL cc own Ts) {i : Nat} {n x : Int} (hd : decode cc pc = .ok (.iinc i n, 3)) (h : List.lookup i lv = some (iv x)) (hn : i < nL) (hl' : lvs i (iv (x + n)) lv = lv') (kk : gG p l e R s m args below meth c Q D cl A wl nL (pc + 3) lv' st M) : gG p l e R s m args below meth c Q D cl A wl nL pc lv st M := by
  intro H locs ls hP hS hl
  have hl0 : lv_has ls nL [(i, iv x)] := ⟨hl.1, hl.2.1, fun q hq => by
    rw [List.mem_singleton] at hq
    subst hq
    exact g_at hl h⟩
  have h2 : (i, iv x) ∈ lv := lookup_mem h
  obtain ⟨k, hk⟩ := List.getElem?_of_mem h2
  exact lv_iinc (k := k) C.1 C.2.1 hd hl hk (v := Int32.ofInt (x + n)) (by rw [Int32.ofInt_add]) hn hl' (fun ls' hl2 => kk H locs ls' hP hS hl2)
-- constants
theorem g_iconst (C : gC p R s m args c D cl tys A wl nL cc own Ts) {n : Int} (hd : decode cc pc = .ok (.iconst n, 1)) (kk : gG p l e R s m args below meth c Q D cl A wl nL (pc + 1) lv (iv n :: st) M) : gG p l e R s m args below meth c Q D cl A wl nL pc lv st M :=
  fun H locs ls hP hS hl => lv_iconst C.1 C.2.1 hd rfl (kk H locs ls hP hS hl)
theorem g_bipush (C : gC p R s m args c D cl tys A wl nL cc own Ts) {n : Int} (hd : decode cc pc = .ok (.bipush n, 2)) (hv : (Int8.ofInt n).toInt32 = Int32.ofInt n) (kk : gG p l e R s m args below meth c Q D cl A wl nL (pc + 2) lv (iv n :: st) M) : gG p l e R s m args below meth c Q D cl A wl nL pc lv st M :=
  fun H locs ls hP hS hl => lv_bipush C.1 C.2.1 hd hv (kk H locs ls hP hS hl)
theorem g_sipush (C : gC p R s m args c D cl tys A wl nL cc own Ts) {n : Int} (hd : decode cc pc = .ok (.sipush n, 3)) (hv : (Int16.ofInt n).toInt32 = Int32.ofInt n) (kk : gG p l e R s m args below meth c Q D cl A wl nL (pc + 3) lv (iv n :: st) M) : gG p l e R s m args below meth c Q D cl A wl nL pc lv st M :=
  fun H locs ls hP hS hl => lv_sipush C.1 C.2.1 hd hv (kk H locs ls hP hS hl)
theorem g_ldc (C : gC p R s m args c D cl tys A wl nL cc own Ts) {i : Nat} (n : Int) {v : Int32} (hw : Cond.constant own i v ∈ Ts) (hv : Int32.ofInt n = v) (hd : decode cc pc = .ok (.ldc i, 2)) (kk : gG p l e R s m args below meth c Q D cl A wl nL (pc + 2) lv (iv n :: st) M) : gG p l e R s m args below meth c Q D cl A wl nL pc lv st M :=
  fun H locs ls hP hS hl => lv_ldc C.1 C.2.1 C.2.2.2.1 (C.2.2.2.2.1 _ hw) hd (by rw [← hv]; exact kk H locs ls hP hS hl)
theorem g_ldc2 (C : gC p R s m args c D cl tys A wl nL cc own Ts) {i : Nat} (n : Int) {v : Int64} (hw : Cond.constantLong own i v ∈ Ts) (hv : Int64.ofInt n = v) (hd : decode cc pc = .ok (.ldc2_w i, 3)) (kk : gG p l e R s m args below meth c Q D cl A wl nL (pc + 3) lv (jv n :: st) M) : gG p l e R s m args below meth c Q D cl A wl nL pc lv st M :=
  fun H locs ls hP hS hl => lv_ldc2 C.1 C.2.1 C.2.2.2.1 (C.2.2.2.2.1 _ hw) hd (by rw [← hv]; exact kk H locs ls hP hS hl)
theorem g_lconst (C : gC p R s m args c D cl tys A wl nL cc own Ts) {k : Fin 2} (n : Int) (hv : Int64.ofNat (k : Nat) = Int64.ofInt n) (hd : decode cc pc = .ok (.lconst k, 1)) (kk : gG p l e R s m args below meth c Q D cl A wl nL (pc + 1) lv (jv n :: st) M) : gG p l e R s m args below meth c Q D cl A wl nL pc lv st M :=
  fun H locs ls hP hS hl => lv_lconst C.1 C.2.1 hd hv (kk H locs ls hP hS hl)
-- the stack
theorem g_dup (C : gC p R s m args c D cl tys A wl nL cc own Ts) {v : Value} (hd : decode cc pc = .ok (.dup, 1)) (hc : v.category = 1) (kk : gG p l e R s m args below meth c Q D cl A wl nL (pc + 1) lv (v :: v :: st) M) : gG p l e R s m args below meth c Q D cl A wl nL pc lv (v :: st) M :=
  fun H locs ls hP hS hl => lv_dup C.1 C.2.1 hd hc (kk H locs ls hP hS hl)
theorem g_dup2 (C : gC p R s m args c D cl tys A wl nL cc own Ts) {v u : Value} (hd : decode cc pc = .ok (.dup2, 1)) (hc : v.category = 1) (hu : u.category = 1) (kk : gG p l e R s m args below meth c Q D cl A wl nL (pc + 1) lv (v :: u :: v :: u :: st) M) : gG p l e R s m args below meth c Q D cl A wl nL pc lv (v :: u :: st) M :=
  fun H locs ls hP hS hl => lv_dup2_11 C.1 C.2.1 hd hc hu (kk H locs ls hP hS hl)
theorem g_pop (C : gC p R s m args c D cl tys A wl nL cc own Ts) {v : Value} (hd : decode cc pc = .ok (.pop, 1)) (hc : v.category = 1) (kk : gG p l e R s m args below meth c Q D cl A wl nL (pc + 1) lv st M) : gG p l e R s m args below meth c Q D cl A wl nL pc lv (v :: st) M :=
  fun H locs ls hP hS hl => lv_pop C.1 C.2.1 hd hc (kk H locs ls hP hS hl)
-- arithmetic
theorem g_iadd (C : gC p R s m args c D cl tys A wl nL cc own Ts) {x y : Int} (hd : decode cc pc = .ok (.iadd, 1)) (kk : gG p l e R s m args below meth c Q D cl A wl nL (pc + 1) lv (iv (x + y) :: st) M) : gG p l e R s m args below meth c Q D cl A wl nL pc lv (iv y :: iv x :: st) M :=
  fun H locs ls hP hS hl => lv_iadd C.1 C.2.1 hd (by have h := kk H locs ls hP hS hl; unfold iv at h; rwa [Int32.ofInt_add] at h)
theorem g_isub (C : gC p R s m args c D cl tys A wl nL cc own Ts) {x y : Int} (hd : decode cc pc = .ok (.isub, 1)) (kk : gG p l e R s m args below meth c Q D cl A wl nL (pc + 1) lv (iv (x - y) :: st) M) : gG p l e R s m args below meth c Q D cl A wl nL pc lv (iv y :: iv x :: st) M :=
  fun H locs ls hP hS hl => lv_isub C.1 C.2.1 hd (by have h := kk H locs ls hP hS hl; unfold iv at h; rwa [Int32.ofInt_sub] at h)
theorem g_imul (C : gC p R s m args c D cl tys A wl nL cc own Ts) {x y : Int} (hd : decode cc pc = .ok (.imul, 1)) (kk : gG p l e R s m args below meth c Q D cl A wl nL (pc + 1) lv (iv (x * y) :: st) M) : gG p l e R s m args below meth c Q D cl A wl nL pc lv (iv y :: iv x :: st) M :=
  fun H locs ls hP hS hl => lv_imul C.1 C.2.1 hd (by have h := kk H locs ls hP hS hl; unfold iv at h; rwa [Int32.ofInt_mul] at h)
theorem g_ineg (C : gC p R s m args c D cl tys A wl nL cc own Ts) {x : Int} (hd : decode cc pc = .ok (.ineg, 1)) (kk : gG p l e R s m args below meth c Q D cl A wl nL (pc + 1) lv (iv (-x) :: st) M) : gG p l e R s m args below meth c Q D cl A wl nL pc lv (iv x :: st) M :=
  fun H locs ls hP hS hl => lv_ineg C.1 C.2.1 hd (by have h := kk H locs ls hP hS hl; unfold iv at h; rwa [Int32.ofInt_neg] at h)
theorem ofInt_ne0 {y : Int} (h : wrap y ≠ 0) : ¬ Int32.ofInt y = 0 := by
  intro q
  have : wrap y = wrap 0 := (ofInt_eq_iff y 0).mp q
  exact h this
theorem g_idiv (C : gC p R s m args c D cl tys A wl nL cc own Ts) {x y : Int} (hd : decode cc pc = .ok (.idiv, 1)) (hy : wrap y ≠ 0) (kk : gG p l e R s m args below meth c Q D cl A wl nL (pc + 1) lv (iv ((wrap x).tdiv (wrap y)) :: st) M) : gG p l e R s m args below meth c Q D cl A wl nL pc lv (iv y :: iv x :: st) M :=
  fun H locs ls hP hS hl => lv_idiv C.1 C.2.1 hd (ofInt_ne0 hy) (by have h := kk H locs ls hP hS hl; unfold iv at h; rwa [← ofInt_div] at h)
theorem ofInt_rem (x y : Int) : Int32.ofInt x - Int32.ofInt x / Int32.ofInt y * Int32.ofInt y = Int32.ofInt ((wrap x).tmod (wrap y)) := by
  rw [ofInt_div, ← ofInt_wrap x, ← ofInt_wrap y, ← Int32.ofInt_mul, ← Int32.ofInt_sub]
  congr 1
  rw [Int.tmod_def, Int.mul_comm]
theorem g_irem (C : gC p R s m args c D cl tys A wl nL cc own Ts) {x y : Int} (hd : decode cc pc = .ok (.irem, 1)) (hy : wrap y ≠ 0) (kk : gG p l e R s m args below meth c Q D cl A wl nL (pc + 1) lv (iv ((wrap x).tmod (wrap y)) :: st) M) : gG p l e R s m args below meth c Q D cl A wl nL pc lv (iv y :: iv x :: st) M :=
  fun H locs ls hP hS hl => lv_irem C.1 C.2.1 hd (ofInt_ne0 hy) (by have h := kk H locs ls hP hS hl; unfold iv at h; rwa [← ofInt_rem] at h)
def xand (x y : Int) : Int := (Int32.ofInt x &&& Int32.ofInt y).toInt
def xor2 (x y : Int) : Int := (Int32.ofInt x ||| Int32.ofInt y).toInt
def xxor (x y : Int) : Int := (Int32.ofInt x ^^^ Int32.ofInt y).toInt
def xshl (x y : Int) : Int := (Int32.ofInt x <<< (Int32.ofInt y &&& 31)).toInt
def xshr (x y : Int) : Int := (Int32.ofInt x >>> (Int32.ofInt y &&& 31)).toInt
def xushr (x y : Int) : Int := (((Int32.ofInt x).toUInt32 >>> ((Int32.ofInt y).toUInt32 &&& Int32.toUInt32 31)).toInt32).toInt
theorem ofInt_back (v : Int32) : Int32.ofInt v.toInt = v := Int32.ofInt_toInt v
theorem ofInt_backL (v : Int64) : Int64.ofInt v.toInt = v := Int64.ofInt_toInt v
theorem g_iand (C : gC p R s m args c D cl tys A wl nL cc own Ts) {x y : Int} (hd : decode cc pc = .ok (.iand, 1)) (kk : gG p l e R s m args below meth c Q D cl A wl nL (pc + 1) lv (iv (xand x y) :: st) M) : gG p l e R s m args below meth c Q D cl A wl nL pc lv (iv y :: iv x :: st) M :=
  fun H locs ls hP hS hl => lv_iand C.1 C.2.1 hd (by have h := kk H locs ls hP hS hl; unfold iv xand at h; rwa [ofInt_back] at h)
theorem g_ior (C : gC p R s m args c D cl tys A wl nL cc own Ts) {x y : Int} (hd : decode cc pc = .ok (.ior, 1)) (kk : gG p l e R s m args below meth c Q D cl A wl nL (pc + 1) lv (iv (xor2 x y) :: st) M) : gG p l e R s m args below meth c Q D cl A wl nL pc lv (iv y :: iv x :: st) M :=
  fun H locs ls hP hS hl => lv_ior C.1 C.2.1 hd (by have h := kk H locs ls hP hS hl; unfold iv xor2 at h; rwa [ofInt_back] at h)
theorem g_ixor (C : gC p R s m args c D cl tys A wl nL cc own Ts) {x y : Int} (hd : decode cc pc = .ok (.ixor, 1)) (kk : gG p l e R s m args below meth c Q D cl A wl nL (pc + 1) lv (iv (xxor x y) :: st) M) : gG p l e R s m args below meth c Q D cl A wl nL pc lv (iv y :: iv x :: st) M :=
  fun H locs ls hP hS hl => lv_ixor C.1 C.2.1 hd (by have h := kk H locs ls hP hS hl; unfold iv xxor at h; rwa [ofInt_back] at h)
theorem g_ishl (C : gC p R s m args c D cl tys A wl nL cc own Ts) {x y : Int} (hd : decode cc pc = .ok (.ishl, 1)) (kk : gG p l e R s m args below meth c Q D cl A wl nL (pc + 1) lv (iv (xshl x y) :: st) M) : gG p l e R s m args below meth c Q D cl A wl nL pc lv (iv y :: iv x :: st) M :=
  fun H locs ls hP hS hl => lv_ishl C.1 C.2.1 hd (by have h := kk H locs ls hP hS hl; unfold iv xshl at h; rwa [ofInt_back] at h)
theorem g_ishr (C : gC p R s m args c D cl tys A wl nL cc own Ts) {x y : Int} (hd : decode cc pc = .ok (.ishr, 1)) (kk : gG p l e R s m args below meth c Q D cl A wl nL (pc + 1) lv (iv (xshr x y) :: st) M) : gG p l e R s m args below meth c Q D cl A wl nL pc lv (iv y :: iv x :: st) M :=
  fun H locs ls hP hS hl => lv_ishr C.1 C.2.1 hd (by have h := kk H locs ls hP hS hl; unfold iv xshr at h; rwa [ofInt_back] at h)
theorem g_iushr (C : gC p R s m args c D cl tys A wl nL cc own Ts) {x y : Int} (hd : decode cc pc = .ok (.iushr, 1)) (kk : gG p l e R s m args below meth c Q D cl A wl nL (pc + 1) lv (iv (xushr x y) :: st) M) : gG p l e R s m args below meth c Q D cl A wl nL pc lv (iv y :: iv x :: st) M :=
  fun H locs ls hP hS hl => lv_iushr C.1 C.2.1 hd (v := Int32.ofInt (xushr x y)) (by unfold xushr; rw [ofInt_back]) (kk H locs ls hP hS hl)
theorem g_i2b (C : gC p R s m args c D cl tys A wl nL cc own Ts) {x : Int} (hd : decode cc pc = .ok (.i2b, 1)) (kk : gG p l e R s m args below meth c Q D cl A wl nL (pc + 1) lv (iv ((Int32.ofInt x).toInt8.toInt32.toInt) :: st) M) : gG p l e R s m args below meth c Q D cl A wl nL pc lv (iv x :: st) M :=
  fun H locs ls hP hS hl => lv_i2b C.1 C.2.1 hd rfl (by have h := kk H locs ls hP hS hl; unfold iv at h; rwa [ofInt_back] at h)
theorem g_i2s (C : gC p R s m args c D cl tys A wl nL cc own Ts) {x : Int} (hd : decode cc pc = .ok (.i2s, 1)) (kk : gG p l e R s m args below meth c Q D cl A wl nL (pc + 1) lv (iv ((Int32.ofInt x).toInt16.toInt32.toInt) :: st) M) : gG p l e R s m args below meth c Q D cl A wl nL pc lv (iv x :: st) M :=
  fun H locs ls hP hS hl => lv_i2s C.1 C.2.1 hd rfl (by have h := kk H locs ls hP hS hl; unfold iv at h; rwa [ofInt_back] at h)
-- longs
theorem g_ladd (C : gC p R s m args c D cl tys A wl nL cc own Ts) {x y : Int} (hd : decode cc pc = .ok (.ladd, 1)) (kk : gG p l e R s m args below meth c Q D cl A wl nL (pc + 1) lv (jv (x + y) :: st) M) : gG p l e R s m args below meth c Q D cl A wl nL pc lv (jv y :: jv x :: st) M :=
  fun H locs ls hP hS hl => lv_ladd C.1 C.2.1 hd (by have h := kk H locs ls hP hS hl; unfold jv at h; rwa [Int64.ofInt_add] at h)
theorem g_lsub (C : gC p R s m args c D cl tys A wl nL cc own Ts) {x y : Int} (hd : decode cc pc = .ok (.lsub, 1)) (kk : gG p l e R s m args below meth c Q D cl A wl nL (pc + 1) lv (jv (x - y) :: st) M) : gG p l e R s m args below meth c Q D cl A wl nL pc lv (jv y :: jv x :: st) M :=
  fun H locs ls hP hS hl => lv_lsub C.1 C.2.1 hd (by have h := kk H locs ls hP hS hl; unfold jv at h; rwa [Int64.ofInt_sub] at h)
theorem g_lmul (C : gC p R s m args c D cl tys A wl nL cc own Ts) {x y : Int} (hd : decode cc pc = .ok (.lmul, 1)) (kk : gG p l e R s m args below meth c Q D cl A wl nL (pc + 1) lv (jv (x * y) :: st) M) : gG p l e R s m args below meth c Q D cl A wl nL pc lv (jv y :: jv x :: st) M :=
  fun H locs ls hP hS hl => lv_lmul C.1 C.2.1 hd (by have h := kk H locs ls hP hS hl; unfold jv at h; rwa [Int64.ofInt_mul] at h)
theorem ofInt_eq_iffL (x y : Int) : Int64.ofInt x = Int64.ofInt y ↔ wrapL x = wrapL y := by
  rw [← Int64.toInt_inj, ofInt_toIntL, ofInt_toIntL]
theorem ofInt_ne0L {y : Int} (h : wrapL y ≠ 0) : ¬ Int64.ofInt y = 0 := by
  intro q
  have : wrapL y = wrapL 0 := (ofInt_eq_iffL y 0).mp q
  exact h this
theorem ofInt_divL (x y : Int) : Int64.ofInt x / Int64.ofInt y = Int64.ofInt ((wrapL x).tdiv (wrapL y)) := by
  rw [← Int64.toInt_inj, Int64.toInt_div, ofInt_toIntL, ofInt_toIntL, ofInt_toIntL]
  unfold wrapL
  rw [Int.bmod_def]
  split <;> omega
theorem g_ldiv (C : gC p R s m args c D cl tys A wl nL cc own Ts) {x y : Int} (hd : decode cc pc = .ok (.ldiv, 1)) (hy : wrapL y ≠ 0) (kk : gG p l e R s m args below meth c Q D cl A wl nL (pc + 1) lv (jv ((wrapL x).tdiv (wrapL y)) :: st) M) : gG p l e R s m args below meth c Q D cl A wl nL pc lv (jv y :: jv x :: st) M :=
  fun H locs ls hP hS hl => lv_ldiv C.1 C.2.1 hd (ofInt_ne0L hy) (by have h := kk H locs ls hP hS hl; unfold jv at h; rwa [← ofInt_divL] at h)
def yand (x y : Int) : Int := (Int64.ofInt x &&& Int64.ofInt y).toInt
def yor (x y : Int) : Int := (Int64.ofInt x ||| Int64.ofInt y).toInt
def yshl (x y : Int) : Int := (Int64.ofInt x <<< ((Int32.ofInt y).toInt64 &&& 63)).toInt
def yshr (x y : Int) : Int := (Int64.ofInt x >>> ((Int32.ofInt y).toInt64 &&& 63)).toInt
theorem g_land (C : gC p R s m args c D cl tys A wl nL cc own Ts) {x y : Int} (hd : decode cc pc = .ok (.land, 1)) (kk : gG p l e R s m args below meth c Q D cl A wl nL (pc + 1) lv (jv (yand x y) :: st) M) : gG p l e R s m args below meth c Q D cl A wl nL pc lv (jv y :: jv x :: st) M :=
  fun H locs ls hP hS hl => lv_land C.1 C.2.1 hd (by have h := kk H locs ls hP hS hl; unfold jv yand at h; rwa [ofInt_backL] at h)
theorem g_lor (C : gC p R s m args c D cl tys A wl nL cc own Ts) {x y : Int} (hd : decode cc pc = .ok (.lor, 1)) (kk : gG p l e R s m args below meth c Q D cl A wl nL (pc + 1) lv (jv (yor x y) :: st) M) : gG p l e R s m args below meth c Q D cl A wl nL pc lv (jv y :: jv x :: st) M :=
  fun H locs ls hP hS hl => lv_lor C.1 C.2.1 hd (by have h := kk H locs ls hP hS hl; unfold jv yor at h; rwa [ofInt_backL] at h)
theorem g_lshl (C : gC p R s m args c D cl tys A wl nL cc own Ts) {x y : Int} (hd : decode cc pc = .ok (.lshl, 1)) (kk : gG p l e R s m args below meth c Q D cl A wl nL (pc + 1) lv (jv (yshl x y) :: st) M) : gG p l e R s m args below meth c Q D cl A wl nL pc lv (iv y :: jv x :: st) M :=
  fun H locs ls hP hS hl => lv_lshl C.1 C.2.1 hd rfl (by have h := kk H locs ls hP hS hl; unfold jv yshl at h; rwa [ofInt_backL] at h)
theorem g_lshr (C : gC p R s m args c D cl tys A wl nL cc own Ts) {x y : Int} (hd : decode cc pc = .ok (.lshr, 1)) (kk : gG p l e R s m args below meth c Q D cl A wl nL (pc + 1) lv (jv (yshr x y) :: st) M) : gG p l e R s m args below meth c Q D cl A wl nL pc lv (iv y :: jv x :: st) M :=
  fun H locs ls hP hS hl => lv_lshr C.1 C.2.1 hd rfl (by have h := kk H locs ls hP hS hl; unfold jv yshr at h; rwa [ofInt_backL] at h)
theorem ofInt_i2l (x : Int) : (Int32.ofInt x).toInt64 = Int64.ofInt (wrap x) := by
  rw [← Int64.toInt_inj, Int32.toInt_toInt64, ofInt_toInt, ofInt_toIntL, wrapL_in] <;> (have := wrap_rng x; omega)
theorem ofInt_l2i (x : Int) : (Int64.ofInt x).toInt32 = Int32.ofInt x := by
  rw [← Int32.toInt_inj, Int64.toInt_toInt32, ofInt_toIntL, ofInt_toInt]
  unfold wrap wrapL
  rw [Int.bmod_def]
  split <;> omega
theorem g_i2l (C : gC p R s m args c D cl tys A wl nL cc own Ts) {x : Int} (hd : decode cc pc = .ok (.i2l, 1)) (kk : gG p l e R s m args below meth c Q D cl A wl nL (pc + 1) lv (jv (wrap x) :: st) M) : gG p l e R s m args below meth c Q D cl A wl nL pc lv (iv x :: st) M :=
  fun H locs ls hP hS hl => lv_i2l C.1 C.2.1 hd (ofInt_i2l x) (kk H locs ls hP hS hl)
theorem g_l2i (C : gC p R s m args c D cl tys A wl nL cc own Ts) {x : Int} (hd : decode cc pc = .ok (.l2i, 1)) (kk : gG p l e R s m args below meth c Q D cl A wl nL (pc + 1) lv (iv x :: st) M) : gG p l e R s m args below meth c Q D cl A wl nL pc lv (jv x :: st) M :=
  fun H locs ls hP hS hl => lv_l2i C.1 C.2.1 hd (ofInt_l2i x) (kk H locs ls hP hS hl)
-- branches
theorem g_goto (C : gC p R s m args c D cl tys A wl nL cc own Ts) {off : Int} (tgt : Nat) (hd : decode cc pc = .ok (.goto off, 3)) (ht : (pc : Int) + off = (tgt : Int)) (kk : gG p l e R s m args below meth c Q D cl A wl nL tgt lv st M) : gG p l e R s m args below meth c Q D cl A wl nL pc lv st M :=
  fun H locs ls hP hS hl => lv_goto C.1 C.2.1 hd ht (kk H locs ls hP hS hl)
theorem g_icmp_eq (C : gC p R s m args c D cl tys A wl nL cc own Ts) {x y off : Int} (tgt : Nat) (hd : decode cc pc = .ok (.if_icmp .eq off, 3)) (ht : (pc : Int) + off = (tgt : Int)) (kt : wrap x = wrap y → gG p l e R s m args below meth c Q D cl A wl nL tgt lv st M) (kf : ¬ wrap x = wrap y → gG p l e R s m args below meth c Q D cl A wl nL (pc + 3) lv st M) : gG p l e R s m args below meth c Q D cl A wl nL pc lv (iv y :: iv x :: st) M :=
  fun H locs ls hP hS hl => lv_icmp_eq C.1 C.2.1 hd ht (fun h => kt ((ofInt_eq_iff x y).mp h) H locs ls hP hS hl) (fun h => kf (fun q => h ((ofInt_eq_iff x y).mpr q)) H locs ls hP hS hl)
theorem g_icmp_ne (C : gC p R s m args c D cl tys A wl nL cc own Ts) {x y off : Int} (tgt : Nat) (hd : decode cc pc = .ok (.if_icmp .ne off, 3)) (ht : (pc : Int) + off = (tgt : Int)) (kt : ¬ wrap x = wrap y → gG p l e R s m args below meth c Q D cl A wl nL tgt lv st M) (kf : wrap x = wrap y → gG p l e R s m args below meth c Q D cl A wl nL (pc + 3) lv st M) : gG p l e R s m args below meth c Q D cl A wl nL pc lv (iv y :: iv x :: st) M :=
  fun H locs ls hP hS hl => lv_icmp_ne C.1 C.2.1 hd ht (fun h => kt (fun q => h ((ofInt_eq_iff x y).mpr q)) H locs ls hP hS hl) (fun h => kf ((ofInt_eq_iff x y).mp (h)) H locs ls hP hS hl)
theorem g_icmp_lt (C : gC p R s m args c D cl tys A wl nL cc own Ts) {x y off : Int} (tgt : Nat) (hd : decode cc pc = .ok (.if_icmp .lt off, 3)) (ht : (pc : Int) + off = (tgt : Int)) (kt : wrap x < wrap y → gG p l e R s m args below meth c Q D cl A wl nL tgt lv st M) (kf : wrap y ≤ wrap x → gG p l e R s m args below meth c Q D cl A wl nL (pc + 3) lv st M) : gG p l e R s m args below meth c Q D cl A wl nL pc lv (iv y :: iv x :: st) M :=
  fun H locs ls hP hS hl => lv_icmp_lt C.1 C.2.1 hd ht (fun h => kt ((ofInt_lt_iff x y).mp h) H locs ls hP hS hl) (fun h => kf (Int.not_lt.mp (fun q => h ((ofInt_lt_iff x y).mpr q))) H locs ls hP hS hl)
theorem g_icmp_ge (C : gC p R s m args c D cl tys A wl nL cc own Ts) {x y off : Int} (tgt : Nat) (hd : decode cc pc = .ok (.if_icmp .ge off, 3)) (ht : (pc : Int) + off = (tgt : Int)) (kt : wrap y ≤ wrap x → gG p l e R s m args below meth c Q D cl A wl nL tgt lv st M) (kf : wrap x < wrap y → gG p l e R s m args below meth c Q D cl A wl nL (pc + 3) lv st M) : gG p l e R s m args below meth c Q D cl A wl nL pc lv (iv y :: iv x :: st) M :=
  fun H locs ls hP hS hl => lv_icmp_ge C.1 C.2.1 hd ht (fun h => kt ((ofInt_le_iff y x).mp h) H locs ls hP hS hl) (fun h => kf (Int.not_le.mp (fun q => h ((ofInt_le_iff y x).mpr q))) H locs ls hP hS hl)
theorem g_icmp_gt (C : gC p R s m args c D cl tys A wl nL cc own Ts) {x y off : Int} (tgt : Nat) (hd : decode cc pc = .ok (.if_icmp .gt off, 3)) (ht : (pc : Int) + off = (tgt : Int)) (kt : wrap y < wrap x → gG p l e R s m args below meth c Q D cl A wl nL tgt lv st M) (kf : wrap x ≤ wrap y → gG p l e R s m args below meth c Q D cl A wl nL (pc + 3) lv st M) : gG p l e R s m args below meth c Q D cl A wl nL pc lv (iv y :: iv x :: st) M :=
  fun H locs ls hP hS hl => lv_icmp_gt C.1 C.2.1 hd ht (fun h => kt ((ofInt_lt_iff y x).mp h) H locs ls hP hS hl) (fun h => kf (Int.not_lt.mp (fun q => h ((ofInt_lt_iff y x).mpr q))) H locs ls hP hS hl)
theorem g_icmp_le (C : gC p R s m args c D cl tys A wl nL cc own Ts) {x y off : Int} (tgt : Nat) (hd : decode cc pc = .ok (.if_icmp .le off, 3)) (ht : (pc : Int) + off = (tgt : Int)) (kt : wrap x ≤ wrap y → gG p l e R s m args below meth c Q D cl A wl nL tgt lv st M) (kf : wrap y < wrap x → gG p l e R s m args below meth c Q D cl A wl nL (pc + 3) lv st M) : gG p l e R s m args below meth c Q D cl A wl nL pc lv (iv y :: iv x :: st) M :=
  fun H locs ls hP hS hl => lv_icmp_le C.1 C.2.1 hd ht (fun h => kt ((ofInt_le_iff x y).mp h) H locs ls hP hS hl) (fun h => kf (Int.not_le.mp (fun q => h ((ofInt_le_iff x y).mpr q))) H locs ls hP hS hl)
theorem wrap_0 : wrap 0 = 0 := by decide
theorem ofInt_0 : (0 : Int32) = Int32.ofInt 0 := rfl
theorem g_if_eq (C : gC p R s m args c D cl tys A wl nL cc own Ts) {x off : Int} (tgt : Nat) (hd : decode cc pc = .ok (.ifCond .eq off, 3)) (ht : (pc : Int) + off = (tgt : Int)) (kt : wrap x = 0 → gG p l e R s m args below meth c Q D cl A wl nL tgt lv st M) (kf : ¬ wrap x = 0 → gG p l e R s m args below meth c Q D cl A wl nL (pc + 3) lv st M) : gG p l e R s m args below meth c Q D cl A wl nL pc lv (iv x :: st) M :=
  fun H locs ls hP hS hl => lv_if_eq C.1 C.2.1 hd ht (fun h => kt (((ofInt_eq_iff x 0).mp h).trans wrap_0) H locs ls hP hS hl) (fun h => kf (fun q => h ((ofInt_eq_iff x 0).mpr (q.trans wrap_0.symm))) H locs ls hP hS hl)
theorem g_if_ne (C : gC p R s m args c D cl tys A wl nL cc own Ts) {x off : Int} (tgt : Nat) (hd : decode cc pc = .ok (.ifCond .ne off, 3)) (ht : (pc : Int) + off = (tgt : Int)) (kt : ¬ wrap x = 0 → gG p l e R s m args below meth c Q D cl A wl nL tgt lv st M) (kf : wrap x = 0 → gG p l e R s m args below meth c Q D cl A wl nL (pc + 3) lv st M) : gG p l e R s m args below meth c Q D cl A wl nL pc lv (iv x :: st) M :=
  fun H locs ls hP hS hl => lv_if_ne C.1 C.2.1 hd ht (fun h => kt (fun q => h ((ofInt_eq_iff x 0).mpr (q.trans wrap_0.symm))) H locs ls hP hS hl) (fun h => kf (((ofInt_eq_iff x 0).mp (h)).trans wrap_0) H locs ls hP hS hl)
theorem g_if_lt (C : gC p R s m args c D cl tys A wl nL cc own Ts) {x off : Int} (tgt : Nat) (hd : decode cc pc = .ok (.ifCond .lt off, 3)) (ht : (pc : Int) + off = (tgt : Int)) (kt : wrap x < 0 → gG p l e R s m args below meth c Q D cl A wl nL tgt lv st M) (kf : 0 ≤ wrap x → gG p l e R s m args below meth c Q D cl A wl nL (pc + 3) lv st M) : gG p l e R s m args below meth c Q D cl A wl nL pc lv (iv x :: st) M :=
  fun H locs ls hP hS hl => lv_if_lt C.1 C.2.1 hd ht (fun h => kt (by have := (ofInt_lt_iff x 0).mp h; rwa [wrap_0] at this) H locs ls hP hS hl) (fun h => kf (Int.not_lt.mp (fun q => h ((ofInt_lt_iff x 0).mpr (by rwa [wrap_0])))) H locs ls hP hS hl)
theorem g_if_ge (C : gC p R s m args c D cl tys A wl nL cc own Ts) {x off : Int} (tgt : Nat) (hd : decode cc pc = .ok (.ifCond .ge off, 3)) (ht : (pc : Int) + off = (tgt : Int)) (kt : 0 ≤ wrap x → gG p l e R s m args below meth c Q D cl A wl nL tgt lv st M) (kf : wrap x < 0 → gG p l e R s m args below meth c Q D cl A wl nL (pc + 3) lv st M) : gG p l e R s m args below meth c Q D cl A wl nL pc lv (iv x :: st) M :=
  fun H locs ls hP hS hl => lv_if_ge C.1 C.2.1 hd ht (fun h => kt (by have := (ofInt_le_iff 0 x).mp h; rwa [wrap_0] at this) H locs ls hP hS hl) (fun h => kf (Int.not_le.mp (fun q => h ((ofInt_le_iff 0 x).mpr (by rwa [wrap_0])))) H locs ls hP hS hl)
theorem g_if_gt (C : gC p R s m args c D cl tys A wl nL cc own Ts) {x off : Int} (tgt : Nat) (hd : decode cc pc = .ok (.ifCond .gt off, 3)) (ht : (pc : Int) + off = (tgt : Int)) (kt : 0 < wrap x → gG p l e R s m args below meth c Q D cl A wl nL tgt lv st M) (kf : wrap x ≤ 0 → gG p l e R s m args below meth c Q D cl A wl nL (pc + 3) lv st M) : gG p l e R s m args below meth c Q D cl A wl nL pc lv (iv x :: st) M :=
  fun H locs ls hP hS hl => lv_if_gt C.1 C.2.1 hd ht (fun h => kt (by have := (ofInt_lt_iff 0 x).mp h; rwa [wrap_0] at this) H locs ls hP hS hl) (fun h => kf (Int.not_lt.mp (fun q => h ((ofInt_lt_iff 0 x).mpr (by rwa [wrap_0])))) H locs ls hP hS hl)
theorem g_if_le (C : gC p R s m args c D cl tys A wl nL cc own Ts) {x off : Int} (tgt : Nat) (hd : decode cc pc = .ok (.ifCond .le off, 3)) (ht : (pc : Int) + off = (tgt : Int)) (kt : wrap x ≤ 0 → gG p l e R s m args below meth c Q D cl A wl nL tgt lv st M) (kf : 0 < wrap x → gG p l e R s m args below meth c Q D cl A wl nL (pc + 3) lv st M) : gG p l e R s m args below meth c Q D cl A wl nL pc lv (iv x :: st) M :=
  fun H locs ls hP hS hl => lv_if_le C.1 C.2.1 hd ht (fun h => kt (by have := (ofInt_le_iff x 0).mp h; rwa [wrap_0] at this) H locs ls hP hS hl) (fun h => kf (Int.not_le.mp (fun q => h ((ofInt_le_iff x 0).mpr (by rwa [wrap_0])))) H locs ls hP hS hl)
def ycmp (x y : Int) : Int := if wrapL y < wrapL x then 1 else if wrapL x = wrapL y then 0 else -1
theorem ofInt_cmp (x y : Int) : lg_cmp (Int64.ofInt x) (Int64.ofInt y) = Int32.ofInt (ycmp x y) := by
  have h1 : (Int64.ofInt x > Int64.ofInt y) ↔ wrapL y < wrapL x := by
    show Int64.ofInt y < Int64.ofInt x ↔ _
    rw [Int64.lt_iff_toInt_lt, ofInt_toIntL, ofInt_toIntL]
  have h2 := ofInt_eq_iffL x y
  unfold lg_cmp ycmp
  by_cases q1 : wrapL y < wrapL x
  · rw [if_pos (h1.mpr q1), if_pos q1]; rfl
  · rw [if_neg (fun h => q1 (h1.mp h)), if_neg q1]
    by_cases q2 : wrapL x = wrapL y
    · rw [if_pos (h2.mpr q2), if_pos q2]; rfl
    · rw [if_neg (fun h => q2 (h2.mp h)), if_neg q2]; rfl
theorem g_lcmp (C : gC p R s m args c D cl tys A wl nL cc own Ts) {x y : Int} (hd : decode cc pc = .ok (.lcmp, 1)) (kk : gG p l e R s m args below meth c Q D cl A wl nL (pc + 1) lv (iv (ycmp x y) :: st) M) : gG p l e R s m args below meth c Q D cl A wl nL pc lv (jv y :: jv x :: st) M :=
  fun H locs ls hP hS hl => W.lcmp C.1 C.2.1 hd (by have h := kk H locs ls hP hS hl; unfold iv at h; rwa [← ofInt_cmp] at h)
theorem g_tableIn (C : gC p R s m args c D cl tys A wl nL cc own Ts) {dflt lo hi off x : Int} {offs : Array Int} {len : Nat} (tgt : Nat) (hd : decode cc pc = .ok (.tableswitch dflt lo hi offs, len)) (h1 : lo ≤ wrap x) (h2 : wrap x ≤ hi) (ho : offs[(wrap x - lo).toNat]? = some off) (ht : (pc : Int) + off = (tgt : Int)) (kk : gG p l e R s m args below meth c Q D cl A wl nL tgt lv st M) : gG p l e R s m args below meth c Q D cl A wl nL pc lv (iv x :: st) M :=
  fun H locs ls hP hS hl => lv_tableIn C.1 C.2.1 hd (by rw [ofInt_toInt]; omega) (by rw [ofInt_toInt]; omega) (by rw [ofInt_toInt]; exact ho) ht (kk H locs ls hP hS hl)
theorem g_tableOut (C : gC p R s m args c D cl tys A wl nL cc own Ts) {dflt lo hi x : Int} {offs : Array Int} {len : Nat} (tgt : Nat) (hd : decode cc pc = .ok (.tableswitch dflt lo hi offs, len)) (h : wrap x < lo ∨ hi < wrap x) (ht : (pc : Int) + dflt = (tgt : Int)) (kk : gG p l e R s m args below meth c Q D cl A wl nL tgt lv st M) : gG p l e R s m args below meth c Q D cl A wl nL pc lv (iv x :: st) M :=
  fun H locs ls hP hS hl => lv_tableOut C.1 C.2.1 hd (by rw [ofInt_toInt]; exact h) ht (kk H locs ls hP hS hl)
theorem g_lookup (C : gC p R s m args c D cl tys A wl nL cc own Ts) {dflt off x : Int} {ps : Array (Int × Int)} {len : Nat} (tgt : Nat) (hd : decode cc pc = .ok (.lookupswitch dflt ps, len)) (hp : (ps.toList.zip (ps.toList.drop 1)).all (fun (a, next) => a.1 < next.1) = true) (ho : Op.lookupswitch.offset ps.toList dflt (wrap x) = off) (ht : (pc : Int) + off = (tgt : Int)) (kk : gG p l e R s m args below meth c Q D cl A wl nL tgt lv st M) : gG p l e R s m args below meth c Q D cl A wl nL pc lv (iv x :: st) M :=
  fun H locs ls hP hS hl => lv_lookup C.1 C.2.1 hd hp (by rw [ofInt_toInt]; exact ho) ht (kk H locs ls hP hS hl)
end GM
end
section
-- rows that read and write the memory, calls, and a method's contract
theorem lc_arr {ad : Nat → Nat} {cI cS : ClassId} {lay : Nat → gLC} {N : Nat} {M : gSt} {o n : Nat} (hN : o < N) (hl : lay o = .inl n) : (wld ad cI cS lay N M)[o]? = some (ad o, .inl (cI, n, .inl (fun i => Int32.ofInt (M o (i : Int))))) := by
  rw [wld_get M hN, hl]; rfl
theorem lc_obj {ad : Nat → Nat} {cI cS : ClassId} {lay : Nat → gLC} {N : Nat} {M : gSt} {o ci : Nat} {fl : List (Option Nat)} (hN : o < N) (hl : lay o = .inr (.inl (ci, fl))) : (wld ad cI cS lay N M)[o]? = some (ad o, .inr (ci, mkf ad M o 0 fl)) := by
  rw [wld_get M hN, hl]; rfl
theorem mkf_len {ad : Nat → Nat} {M : gSt} {o : Nat} : ∀ (fl : List (Option Nat)) (j : Nat), (mkf ad M o j fl).length = fl.length
  | [], _ => rfl
  | none :: fl, j => by simp [mkf, mkf_len fl]
  | some d :: fl, j => by simp [mkf, mkf_len fl]
theorem mkf_set {ad : Nat → Nat} {M : gSt} {o : Nat} {x : Int} : ∀ (fl : List (Option Nat)) (j k : Nat), fl[k]? = some none → (mkf ad M o j fl).set k (iv x) = mkf ad (wr M o ((j + k : Nat) : Int) x) o j fl
  | [], _, _, h => by simp at h
  | none :: fl, j, 0, _ => by
    simp only [mkf, List.set_cons_zero]
    congr 1
    · simp [wr]
    · have aux : ∀ (fl : List (Option Nat)) (j' : Nat), j < j' → mkf ad M o j' fl = mkf ad (wr M o ((j + 0 : Nat) : Int) x) o j' fl := by
        intro fl
        induction fl with
        | nil => intro j' _; rfl
        | cons a t ih =>
          intro j' hj
          cases a with
          | none =>
            simp only [mkf]
            rw [ih (j' + 1) (by omega)]
            have hne : ¬ ((j' : Int) = ((j + 0 : Nat) : Int)) := by omega
            simp only [wr, hne, and_false, if_false]
          | some d =>
            simp only [mkf]
            rw [ih (j' + 1) (by omega)]
      exact aux fl (j + 1) (by omega)
  | some d :: fl, j, 0, h => by simp at h
  | none :: fl, j, k + 1, h => by
    simp only [mkf, List.set_cons_succ]
    have h' : fl[k]? = some none := by simpa using h
    rw [mkf_set fl (j + 1) k h', show j + 1 + k = j + (k + 1) from by omega]
    congr 1
    have hne : ¬ ((j : Int) = ((j + (k + 1) : Nat) : Int)) := by omega
    simp only [wr, hne, and_false, if_false]
  | some d :: fl, j, k + 1, h => by
    simp only [mkf, List.set_cons_succ]
    have h' : fl[k]? = some none := by simpa using h
    rw [mkf_set fl (j + 1) k h', show j + 1 + k = j + (k + 1) from by omega]
theorem gm_arr_set {M : gSt} {o : Nat} {i x : Int} (h0 : 0 ≤ i) : upd (fun k : Nat => Int32.ofInt (M o (k : Int))) i.toNat (Int32.ofInt x) = fun k : Nat => Int32.ofInt (wr M o i x o (k : Int)) := by
  funext k
  unfold upd wr
  by_cases hk : k = i.toNat
  · have h2 : (k : Int) = i := by omega
    rw [if_pos hk, if_pos ⟨rfl, h2⟩]
  · have h2 : ¬ (k : Int) = i := by omega
    rw [if_neg hk, if_neg (fun h => h2 h.2)]
section GMM
variable {p : Program} {l : Launch} {e : Env} {R : Room} {s : State} {m : MethodId} {args : Array Value} {below : List Frame} {meth : Method} {c : Code} {Q : State → Prop}
variable {D : va_G} {cl : List vw_C} {tys : List (ClassId × FieldType)} {A : Nat → Prop} {nL : Nat} {cc : ByteArray} {own : String} {Ts : List Cond}
variable {pc : Nat} {lv lv' : List (Nat × Value)} {st : List Value} {M : gSt}
variable {ad : Nat → Nat} {cI cS : ClassId} {lay : Nat → gLC} {N : Nat}
theorem g_iald (C : gC p R s m args c D cl ((cI, .int) :: tys) A (wld ad cI cS lay N) nL cc own Ts) {o n : Nat} {i : Int} (hd : decode cc pc = .ok (.iaload, 1)) (hl : lay o = .inl n) (hi : o < N ∧ n < 2147483648) (h0 : 0 ≤ i ∧ i < n) (kk : gG p l e R s m args below meth c Q D cl A (wld ad cI cS lay N) nL (pc + 1) lv (iv (M o i) :: st) M) : gG p l e R s m args below meth c Q D cl A (wld ad cI cS lay N) nL pc lv (iv i :: .ref (ad o) :: st) M := by
  intro H locs ls hP hS hL
  refine va_iald C.1 C.2.1 C.2.2.2.2.2.1 hP o 0 (lc_arr hi.1 hl) rfl (ofInt_in h0.1 h0.2 hi.2) hd ?_
  have h := kk H locs ls hP hS hL
  rw [ofInt_clamp h0.1 (by omega), Int.toNat_of_nonneg h0.1]
  exact h
theorem g_iast (C : gC p R s m args c D cl ((cI, .int) :: tys) A (wld ad cI cS lay N) nL cc own Ts) {o n : Nat} {i x : Int} (hd : decode cc pc = .ok (.iastore, 1)) (hl : lay o = .inl n) (hi : o < N ∧ n < 2147483648) (h0 : 0 ≤ i ∧ i < n) (kk : gG p l e R s m args below meth c Q D cl A (wld ad cI cS lay N) nL (pc + 1) lv st (wr M o i x)) : gG p l e R s m args below meth c Q D cl A (wld ad cI cS lay N) nL pc lv (iv x :: iv i :: .ref (ad o) :: st) M := by
  intro H locs ls hP hS hL
  refine va_iast C.1 C.2.1 C.2.2.2.2.2.1 hP (C.2.2.2.2.2.2.1 M) hS o 0 (lc_arr hi.1 hl) rfl (ofInt_in h0.1 h0.2 hi.2) hd (fun H1 locs1 hP1 _ hS1 => ?_)
  rw [ofInt_clamp h0.1 (by omega)] at hP1
  rw [wld_set (M := M) (o := o) (i := i) (x := x) (by rw [hl]; simp only [mkc]; rw [← gm_arr_set h0.1])] at hP1
  exact kk H1 locs1 ls hP1 hS1 hL
theorem g_alen (C : gC p R s m args c D cl ((cI, .int) :: tys) A (wld ad cI cS lay N) nL cc own Ts) {o n : Nat} (hd : decode cc pc = .ok (.arraylength, 1)) (hl : lay o = .inl n) (hi : o < N) (kk : gG p l e R s m args below meth c Q D cl A (wld ad cI cS lay N) nL (pc + 1) lv (iv n :: st) M) : gG p l e R s m args below meth c Q D cl A (wld ad cI cS lay N) nL pc lv (.ref (ad o) :: st) M := by
  intro H locs ls hP hS hL
  exact va_alen C.1 C.2.1 C.2.2.2.2.2.1 hP o 0 (lc_arr hi hl) rfl (v := Int32.ofInt n) (by rw [Int32.ofInt_eq_ofNat]) hd (kk H locs ls hP hS hL)
theorem g_getf (C : gC p R s m args c D cl tys A (wld ad cI cS lay N) nL cc own Ts) {o ci k idx NF : Nat} {fl : List (Option Nat)} {v : Value} {Cn ref : String} {T : u_T} (hl : lay o = .inr (.inl (ci, fl))) (hi : o < N) (hc : cl[ci]? = some (Cn, T, NF)) (hk : k < NF) (hin : ∀ w ∈ u_ws Cn T NF, w ∈ Ts) (hw : Cond.fieldLink own idx ref (T k).2.1 (T k).2.2.1 ∈ Ts) (hsame : (T k).1 = ref) (hd : decode cc pc = .ok (.getfield idx, 3)) (hv : (mkf ad M o 0 fl)[k]? = some v) (kk : gG p l e R s m args below meth c Q D cl A (wld ad cI cS lay N) nL (pc + 3) lv (v :: st) M) : gG p l e R s m args below meth c Q D cl A (wld ad cI cS lay N) nL pc lv (.ref (ad o) :: st) M := by
  intro H locs ls hP hS hL
  exact va_get C.1 C.2.1 C.2.2.2.2.1 hin C.2.2.2.1 C.2.2.2.2.2.1 hP o (lc_obj hi hl) hc k hk (C.2.2.2.2.1 _ hw) (fun x h => by rw [hsame] at h; exact h) hv hd (kk H locs ls hP hS hL)
theorem g_putf (C : gC p R s m args c D cl tys A (wld ad cI cS lay N) nL cc own Ts) {o ci k idx NF : Nat} {fl : List (Option Nat)} {x : Int} {Cn ref : String} {T : u_T} {ty : FieldType} (hl : lay o = .inr (.inl (ci, fl))) (hi : o < N) (hc : cl[ci]? = some (Cn, T, NF)) (hk : k < NF) (hin : ∀ w ∈ u_ws Cn T NF, w ∈ Ts) (ty0 : Nat → FieldType) (hty : ∀ k, k < NF → parseFieldDescriptor (T k).2.2.1 = some (ty0 k)) (hnm : ∀ a, a < NF → ∀ b, b < NF → a ≠ b → (T a).2.1 ≠ (T b).2.1) (hw : Cond.fieldLink own idx ref (T k).2.1 (T k).2.2.1 ∈ Ts) (hsame : (T k).1 = ref) (hfin : (T k).2.2.2 = false) (hdt : parseFieldDescriptor (T k).2.2.1 = some ty) (hfk : fl[k]? = some none) (hd : decode cc pc = .ok (.putfield idx, 3)) (hn : narrow ty (iv x) = iv x ∧ fits ty (iv x) = true) (kk : gG p l e R s m args below meth c Q D cl A (wld ad cI cS lay N) nL (pc + 3) lv st (wr M o k x)) : gG p l e R s m args below meth c Q D cl A (wld ad cI cS lay N) nL pc lv (iv x :: .ref (ad o) :: st) M := by
  intro H locs ls hP hS hL
  have hlen : k < (mkf ad M o 0 fl).length := by rw [mkf_len]; exact (List.getElem?_eq_some_iff.mp hfk).1
  refine va_put C.1 C.2.1 C.2.2.2.2.1 hin ty0 hty hnm C.2.2.2.1 C.2.2.2.2.2.1 hP (C.2.2.2.2.2.2.1 M) hS o (lc_obj hi hl) hc k hk (C.2.2.2.2.1 _ hw) (fun x h => by rw [hsame] at h; exact h) hfin hdt hn.1 hn.2 hlen hd (fun H1 locs1 hP1 _ hS1 => ?_)
  rw [wld_set (M := M) (o := o) (i := (k : Int)) (x := x) (by rw [hl]; simp only [mkc]; rw [mkf_set fl 0 k hfk, Nat.zero_add])] at hP1
  exact kk H1 locs1 ls hP1 hS1 hL
end GMM
/-- what a method's cells are at its start, at its end -/
def gPre (D : va_G) (cl : List vw_C) (tys : List (ClassId × FieldType)) (wl : gSt → va_W) (sz : Nat) (M : gSt) (U : State) : Prop := U.heap.size = sz ∧ va_P D cl (wl M) U.heap ∧ va_K D cl tys U ∧ va_D (fun _ => True) (wl M)
def gPost (D : va_G) (cl : List vw_C) (tys : List (ClassId × FieldType)) (wl : gSt → va_W) (A : Nat → Prop) (M : gSt) (t : State) : Prop := va_P D cl (wl M) t.heap ∧ va_K D cl tys t ∧ va_D A (wl M)
/-- a method that answers an int (boolean), a void one: from arguments vs and memory M it comes to an answer and a memory of which k holds -/
def MOi (l : Launch) (y : MethodName) (b : ByteArray) (n : Nat) (rt : FieldType) (rm : Room) (D : va_G) (cl : List vw_C) (tys : List (ClassId × FieldType)) (wl : gSt → va_W) (Ts : List Cond) (vs : List Value) (M : gSt) (k : Int → gSt → Prop) : Prop :=
  ∀ sz : Nat, Met l y (Cond.code y b n (some rt) :: Ts) rm (va_Pc vs (gPre D cl tys wl sz M)) (va_Qi (fun (r : Int32) (u : Int × gSt) => r = Int32.ofInt u.1 ∧ k u.1 u.2) (fun u t => gPost D cl tys wl (va_A (wl M) sz) u.2 t) (va_A (wl M) sz)) 0 0 (va_A (wl M) sz)
def MOv (l : Launch) (y : MethodName) (b : ByteArray) (n : Nat) (rm : Room) (D : va_G) (cl : List vw_C) (tys : List (ClassId × FieldType)) (wl : gSt → va_W) (Ts : List Cond) (vs : List Value) (M : gSt) (k : gSt → Prop) : Prop :=
  ∀ sz : Nat, Met l y (Cond.code y b n none :: Ts) rm (va_Pc vs (gPre D cl tys wl sz M)) (va_Qv (fun (u : gSt) => k u) (fun u t => gPost D cl tys wl (va_A (wl M) sz) u t) (va_A (wl M) sz)) 0 0 (va_A (wl M) sz)
theorem gPre_blind {D : va_G} {cl : List vw_C} {tys : List (ClassId × FieldType)} {wl : gSt → va_W} {sz : Nat} {M : gSt} {vs : List Value} : FrameBlind (va_Pc vs (gPre D cl tys wl sz M)) := fun a U g mk q => by
  obtain ⟨q0, q1, qP, qK, qD⟩ := q
  exact ⟨q0, q1, qP, va_K.moved (u := U) (U := U.calling g mk a) (Vm.Alike.refl U.vm) qK, qD⟩
section GI
variable {l : Launch} {y : MethodName} {b : ByteArray} {n : Nat} {rm : Room} {D : va_G} {cl : List vw_C} {tys : List (ClassId × FieldType)} {Ts : List Cond} {vs : List Value} {M : gSt}
variable {ad : Nat → Nat} {cI cS : ClassId} {lay : Nat → gLC} {N : Nat}
theorem moi_intro {rt : FieldType} {k : Int → gSt → Prop} (hy : plainName y.cls = true) (hfit : (lg_sl vs).length ≤ n) (hself : Cond.code y b n (some rt) ∈ Ts)
    (body : ∀ (p : Program) (e : Env) (s : State) (m : MethodId) (args : Array Value) (below : List Frame) (meth : Method) (c : Code) (A : Nat → Prop) (Q : State → Prop), gC p rm s m args c D cl tys A (wld ad cI cS lay N) n b y.cls Ts →
      (∀ (pc : Nat) (lv : List (Nat × Value)) (x : Int) (M' : gSt), decode b pc = .ok (.ireturn, 1) → narrow rt (iv x) = iv x → k x M' → gG p l e rm s m args below meth c Q D cl A (wld ad cI cS lay N) n pc lv [iv x] M') →
      gG p l e rm s m args below meth c Q D cl A (wld ad cI cS lay N) n 0 (lv_args 0 vs) [] M) : MOi l y b n rt rm D cl tys (wld ad cI cS lay N) Ts vs M k := by
  intro sz
  refine Met.ofW (cc := b) (maxL := n) (ret := some rt) hy rfl ?_
  intro p e s m args below meth c s₁ B hml hv
  obtain ⟨rfl, hsz, hP, hK, hD0⟩ := hv
  have hts := atoms_spec (ws := Cond.code y b n (some rt) :: Ts) B.pre
  subst hsz
  have hD := hD0.self (sz := s.heap.size)
  have C : gC p rm s m vs.toArray c D cl tys (va_A (wld ad cI cS lay N M) s.heap.size) (wld ad cI cS lay N) n b y.cls Ts :=
    ⟨B.exec, B.bytes, hml, findClass_of_methodNamed B.named, fun w hw => hts w (List.mem_cons_of_mem _ hw), hK, fun M' => wld_D hD, fun q h => Or.inr h, rfl⟩
  have hl := lv_entry vs (n := n) hfit
  rw [lg_entry_eq]
  refine body p e s m vs.toArray below meth c (va_A (wld ad cI cS lay N M) s.heap.size) _ C ?_ s.heap [] _ hP va_S.rf hl
  intro pc lv x M' hd hnw hk H locs ls hP' hS' hl'
  have hlocks := B.notSynchronized
  exact W.zret (v := Int32.ofInt x) B.exec B.bytes B.returns hnw (fun t ht hW => ⟨⟨Int32.ofInt x, (x, M'), rfl, ⟨rfl, hk⟩, by rw [ht]; exact hP', va_K.moved hW.alike hK, wld_D hD⟩, hS'.F ht⟩) hS'.2.2 hd
theorem mov_intro {k : gSt → Prop} (hy : plainName y.cls = true) (hfit : (lg_sl vs).length ≤ n) (hself : Cond.code y b n none ∈ Ts)
    (body : ∀ (p : Program) (e : Env) (s : State) (m : MethodId) (args : Array Value) (below : List Frame) (meth : Method) (c : Code) (A : Nat → Prop) (Q : State → Prop), gC p rm s m args c D cl tys A (wld ad cI cS lay N) n b y.cls Ts →
      (∀ (pc : Nat) (lv : List (Nat × Value)) (M' : gSt), decode b pc = .ok (.return_, 1) → k M' → gG p l e rm s m args below meth c Q D cl A (wld ad cI cS lay N) n pc lv [] M') →
      gG p l e rm s m args below meth c Q D cl A (wld ad cI cS lay N) n 0 (lv_args 0 vs) [] M) : MOv l y b n rm D cl tys (wld ad cI cS lay N) Ts vs M k := by
  intro sz
  refine Met.ofW (cc := b) (maxL := n) (ret := none) hy rfl ?_
  intro p e s m args below meth c s₁ B hml hv
  obtain ⟨rfl, hsz, hP, hK, hD0⟩ := hv
  have hts := atoms_spec (ws := Cond.code y b n none :: Ts) B.pre
  subst hsz
  have hD := hD0.self (sz := s.heap.size)
  have C : gC p rm s m vs.toArray c D cl tys (va_A (wld ad cI cS lay N M) s.heap.size) (wld ad cI cS lay N) n b y.cls Ts :=
    ⟨B.exec, B.bytes, hml, findClass_of_methodNamed B.named, fun w hw => hts w (List.mem_cons_of_mem _ hw), hK, fun M' => wld_D hD, fun q h => Or.inr h, rfl⟩
  have hl := lv_entry vs (n := n) hfit
  rw [lg_entry_eq]
  refine body p e s m vs.toArray below meth c (va_A (wld ad cI cS lay N M) s.heap.size) _ C ?_ s.heap [] _ hP va_S.rf hl
  intro pc lv M' hd hk H locs ls hP' hS' hl'
  have hlocks := B.notSynchronized
  exact W.vret B.exec B.bytes B.returns (fun t ht hW => ⟨⟨M', rfl, hk, by rw [ht]; exact hP', va_K.moved hW.alike hK, wld_D hD⟩, hS'.F ht⟩) hS'.2.2 hd
end GI
section GCALL
variable {p : Program} {l : Launch} {e : Env} {R : Room} {s : State} {m : MethodId} {args : Array Value} {below : List Frame} {meth : Method} {c : Code} {Q : State → Prop}
variable {D : va_G} {cl : List vw_C} {tys : List (ClassId × FieldType)} {A : Nat → Prop} {nL : Nat} {cc : ByteArray} {own : String} {Ts : List Cond}
variable {pc : Nat} {lv : List (Nat × Value)} {st st0 : List Value} {M : gSt}
variable {ad : Nat → Nat} {cI cS : ClassId} {lay : Nat → gLC} {N : Nat}
theorem wld_free (C : gC p R s m args c D cl tys A (wld ad cI cS lay N) nL cc own Ts) {H : Heap} {locs : List Loc} (hS : va_S A s.heap H locs) : ∀ q, va_A (wld ad cI cS lay N M) H.size q → A q := by
  intro q h
  rcases h with ⟨k, e, h⟩ | h
  · exact (C.2.2.2.2.2.2.1 M).2 k _ h
  · exact C.2.2.2.2.2.2.2.1 q (Nat.le_trans hS.1 h)
/-- a call of an instance method, and what its answer leads to -/
theorem g_callVi (C : gC p R s m args c D cl tys A (wld ad cI cS lay N) nL cc own Ts) {y : MethodName} {b : ByteArray} {n nargs idx o ci : Nat} {rt : FieldType} {rm : Room} {As : List Value} {k1 : Int → gSt → Prop} {fl : List (Option Nat)} {vc : vw_C}
    (hM : MOi l y b n rt rm D cl tys (wld ad cI cS lay N) Ts (.ref (ad o) :: As) M k1)
    (hl : lay o = .inr (.inl (ci, fl))) (hi : o < N) (hc : cl[ci]? = some vc) (hvc : vc.1 = y.cls)
    (hG : GoodIn Ts (wsV own idx y.cls y (Cond.code y b n (some rt) :: Ts))) (hy : y.cls ≠ "java/lang/invoke/MethodHandle" ∧ y.cls ≠ "java/lang/invoke/VarHandle" ∧ (parseMethodDescriptor y.desc).map (fun d => d.parameters.length) = some nargs) (hrm : rm.cells = 0 ∧ rm.slots = 0)
    (hd : decode cc pc = .ok (.invokevirtual idx, 3)) (hR : rm.frames + 1 ≤ R.frames ∧ 8 + (n + 11) + rm.locals ≤ R.locals) (hn : As.length = nargs) (hst : st0 = As.reverse ++ .ref (ad o) :: st) (hcat : (st.map fun v => v.category).sum ≤ 8) (kk : ∀ (r : Int) (M' : gSt), k1 r M' → gG p l e R s m args below meth c Q D cl A (wld ad cI cS lay N) nL (pc + 3) lv (iv r :: st) M') : gG p l e R s m args below meth c Q D cl A (wld ad cI cS lay N) nL pc lv st0 M := by
  subst hst
  intro H locs ls hP hS hL
  have hFc := wld_free (M := M) C hS
  have hK := C.2.2.2.2.2.1
  have hts := C.2.2.2.2.1
  have hown := C.2.2.2.1
  refine va_calli (va_runV (C := y.cls) (As := As) (rest := st) ⟨C.1, C.2.1, C.2.2.1, hown, hts⟩ (hM H.size) (cwV nargs hts hG rfl hrm.1 hrm.2 ⟨rfl, hy⟩ hR) ⟨gPre_blind, by have h := va_recv hK hP (ci := ci) (q0 := o) hc (lc_obj hi hl); rw [hvc] at h; exact h, fun U hU hW => ⟨rfl, by rw [hU], by rw [hU]; exact hP, va_K.moved hW.alike hK, (C.2.2.2.2.2.2.1 M).weaken (fun _ _ _ _ => trivial)⟩⟩ rfl hn hL.1 rfl (lv_room hcat) hd ⟨Nat.zero_le _, Nat.zero_le _⟩) hS (fun q _ h => hFc q h) hFc (fun r u t H1 locs1 ht hvm hw hB hz hk hS1 => ?_)
  obtain ⟨rfl, hw2⟩ := hw
  obtain ⟨hP1, -, -⟩ := hB
  rw [ht] at hP1
  exact kk _ _ hw2 H1 locs1 ls hP1 hS1 hL
theorem g_callVv (C : gC p R s m args c D cl tys A (wld ad cI cS lay N) nL cc own Ts) {y : MethodName} {b : ByteArray} {n nargs idx o ci : Nat} {rm : Room} {As : List Value} {k1 : gSt → Prop} {fl : List (Option Nat)} {vc : vw_C}
    (hM : MOv l y b n rm D cl tys (wld ad cI cS lay N) Ts (.ref (ad o) :: As) M k1)
    (hl : lay o = .inr (.inl (ci, fl))) (hi : o < N) (hc : cl[ci]? = some vc) (hvc : vc.1 = y.cls)
    (hG : GoodIn Ts (wsV own idx y.cls y (Cond.code y b n none :: Ts))) (hy : y.cls ≠ "java/lang/invoke/MethodHandle" ∧ y.cls ≠ "java/lang/invoke/VarHandle" ∧ (parseMethodDescriptor y.desc).map (fun d => d.parameters.length) = some nargs) (hrm : rm.cells = 0 ∧ rm.slots = 0)
    (hd : decode cc pc = .ok (.invokevirtual idx, 3)) (hR : rm.frames + 1 ≤ R.frames ∧ 8 + (n + 11) + rm.locals ≤ R.locals) (hn : As.length = nargs) (hst : st0 = As.reverse ++ .ref (ad o) :: st) (hcat : (st.map fun v => v.category).sum ≤ 8) (kk : ∀ (M' : gSt), k1 M' → gG p l e R s m args below meth c Q D cl A (wld ad cI cS lay N) nL (pc + 3) lv st M') : gG p l e R s m args below meth c Q D cl A (wld ad cI cS lay N) nL pc lv st0 M := by
  subst hst
  intro H locs ls hP hS hL
  have hFc := wld_free (M := M) C hS
  have hK := C.2.2.2.2.2.1
  have hts := C.2.2.2.2.1
  have hown := C.2.2.2.1
  refine va_callv (va_runV (C := y.cls) (As := As) (rest := st) ⟨C.1, C.2.1, C.2.2.1, hown, hts⟩ (hM H.size) (cwV nargs hts hG rfl hrm.1 hrm.2 ⟨rfl, hy⟩ hR) ⟨gPre_blind, by have h := va_recv hK hP (ci := ci) (q0 := o) hc (lc_obj hi hl); rw [hvc] at h; exact h, fun U hU hW => ⟨rfl, by rw [hU], by rw [hU]; exact hP, va_K.moved hW.alike hK, (C.2.2.2.2.2.2.1 M).weaken (fun _ _ _ _ => trivial)⟩⟩ rfl hn hL.1 rfl (lv_room hcat) hd ⟨Nat.zero_le _, Nat.zero_le _⟩) hS (fun q _ h => hFc q h) hFc (fun u t H1 locs1 ht hvm hw hB hz hk hS1 => ?_)
  obtain ⟨hP1, -, -⟩ := hB
  rw [ht] at hP1
  exact kk _ hw H1 locs1 ls hP1 hS1 hL
/-- static calls -/
theorem g_callSi (C : gC p R s m args c D cl tys A (wld ad cI cS lay N) nL cc own Ts) {y : MethodName} {b : ByteArray} {n nargs idx : Nat} {rt : FieldType} {rm : Room} {As : List Value} {k1 : Int → gSt → Prop}
    (hM : MOi l y b n rt rm D cl tys (wld ad cI cS lay N) Ts As M k1)
    (hG : GoodIn Ts (va_wsS own idx y (Cond.code y b n (some rt) :: Ts))) (hy : y.cls ≠ "java/lang/invoke/MethodHandle" ∧ y.cls ≠ "java/lang/invoke/VarHandle" ∧ (parseMethodDescriptor y.desc).map (fun d => d.parameters.length) = some nargs) (hrm : rm.cells = 0 ∧ rm.slots = 0)
    (hd : decode cc pc = .ok (.invokestatic idx, 3)) (hR : rm.frames + 1 ≤ R.frames ∧ 8 + (n + 11) + rm.locals ≤ R.locals) (hn : As.length = nargs) (hst : st0 = As.reverse ++ st) (hcat : (st.map fun v => v.category).sum ≤ 8) (kk : ∀ (r : Int) (M' : gSt), k1 r M' → gG p l e R s m args below meth c Q D cl A (wld ad cI cS lay N) nL (pc + 3) lv (iv r :: st) M') : gG p l e R s m args below meth c Q D cl A (wld ad cI cS lay N) nL pc lv st0 M := by
  subst hst
  intro H locs ls hP hS hL
  have hFc := wld_free (M := M) C hS
  have hK := C.2.2.2.2.2.1
  have hts := C.2.2.2.2.1
  have hown := C.2.2.2.1
  refine va_calli (va_runS (As := As) (rest := st) ⟨C.1, C.2.1, C.2.2.1, hown, hts⟩ (hM H.size) (va_cwS nargs hts hG rfl hrm.1 hrm.2 hy hR) ⟨gPre_blind, fun U hU hW => ⟨rfl, by rw [hU], by rw [hU]; exact hP, va_K.moved hW.alike hK, (C.2.2.2.2.2.2.1 M).weaken (fun _ _ _ _ => trivial)⟩⟩ rfl hn hL.1 rfl (lv_room hcat) hd ⟨Nat.zero_le _, Nat.zero_le _⟩) hS (fun q _ h => hFc q h) hFc (fun r u t H1 locs1 ht hvm hw hB hz hk hS1 => ?_)
  obtain ⟨rfl, hw2⟩ := hw
  obtain ⟨hP1, -, -⟩ := hB
  rw [ht] at hP1
  exact kk _ _ hw2 H1 locs1 ls hP1 hS1 hL
theorem g_callSv (C : gC p R s m args c D cl tys A (wld ad cI cS lay N) nL cc own Ts) {y : MethodName} {b : ByteArray} {n nargs idx : Nat} {rm : Room} {As : List Value} {k1 : gSt → Prop}
    (hM : MOv l y b n rm D cl tys (wld ad cI cS lay N) Ts As M k1)
    (hG : GoodIn Ts (va_wsS own idx y (Cond.code y b n none :: Ts))) (hy : y.cls ≠ "java/lang/invoke/MethodHandle" ∧ y.cls ≠ "java/lang/invoke/VarHandle" ∧ (parseMethodDescriptor y.desc).map (fun d => d.parameters.length) = some nargs) (hrm : rm.cells = 0 ∧ rm.slots = 0)
    (hd : decode cc pc = .ok (.invokestatic idx, 3)) (hR : rm.frames + 1 ≤ R.frames ∧ 8 + (n + 11) + rm.locals ≤ R.locals) (hn : As.length = nargs) (hst : st0 = As.reverse ++ st) (hcat : (st.map fun v => v.category).sum ≤ 8) (kk : ∀ (M' : gSt), k1 M' → gG p l e R s m args below meth c Q D cl A (wld ad cI cS lay N) nL (pc + 3) lv st M') : gG p l e R s m args below meth c Q D cl A (wld ad cI cS lay N) nL pc lv st0 M := by
  subst hst
  intro H locs ls hP hS hL
  have hFc := wld_free (M := M) C hS
  have hK := C.2.2.2.2.2.1
  have hts := C.2.2.2.2.1
  have hown := C.2.2.2.1
  refine va_callv (va_runS (As := As) (rest := st) ⟨C.1, C.2.1, C.2.2.1, hown, hts⟩ (hM H.size) (va_cwS nargs hts hG rfl hrm.1 hrm.2 hy hR) ⟨gPre_blind, fun U hU hW => ⟨rfl, by rw [hU], by rw [hU]; exact hP, va_K.moved hW.alike hK, (C.2.2.2.2.2.2.1 M).weaken (fun _ _ _ _ => trivial)⟩⟩ rfl hn hL.1 rfl (lv_room hcat) hd ⟨Nat.zero_le _, Nat.zero_le _⟩) hS (fun q _ h => hFc q h) hFc (fun u t H1 locs1 ht hvm hw hB hz hk hS1 => ?_)
  obtain ⟨hP1, -, -⟩ := hB
  rw [ht] at hP1
  exact kk _ hw H1 locs1 ls hP1 hS1 hL
end GCALL
end
section
-- the reference's names, words, fields
def RX9 : String := "OldBronzeModel"
def TX9 : u_T := fun k => match k with
  | 0 => ("OldBronzeModel", "s", "[I", true)
  | 1 => ("OldBronzeModel", "kept", "[I", true)
  | 2 => ("OldBronzeModel", "put", "[I", true)
  | 3 => ("OldBronzeModel", "images", "I", false)
  | 4 => ("OldBronzeModel", "errors", "[I", true)
  | 5 => ("OldBronzeModel", "at", "I", false)
  | 6 => ("OldBronzeModel", "open", "I", false)
  | 7 => ("OldBronzeModel", "steps", "I", false)
  | 8 => ("OldBronzeModel", "use", "I", false)
  | 9 => ("OldBronzeModel", "step", "[I", true)
  | 10 => ("OldBronzeModel", "named", "[I", true)
  | 11 => ("OldBronzeModel", "pile", "[I", true)
  | 12 => ("OldBronzeModel", "fit", "[I", true)
  | 13 => ("OldBronzeModel", "many", "I", false)
  | 14 => ("OldBronzeModel", "seen", "[I", true)
  | 15 => ("OldBronzeModel", "trace", "[I", true)
  | 16 => ("OldBronzeModel", "traced", "I", false)
  | 17 => ("OldBronzeModel", "speaks", "I", false)
  | 18 => ("OldBronzeModel", "isParted", "Z", false)
  | 19 => ("OldBronzeModel", "bits", "[I", true)
  | 20 => ("OldBronzeModel", "sizes", "[I", true)
  | 21 => ("OldBronzeModel", "number", "[I", true)
  | _ => ("OldBronzeModel", "aside", "[I", true)
def tyX9 : Nat → FieldType := fun k => match k with
  | 0 => .array .int
  | 1 => .array .int
  | 2 => .array .int
  | 3 => .int
  | 4 => .array .int
  | 5 => .int
  | 6 => .int
  | 7 => .int
  | 8 => .int
  | 9 => .array .int
  | 10 => .array .int
  | 11 => .array .int
  | 12 => .array .int
  | 13 => .int
  | 14 => .array .int
  | 15 => .array .int
  | 16 => .int
  | 17 => .int
  | 18 => .boolean
  | 19 => .array .int
  | 20 => .array .int
  | 21 => .array .int
  | _ => .array .int
abbrev wsX90 : List Cond := u_ws RX9 TX9 23
theorem nmX9 : ∀ a, a < 23 → ∀ b, b < 23 → a ≠ b → (TX9 a).2.1 ≠ (TX9 b).2.1 := by decide +kernel
theorem tyX9_ok : ∀ k, k < 23 → parseFieldDescriptor (TX9 k).2.2.1 = some (tyX9 k) := by decide +kernel
abbrev cX9_init : ByteArray := prog_11_method_1_code
def yX9_init : MethodName := ⟨RX9, "<init>", "()V"⟩
abbrev cX9_error : ByteArray := prog_11_method_2_code
def yX9_error : MethodName := ⟨RX9, "error", "(I)I"⟩
abbrev cX9_in : ByteArray := prog_11_method_3_code
def yX9_in : MethodName := ⟨RX9, "in", "(III)Z"⟩
abbrev cX9_held : ByteArray := prog_11_method_4_code
def yX9_held : MethodName := ⟨RX9, "held", "(III)I"⟩
abbrev cX9_carry : ByteArray := prog_11_method_5_code
def yX9_carry : MethodName := ⟨RX9, "carry", "([I[I)V"⟩
abbrev cX9_isThing : ByteArray := prog_11_method_6_code
def yX9_isThing : MethodName := ⟨RX9, "isThing", "(I)Z"⟩
abbrev cX9_its : ByteArray := prog_11_method_7_code
def yX9_its : MethodName := ⟨RX9, "its", "(II)I"⟩
abbrev cX9_lays1 : ByteArray := prog_11_method_8_code
def yX9_lays1 : MethodName := ⟨RX9, "lays1", "(III)V"⟩
abbrev cX9_addThing : ByteArray := prog_11_method_9_code
def yX9_addThing : MethodName := ⟨RX9, "addThing", "(I)I"⟩
abbrev cX9_thing : ByteArray := prog_11_method_10_code
def yX9_thing : MethodName := ⟨RX9, "thing", "(II)I"⟩
abbrev cX9_told1 : ByteArray := prog_11_method_11_code
def yX9_told1 : MethodName := ⟨RX9, "told1", "(II)I"⟩
abbrev cX9_thingIs : ByteArray := prog_11_method_12_code
def yX9_thingIs : MethodName := ⟨RX9, "thingIs", "(II)I"⟩
abbrev cX9_isUnder : ByteArray := prog_11_method_13_code
def yX9_isUnder : MethodName := ⟨RX9, "isUnder", "(II)Z"⟩
abbrev cX9_as : ByteArray := prog_11_method_14_code
def yX9_as : MethodName := ⟨RX9, "as", "(II)I"⟩
abbrev cX9_set : ByteArray := prog_11_method_15_code
def yX9_set : MethodName := ⟨RX9, "set", "(III)I"⟩
abbrev cX9_moves : ByteArray := prog_11_method_16_code
def yX9_moves : MethodName := ⟨RX9, "moves", "(III)V"⟩
abbrev cX9_melt : ByteArray := prog_11_method_17_code
def yX9_melt : MethodName := ⟨RX9, "melt", "(II)I"⟩
abbrev cX9_crucible : ByteArray := prog_11_method_18_code
def yX9_crucible : MethodName := ⟨RX9, "crucible", "(I)I"⟩
abbrev cX9_partOf : ByteArray := prog_11_method_19_code
def yX9_partOf : MethodName := ⟨RX9, "partOf", "(III)I"⟩
abbrev cX9_cast : ByteArray := prog_11_method_20_code
def yX9_cast : MethodName := ⟨RX9, "cast", "(III)I"⟩
abbrev cX9_draw : ByteArray := prog_11_method_21_code
def yX9_draw : MethodName := ⟨RX9, "draw", "()I"⟩
abbrev cX9_year : ByteArray := prog_11_method_22_code
def yX9_year : MethodName := ⟨RX9, "year", "()V"⟩
abbrev cX9_go : ByteArray := prog_11_method_23_code
def yX9_go : MethodName := ⟨RX9, "go", "(I)V"⟩
abbrev cX9_allGrams : ByteArray := prog_11_method_24_code
def yX9_allGrams : MethodName := ⟨RX9, "allGrams", "()I"⟩
abbrev cX9_years : ByteArray := prog_11_method_25_code
def yX9_years : MethodName := ⟨RX9, "years", "(I)I"⟩
abbrev cX9_then : ByteArray := prog_11_method_26_code
def yX9_then : MethodName := ⟨RX9, "then", "(III)I"⟩
abbrev cX9_seed : ByteArray := prog_11_method_27_code
def yX9_seed : MethodName := ⟨RX9, "seed", "(I)I"⟩
abbrev cX9_feed : ByteArray := prog_11_method_28_code
def yX9_feed : MethodName := ⟨RX9, "feed", "(JI)I"⟩
abbrev cX9_look : ByteArray := prog_11_method_29_code
def yX9_look : MethodName := ⟨RX9, "look", "()I"⟩
abbrev cX9_isName : ByteArray := prog_11_method_30_code
def yX9_isName : MethodName := ⟨RX9, "isName", "(I)Z"⟩
abbrev cX9_lays : ByteArray := prog_11_method_31_code
def yX9_lays : MethodName := ⟨RX9, "lays", "(II)V"⟩
abbrev cX9_whole : ByteArray := prog_11_method_32_code
def yX9_whole : MethodName := ⟨RX9, "whole", "()Z"⟩
abbrev cX9_both : ByteArray := prog_11_method_33_code
def yX9_both : MethodName := ⟨RX9, "both", "()Z"⟩
abbrev cX9_compared : ByteArray := prog_11_method_34_code
def yX9_compared : MethodName := ⟨RX9, "compared", "()Z"⟩
abbrev cX9_sum : ByteArray := prog_11_method_35_code
def yX9_sum : MethodName := ⟨RX9, "sum", "()Z"⟩
abbrev cX9_product : ByteArray := prog_11_method_36_code
def yX9_product : MethodName := ⟨RX9, "product", "()Z"⟩
abbrev cX9_opens : ByteArray := prog_11_method_37_code
def yX9_opens : MethodName := ⟨RX9, "opens", "()Z"⟩
abbrev cX9_one : ByteArray := prog_11_method_38_code
def yX9_one : MethodName := ⟨RX9, "one", "()Z"⟩
abbrev cX9_hasText : ByteArray := prog_11_method_39_code
def yX9_hasText : MethodName := ⟨RX9, "hasText", "(I)Z"⟩
abbrev cX9_text : ByteArray := prog_11_method_40_code
def yX9_text : MethodName := ⟨RX9, "text", "(I)I"⟩
abbrev cX9_untell : ByteArray := prog_11_method_41_code
def yX9_untell : MethodName := ⟨RX9, "untell", "(I)I"⟩
abbrev cX9_joined : ByteArray := prog_11_method_42_code
def yX9_joined : MethodName := ⟨RX9, "joined", "(III)I"⟩
abbrev cX9_worked : ByteArray := prog_11_method_43_code
def yX9_worked : MethodName := ⟨RX9, "worked", "(I)I"⟩
abbrev cX9_thousandths : ByteArray := prog_11_method_44_code
def yX9_thousandths : MethodName := ⟨RX9, "thousandths", "(I)I"⟩
abbrev cX9_rings : ByteArray := prog_11_method_45_code
def yX9_rings : MethodName := ⟨RX9, "rings", "(I)I"⟩
abbrev cX9_tone : ByteArray := prog_11_method_46_code
def yX9_tone : MethodName := ⟨RX9, "tone", "(I)I"⟩
abbrev cX9_isClaim : ByteArray := prog_11_method_47_code
def yX9_isClaim : MethodName := ⟨RX9, "isClaim", "(I)Z"⟩
abbrev cX9_of : ByteArray := prog_11_method_48_code
def yX9_of : MethodName := ⟨RX9, "of", "(II)I"⟩
abbrev cX9_manyOn : ByteArray := prog_11_method_49_code
def yX9_manyOn : MethodName := ⟨RX9, "manyOn", "(I)I"⟩
abbrev cX9_counts : ByteArray := prog_11_method_50_code
def yX9_counts : MethodName := ⟨RX9, "counts", "(I)I"⟩
abbrev cX9_claim : ByteArray := prog_11_method_51_code
def yX9_claim : MethodName := ⟨RX9, "claim", "(II)I"⟩
abbrev cX9_claimIs : ByteArray := prog_11_method_52_code
def yX9_claimIs : MethodName := ⟨RX9, "claimIs", "(II)I"⟩
abbrev cX9_countsBelow : ByteArray := prog_11_method_53_code
def yX9_countsBelow : MethodName := ⟨RX9, "countsBelow", "(II)I"⟩
abbrev cX9_shareOf : ByteArray := prog_11_method_54_code
def yX9_shareOf : MethodName := ⟨RX9, "shareOf", "(II)I"⟩
abbrev cX9_isLaw : ByteArray := prog_11_method_55_code
def yX9_isLaw : MethodName := ⟨RX9, "isLaw", "(I)Z"⟩
abbrev cX9_share : ByteArray := prog_11_method_56_code
def yX9_share : MethodName := ⟨RX9, "share", "(II)I"⟩
abbrev cX9_left : ByteArray := prog_11_method_57_code
def yX9_left : MethodName := ⟨RX9, "left", "(II)I"⟩
abbrev cX9_isPaper : ByteArray := prog_11_method_58_code
def yX9_isPaper : MethodName := ⟨RX9, "isPaper", "(III)Z"⟩
abbrev cX9_addPaper : ByteArray := prog_11_method_59_code
def yX9_addPaper : MethodName := ⟨RX9, "addPaper", "(III)V"⟩
abbrev cX9_paper : ByteArray := prog_11_method_60_code
def yX9_paper : MethodName := ⟨RX9, "paper", "(III)I"⟩
abbrev cX9_weigh : ByteArray := prog_11_method_61_code
def yX9_weigh : MethodName := ⟨RX9, "weigh", "(III)I"⟩
abbrev cX9_forget : ByteArray := prog_11_method_62_code
def yX9_forget : MethodName := ⟨RX9, "forget", "(I)I"⟩
abbrev cX9_allPapers : ByteArray := prog_11_method_63_code
def yX9_allPapers : MethodName := ⟨RX9, "allPapers", "()I"⟩
abbrev cX9_isHistory : ByteArray := prog_11_method_64_code
def yX9_isHistory : MethodName := ⟨RX9, "isHistory", "(I)Z"⟩
abbrev cX9_goesBy : ByteArray := prog_11_method_65_code
def yX9_goesBy : MethodName := ⟨RX9, "goesBy", "(I)V"⟩
abbrev cX9_after : ByteArray := prog_11_method_66_code
def yX9_after : MethodName := ⟨RX9, "after", "(III)I"⟩
abbrev cX9_by : ByteArray := prog_11_method_67_code
def yX9_by : MethodName := ⟨RX9, "by", "(III)I"⟩
abbrev cX9_doesFit : ByteArray := prog_11_method_68_code
def yX9_doesFit : MethodName := ⟨RX9, "doesFit", "(I)Z"⟩
abbrev cX9_findFits : ByteArray := prog_11_method_69_code
def yX9_findFits : MethodName := ⟨RX9, "findFits", "()V"⟩
abbrev cX9_bitsOf : ByteArray := prog_11_method_70_code
def yX9_bitsOf : MethodName := ⟨RX9, "bitsOf", "(I)I"⟩
abbrev cX9_fits : ByteArray := prog_11_method_71_code
def yX9_fits : MethodName := ⟨RX9, "fits", "(I)I"⟩
abbrev cX9_span : ByteArray := prog_11_method_72_code
def yX9_span : MethodName := ⟨RX9, "span", "(III)I"⟩
abbrev cX9_heap : ByteArray := prog_11_method_73_code
def yX9_heap : MethodName := ⟨RX9, "heap", "(I)I"⟩
abbrev cX9_next : ByteArray := prog_11_method_74_code
def yX9_next : MethodName := ⟨RX9, "next", "()I"⟩
abbrev cX9_together : ByteArray := prog_11_method_75_code
def yX9_together : MethodName := ⟨RX9, "together", "(II)I"⟩
abbrev cX9_haveGrams : ByteArray := prog_11_method_76_code
def yX9_haveGrams : MethodName := ⟨RX9, "haveGrams", "(I)Z"⟩
abbrev cX9_most : ByteArray := prog_11_method_77_code
def yX9_most : MethodName := ⟨RX9, "most", "(III)I"⟩
abbrev cX9_begins : ByteArray := prog_11_method_78_code
def yX9_begins : MethodName := ⟨RX9, "begins", "(I)V"⟩
abbrev cX9_above : ByteArray := prog_11_method_79_code
def yX9_above : MethodName := ⟨RX9, "above", "(I)I"⟩
abbrev cX9_kindNow : ByteArray := prog_11_method_80_code
def yX9_kindNow : MethodName := ⟨RX9, "kindNow", "()I"⟩
abbrev cX9_mNow : ByteArray := prog_11_method_81_code
def yX9_mNow : MethodName := ⟨RX9, "mNow", "()I"⟩
abbrev cX9_ringsBy : ByteArray := prog_11_method_82_code
def yX9_ringsBy : MethodName := ⟨RX9, "ringsBy", "(II)I"⟩
abbrev cX9_weighsBy : ByteArray := prog_11_method_83_code
def yX9_weighsBy : MethodName := ⟨RX9, "weighsBy", "(II)I"⟩
abbrev cX9_meltsBy : ByteArray := prog_11_method_84_code
def yX9_meltsBy : MethodName := ⟨RX9, "meltsBy", "(II)I"⟩
abbrev cX9_partsBy : ByteArray := prog_11_method_85_code
def yX9_partsBy : MethodName := ⟨RX9, "partsBy", "(II)I"⟩
abbrev cX9_voice : ByteArray := prog_11_method_86_code
def yX9_voice : MethodName := ⟨RX9, "voice", "(III)I"⟩
abbrev cX9_body : ByteArray := prog_11_method_87_code
def yX9_body : MethodName := ⟨RX9, "body", "(I)I"⟩
abbrev cX9_isSheet : ByteArray := prog_11_method_88_code
def yX9_isSheet : MethodName := ⟨RX9, "isSheet", "(I)Z"⟩
abbrev cX9_sheet : ByteArray := prog_11_method_89_code
def yX9_sheet : MethodName := ⟨RX9, "sheet", "(III)I"⟩
abbrev cX9_put : ByteArray := prog_11_method_90_code
def yX9_put : MethodName := ⟨RX9, "put", "(III)I"⟩
abbrev cX9_move : ByteArray := prog_11_method_91_code
def yX9_move : MethodName := ⟨RX9, "move", "(IIIII)I"⟩
abbrev cX9_lacks : ByteArray := prog_11_method_92_code
def yX9_lacks : MethodName := ⟨RX9, "lacks", "(I)I"⟩
abbrev cX9_papers : ByteArray := prog_11_method_93_code
def yX9_papers : MethodName := ⟨RX9, "papers", "(I)I"⟩
abbrev cX9_judge : ByteArray := prog_11_method_94_code
def yX9_judge : MethodName := ⟨RX9, "judge", "(II)I"⟩
abbrev cX9_image : ByteArray := prog_11_method_95_code
def yX9_image : MethodName := ⟨RX9, "image", "()I"⟩
abbrev cX9_restore : ByteArray := prog_11_method_96_code
def yX9_restore : MethodName := ⟨RX9, "restore", "()I"⟩
abbrev cX9_tell : ByteArray := prog_11_method_97_code
def yX9_tell : MethodName := ⟨RX9, "tell", "(I)I"⟩
abbrev cX9_check : ByteArray := prog_11_method_98_code
def yX9_check : MethodName := ⟨RX9, "check", "()I"⟩
abbrev cX9_count : ByteArray := prog_11_method_99_code
def yX9_count : MethodName := ⟨RX9, "count", "(I)I"⟩
abbrev cX9_told : ByteArray := prog_11_method_100_code
def yX9_told : MethodName := ⟨RX9, "told", "(I)I"⟩

theorem gV_good {Ts : List Cond} (hT : ∀ w ∈ Ts, goodWord w = true) {own : String} {idx : Nat} {y : MethodName} {b : ByteArray} {n : Nat} {rt : Option FieldType} (h1 : Cond.methodLink own idx y ∈ Ts) (h2 : Cond.instanceMethod y ∈ Ts) (h3 : Cond.selects y.cls y y ∈ Ts) (h4 : Cond.initialized y.cls ∈ Ts) (h5 : Cond.code y b n rt ∈ Ts) : GoodIn Ts (wsV own idx y.cls y (Cond.code y b n rt :: Ts)) := by
  intro w hw
  have h : w ∈ Ts := by
    simp only [wsV, List.cons_append, List.nil_append, List.mem_cons] at hw
    rcases hw with rfl | rfl | rfl | rfl | rfl | h
    · exact h1
    · exact h2
    · exact h3
    · exact h4
    · exact h5
    · exact h
  exact ⟨h, good_of_word (hT w h)⟩
theorem gS_good {Ts : List Cond} (hT : ∀ w ∈ Ts, goodWord w = true) {own : String} {idx : Nat} {y : MethodName} {b : ByteArray} {n : Nat} {rt : Option FieldType} (h1 : Cond.methodLink own idx y ∈ Ts) (h2 : Cond.static y ∈ Ts) (h4 : Cond.initialized y.cls ∈ Ts) (h5 : Cond.code y b n rt ∈ Ts) : GoodIn Ts (va_wsS own idx y (Cond.code y b n rt :: Ts)) := by
  intro w hw
  have h : w ∈ Ts := by
    simp only [va_wsS, List.cons_append, List.nil_append, List.mem_cons] at hw
    rcases hw with rfl | rfl | rfl | rfl | h
    · exact h1
    · exact h2
    · exact h4
    · exact h5
    · exact h
  exact ⟨h, good_of_word (hT w h)⟩
def tRa : List Cond := [
  .methodLink RX9 1 objectInit,
  .instanceMethod objectInit,
  .code objectInit ⟨#[0xb1]⟩ 1 none,
  .arrayClass .int,
  .fieldLink RX9 7 "OldBronzeModel" "s" "[I",
  .fieldLink RX9 13 "OldBronzeModel" "kept" "[I",
  .fieldLink RX9 16 "OldBronzeModel" "put" "[I",
  .fieldLink RX9 19 "OldBronzeModel" "errors" "[I",
  .fieldLink RX9 22 "OldBronzeModel" "step" "[I",
  .fieldLink RX9 25 "OldBronzeModel" "named" "[I",
  .fieldLink RX9 28 "OldBronzeModel" "pile" "[I",
  .fieldLink RX9 31 "OldBronzeModel" "fit" "[I",
  .fieldLink RX9 34 "OldBronzeModel" "seen" "[I",
  .fieldLink RX9 37 "OldBronzeModel" "trace" "[I",
  .fieldLink RX9 40 "OldBronzeModel" "bits" "[I",
  .fieldLink RX9 43 "OldBronzeModel" "sizes" "[I",
  .fieldLink RX9 46 "OldBronzeModel" "number" "[I",
  .fieldLink RX9 49 "OldBronzeModel" "aside" "[I",
  .code yX9_init cX9_init 1 none,
  .constant RX9 52 (-1000000000),
  .code yX9_error cX9_error 2 (some .int),
  .code yX9_in cX9_in 3 (some .boolean),
  .code yX9_held cX9_held 3 (some .int),
  .code yX9_carry cX9_carry 3 none,
  .methodLink RX9 53 yX9_in,
  .static yX9_in,
  .initialized RX9,
  .code yX9_isThing cX9_isThing 2 (some .boolean),
  .code yX9_its cX9_its 3 (some .int),
  .code yX9_lays1 cX9_lays1 4 none,
  .methodLink RX9 57 yX9_lays1,
  .instanceMethod yX9_lays1,
  .selects RX9 yX9_lays1 yX9_lays1,
  .code yX9_addThing cX9_addThing 4 (some .int),
  .constant RX9 61 (9999999),
  .constant RX9 69 (1000000),
  .methodLink RX9 62 yX9_error,
  .instanceMethod yX9_error,
  .selects RX9 yX9_error yX9_error,
  .methodLink RX9 66 yX9_addThing,
  .instanceMethod yX9_addThing,
  .selects RX9 yX9_addThing yX9_addThing,
  .code yX9_thing cX9_thing 4 (some .int),
  .code yX9_partOf cX9_partOf 3 (some .int),
  .methodLink RX9 73 yX9_its,
  .instanceMethod yX9_its,
  .selects RX9 yX9_its yX9_its,
  .methodLink RX9 99 yX9_partOf,
  .static yX9_partOf,
  .code yX9_thousandths cX9_thousandths 2 (some .int),
  .code yX9_hasText cX9_hasText 2 (some .boolean),
  .code yX9_joined cX9_joined 3 (some .int),
  .methodLink RX9 171 yX9_joined,
  .static yX9_joined,
  .code yX9_worked cX9_worked 7 (some .int),
  .methodLink RX9 174 yX9_thousandths,
  .instanceMethod yX9_thousandths,
  .selects RX9 yX9_thousandths yX9_thousandths,
  .methodLink RX9 168 yX9_hasText,
  .instanceMethod yX9_hasText,
  .selects RX9 yX9_hasText yX9_hasText,
  .methodLink RX9 92 yX9_held,
  .static yX9_held,
  .methodLink RX9 177 yX9_worked,
  .instanceMethod yX9_worked,
  .selects RX9 yX9_worked yX9_worked,
  .code yX9_rings cX9_rings 3 (some .int),
  .methodLink RX9 180 yX9_rings,
  .instanceMethod yX9_rings,
  .selects RX9 yX9_rings yX9_rings,
  .code yX9_tone cX9_tone 4 (some .int),
  .methodLink RX9 70 yX9_tone,
  .instanceMethod yX9_tone,
  .selects RX9 yX9_tone yX9_tone,
  .code yX9_told1 cX9_told1 3 (some .int),
  .methodLink RX9 77 yX9_isThing,
  .instanceMethod yX9_isThing,
  .selects RX9 yX9_isThing yX9_isThing,
  .methodLink RX9 81 yX9_told1,
  .instanceMethod yX9_told1,
  .selects RX9 yX9_told1 yX9_told1,
  .code yX9_thingIs cX9_thingIs 3 (some .int),
  .code yX9_isUnder cX9_isUnder 2 (some .boolean),
  .methodLink RX9 84 yX9_isUnder,
  .static yX9_isUnder,
  .code yX9_as cX9_as 3 (some .int),
  .code yX9_set cX9_set 5 (some .int),
  .constantLong RX9 88 (8),
  .constantLong RX9 90 (9999999),
  .code yX9_moves cX9_moves 11 none,
  .methodLink RX9 96 yX9_moves,
  .instanceMethod yX9_moves,
  .selects RX9 yX9_moves yX9_moves,
  .code yX9_melt cX9_melt 3 (some .int),
  .code yX9_crucible cX9_crucible 2 (some .int),
  .code yX9_cast cX9_cast 16 (some .int),
  .constant RX9 102 (1103515245),
  .code yX9_draw cX9_draw 1 (some .int),
  .methodLink RX9 103 yX9_draw,
  .instanceMethod yX9_draw,
  .selects RX9 yX9_draw yX9_draw,
  .code yX9_year cX9_year 3 none,
  .methodLink RX9 107 yX9_year,
  .instanceMethod yX9_year,
  .selects RX9 yX9_year yX9_year,
  .code yX9_go cX9_go 3 none,
  .code yX9_allGrams cX9_allGrams 3 (some .int),
  .methodLink RX9 110 yX9_go,
  .instanceMethod yX9_go,
  .selects RX9 yX9_go yX9_go,
  .methodLink RX9 114 yX9_allGrams,
  .instanceMethod yX9_allGrams,
  .selects RX9 yX9_allGrams yX9_allGrams,
  .code yX9_years cX9_years 2 (some .int),
  .methodLink RX9 117 yX9_carry,
  .static yX9_carry,
  .code yX9_then cX9_then 5 (some .int),
  .code yX9_seed cX9_seed 3 (some .int),
  .constantLong RX9 121 (255),
  .code yX9_feed cX9_feed 5 (some .int),
  .fieldLink RX9 123 "OldBronzeModel" "at" "I",
  .code yX9_look cX9_look 1 (some .int),
  .fieldLink RX9 127 "OldBronzeModel" "use" "I",
  .code yX9_isName cX9_isName 2 (some .boolean),
  .fieldLink RX9 130 "OldBronzeModel" "steps" "I",
  .code yX9_lays cX9_lays 3 none,
  .fieldLink RX9 156 "OldBronzeModel" "open" "I",
  .code yX9_opens cX9_opens 1 (some .boolean),
  .methodLink RX9 144 yX9_compared,
  .instanceMethod yX9_compared,
  .selects RX9 yX9_compared yX9_compared,
  .methodLink RX9 137 yX9_look,
  .instanceMethod yX9_look,
  .selects RX9 yX9_look yX9_look,
  .methodLink RX9 140 yX9_lays,
  .instanceMethod yX9_lays,
  .selects RX9 yX9_lays yX9_lays,
  .code yX9_compared cX9_compared 2 (some .boolean),
  .methodLink RX9 147 yX9_sum,
  .instanceMethod yX9_sum,
  .selects RX9 yX9_sum yX9_sum,
  .code yX9_one cX9_one 4 (some .boolean),
  .methodLink RX9 159 yX9_isName,
  .instanceMethod yX9_isName,
  .selects RX9 yX9_isName yX9_isName,
  .methodLink RX9 162 yX9_opens,
  .instanceMethod yX9_opens,
  .selects RX9 yX9_opens yX9_opens,
  .methodLink RX9 153 yX9_one,
  .instanceMethod yX9_one,
  .selects RX9 yX9_one yX9_one,
  .methodLink RX9 165 yX9_whole,
  .instanceMethod yX9_whole,
  .selects RX9 yX9_whole yX9_whole,
  .code yX9_product cX9_product 2 (some .boolean),
  .code yX9_sum cX9_sum 2 (some .boolean),
  .methodLink RX9 150 yX9_product,
  .instanceMethod yX9_product,
  .selects RX9 yX9_product yX9_product,
  .code yX9_whole cX9_whole 1 (some .boolean),
  .methodLink RX9 133 yX9_both,
  .instanceMethod yX9_both,
  .selects RX9 yX9_both yX9_both,
  .code yX9_both cX9_both 1 (some .boolean),
  .code yX9_text cX9_text 5 (some .int),
  .code yX9_untell cX9_untell 3 (some .int),
  .code yX9_isClaim cX9_isClaim 2 (some .boolean),
  .code yX9_of cX9_of 3 (some .int),
  .methodLink RX9 183 yX9_of,
  .instanceMethod yX9_of,
  .selects RX9 yX9_of yX9_of,
  .code yX9_manyOn cX9_manyOn 4 (some .int),
  .methodLink RX9 186 yX9_manyOn,
  .instanceMethod yX9_manyOn,
  .selects RX9 yX9_manyOn yX9_manyOn,
  .code yX9_counts cX9_counts 3 (some .int),
  .constant RX9 189 (99999),
  .code yX9_claim cX9_claim 3 (some .int),
  .methodLink RX9 190 yX9_isClaim,
  .instanceMethod yX9_isClaim,
  .selects RX9 yX9_isClaim yX9_isClaim,
  .methodLink RX9 193 yX9_counts,
  .instanceMethod yX9_counts,
  .selects RX9 yX9_counts yX9_counts,
  .code yX9_claimIs cX9_claimIs 3 (some .int),
  .code yX9_countsBelow cX9_countsBelow 5 (some .int),
  .methodLink RX9 196 yX9_countsBelow,
  .instanceMethod yX9_countsBelow,
  .selects RX9 yX9_countsBelow yX9_countsBelow,
  .code yX9_shareOf cX9_shareOf 7 (some .int),
  .code yX9_isLaw cX9_isLaw 1 (some .boolean),
  .methodLink RX9 199 yX9_isLaw,
  .static yX9_isLaw,
  .methodLink RX9 202 yX9_shareOf,
  .instanceMethod yX9_shareOf,
  .selects RX9 yX9_shareOf yX9_shareOf,
  .code yX9_share cX9_share 3 (some .int),
  .code yX9_left cX9_left 5 (some .int),
  .code yX9_isPaper cX9_isPaper 4 (some .boolean),
  .code yX9_addPaper cX9_addPaper 5 none,
  .methodLink RX9 205 yX9_isPaper,
  .instanceMethod yX9_isPaper,
  .selects RX9 yX9_isPaper yX9_isPaper,
  .methodLink RX9 208 yX9_addPaper,
  .instanceMethod yX9_addPaper,
  .selects RX9 yX9_addPaper yX9_addPaper,
  .code yX9_paper cX9_paper 4 (some .int),
  .code yX9_weigh cX9_weigh 5 (some .int),
  .code yX9_forget cX9_forget 3 (some .int),
  .code yX9_allPapers cX9_allPapers 1 (some .int),
  .methodLink RX9 211 yX9_allPapers,
  .instanceMethod yX9_allPapers,
  .selects RX9 yX9_allPapers yX9_allPapers,
  .code yX9_isHistory cX9_isHistory 2 (some .boolean),
  .code yX9_goesBy cX9_goesBy 3 none,
  .methodLink RX9 214 yX9_goesBy,
  .instanceMethod yX9_goesBy,
  .selects RX9 yX9_goesBy yX9_goesBy,
  .code yX9_after cX9_after 5 (some .int),
  .methodLink RX9 217 yX9_isHistory,
  .instanceMethod yX9_isHistory,
  .selects RX9 yX9_isHistory yX9_isHistory,
  .methodLink RX9 220 yX9_after,
  .instanceMethod yX9_after,
  .selects RX9 yX9_after yX9_after,
  .code yX9_by cX9_by 4 (some .int),
  .code yX9_doesFit cX9_doesFit 6 (some .boolean),
  .fieldLink RX9 223 "OldBronzeModel" "many" "I",
  .methodLink RX9 226 yX9_doesFit,
  .instanceMethod yX9_doesFit,
  .selects RX9 yX9_doesFit yX9_doesFit,
  .code yX9_findFits cX9_findFits 2 none,
  .code yX9_bitsOf cX9_bitsOf 3 (some .int),
  .methodLink RX9 229 yX9_findFits,
  .instanceMethod yX9_findFits,
  .selects RX9 yX9_findFits yX9_findFits,
  .methodLink RX9 232 yX9_bitsOf,
  .static yX9_bitsOf,
  .code yX9_fits cX9_fits 6 (some .int),
  .code yX9_span cX9_span 7 (some .int),
  .code yX9_heap cX9_heap 6 (some .int),
  .methodLink RX9 235 yX9_heap,
  .instanceMethod yX9_heap,
  .selects RX9 yX9_heap yX9_heap,
  .code yX9_next cX9_next 3 (some .int),
  .code yX9_together cX9_together 8 (some .int),
  .code yX9_haveGrams cX9_haveGrams 4 (some .boolean),
  .methodLink RX9 238 yX9_haveGrams,
  .instanceMethod yX9_haveGrams,
  .selects RX9 yX9_haveGrams yX9_haveGrams,
  .methodLink RX9 241 yX9_together,
  .instanceMethod yX9_together,
  .selects RX9 yX9_together yX9_together,
  .code yX9_most cX9_most 7 (some .int),
  .fieldLink RX9 244 "OldBronzeModel" "traced" "I",
  .code yX9_begins cX9_begins 2 none,
  .code yX9_above cX9_above 1 (some .int),
  .fieldLink RX9 247 "OldBronzeModel" "speaks" "I",
  .code yX9_kindNow cX9_kindNow 1 (some .int),
  .code yX9_mNow cX9_mNow 1 (some .int),
  .methodLink RX9 250 yX9_begins,
  .instanceMethod yX9_begins,
  .selects RX9 yX9_begins yX9_begins,
  .methodLink RX9 253 yX9_above,
  .static yX9_above,
  .methodLink RX9 256 yX9_ringsBy,
  .instanceMethod yX9_ringsBy,
  .selects RX9 yX9_ringsBy yX9_ringsBy,
  .code yX9_ringsBy cX9_ringsBy 3 (some .int),
  .methodLink RX9 259 yX9_kindNow,
  .instanceMethod yX9_kindNow,
  .selects RX9 yX9_kindNow yX9_kindNow,
  .methodLink RX9 262 yX9_weighsBy,
  .instanceMethod yX9_weighsBy,
  .selects RX9 yX9_weighsBy yX9_weighsBy,
  .methodLink RX9 265 yX9_mNow,
  .instanceMethod yX9_mNow,
  .selects RX9 yX9_mNow yX9_mNow,
  .code yX9_weighsBy cX9_weighsBy 3 (some .int),
  .methodLink RX9 268 yX9_meltsBy,
  .instanceMethod yX9_meltsBy,
  .selects RX9 yX9_meltsBy yX9_meltsBy,
  .code yX9_meltsBy cX9_meltsBy 3 (some .int),
  .fieldLink RX9 271 "OldBronzeModel" "isParted" "Z",
  .methodLink RX9 275 yX9_partsBy,
  .instanceMethod yX9_partsBy,
  .selects RX9 yX9_partsBy yX9_partsBy,
  .code yX9_partsBy cX9_partsBy 5 (some .int),
  .code yX9_voice cX9_voice 6 (some .int),
  .code yX9_body cX9_body 2 (some .int),
  .code yX9_isSheet cX9_isSheet 1 (some .boolean),
  .methodLink RX9 278 yX9_isSheet,
  .static yX9_isSheet,
  .code yX9_sheet cX9_sheet 5 (some .int),
  .code yX9_put cX9_put 5 (some .int),
  .code yX9_move cX9_move 7 (some .int),
  .code yX9_lacks cX9_lacks 2 (some .int),
  .methodLink RX9 281 yX9_lacks,
  .instanceMethod yX9_lacks,
  .selects RX9 yX9_lacks yX9_lacks,
  .code yX9_papers cX9_papers 5 (some .int),
  .code yX9_judge cX9_judge 5 (some .int),
  .fieldLink RX9 284 "OldBronzeModel" "images" "I",
  .code yX9_image cX9_image 1 (some .int),
  .code yX9_restore cX9_restore 1 (some .int),
  .code yX9_tell cX9_tell 2 (some .int),
  .code yX9_check cX9_check 3 (some .int),
  .code yX9_count cX9_count 2 (some .int),
  .code yX9_told cX9_told 2 (some .int)]
def tR : List Cond := tRa ++ wsX90
theorem tR_good : ∀ w ∈ tR, goodWord w = true := List.all_eq_true.mp (by decide +kernel)
theorem tR_f : ∀ w ∈ u_ws RX9 TX9 23, w ∈ tR := fun _ h => List.mem_append_right _ h
theorem wi_0 : Cond.methodLink RX9 1 objectInit ∈ tR := List.mem_append_left _ (List.mem_of_getElem? (i := 0) rfl)
theorem wi_1 : Cond.instanceMethod objectInit ∈ tR := List.mem_append_left _ (List.mem_of_getElem? (i := 1) rfl)
theorem wi_2 : Cond.code objectInit ⟨#[0xb1]⟩ 1 none ∈ tR := List.mem_append_left _ (List.mem_of_getElem? (i := 2) rfl)
theorem wi_3 : Cond.arrayClass .int ∈ tR := List.mem_append_left _ (List.mem_of_getElem? (i := 3) rfl)
theorem wi_4 : Cond.fieldLink RX9 7 "OldBronzeModel" "s" "[I" ∈ tR := List.mem_append_left _ (List.mem_of_getElem? (i := 4) rfl)
theorem wi_5 : Cond.fieldLink RX9 13 "OldBronzeModel" "kept" "[I" ∈ tR := List.mem_append_left _ (List.mem_of_getElem? (i := 5) rfl)
theorem wi_6 : Cond.fieldLink RX9 16 "OldBronzeModel" "put" "[I" ∈ tR := List.mem_append_left _ (List.mem_of_getElem? (i := 6) rfl)
theorem wi_7 : Cond.fieldLink RX9 19 "OldBronzeModel" "errors" "[I" ∈ tR := List.mem_append_left _ (List.mem_of_getElem? (i := 7) rfl)
theorem wi_8 : Cond.fieldLink RX9 22 "OldBronzeModel" "step" "[I" ∈ tR := List.mem_append_left _ (List.mem_of_getElem? (i := 8) rfl)
theorem wi_9 : Cond.fieldLink RX9 25 "OldBronzeModel" "named" "[I" ∈ tR := List.mem_append_left _ (List.mem_of_getElem? (i := 9) rfl)
theorem wi_10 : Cond.fieldLink RX9 28 "OldBronzeModel" "pile" "[I" ∈ tR := List.mem_append_left _ (List.mem_of_getElem? (i := 10) rfl)
theorem wi_11 : Cond.fieldLink RX9 31 "OldBronzeModel" "fit" "[I" ∈ tR := List.mem_append_left _ (List.mem_of_getElem? (i := 11) rfl)
theorem wi_12 : Cond.fieldLink RX9 34 "OldBronzeModel" "seen" "[I" ∈ tR := List.mem_append_left _ (List.mem_of_getElem? (i := 12) rfl)
theorem wi_13 : Cond.fieldLink RX9 37 "OldBronzeModel" "trace" "[I" ∈ tR := List.mem_append_left _ (List.mem_of_getElem? (i := 13) rfl)
theorem wi_14 : Cond.fieldLink RX9 40 "OldBronzeModel" "bits" "[I" ∈ tR := List.mem_append_left _ (List.mem_of_getElem? (i := 14) rfl)
theorem wi_15 : Cond.fieldLink RX9 43 "OldBronzeModel" "sizes" "[I" ∈ tR := List.mem_append_left _ (List.mem_of_getElem? (i := 15) rfl)
theorem wi_16 : Cond.fieldLink RX9 46 "OldBronzeModel" "number" "[I" ∈ tR := List.mem_append_left _ (List.mem_of_getElem? (i := 16) rfl)
theorem wi_17 : Cond.fieldLink RX9 49 "OldBronzeModel" "aside" "[I" ∈ tR := List.mem_append_left _ (List.mem_of_getElem? (i := 17) rfl)
theorem wi_18 : Cond.code yX9_init cX9_init 1 none ∈ tR := List.mem_append_left _ (List.mem_of_getElem? (i := 18) rfl)
theorem wi_19 : Cond.constant RX9 52 (-1000000000) ∈ tR := List.mem_append_left _ (List.mem_of_getElem? (i := 19) rfl)
theorem wi_20 : Cond.code yX9_error cX9_error 2 (some .int) ∈ tR := List.mem_append_left _ (List.mem_of_getElem? (i := 20) rfl)
theorem wi_21 : Cond.code yX9_in cX9_in 3 (some .boolean) ∈ tR := List.mem_append_left _ (List.mem_of_getElem? (i := 21) rfl)
theorem wi_22 : Cond.code yX9_held cX9_held 3 (some .int) ∈ tR := List.mem_append_left _ (List.mem_of_getElem? (i := 22) rfl)
theorem wi_23 : Cond.code yX9_carry cX9_carry 3 none ∈ tR := List.mem_append_left _ (List.mem_of_getElem? (i := 23) rfl)
theorem wi_24 : Cond.methodLink RX9 53 yX9_in ∈ tR := List.mem_append_left _ (List.mem_of_getElem? (i := 24) rfl)
theorem wi_25 : Cond.static yX9_in ∈ tR := List.mem_append_left _ (List.mem_of_getElem? (i := 25) rfl)
theorem wi_26 : Cond.initialized RX9 ∈ tR := List.mem_append_left _ (List.mem_of_getElem? (i := 26) rfl)
theorem wi_27 : Cond.code yX9_isThing cX9_isThing 2 (some .boolean) ∈ tR := List.mem_append_left _ (List.mem_of_getElem? (i := 27) rfl)
theorem wi_28 : Cond.code yX9_its cX9_its 3 (some .int) ∈ tR := List.mem_append_left _ (List.mem_of_getElem? (i := 28) rfl)
theorem wi_29 : Cond.code yX9_lays1 cX9_lays1 4 none ∈ tR := List.mem_append_left _ (List.mem_of_getElem? (i := 29) rfl)
theorem wi_30 : Cond.methodLink RX9 57 yX9_lays1 ∈ tR := List.mem_append_left _ (List.mem_of_getElem? (i := 30) rfl)
theorem wi_31 : Cond.instanceMethod yX9_lays1 ∈ tR := List.mem_append_left _ (List.mem_of_getElem? (i := 31) rfl)
theorem wi_32 : Cond.selects RX9 yX9_lays1 yX9_lays1 ∈ tR := List.mem_append_left _ (List.mem_of_getElem? (i := 32) rfl)
theorem wi_33 : Cond.code yX9_addThing cX9_addThing 4 (some .int) ∈ tR := List.mem_append_left _ (List.mem_of_getElem? (i := 33) rfl)
theorem wi_34 : Cond.constant RX9 61 (9999999) ∈ tR := List.mem_append_left _ (List.mem_of_getElem? (i := 34) rfl)
theorem wi_35 : Cond.constant RX9 69 (1000000) ∈ tR := List.mem_append_left _ (List.mem_of_getElem? (i := 35) rfl)
theorem wi_36 : Cond.methodLink RX9 62 yX9_error ∈ tR := List.mem_append_left _ (List.mem_of_getElem? (i := 36) rfl)
theorem wi_37 : Cond.instanceMethod yX9_error ∈ tR := List.mem_append_left _ (List.mem_of_getElem? (i := 37) rfl)
theorem wi_38 : Cond.selects RX9 yX9_error yX9_error ∈ tR := List.mem_append_left _ (List.mem_of_getElem? (i := 38) rfl)
theorem wi_39 : Cond.methodLink RX9 66 yX9_addThing ∈ tR := List.mem_append_left _ (List.mem_of_getElem? (i := 39) rfl)
theorem wi_40 : Cond.instanceMethod yX9_addThing ∈ tR := List.mem_append_left _ (List.mem_of_getElem? (i := 40) rfl)
theorem wi_41 : Cond.selects RX9 yX9_addThing yX9_addThing ∈ tR := List.mem_append_left _ (List.mem_of_getElem? (i := 41) rfl)
theorem wi_42 : Cond.code yX9_thing cX9_thing 4 (some .int) ∈ tR := List.mem_append_left _ (List.mem_of_getElem? (i := 42) rfl)
theorem wi_43 : Cond.code yX9_partOf cX9_partOf 3 (some .int) ∈ tR := List.mem_append_left _ (List.mem_of_getElem? (i := 43) rfl)
theorem wi_44 : Cond.methodLink RX9 73 yX9_its ∈ tR := List.mem_append_left _ (List.mem_of_getElem? (i := 44) rfl)
theorem wi_45 : Cond.instanceMethod yX9_its ∈ tR := List.mem_append_left _ (List.mem_of_getElem? (i := 45) rfl)
theorem wi_46 : Cond.selects RX9 yX9_its yX9_its ∈ tR := List.mem_append_left _ (List.mem_of_getElem? (i := 46) rfl)
theorem wi_47 : Cond.methodLink RX9 99 yX9_partOf ∈ tR := List.mem_append_left _ (List.mem_of_getElem? (i := 47) rfl)
theorem wi_48 : Cond.static yX9_partOf ∈ tR := List.mem_append_left _ (List.mem_of_getElem? (i := 48) rfl)
theorem wi_49 : Cond.code yX9_thousandths cX9_thousandths 2 (some .int) ∈ tR := List.mem_append_left _ (List.mem_of_getElem? (i := 49) rfl)
theorem wi_50 : Cond.code yX9_hasText cX9_hasText 2 (some .boolean) ∈ tR := List.mem_append_left _ (List.mem_of_getElem? (i := 50) rfl)
theorem wi_51 : Cond.code yX9_joined cX9_joined 3 (some .int) ∈ tR := List.mem_append_left _ (List.mem_of_getElem? (i := 51) rfl)
theorem wi_52 : Cond.methodLink RX9 171 yX9_joined ∈ tR := List.mem_append_left _ (List.mem_of_getElem? (i := 52) rfl)
theorem wi_53 : Cond.static yX9_joined ∈ tR := List.mem_append_left _ (List.mem_of_getElem? (i := 53) rfl)
theorem wi_54 : Cond.code yX9_worked cX9_worked 7 (some .int) ∈ tR := List.mem_append_left _ (List.mem_of_getElem? (i := 54) rfl)
theorem wi_55 : Cond.methodLink RX9 174 yX9_thousandths ∈ tR := List.mem_append_left _ (List.mem_of_getElem? (i := 55) rfl)
theorem wi_56 : Cond.instanceMethod yX9_thousandths ∈ tR := List.mem_append_left _ (List.mem_of_getElem? (i := 56) rfl)
theorem wi_57 : Cond.selects RX9 yX9_thousandths yX9_thousandths ∈ tR := List.mem_append_left _ (List.mem_of_getElem? (i := 57) rfl)
theorem wi_58 : Cond.methodLink RX9 168 yX9_hasText ∈ tR := List.mem_append_left _ (List.mem_of_getElem? (i := 58) rfl)
theorem wi_59 : Cond.instanceMethod yX9_hasText ∈ tR := List.mem_append_left _ (List.mem_of_getElem? (i := 59) rfl)
theorem wi_60 : Cond.selects RX9 yX9_hasText yX9_hasText ∈ tR := List.mem_append_left _ (List.mem_of_getElem? (i := 60) rfl)
theorem wi_61 : Cond.methodLink RX9 92 yX9_held ∈ tR := List.mem_append_left _ (List.mem_of_getElem? (i := 61) rfl)
theorem wi_62 : Cond.static yX9_held ∈ tR := List.mem_append_left _ (List.mem_of_getElem? (i := 62) rfl)
theorem wi_63 : Cond.methodLink RX9 177 yX9_worked ∈ tR := List.mem_append_left _ (List.mem_of_getElem? (i := 63) rfl)
theorem wi_64 : Cond.instanceMethod yX9_worked ∈ tR := List.mem_append_left _ (List.mem_of_getElem? (i := 64) rfl)
theorem wi_65 : Cond.selects RX9 yX9_worked yX9_worked ∈ tR := List.mem_append_left _ (List.mem_of_getElem? (i := 65) rfl)
theorem wi_66 : Cond.code yX9_rings cX9_rings 3 (some .int) ∈ tR := List.mem_append_left _ (List.mem_of_getElem? (i := 66) rfl)
theorem wi_67 : Cond.methodLink RX9 180 yX9_rings ∈ tR := List.mem_append_left _ (List.mem_of_getElem? (i := 67) rfl)
theorem wi_68 : Cond.instanceMethod yX9_rings ∈ tR := List.mem_append_left _ (List.mem_of_getElem? (i := 68) rfl)
theorem wi_69 : Cond.selects RX9 yX9_rings yX9_rings ∈ tR := List.mem_append_left _ (List.mem_of_getElem? (i := 69) rfl)
theorem wi_70 : Cond.code yX9_tone cX9_tone 4 (some .int) ∈ tR := List.mem_append_left _ (List.mem_of_getElem? (i := 70) rfl)
theorem wi_71 : Cond.methodLink RX9 70 yX9_tone ∈ tR := List.mem_append_left _ (List.mem_of_getElem? (i := 71) rfl)
theorem wi_72 : Cond.instanceMethod yX9_tone ∈ tR := List.mem_append_left _ (List.mem_of_getElem? (i := 72) rfl)
theorem wi_73 : Cond.selects RX9 yX9_tone yX9_tone ∈ tR := List.mem_append_left _ (List.mem_of_getElem? (i := 73) rfl)
theorem wi_74 : Cond.code yX9_told1 cX9_told1 3 (some .int) ∈ tR := List.mem_append_left _ (List.mem_of_getElem? (i := 74) rfl)
theorem wi_75 : Cond.methodLink RX9 77 yX9_isThing ∈ tR := List.mem_append_left _ (List.mem_of_getElem? (i := 75) rfl)
theorem wi_76 : Cond.instanceMethod yX9_isThing ∈ tR := List.mem_append_left _ (List.mem_of_getElem? (i := 76) rfl)
theorem wi_77 : Cond.selects RX9 yX9_isThing yX9_isThing ∈ tR := List.mem_append_left _ (List.mem_of_getElem? (i := 77) rfl)
theorem wi_78 : Cond.methodLink RX9 81 yX9_told1 ∈ tR := List.mem_append_left _ (List.mem_of_getElem? (i := 78) rfl)
theorem wi_79 : Cond.instanceMethod yX9_told1 ∈ tR := List.mem_append_left _ (List.mem_of_getElem? (i := 79) rfl)
theorem wi_80 : Cond.selects RX9 yX9_told1 yX9_told1 ∈ tR := List.mem_append_left _ (List.mem_of_getElem? (i := 80) rfl)
theorem wi_81 : Cond.code yX9_thingIs cX9_thingIs 3 (some .int) ∈ tR := List.mem_append_left _ (List.mem_of_getElem? (i := 81) rfl)
theorem wi_82 : Cond.code yX9_isUnder cX9_isUnder 2 (some .boolean) ∈ tR := List.mem_append_left _ (List.mem_of_getElem? (i := 82) rfl)
theorem wi_83 : Cond.methodLink RX9 84 yX9_isUnder ∈ tR := List.mem_append_left _ (List.mem_of_getElem? (i := 83) rfl)
theorem wi_84 : Cond.static yX9_isUnder ∈ tR := List.mem_append_left _ (List.mem_of_getElem? (i := 84) rfl)
theorem wi_85 : Cond.code yX9_as cX9_as 3 (some .int) ∈ tR := List.mem_append_left _ (List.mem_of_getElem? (i := 85) rfl)
theorem wi_86 : Cond.code yX9_set cX9_set 5 (some .int) ∈ tR := List.mem_append_left _ (List.mem_of_getElem? (i := 86) rfl)
theorem wi_87 : Cond.constantLong RX9 88 (8) ∈ tR := List.mem_append_left _ (List.mem_of_getElem? (i := 87) rfl)
theorem wi_88 : Cond.constantLong RX9 90 (9999999) ∈ tR := List.mem_append_left _ (List.mem_of_getElem? (i := 88) rfl)
theorem wi_89 : Cond.code yX9_moves cX9_moves 11 none ∈ tR := List.mem_append_left _ (List.mem_of_getElem? (i := 89) rfl)
theorem wi_90 : Cond.methodLink RX9 96 yX9_moves ∈ tR := List.mem_append_left _ (List.mem_of_getElem? (i := 90) rfl)
theorem wi_91 : Cond.instanceMethod yX9_moves ∈ tR := List.mem_append_left _ (List.mem_of_getElem? (i := 91) rfl)
theorem wi_92 : Cond.selects RX9 yX9_moves yX9_moves ∈ tR := List.mem_append_left _ (List.mem_of_getElem? (i := 92) rfl)
theorem wi_93 : Cond.code yX9_melt cX9_melt 3 (some .int) ∈ tR := List.mem_append_left _ (List.mem_of_getElem? (i := 93) rfl)
theorem wi_94 : Cond.code yX9_crucible cX9_crucible 2 (some .int) ∈ tR := List.mem_append_left _ (List.mem_of_getElem? (i := 94) rfl)
theorem wi_95 : Cond.code yX9_cast cX9_cast 16 (some .int) ∈ tR := List.mem_append_left _ (List.mem_of_getElem? (i := 95) rfl)
theorem wi_96 : Cond.constant RX9 102 (1103515245) ∈ tR := List.mem_append_left _ (List.mem_of_getElem? (i := 96) rfl)
theorem wi_97 : Cond.code yX9_draw cX9_draw 1 (some .int) ∈ tR := List.mem_append_left _ (List.mem_of_getElem? (i := 97) rfl)
theorem wi_98 : Cond.methodLink RX9 103 yX9_draw ∈ tR := List.mem_append_left _ (List.mem_of_getElem? (i := 98) rfl)
theorem wi_99 : Cond.instanceMethod yX9_draw ∈ tR := List.mem_append_left _ (List.mem_of_getElem? (i := 99) rfl)
theorem wi_100 : Cond.selects RX9 yX9_draw yX9_draw ∈ tR := List.mem_append_left _ (List.mem_of_getElem? (i := 100) rfl)
theorem wi_101 : Cond.code yX9_year cX9_year 3 none ∈ tR := List.mem_append_left _ (List.mem_of_getElem? (i := 101) rfl)
theorem wi_102 : Cond.methodLink RX9 107 yX9_year ∈ tR := List.mem_append_left _ (List.mem_of_getElem? (i := 102) rfl)
theorem wi_103 : Cond.instanceMethod yX9_year ∈ tR := List.mem_append_left _ (List.mem_of_getElem? (i := 103) rfl)
theorem wi_104 : Cond.selects RX9 yX9_year yX9_year ∈ tR := List.mem_append_left _ (List.mem_of_getElem? (i := 104) rfl)
theorem wi_105 : Cond.code yX9_go cX9_go 3 none ∈ tR := List.mem_append_left _ (List.mem_of_getElem? (i := 105) rfl)
theorem wi_106 : Cond.code yX9_allGrams cX9_allGrams 3 (some .int) ∈ tR := List.mem_append_left _ (List.mem_of_getElem? (i := 106) rfl)
theorem wi_107 : Cond.methodLink RX9 110 yX9_go ∈ tR := List.mem_append_left _ (List.mem_of_getElem? (i := 107) rfl)
theorem wi_108 : Cond.instanceMethod yX9_go ∈ tR := List.mem_append_left _ (List.mem_of_getElem? (i := 108) rfl)
theorem wi_109 : Cond.selects RX9 yX9_go yX9_go ∈ tR := List.mem_append_left _ (List.mem_of_getElem? (i := 109) rfl)
theorem wi_110 : Cond.methodLink RX9 114 yX9_allGrams ∈ tR := List.mem_append_left _ (List.mem_of_getElem? (i := 110) rfl)
theorem wi_111 : Cond.instanceMethod yX9_allGrams ∈ tR := List.mem_append_left _ (List.mem_of_getElem? (i := 111) rfl)
theorem wi_112 : Cond.selects RX9 yX9_allGrams yX9_allGrams ∈ tR := List.mem_append_left _ (List.mem_of_getElem? (i := 112) rfl)
theorem wi_113 : Cond.code yX9_years cX9_years 2 (some .int) ∈ tR := List.mem_append_left _ (List.mem_of_getElem? (i := 113) rfl)
theorem wi_114 : Cond.methodLink RX9 117 yX9_carry ∈ tR := List.mem_append_left _ (List.mem_of_getElem? (i := 114) rfl)
theorem wi_115 : Cond.static yX9_carry ∈ tR := List.mem_append_left _ (List.mem_of_getElem? (i := 115) rfl)
theorem wi_116 : Cond.code yX9_then cX9_then 5 (some .int) ∈ tR := List.mem_append_left _ (List.mem_of_getElem? (i := 116) rfl)
theorem wi_117 : Cond.code yX9_seed cX9_seed 3 (some .int) ∈ tR := List.mem_append_left _ (List.mem_of_getElem? (i := 117) rfl)
theorem wi_118 : Cond.constantLong RX9 121 (255) ∈ tR := List.mem_append_left _ (List.mem_of_getElem? (i := 118) rfl)
theorem wi_119 : Cond.code yX9_feed cX9_feed 5 (some .int) ∈ tR := List.mem_append_left _ (List.mem_of_getElem? (i := 119) rfl)
theorem wi_120 : Cond.fieldLink RX9 123 "OldBronzeModel" "at" "I" ∈ tR := List.mem_append_left _ (List.mem_of_getElem? (i := 120) rfl)
theorem wi_121 : Cond.code yX9_look cX9_look 1 (some .int) ∈ tR := List.mem_append_left _ (List.mem_of_getElem? (i := 121) rfl)
theorem wi_122 : Cond.fieldLink RX9 127 "OldBronzeModel" "use" "I" ∈ tR := List.mem_append_left _ (List.mem_of_getElem? (i := 122) rfl)
theorem wi_123 : Cond.code yX9_isName cX9_isName 2 (some .boolean) ∈ tR := List.mem_append_left _ (List.mem_of_getElem? (i := 123) rfl)
theorem wi_124 : Cond.fieldLink RX9 130 "OldBronzeModel" "steps" "I" ∈ tR := List.mem_append_left _ (List.mem_of_getElem? (i := 124) rfl)
theorem wi_125 : Cond.code yX9_lays cX9_lays 3 none ∈ tR := List.mem_append_left _ (List.mem_of_getElem? (i := 125) rfl)
theorem wi_126 : Cond.fieldLink RX9 156 "OldBronzeModel" "open" "I" ∈ tR := List.mem_append_left _ (List.mem_of_getElem? (i := 126) rfl)
theorem wi_127 : Cond.code yX9_opens cX9_opens 1 (some .boolean) ∈ tR := List.mem_append_left _ (List.mem_of_getElem? (i := 127) rfl)
theorem wi_128 : Cond.methodLink RX9 144 yX9_compared ∈ tR := List.mem_append_left _ (List.mem_of_getElem? (i := 128) rfl)
theorem wi_129 : Cond.instanceMethod yX9_compared ∈ tR := List.mem_append_left _ (List.mem_of_getElem? (i := 129) rfl)
theorem wi_130 : Cond.selects RX9 yX9_compared yX9_compared ∈ tR := List.mem_append_left _ (List.mem_of_getElem? (i := 130) rfl)
theorem wi_131 : Cond.methodLink RX9 137 yX9_look ∈ tR := List.mem_append_left _ (List.mem_of_getElem? (i := 131) rfl)
theorem wi_132 : Cond.instanceMethod yX9_look ∈ tR := List.mem_append_left _ (List.mem_of_getElem? (i := 132) rfl)
theorem wi_133 : Cond.selects RX9 yX9_look yX9_look ∈ tR := List.mem_append_left _ (List.mem_of_getElem? (i := 133) rfl)
theorem wi_134 : Cond.methodLink RX9 140 yX9_lays ∈ tR := List.mem_append_left _ (List.mem_of_getElem? (i := 134) rfl)
theorem wi_135 : Cond.instanceMethod yX9_lays ∈ tR := List.mem_append_left _ (List.mem_of_getElem? (i := 135) rfl)
theorem wi_136 : Cond.selects RX9 yX9_lays yX9_lays ∈ tR := List.mem_append_left _ (List.mem_of_getElem? (i := 136) rfl)
theorem wi_137 : Cond.code yX9_compared cX9_compared 2 (some .boolean) ∈ tR := List.mem_append_left _ (List.mem_of_getElem? (i := 137) rfl)
theorem wi_138 : Cond.methodLink RX9 147 yX9_sum ∈ tR := List.mem_append_left _ (List.mem_of_getElem? (i := 138) rfl)
theorem wi_139 : Cond.instanceMethod yX9_sum ∈ tR := List.mem_append_left _ (List.mem_of_getElem? (i := 139) rfl)
theorem wi_140 : Cond.selects RX9 yX9_sum yX9_sum ∈ tR := List.mem_append_left _ (List.mem_of_getElem? (i := 140) rfl)
theorem wi_141 : Cond.code yX9_one cX9_one 4 (some .boolean) ∈ tR := List.mem_append_left _ (List.mem_of_getElem? (i := 141) rfl)
theorem wi_142 : Cond.methodLink RX9 159 yX9_isName ∈ tR := List.mem_append_left _ (List.mem_of_getElem? (i := 142) rfl)
theorem wi_143 : Cond.instanceMethod yX9_isName ∈ tR := List.mem_append_left _ (List.mem_of_getElem? (i := 143) rfl)
theorem wi_144 : Cond.selects RX9 yX9_isName yX9_isName ∈ tR := List.mem_append_left _ (List.mem_of_getElem? (i := 144) rfl)
theorem wi_145 : Cond.methodLink RX9 162 yX9_opens ∈ tR := List.mem_append_left _ (List.mem_of_getElem? (i := 145) rfl)
theorem wi_146 : Cond.instanceMethod yX9_opens ∈ tR := List.mem_append_left _ (List.mem_of_getElem? (i := 146) rfl)
theorem wi_147 : Cond.selects RX9 yX9_opens yX9_opens ∈ tR := List.mem_append_left _ (List.mem_of_getElem? (i := 147) rfl)
theorem wi_148 : Cond.methodLink RX9 153 yX9_one ∈ tR := List.mem_append_left _ (List.mem_of_getElem? (i := 148) rfl)
theorem wi_149 : Cond.instanceMethod yX9_one ∈ tR := List.mem_append_left _ (List.mem_of_getElem? (i := 149) rfl)
theorem wi_150 : Cond.selects RX9 yX9_one yX9_one ∈ tR := List.mem_append_left _ (List.mem_of_getElem? (i := 150) rfl)
theorem wi_151 : Cond.methodLink RX9 165 yX9_whole ∈ tR := List.mem_append_left _ (List.mem_of_getElem? (i := 151) rfl)
theorem wi_152 : Cond.instanceMethod yX9_whole ∈ tR := List.mem_append_left _ (List.mem_of_getElem? (i := 152) rfl)
theorem wi_153 : Cond.selects RX9 yX9_whole yX9_whole ∈ tR := List.mem_append_left _ (List.mem_of_getElem? (i := 153) rfl)
theorem wi_154 : Cond.code yX9_product cX9_product 2 (some .boolean) ∈ tR := List.mem_append_left _ (List.mem_of_getElem? (i := 154) rfl)
theorem wi_155 : Cond.code yX9_sum cX9_sum 2 (some .boolean) ∈ tR := List.mem_append_left _ (List.mem_of_getElem? (i := 155) rfl)
theorem wi_156 : Cond.methodLink RX9 150 yX9_product ∈ tR := List.mem_append_left _ (List.mem_of_getElem? (i := 156) rfl)
theorem wi_157 : Cond.instanceMethod yX9_product ∈ tR := List.mem_append_left _ (List.mem_of_getElem? (i := 157) rfl)
theorem wi_158 : Cond.selects RX9 yX9_product yX9_product ∈ tR := List.mem_append_left _ (List.mem_of_getElem? (i := 158) rfl)
theorem wi_159 : Cond.code yX9_whole cX9_whole 1 (some .boolean) ∈ tR := List.mem_append_left _ (List.mem_of_getElem? (i := 159) rfl)
theorem wi_160 : Cond.methodLink RX9 133 yX9_both ∈ tR := List.mem_append_left _ (List.mem_of_getElem? (i := 160) rfl)
theorem wi_161 : Cond.instanceMethod yX9_both ∈ tR := List.mem_append_left _ (List.mem_of_getElem? (i := 161) rfl)
theorem wi_162 : Cond.selects RX9 yX9_both yX9_both ∈ tR := List.mem_append_left _ (List.mem_of_getElem? (i := 162) rfl)
theorem wi_163 : Cond.code yX9_both cX9_both 1 (some .boolean) ∈ tR := List.mem_append_left _ (List.mem_of_getElem? (i := 163) rfl)
theorem wi_164 : Cond.code yX9_text cX9_text 5 (some .int) ∈ tR := List.mem_append_left _ (List.mem_of_getElem? (i := 164) rfl)
theorem wi_165 : Cond.code yX9_untell cX9_untell 3 (some .int) ∈ tR := List.mem_append_left _ (List.mem_of_getElem? (i := 165) rfl)
theorem wi_166 : Cond.code yX9_isClaim cX9_isClaim 2 (some .boolean) ∈ tR := List.mem_append_left _ (List.mem_of_getElem? (i := 166) rfl)
theorem wi_167 : Cond.code yX9_of cX9_of 3 (some .int) ∈ tR := List.mem_append_left _ (List.mem_of_getElem? (i := 167) rfl)
theorem wi_168 : Cond.methodLink RX9 183 yX9_of ∈ tR := List.mem_append_left _ (List.mem_of_getElem? (i := 168) rfl)
theorem wi_169 : Cond.instanceMethod yX9_of ∈ tR := List.mem_append_left _ (List.mem_of_getElem? (i := 169) rfl)
theorem wi_170 : Cond.selects RX9 yX9_of yX9_of ∈ tR := List.mem_append_left _ (List.mem_of_getElem? (i := 170) rfl)
theorem wi_171 : Cond.code yX9_manyOn cX9_manyOn 4 (some .int) ∈ tR := List.mem_append_left _ (List.mem_of_getElem? (i := 171) rfl)
theorem wi_172 : Cond.methodLink RX9 186 yX9_manyOn ∈ tR := List.mem_append_left _ (List.mem_of_getElem? (i := 172) rfl)
theorem wi_173 : Cond.instanceMethod yX9_manyOn ∈ tR := List.mem_append_left _ (List.mem_of_getElem? (i := 173) rfl)
theorem wi_174 : Cond.selects RX9 yX9_manyOn yX9_manyOn ∈ tR := List.mem_append_left _ (List.mem_of_getElem? (i := 174) rfl)
theorem wi_175 : Cond.code yX9_counts cX9_counts 3 (some .int) ∈ tR := List.mem_append_left _ (List.mem_of_getElem? (i := 175) rfl)
theorem wi_176 : Cond.constant RX9 189 (99999) ∈ tR := List.mem_append_left _ (List.mem_of_getElem? (i := 176) rfl)
theorem wi_177 : Cond.code yX9_claim cX9_claim 3 (some .int) ∈ tR := List.mem_append_left _ (List.mem_of_getElem? (i := 177) rfl)
theorem wi_178 : Cond.methodLink RX9 190 yX9_isClaim ∈ tR := List.mem_append_left _ (List.mem_of_getElem? (i := 178) rfl)
theorem wi_179 : Cond.instanceMethod yX9_isClaim ∈ tR := List.mem_append_left _ (List.mem_of_getElem? (i := 179) rfl)
theorem wi_180 : Cond.selects RX9 yX9_isClaim yX9_isClaim ∈ tR := List.mem_append_left _ (List.mem_of_getElem? (i := 180) rfl)
theorem wi_181 : Cond.methodLink RX9 193 yX9_counts ∈ tR := List.mem_append_left _ (List.mem_of_getElem? (i := 181) rfl)
theorem wi_182 : Cond.instanceMethod yX9_counts ∈ tR := List.mem_append_left _ (List.mem_of_getElem? (i := 182) rfl)
theorem wi_183 : Cond.selects RX9 yX9_counts yX9_counts ∈ tR := List.mem_append_left _ (List.mem_of_getElem? (i := 183) rfl)
theorem wi_184 : Cond.code yX9_claimIs cX9_claimIs 3 (some .int) ∈ tR := List.mem_append_left _ (List.mem_of_getElem? (i := 184) rfl)
theorem wi_185 : Cond.code yX9_countsBelow cX9_countsBelow 5 (some .int) ∈ tR := List.mem_append_left _ (List.mem_of_getElem? (i := 185) rfl)
theorem wi_186 : Cond.methodLink RX9 196 yX9_countsBelow ∈ tR := List.mem_append_left _ (List.mem_of_getElem? (i := 186) rfl)
theorem wi_187 : Cond.instanceMethod yX9_countsBelow ∈ tR := List.mem_append_left _ (List.mem_of_getElem? (i := 187) rfl)
theorem wi_188 : Cond.selects RX9 yX9_countsBelow yX9_countsBelow ∈ tR := List.mem_append_left _ (List.mem_of_getElem? (i := 188) rfl)
theorem wi_189 : Cond.code yX9_shareOf cX9_shareOf 7 (some .int) ∈ tR := List.mem_append_left _ (List.mem_of_getElem? (i := 189) rfl)
theorem wi_190 : Cond.code yX9_isLaw cX9_isLaw 1 (some .boolean) ∈ tR := List.mem_append_left _ (List.mem_of_getElem? (i := 190) rfl)
theorem wi_191 : Cond.methodLink RX9 199 yX9_isLaw ∈ tR := List.mem_append_left _ (List.mem_of_getElem? (i := 191) rfl)
theorem wi_192 : Cond.static yX9_isLaw ∈ tR := List.mem_append_left _ (List.mem_of_getElem? (i := 192) rfl)
theorem wi_193 : Cond.methodLink RX9 202 yX9_shareOf ∈ tR := List.mem_append_left _ (List.mem_of_getElem? (i := 193) rfl)
theorem wi_194 : Cond.instanceMethod yX9_shareOf ∈ tR := List.mem_append_left _ (List.mem_of_getElem? (i := 194) rfl)
theorem wi_195 : Cond.selects RX9 yX9_shareOf yX9_shareOf ∈ tR := List.mem_append_left _ (List.mem_of_getElem? (i := 195) rfl)
theorem wi_196 : Cond.code yX9_share cX9_share 3 (some .int) ∈ tR := List.mem_append_left _ (List.mem_of_getElem? (i := 196) rfl)
theorem wi_197 : Cond.code yX9_left cX9_left 5 (some .int) ∈ tR := List.mem_append_left _ (List.mem_of_getElem? (i := 197) rfl)
theorem wi_198 : Cond.code yX9_isPaper cX9_isPaper 4 (some .boolean) ∈ tR := List.mem_append_left _ (List.mem_of_getElem? (i := 198) rfl)
theorem wi_199 : Cond.code yX9_addPaper cX9_addPaper 5 none ∈ tR := List.mem_append_left _ (List.mem_of_getElem? (i := 199) rfl)
theorem wi_200 : Cond.methodLink RX9 205 yX9_isPaper ∈ tR := List.mem_append_left _ (List.mem_of_getElem? (i := 200) rfl)
theorem wi_201 : Cond.instanceMethod yX9_isPaper ∈ tR := List.mem_append_left _ (List.mem_of_getElem? (i := 201) rfl)
theorem wi_202 : Cond.selects RX9 yX9_isPaper yX9_isPaper ∈ tR := List.mem_append_left _ (List.mem_of_getElem? (i := 202) rfl)
theorem wi_203 : Cond.methodLink RX9 208 yX9_addPaper ∈ tR := List.mem_append_left _ (List.mem_of_getElem? (i := 203) rfl)
theorem wi_204 : Cond.instanceMethod yX9_addPaper ∈ tR := List.mem_append_left _ (List.mem_of_getElem? (i := 204) rfl)
theorem wi_205 : Cond.selects RX9 yX9_addPaper yX9_addPaper ∈ tR := List.mem_append_left _ (List.mem_of_getElem? (i := 205) rfl)
theorem wi_206 : Cond.code yX9_paper cX9_paper 4 (some .int) ∈ tR := List.mem_append_left _ (List.mem_of_getElem? (i := 206) rfl)
theorem wi_207 : Cond.code yX9_weigh cX9_weigh 5 (some .int) ∈ tR := List.mem_append_left _ (List.mem_of_getElem? (i := 207) rfl)
theorem wi_208 : Cond.code yX9_forget cX9_forget 3 (some .int) ∈ tR := List.mem_append_left _ (List.mem_of_getElem? (i := 208) rfl)
theorem wi_209 : Cond.code yX9_allPapers cX9_allPapers 1 (some .int) ∈ tR := List.mem_append_left _ (List.mem_of_getElem? (i := 209) rfl)
theorem wi_210 : Cond.methodLink RX9 211 yX9_allPapers ∈ tR := List.mem_append_left _ (List.mem_of_getElem? (i := 210) rfl)
theorem wi_211 : Cond.instanceMethod yX9_allPapers ∈ tR := List.mem_append_left _ (List.mem_of_getElem? (i := 211) rfl)
theorem wi_212 : Cond.selects RX9 yX9_allPapers yX9_allPapers ∈ tR := List.mem_append_left _ (List.mem_of_getElem? (i := 212) rfl)
theorem wi_213 : Cond.code yX9_isHistory cX9_isHistory 2 (some .boolean) ∈ tR := List.mem_append_left _ (List.mem_of_getElem? (i := 213) rfl)
theorem wi_214 : Cond.code yX9_goesBy cX9_goesBy 3 none ∈ tR := List.mem_append_left _ (List.mem_of_getElem? (i := 214) rfl)
theorem wi_215 : Cond.methodLink RX9 214 yX9_goesBy ∈ tR := List.mem_append_left _ (List.mem_of_getElem? (i := 215) rfl)
theorem wi_216 : Cond.instanceMethod yX9_goesBy ∈ tR := List.mem_append_left _ (List.mem_of_getElem? (i := 216) rfl)
theorem wi_217 : Cond.selects RX9 yX9_goesBy yX9_goesBy ∈ tR := List.mem_append_left _ (List.mem_of_getElem? (i := 217) rfl)
theorem wi_218 : Cond.code yX9_after cX9_after 5 (some .int) ∈ tR := List.mem_append_left _ (List.mem_of_getElem? (i := 218) rfl)
theorem wi_219 : Cond.methodLink RX9 217 yX9_isHistory ∈ tR := List.mem_append_left _ (List.mem_of_getElem? (i := 219) rfl)
theorem wi_220 : Cond.instanceMethod yX9_isHistory ∈ tR := List.mem_append_left _ (List.mem_of_getElem? (i := 220) rfl)
theorem wi_221 : Cond.selects RX9 yX9_isHistory yX9_isHistory ∈ tR := List.mem_append_left _ (List.mem_of_getElem? (i := 221) rfl)
theorem wi_222 : Cond.methodLink RX9 220 yX9_after ∈ tR := List.mem_append_left _ (List.mem_of_getElem? (i := 222) rfl)
theorem wi_223 : Cond.instanceMethod yX9_after ∈ tR := List.mem_append_left _ (List.mem_of_getElem? (i := 223) rfl)
theorem wi_224 : Cond.selects RX9 yX9_after yX9_after ∈ tR := List.mem_append_left _ (List.mem_of_getElem? (i := 224) rfl)
theorem wi_225 : Cond.code yX9_by cX9_by 4 (some .int) ∈ tR := List.mem_append_left _ (List.mem_of_getElem? (i := 225) rfl)
theorem wi_226 : Cond.code yX9_doesFit cX9_doesFit 6 (some .boolean) ∈ tR := List.mem_append_left _ (List.mem_of_getElem? (i := 226) rfl)
theorem wi_227 : Cond.fieldLink RX9 223 "OldBronzeModel" "many" "I" ∈ tR := List.mem_append_left _ (List.mem_of_getElem? (i := 227) rfl)
theorem wi_228 : Cond.methodLink RX9 226 yX9_doesFit ∈ tR := List.mem_append_left _ (List.mem_of_getElem? (i := 228) rfl)
theorem wi_229 : Cond.instanceMethod yX9_doesFit ∈ tR := List.mem_append_left _ (List.mem_of_getElem? (i := 229) rfl)
theorem wi_230 : Cond.selects RX9 yX9_doesFit yX9_doesFit ∈ tR := List.mem_append_left _ (List.mem_of_getElem? (i := 230) rfl)
theorem wi_231 : Cond.code yX9_findFits cX9_findFits 2 none ∈ tR := List.mem_append_left _ (List.mem_of_getElem? (i := 231) rfl)
theorem wi_232 : Cond.code yX9_bitsOf cX9_bitsOf 3 (some .int) ∈ tR := List.mem_append_left _ (List.mem_of_getElem? (i := 232) rfl)
theorem wi_233 : Cond.methodLink RX9 229 yX9_findFits ∈ tR := List.mem_append_left _ (List.mem_of_getElem? (i := 233) rfl)
theorem wi_234 : Cond.instanceMethod yX9_findFits ∈ tR := List.mem_append_left _ (List.mem_of_getElem? (i := 234) rfl)
theorem wi_235 : Cond.selects RX9 yX9_findFits yX9_findFits ∈ tR := List.mem_append_left _ (List.mem_of_getElem? (i := 235) rfl)
theorem wi_236 : Cond.methodLink RX9 232 yX9_bitsOf ∈ tR := List.mem_append_left _ (List.mem_of_getElem? (i := 236) rfl)
theorem wi_237 : Cond.static yX9_bitsOf ∈ tR := List.mem_append_left _ (List.mem_of_getElem? (i := 237) rfl)
theorem wi_238 : Cond.code yX9_fits cX9_fits 6 (some .int) ∈ tR := List.mem_append_left _ (List.mem_of_getElem? (i := 238) rfl)
theorem wi_239 : Cond.code yX9_span cX9_span 7 (some .int) ∈ tR := List.mem_append_left _ (List.mem_of_getElem? (i := 239) rfl)
theorem wi_240 : Cond.code yX9_heap cX9_heap 6 (some .int) ∈ tR := List.mem_append_left _ (List.mem_of_getElem? (i := 240) rfl)
theorem wi_241 : Cond.methodLink RX9 235 yX9_heap ∈ tR := List.mem_append_left _ (List.mem_of_getElem? (i := 241) rfl)
theorem wi_242 : Cond.instanceMethod yX9_heap ∈ tR := List.mem_append_left _ (List.mem_of_getElem? (i := 242) rfl)
theorem wi_243 : Cond.selects RX9 yX9_heap yX9_heap ∈ tR := List.mem_append_left _ (List.mem_of_getElem? (i := 243) rfl)
theorem wi_244 : Cond.code yX9_next cX9_next 3 (some .int) ∈ tR := List.mem_append_left _ (List.mem_of_getElem? (i := 244) rfl)
theorem wi_245 : Cond.code yX9_together cX9_together 8 (some .int) ∈ tR := List.mem_append_left _ (List.mem_of_getElem? (i := 245) rfl)
theorem wi_246 : Cond.code yX9_haveGrams cX9_haveGrams 4 (some .boolean) ∈ tR := List.mem_append_left _ (List.mem_of_getElem? (i := 246) rfl)
theorem wi_247 : Cond.methodLink RX9 238 yX9_haveGrams ∈ tR := List.mem_append_left _ (List.mem_of_getElem? (i := 247) rfl)
theorem wi_248 : Cond.instanceMethod yX9_haveGrams ∈ tR := List.mem_append_left _ (List.mem_of_getElem? (i := 248) rfl)
theorem wi_249 : Cond.selects RX9 yX9_haveGrams yX9_haveGrams ∈ tR := List.mem_append_left _ (List.mem_of_getElem? (i := 249) rfl)
theorem wi_250 : Cond.methodLink RX9 241 yX9_together ∈ tR := List.mem_append_left _ (List.mem_of_getElem? (i := 250) rfl)
theorem wi_251 : Cond.instanceMethod yX9_together ∈ tR := List.mem_append_left _ (List.mem_of_getElem? (i := 251) rfl)
theorem wi_252 : Cond.selects RX9 yX9_together yX9_together ∈ tR := List.mem_append_left _ (List.mem_of_getElem? (i := 252) rfl)
theorem wi_253 : Cond.code yX9_most cX9_most 7 (some .int) ∈ tR := List.mem_append_left _ (List.mem_of_getElem? (i := 253) rfl)
theorem wi_254 : Cond.fieldLink RX9 244 "OldBronzeModel" "traced" "I" ∈ tR := List.mem_append_left _ (List.mem_of_getElem? (i := 254) rfl)
theorem wi_255 : Cond.code yX9_begins cX9_begins 2 none ∈ tR := List.mem_append_left _ (List.mem_of_getElem? (i := 255) rfl)
theorem wi_256 : Cond.code yX9_above cX9_above 1 (some .int) ∈ tR := List.mem_append_left _ (List.mem_of_getElem? (i := 256) rfl)
theorem wi_257 : Cond.fieldLink RX9 247 "OldBronzeModel" "speaks" "I" ∈ tR := List.mem_append_left _ (List.mem_of_getElem? (i := 257) rfl)
theorem wi_258 : Cond.code yX9_kindNow cX9_kindNow 1 (some .int) ∈ tR := List.mem_append_left _ (List.mem_of_getElem? (i := 258) rfl)
theorem wi_259 : Cond.code yX9_mNow cX9_mNow 1 (some .int) ∈ tR := List.mem_append_left _ (List.mem_of_getElem? (i := 259) rfl)
theorem wi_260 : Cond.methodLink RX9 250 yX9_begins ∈ tR := List.mem_append_left _ (List.mem_of_getElem? (i := 260) rfl)
theorem wi_261 : Cond.instanceMethod yX9_begins ∈ tR := List.mem_append_left _ (List.mem_of_getElem? (i := 261) rfl)
theorem wi_262 : Cond.selects RX9 yX9_begins yX9_begins ∈ tR := List.mem_append_left _ (List.mem_of_getElem? (i := 262) rfl)
theorem wi_263 : Cond.methodLink RX9 253 yX9_above ∈ tR := List.mem_append_left _ (List.mem_of_getElem? (i := 263) rfl)
theorem wi_264 : Cond.static yX9_above ∈ tR := List.mem_append_left _ (List.mem_of_getElem? (i := 264) rfl)
theorem wi_265 : Cond.methodLink RX9 256 yX9_ringsBy ∈ tR := List.mem_append_left _ (List.mem_of_getElem? (i := 265) rfl)
theorem wi_266 : Cond.instanceMethod yX9_ringsBy ∈ tR := List.mem_append_left _ (List.mem_of_getElem? (i := 266) rfl)
theorem wi_267 : Cond.selects RX9 yX9_ringsBy yX9_ringsBy ∈ tR := List.mem_append_left _ (List.mem_of_getElem? (i := 267) rfl)
theorem wi_268 : Cond.code yX9_ringsBy cX9_ringsBy 3 (some .int) ∈ tR := List.mem_append_left _ (List.mem_of_getElem? (i := 268) rfl)
theorem wi_269 : Cond.methodLink RX9 259 yX9_kindNow ∈ tR := List.mem_append_left _ (List.mem_of_getElem? (i := 269) rfl)
theorem wi_270 : Cond.instanceMethod yX9_kindNow ∈ tR := List.mem_append_left _ (List.mem_of_getElem? (i := 270) rfl)
theorem wi_271 : Cond.selects RX9 yX9_kindNow yX9_kindNow ∈ tR := List.mem_append_left _ (List.mem_of_getElem? (i := 271) rfl)
theorem wi_272 : Cond.methodLink RX9 262 yX9_weighsBy ∈ tR := List.mem_append_left _ (List.mem_of_getElem? (i := 272) rfl)
theorem wi_273 : Cond.instanceMethod yX9_weighsBy ∈ tR := List.mem_append_left _ (List.mem_of_getElem? (i := 273) rfl)
theorem wi_274 : Cond.selects RX9 yX9_weighsBy yX9_weighsBy ∈ tR := List.mem_append_left _ (List.mem_of_getElem? (i := 274) rfl)
theorem wi_275 : Cond.methodLink RX9 265 yX9_mNow ∈ tR := List.mem_append_left _ (List.mem_of_getElem? (i := 275) rfl)
theorem wi_276 : Cond.instanceMethod yX9_mNow ∈ tR := List.mem_append_left _ (List.mem_of_getElem? (i := 276) rfl)
theorem wi_277 : Cond.selects RX9 yX9_mNow yX9_mNow ∈ tR := List.mem_append_left _ (List.mem_of_getElem? (i := 277) rfl)
theorem wi_278 : Cond.code yX9_weighsBy cX9_weighsBy 3 (some .int) ∈ tR := List.mem_append_left _ (List.mem_of_getElem? (i := 278) rfl)
theorem wi_279 : Cond.methodLink RX9 268 yX9_meltsBy ∈ tR := List.mem_append_left _ (List.mem_of_getElem? (i := 279) rfl)
theorem wi_280 : Cond.instanceMethod yX9_meltsBy ∈ tR := List.mem_append_left _ (List.mem_of_getElem? (i := 280) rfl)
theorem wi_281 : Cond.selects RX9 yX9_meltsBy yX9_meltsBy ∈ tR := List.mem_append_left _ (List.mem_of_getElem? (i := 281) rfl)
theorem wi_282 : Cond.code yX9_meltsBy cX9_meltsBy 3 (some .int) ∈ tR := List.mem_append_left _ (List.mem_of_getElem? (i := 282) rfl)
theorem wi_283 : Cond.fieldLink RX9 271 "OldBronzeModel" "isParted" "Z" ∈ tR := List.mem_append_left _ (List.mem_of_getElem? (i := 283) rfl)
theorem wi_284 : Cond.methodLink RX9 275 yX9_partsBy ∈ tR := List.mem_append_left _ (List.mem_of_getElem? (i := 284) rfl)
theorem wi_285 : Cond.instanceMethod yX9_partsBy ∈ tR := List.mem_append_left _ (List.mem_of_getElem? (i := 285) rfl)
theorem wi_286 : Cond.selects RX9 yX9_partsBy yX9_partsBy ∈ tR := List.mem_append_left _ (List.mem_of_getElem? (i := 286) rfl)
theorem wi_287 : Cond.code yX9_partsBy cX9_partsBy 5 (some .int) ∈ tR := List.mem_append_left _ (List.mem_of_getElem? (i := 287) rfl)
theorem wi_288 : Cond.code yX9_voice cX9_voice 6 (some .int) ∈ tR := List.mem_append_left _ (List.mem_of_getElem? (i := 288) rfl)
theorem wi_289 : Cond.code yX9_body cX9_body 2 (some .int) ∈ tR := List.mem_append_left _ (List.mem_of_getElem? (i := 289) rfl)
theorem wi_290 : Cond.code yX9_isSheet cX9_isSheet 1 (some .boolean) ∈ tR := List.mem_append_left _ (List.mem_of_getElem? (i := 290) rfl)
theorem wi_291 : Cond.methodLink RX9 278 yX9_isSheet ∈ tR := List.mem_append_left _ (List.mem_of_getElem? (i := 291) rfl)
theorem wi_292 : Cond.static yX9_isSheet ∈ tR := List.mem_append_left _ (List.mem_of_getElem? (i := 292) rfl)
theorem wi_293 : Cond.code yX9_sheet cX9_sheet 5 (some .int) ∈ tR := List.mem_append_left _ (List.mem_of_getElem? (i := 293) rfl)
theorem wi_294 : Cond.code yX9_put cX9_put 5 (some .int) ∈ tR := List.mem_append_left _ (List.mem_of_getElem? (i := 294) rfl)
theorem wi_295 : Cond.code yX9_move cX9_move 7 (some .int) ∈ tR := List.mem_append_left _ (List.mem_of_getElem? (i := 295) rfl)
theorem wi_296 : Cond.code yX9_lacks cX9_lacks 2 (some .int) ∈ tR := List.mem_append_left _ (List.mem_of_getElem? (i := 296) rfl)
theorem wi_297 : Cond.methodLink RX9 281 yX9_lacks ∈ tR := List.mem_append_left _ (List.mem_of_getElem? (i := 297) rfl)
theorem wi_298 : Cond.instanceMethod yX9_lacks ∈ tR := List.mem_append_left _ (List.mem_of_getElem? (i := 298) rfl)
theorem wi_299 : Cond.selects RX9 yX9_lacks yX9_lacks ∈ tR := List.mem_append_left _ (List.mem_of_getElem? (i := 299) rfl)
theorem wi_300 : Cond.code yX9_papers cX9_papers 5 (some .int) ∈ tR := List.mem_append_left _ (List.mem_of_getElem? (i := 300) rfl)
theorem wi_301 : Cond.code yX9_judge cX9_judge 5 (some .int) ∈ tR := List.mem_append_left _ (List.mem_of_getElem? (i := 301) rfl)
theorem wi_302 : Cond.fieldLink RX9 284 "OldBronzeModel" "images" "I" ∈ tR := List.mem_append_left _ (List.mem_of_getElem? (i := 302) rfl)
theorem wi_303 : Cond.code yX9_image cX9_image 1 (some .int) ∈ tR := List.mem_append_left _ (List.mem_of_getElem? (i := 303) rfl)
theorem wi_304 : Cond.code yX9_restore cX9_restore 1 (some .int) ∈ tR := List.mem_append_left _ (List.mem_of_getElem? (i := 304) rfl)
theorem wi_305 : Cond.code yX9_tell cX9_tell 2 (some .int) ∈ tR := List.mem_append_left _ (List.mem_of_getElem? (i := 305) rfl)
theorem wi_306 : Cond.code yX9_check cX9_check 3 (some .int) ∈ tR := List.mem_append_left _ (List.mem_of_getElem? (i := 306) rfl)
theorem wi_307 : Cond.code yX9_count cX9_count 2 (some .int) ∈ tR := List.mem_append_left _ (List.mem_of_getElem? (i := 307) rfl)
theorem wi_308 : Cond.code yX9_told cX9_told 2 (some .int) ∈ tR := List.mem_append_left _ (List.mem_of_getElem? (i := 308) rfl)
def layR (ci : Nat) : Nat → gLC := fun o => match o with
  | 0 => .inr (.inl (ci, [some 1, some 2, some 3, none, some 4, none, none, none, none, some 5, some 6, some 7, some 8, none, some 9, some 10, none, none, none, some 11, some 12, some 13, some 14]))
  | 1 => .inl 536
  | 2 => .inl 536
  | 3 => .inl 536
  | 4 => .inl 7
  | 5 => .inl 124
  | 6 => .inl 128
  | 7 => .inl 64
  | 8 => .inl 64
  | 9 => .inl 64
  | 10 => .inl 30
  | 11 => .inl 4
  | 12 => .inl 4
  | 13 => .inl 96
  | _ => .inl 24
abbrev wR (ad : Nat → Nat) (cI : ClassId) (ci : Nat) : gSt → va_W := wld ad cI cI (layR ci) 15
section RF
variable {p : Program} {l : Launch} {e : Env} {R : Room} {s : State} {m : MethodId} {args : Array Value} {below : List Frame} {meth : Method} {c : Code} {Q : State → Prop}
variable {D : va_G} {cl : List vw_C} {tys : List (ClassId × FieldType)} {A : Nat → Prop} {nL : Nat} {cc : ByteArray}
variable {pc : Nat} {lv : List (Nat × Value)} {st : List Value} {M : gSt} {ad : Nat → Nat} {cI : ClassId} {ci : Nat}
theorem rf_s (C : gC p R s m args c D cl tys A (wR ad cI ci) nL cc RX9 tR) (hci : cl[ci]? = some (RX9, TX9, 23)) (hd : decode cc pc = .ok (.getfield 7, 3)) (kk : gG p l e R s m args below meth c Q D cl A (wR ad cI ci) nL (pc + 3) lv (.ref (ad 1) :: st) M) : gG p l e R s m args below meth c Q D cl A (wR ad cI ci) nL pc lv (.ref (ad 0) :: st) M :=
  g_getf C (o := 0) (k := 0) (T := TX9) rfl (by decide) hci (by decide) tR_f wi_4 rfl hd rfl kk
theorem rf_kept (C : gC p R s m args c D cl tys A (wR ad cI ci) nL cc RX9 tR) (hci : cl[ci]? = some (RX9, TX9, 23)) (hd : decode cc pc = .ok (.getfield 13, 3)) (kk : gG p l e R s m args below meth c Q D cl A (wR ad cI ci) nL (pc + 3) lv (.ref (ad 2) :: st) M) : gG p l e R s m args below meth c Q D cl A (wR ad cI ci) nL pc lv (.ref (ad 0) :: st) M :=
  g_getf C (o := 0) (k := 1) (T := TX9) rfl (by decide) hci (by decide) tR_f wi_5 rfl hd rfl kk
theorem rf_put (C : gC p R s m args c D cl tys A (wR ad cI ci) nL cc RX9 tR) (hci : cl[ci]? = some (RX9, TX9, 23)) (hd : decode cc pc = .ok (.getfield 16, 3)) (kk : gG p l e R s m args below meth c Q D cl A (wR ad cI ci) nL (pc + 3) lv (.ref (ad 3) :: st) M) : gG p l e R s m args below meth c Q D cl A (wR ad cI ci) nL pc lv (.ref (ad 0) :: st) M :=
  g_getf C (o := 0) (k := 2) (T := TX9) rfl (by decide) hci (by decide) tR_f wi_6 rfl hd rfl kk
theorem rf_images (C : gC p R s m args c D cl tys A (wR ad cI ci) nL cc RX9 tR) (hci : cl[ci]? = some (RX9, TX9, 23)) (hd : decode cc pc = .ok (.getfield 284, 3)) (kk : gG p l e R s m args below meth c Q D cl A (wR ad cI ci) nL (pc + 3) lv (iv (M 0 3) :: st) M) : gG p l e R s m args below meth c Q D cl A (wR ad cI ci) nL pc lv (.ref (ad 0) :: st) M :=
  g_getf C (o := 0) (k := 3) (T := TX9) rfl (by decide) hci (by decide) tR_f wi_302 rfl hd rfl kk
theorem rp_images (C : gC p R s m args c D cl tys A (wR ad cI ci) nL cc RX9 tR) (hci : cl[ci]? = some (RX9, TX9, 23)) {x : Int} (hd : decode cc pc = .ok (.putfield 284, 3)) (kk : gG p l e R s m args below meth c Q D cl A (wR ad cI ci) nL (pc + 3) lv st (wr M 0 3 x)) : gG p l e R s m args below meth c Q D cl A (wR ad cI ci) nL pc lv (iv x :: .ref (ad 0) :: st) M :=
  g_putf C (o := 0) (k := 3) (T := TX9) (ty := .int) rfl (by decide) hci (by decide) tR_f tyX9 tyX9_ok nmX9 wi_302 rfl rfl (by decide +kernel) rfl hd ⟨rfl, rfl⟩ kk
theorem rf_errors (C : gC p R s m args c D cl tys A (wR ad cI ci) nL cc RX9 tR) (hci : cl[ci]? = some (RX9, TX9, 23)) (hd : decode cc pc = .ok (.getfield 19, 3)) (kk : gG p l e R s m args below meth c Q D cl A (wR ad cI ci) nL (pc + 3) lv (.ref (ad 4) :: st) M) : gG p l e R s m args below meth c Q D cl A (wR ad cI ci) nL pc lv (.ref (ad 0) :: st) M :=
  g_getf C (o := 0) (k := 4) (T := TX9) rfl (by decide) hci (by decide) tR_f wi_7 rfl hd rfl kk
theorem rf_at (C : gC p R s m args c D cl tys A (wR ad cI ci) nL cc RX9 tR) (hci : cl[ci]? = some (RX9, TX9, 23)) (hd : decode cc pc = .ok (.getfield 123, 3)) (kk : gG p l e R s m args below meth c Q D cl A (wR ad cI ci) nL (pc + 3) lv (iv (M 0 5) :: st) M) : gG p l e R s m args below meth c Q D cl A (wR ad cI ci) nL pc lv (.ref (ad 0) :: st) M :=
  g_getf C (o := 0) (k := 5) (T := TX9) rfl (by decide) hci (by decide) tR_f wi_120 rfl hd rfl kk
theorem rp_at (C : gC p R s m args c D cl tys A (wR ad cI ci) nL cc RX9 tR) (hci : cl[ci]? = some (RX9, TX9, 23)) {x : Int} (hd : decode cc pc = .ok (.putfield 123, 3)) (kk : gG p l e R s m args below meth c Q D cl A (wR ad cI ci) nL (pc + 3) lv st (wr M 0 5 x)) : gG p l e R s m args below meth c Q D cl A (wR ad cI ci) nL pc lv (iv x :: .ref (ad 0) :: st) M :=
  g_putf C (o := 0) (k := 5) (T := TX9) (ty := .int) rfl (by decide) hci (by decide) tR_f tyX9 tyX9_ok nmX9 wi_120 rfl rfl (by decide +kernel) rfl hd ⟨rfl, rfl⟩ kk
theorem rf_open (C : gC p R s m args c D cl tys A (wR ad cI ci) nL cc RX9 tR) (hci : cl[ci]? = some (RX9, TX9, 23)) (hd : decode cc pc = .ok (.getfield 156, 3)) (kk : gG p l e R s m args below meth c Q D cl A (wR ad cI ci) nL (pc + 3) lv (iv (M 0 6) :: st) M) : gG p l e R s m args below meth c Q D cl A (wR ad cI ci) nL pc lv (.ref (ad 0) :: st) M :=
  g_getf C (o := 0) (k := 6) (T := TX9) rfl (by decide) hci (by decide) tR_f wi_126 rfl hd rfl kk
theorem rp_open (C : gC p R s m args c D cl tys A (wR ad cI ci) nL cc RX9 tR) (hci : cl[ci]? = some (RX9, TX9, 23)) {x : Int} (hd : decode cc pc = .ok (.putfield 156, 3)) (kk : gG p l e R s m args below meth c Q D cl A (wR ad cI ci) nL (pc + 3) lv st (wr M 0 6 x)) : gG p l e R s m args below meth c Q D cl A (wR ad cI ci) nL pc lv (iv x :: .ref (ad 0) :: st) M :=
  g_putf C (o := 0) (k := 6) (T := TX9) (ty := .int) rfl (by decide) hci (by decide) tR_f tyX9 tyX9_ok nmX9 wi_126 rfl rfl (by decide +kernel) rfl hd ⟨rfl, rfl⟩ kk
theorem rf_steps (C : gC p R s m args c D cl tys A (wR ad cI ci) nL cc RX9 tR) (hci : cl[ci]? = some (RX9, TX9, 23)) (hd : decode cc pc = .ok (.getfield 130, 3)) (kk : gG p l e R s m args below meth c Q D cl A (wR ad cI ci) nL (pc + 3) lv (iv (M 0 7) :: st) M) : gG p l e R s m args below meth c Q D cl A (wR ad cI ci) nL pc lv (.ref (ad 0) :: st) M :=
  g_getf C (o := 0) (k := 7) (T := TX9) rfl (by decide) hci (by decide) tR_f wi_124 rfl hd rfl kk
theorem rp_steps (C : gC p R s m args c D cl tys A (wR ad cI ci) nL cc RX9 tR) (hci : cl[ci]? = some (RX9, TX9, 23)) {x : Int} (hd : decode cc pc = .ok (.putfield 130, 3)) (kk : gG p l e R s m args below meth c Q D cl A (wR ad cI ci) nL (pc + 3) lv st (wr M 0 7 x)) : gG p l e R s m args below meth c Q D cl A (wR ad cI ci) nL pc lv (iv x :: .ref (ad 0) :: st) M :=
  g_putf C (o := 0) (k := 7) (T := TX9) (ty := .int) rfl (by decide) hci (by decide) tR_f tyX9 tyX9_ok nmX9 wi_124 rfl rfl (by decide +kernel) rfl hd ⟨rfl, rfl⟩ kk
theorem rf_use (C : gC p R s m args c D cl tys A (wR ad cI ci) nL cc RX9 tR) (hci : cl[ci]? = some (RX9, TX9, 23)) (hd : decode cc pc = .ok (.getfield 127, 3)) (kk : gG p l e R s m args below meth c Q D cl A (wR ad cI ci) nL (pc + 3) lv (iv (M 0 8) :: st) M) : gG p l e R s m args below meth c Q D cl A (wR ad cI ci) nL pc lv (.ref (ad 0) :: st) M :=
  g_getf C (o := 0) (k := 8) (T := TX9) rfl (by decide) hci (by decide) tR_f wi_122 rfl hd rfl kk
theorem rp_use (C : gC p R s m args c D cl tys A (wR ad cI ci) nL cc RX9 tR) (hci : cl[ci]? = some (RX9, TX9, 23)) {x : Int} (hd : decode cc pc = .ok (.putfield 127, 3)) (kk : gG p l e R s m args below meth c Q D cl A (wR ad cI ci) nL (pc + 3) lv st (wr M 0 8 x)) : gG p l e R s m args below meth c Q D cl A (wR ad cI ci) nL pc lv (iv x :: .ref (ad 0) :: st) M :=
  g_putf C (o := 0) (k := 8) (T := TX9) (ty := .int) rfl (by decide) hci (by decide) tR_f tyX9 tyX9_ok nmX9 wi_122 rfl rfl (by decide +kernel) rfl hd ⟨rfl, rfl⟩ kk
theorem rf_step (C : gC p R s m args c D cl tys A (wR ad cI ci) nL cc RX9 tR) (hci : cl[ci]? = some (RX9, TX9, 23)) (hd : decode cc pc = .ok (.getfield 22, 3)) (kk : gG p l e R s m args below meth c Q D cl A (wR ad cI ci) nL (pc + 3) lv (.ref (ad 5) :: st) M) : gG p l e R s m args below meth c Q D cl A (wR ad cI ci) nL pc lv (.ref (ad 0) :: st) M :=
  g_getf C (o := 0) (k := 9) (T := TX9) rfl (by decide) hci (by decide) tR_f wi_8 rfl hd rfl kk
theorem rf_named (C : gC p R s m args c D cl tys A (wR ad cI ci) nL cc RX9 tR) (hci : cl[ci]? = some (RX9, TX9, 23)) (hd : decode cc pc = .ok (.getfield 25, 3)) (kk : gG p l e R s m args below meth c Q D cl A (wR ad cI ci) nL (pc + 3) lv (.ref (ad 6) :: st) M) : gG p l e R s m args below meth c Q D cl A (wR ad cI ci) nL pc lv (.ref (ad 0) :: st) M :=
  g_getf C (o := 0) (k := 10) (T := TX9) rfl (by decide) hci (by decide) tR_f wi_9 rfl hd rfl kk
theorem rf_pile (C : gC p R s m args c D cl tys A (wR ad cI ci) nL cc RX9 tR) (hci : cl[ci]? = some (RX9, TX9, 23)) (hd : decode cc pc = .ok (.getfield 28, 3)) (kk : gG p l e R s m args below meth c Q D cl A (wR ad cI ci) nL (pc + 3) lv (.ref (ad 7) :: st) M) : gG p l e R s m args below meth c Q D cl A (wR ad cI ci) nL pc lv (.ref (ad 0) :: st) M :=
  g_getf C (o := 0) (k := 11) (T := TX9) rfl (by decide) hci (by decide) tR_f wi_10 rfl hd rfl kk
theorem rf_fit (C : gC p R s m args c D cl tys A (wR ad cI ci) nL cc RX9 tR) (hci : cl[ci]? = some (RX9, TX9, 23)) (hd : decode cc pc = .ok (.getfield 31, 3)) (kk : gG p l e R s m args below meth c Q D cl A (wR ad cI ci) nL (pc + 3) lv (.ref (ad 8) :: st) M) : gG p l e R s m args below meth c Q D cl A (wR ad cI ci) nL pc lv (.ref (ad 0) :: st) M :=
  g_getf C (o := 0) (k := 12) (T := TX9) rfl (by decide) hci (by decide) tR_f wi_11 rfl hd rfl kk
theorem rf_many (C : gC p R s m args c D cl tys A (wR ad cI ci) nL cc RX9 tR) (hci : cl[ci]? = some (RX9, TX9, 23)) (hd : decode cc pc = .ok (.getfield 223, 3)) (kk : gG p l e R s m args below meth c Q D cl A (wR ad cI ci) nL (pc + 3) lv (iv (M 0 13) :: st) M) : gG p l e R s m args below meth c Q D cl A (wR ad cI ci) nL pc lv (.ref (ad 0) :: st) M :=
  g_getf C (o := 0) (k := 13) (T := TX9) rfl (by decide) hci (by decide) tR_f wi_227 rfl hd rfl kk
theorem rp_many (C : gC p R s m args c D cl tys A (wR ad cI ci) nL cc RX9 tR) (hci : cl[ci]? = some (RX9, TX9, 23)) {x : Int} (hd : decode cc pc = .ok (.putfield 223, 3)) (kk : gG p l e R s m args below meth c Q D cl A (wR ad cI ci) nL (pc + 3) lv st (wr M 0 13 x)) : gG p l e R s m args below meth c Q D cl A (wR ad cI ci) nL pc lv (iv x :: .ref (ad 0) :: st) M :=
  g_putf C (o := 0) (k := 13) (T := TX9) (ty := .int) rfl (by decide) hci (by decide) tR_f tyX9 tyX9_ok nmX9 wi_227 rfl rfl (by decide +kernel) rfl hd ⟨rfl, rfl⟩ kk
theorem rf_seen (C : gC p R s m args c D cl tys A (wR ad cI ci) nL cc RX9 tR) (hci : cl[ci]? = some (RX9, TX9, 23)) (hd : decode cc pc = .ok (.getfield 34, 3)) (kk : gG p l e R s m args below meth c Q D cl A (wR ad cI ci) nL (pc + 3) lv (.ref (ad 9) :: st) M) : gG p l e R s m args below meth c Q D cl A (wR ad cI ci) nL pc lv (.ref (ad 0) :: st) M :=
  g_getf C (o := 0) (k := 14) (T := TX9) rfl (by decide) hci (by decide) tR_f wi_12 rfl hd rfl kk
theorem rf_trace (C : gC p R s m args c D cl tys A (wR ad cI ci) nL cc RX9 tR) (hci : cl[ci]? = some (RX9, TX9, 23)) (hd : decode cc pc = .ok (.getfield 37, 3)) (kk : gG p l e R s m args below meth c Q D cl A (wR ad cI ci) nL (pc + 3) lv (.ref (ad 10) :: st) M) : gG p l e R s m args below meth c Q D cl A (wR ad cI ci) nL pc lv (.ref (ad 0) :: st) M :=
  g_getf C (o := 0) (k := 15) (T := TX9) rfl (by decide) hci (by decide) tR_f wi_13 rfl hd rfl kk
theorem rf_traced (C : gC p R s m args c D cl tys A (wR ad cI ci) nL cc RX9 tR) (hci : cl[ci]? = some (RX9, TX9, 23)) (hd : decode cc pc = .ok (.getfield 244, 3)) (kk : gG p l e R s m args below meth c Q D cl A (wR ad cI ci) nL (pc + 3) lv (iv (M 0 16) :: st) M) : gG p l e R s m args below meth c Q D cl A (wR ad cI ci) nL pc lv (.ref (ad 0) :: st) M :=
  g_getf C (o := 0) (k := 16) (T := TX9) rfl (by decide) hci (by decide) tR_f wi_254 rfl hd rfl kk
theorem rp_traced (C : gC p R s m args c D cl tys A (wR ad cI ci) nL cc RX9 tR) (hci : cl[ci]? = some (RX9, TX9, 23)) {x : Int} (hd : decode cc pc = .ok (.putfield 244, 3)) (kk : gG p l e R s m args below meth c Q D cl A (wR ad cI ci) nL (pc + 3) lv st (wr M 0 16 x)) : gG p l e R s m args below meth c Q D cl A (wR ad cI ci) nL pc lv (iv x :: .ref (ad 0) :: st) M :=
  g_putf C (o := 0) (k := 16) (T := TX9) (ty := .int) rfl (by decide) hci (by decide) tR_f tyX9 tyX9_ok nmX9 wi_254 rfl rfl (by decide +kernel) rfl hd ⟨rfl, rfl⟩ kk
theorem rf_speaks (C : gC p R s m args c D cl tys A (wR ad cI ci) nL cc RX9 tR) (hci : cl[ci]? = some (RX9, TX9, 23)) (hd : decode cc pc = .ok (.getfield 247, 3)) (kk : gG p l e R s m args below meth c Q D cl A (wR ad cI ci) nL (pc + 3) lv (iv (M 0 17) :: st) M) : gG p l e R s m args below meth c Q D cl A (wR ad cI ci) nL pc lv (.ref (ad 0) :: st) M :=
  g_getf C (o := 0) (k := 17) (T := TX9) rfl (by decide) hci (by decide) tR_f wi_257 rfl hd rfl kk
theorem rp_speaks (C : gC p R s m args c D cl tys A (wR ad cI ci) nL cc RX9 tR) (hci : cl[ci]? = some (RX9, TX9, 23)) {x : Int} (hd : decode cc pc = .ok (.putfield 247, 3)) (kk : gG p l e R s m args below meth c Q D cl A (wR ad cI ci) nL (pc + 3) lv st (wr M 0 17 x)) : gG p l e R s m args below meth c Q D cl A (wR ad cI ci) nL pc lv (iv x :: .ref (ad 0) :: st) M :=
  g_putf C (o := 0) (k := 17) (T := TX9) (ty := .int) rfl (by decide) hci (by decide) tR_f tyX9 tyX9_ok nmX9 wi_257 rfl rfl (by decide +kernel) rfl hd ⟨rfl, rfl⟩ kk
theorem rf_isParted (C : gC p R s m args c D cl tys A (wR ad cI ci) nL cc RX9 tR) (hci : cl[ci]? = some (RX9, TX9, 23)) (hd : decode cc pc = .ok (.getfield 271, 3)) (kk : gG p l e R s m args below meth c Q D cl A (wR ad cI ci) nL (pc + 3) lv (iv (M 0 18) :: st) M) : gG p l e R s m args below meth c Q D cl A (wR ad cI ci) nL pc lv (.ref (ad 0) :: st) M :=
  g_getf C (o := 0) (k := 18) (T := TX9) rfl (by decide) hci (by decide) tR_f wi_283 rfl hd rfl kk
theorem rp_isParted (C : gC p R s m args c D cl tys A (wR ad cI ci) nL cc RX9 tR) (hci : cl[ci]? = some (RX9, TX9, 23)) {x : Int} (hd : decode cc pc = .ok (.putfield 271, 3)) (hn : narrow .boolean (iv x) = iv x ∧ fits .boolean (iv x) = true) (kk : gG p l e R s m args below meth c Q D cl A (wR ad cI ci) nL (pc + 3) lv st (wr M 0 18 x)) : gG p l e R s m args below meth c Q D cl A (wR ad cI ci) nL pc lv (iv x :: .ref (ad 0) :: st) M :=
  g_putf C (o := 0) (k := 18) (T := TX9) (ty := .boolean) rfl (by decide) hci (by decide) tR_f tyX9 tyX9_ok nmX9 wi_283 rfl rfl (by decide +kernel) rfl hd hn kk
theorem rf_bits (C : gC p R s m args c D cl tys A (wR ad cI ci) nL cc RX9 tR) (hci : cl[ci]? = some (RX9, TX9, 23)) (hd : decode cc pc = .ok (.getfield 40, 3)) (kk : gG p l e R s m args below meth c Q D cl A (wR ad cI ci) nL (pc + 3) lv (.ref (ad 11) :: st) M) : gG p l e R s m args below meth c Q D cl A (wR ad cI ci) nL pc lv (.ref (ad 0) :: st) M :=
  g_getf C (o := 0) (k := 19) (T := TX9) rfl (by decide) hci (by decide) tR_f wi_14 rfl hd rfl kk
theorem rf_sizes (C : gC p R s m args c D cl tys A (wR ad cI ci) nL cc RX9 tR) (hci : cl[ci]? = some (RX9, TX9, 23)) (hd : decode cc pc = .ok (.getfield 43, 3)) (kk : gG p l e R s m args below meth c Q D cl A (wR ad cI ci) nL (pc + 3) lv (.ref (ad 12) :: st) M) : gG p l e R s m args below meth c Q D cl A (wR ad cI ci) nL pc lv (.ref (ad 0) :: st) M :=
  g_getf C (o := 0) (k := 20) (T := TX9) rfl (by decide) hci (by decide) tR_f wi_15 rfl hd rfl kk
theorem rf_number (C : gC p R s m args c D cl tys A (wR ad cI ci) nL cc RX9 tR) (hci : cl[ci]? = some (RX9, TX9, 23)) (hd : decode cc pc = .ok (.getfield 46, 3)) (kk : gG p l e R s m args below meth c Q D cl A (wR ad cI ci) nL (pc + 3) lv (.ref (ad 13) :: st) M) : gG p l e R s m args below meth c Q D cl A (wR ad cI ci) nL pc lv (.ref (ad 0) :: st) M :=
  g_getf C (o := 0) (k := 21) (T := TX9) rfl (by decide) hci (by decide) tR_f wi_16 rfl hd rfl kk
theorem rf_aside (C : gC p R s m args c D cl tys A (wR ad cI ci) nL cc RX9 tR) (hci : cl[ci]? = some (RX9, TX9, 23)) (hd : decode cc pc = .ok (.getfield 49, 3)) (kk : gG p l e R s m args below meth c Q D cl A (wR ad cI ci) nL (pc + 3) lv (.ref (ad 14) :: st) M) : gG p l e R s m args below meth c Q D cl A (wR ad cI ci) nL pc lv (.ref (ad 0) :: st) M :=
  g_getf C (o := 0) (k := 22) (T := TX9) rfl (by decide) hci (by decide) tR_f wi_17 rfl hd rfl kk
end RF
theorem gd_above : GoodIn tR (va_wsS RX9 253 yX9_above (Cond.code yX9_above cX9_above 1 (some .int) :: tR)) := gS_good tR_good wi_263 wi_264 wi_26 wi_256
theorem gd_addPaper : GoodIn tR (wsV RX9 208 yX9_addPaper.cls yX9_addPaper (Cond.code yX9_addPaper cX9_addPaper 5 none :: tR)) := gV_good tR_good wi_203 wi_204 wi_205 wi_26 wi_199
theorem gd_addThing : GoodIn tR (wsV RX9 66 yX9_addThing.cls yX9_addThing (Cond.code yX9_addThing cX9_addThing 4 (some .int) :: tR)) := gV_good tR_good wi_39 wi_40 wi_41 wi_26 wi_33
theorem gd_after : GoodIn tR (wsV RX9 220 yX9_after.cls yX9_after (Cond.code yX9_after cX9_after 5 (some .int) :: tR)) := gV_good tR_good wi_222 wi_223 wi_224 wi_26 wi_218
theorem gd_allGrams : GoodIn tR (wsV RX9 114 yX9_allGrams.cls yX9_allGrams (Cond.code yX9_allGrams cX9_allGrams 3 (some .int) :: tR)) := gV_good tR_good wi_110 wi_111 wi_112 wi_26 wi_106
theorem gd_allPapers : GoodIn tR (wsV RX9 211 yX9_allPapers.cls yX9_allPapers (Cond.code yX9_allPapers cX9_allPapers 1 (some .int) :: tR)) := gV_good tR_good wi_210 wi_211 wi_212 wi_26 wi_209
theorem gd_begins : GoodIn tR (wsV RX9 250 yX9_begins.cls yX9_begins (Cond.code yX9_begins cX9_begins 2 none :: tR)) := gV_good tR_good wi_260 wi_261 wi_262 wi_26 wi_255
theorem gd_bitsOf : GoodIn tR (va_wsS RX9 232 yX9_bitsOf (Cond.code yX9_bitsOf cX9_bitsOf 3 (some .int) :: tR)) := gS_good tR_good wi_236 wi_237 wi_26 wi_232
theorem gd_both : GoodIn tR (wsV RX9 133 yX9_both.cls yX9_both (Cond.code yX9_both cX9_both 1 (some .boolean) :: tR)) := gV_good tR_good wi_160 wi_161 wi_162 wi_26 wi_163
theorem gd_carry : GoodIn tR (va_wsS RX9 117 yX9_carry (Cond.code yX9_carry cX9_carry 3 none :: tR)) := gS_good tR_good wi_114 wi_115 wi_26 wi_23
theorem gd_compared : GoodIn tR (wsV RX9 144 yX9_compared.cls yX9_compared (Cond.code yX9_compared cX9_compared 2 (some .boolean) :: tR)) := gV_good tR_good wi_128 wi_129 wi_130 wi_26 wi_137
theorem gd_counts : GoodIn tR (wsV RX9 193 yX9_counts.cls yX9_counts (Cond.code yX9_counts cX9_counts 3 (some .int) :: tR)) := gV_good tR_good wi_181 wi_182 wi_183 wi_26 wi_175
theorem gd_countsBelow : GoodIn tR (wsV RX9 196 yX9_countsBelow.cls yX9_countsBelow (Cond.code yX9_countsBelow cX9_countsBelow 5 (some .int) :: tR)) := gV_good tR_good wi_186 wi_187 wi_188 wi_26 wi_185
theorem gd_doesFit : GoodIn tR (wsV RX9 226 yX9_doesFit.cls yX9_doesFit (Cond.code yX9_doesFit cX9_doesFit 6 (some .boolean) :: tR)) := gV_good tR_good wi_228 wi_229 wi_230 wi_26 wi_226
theorem gd_draw : GoodIn tR (wsV RX9 103 yX9_draw.cls yX9_draw (Cond.code yX9_draw cX9_draw 1 (some .int) :: tR)) := gV_good tR_good wi_98 wi_99 wi_100 wi_26 wi_97
theorem gd_error : GoodIn tR (wsV RX9 62 yX9_error.cls yX9_error (Cond.code yX9_error cX9_error 2 (some .int) :: tR)) := gV_good tR_good wi_36 wi_37 wi_38 wi_26 wi_20
theorem gd_findFits : GoodIn tR (wsV RX9 229 yX9_findFits.cls yX9_findFits (Cond.code yX9_findFits cX9_findFits 2 none :: tR)) := gV_good tR_good wi_233 wi_234 wi_235 wi_26 wi_231
theorem gd_go : GoodIn tR (wsV RX9 110 yX9_go.cls yX9_go (Cond.code yX9_go cX9_go 3 none :: tR)) := gV_good tR_good wi_107 wi_108 wi_109 wi_26 wi_105
theorem gd_goesBy : GoodIn tR (wsV RX9 214 yX9_goesBy.cls yX9_goesBy (Cond.code yX9_goesBy cX9_goesBy 3 none :: tR)) := gV_good tR_good wi_215 wi_216 wi_217 wi_26 wi_214
theorem gd_hasText : GoodIn tR (wsV RX9 168 yX9_hasText.cls yX9_hasText (Cond.code yX9_hasText cX9_hasText 2 (some .boolean) :: tR)) := gV_good tR_good wi_58 wi_59 wi_60 wi_26 wi_50
theorem gd_haveGrams : GoodIn tR (wsV RX9 238 yX9_haveGrams.cls yX9_haveGrams (Cond.code yX9_haveGrams cX9_haveGrams 4 (some .boolean) :: tR)) := gV_good tR_good wi_247 wi_248 wi_249 wi_26 wi_246
theorem gd_heap : GoodIn tR (wsV RX9 235 yX9_heap.cls yX9_heap (Cond.code yX9_heap cX9_heap 6 (some .int) :: tR)) := gV_good tR_good wi_241 wi_242 wi_243 wi_26 wi_240
theorem gd_held : GoodIn tR (va_wsS RX9 92 yX9_held (Cond.code yX9_held cX9_held 3 (some .int) :: tR)) := gS_good tR_good wi_61 wi_62 wi_26 wi_22
theorem gd_in : GoodIn tR (va_wsS RX9 53 yX9_in (Cond.code yX9_in cX9_in 3 (some .boolean) :: tR)) := gS_good tR_good wi_24 wi_25 wi_26 wi_21
theorem gd_isClaim : GoodIn tR (wsV RX9 190 yX9_isClaim.cls yX9_isClaim (Cond.code yX9_isClaim cX9_isClaim 2 (some .boolean) :: tR)) := gV_good tR_good wi_178 wi_179 wi_180 wi_26 wi_166
theorem gd_isHistory : GoodIn tR (wsV RX9 217 yX9_isHistory.cls yX9_isHistory (Cond.code yX9_isHistory cX9_isHistory 2 (some .boolean) :: tR)) := gV_good tR_good wi_219 wi_220 wi_221 wi_26 wi_213
theorem gd_isLaw : GoodIn tR (va_wsS RX9 199 yX9_isLaw (Cond.code yX9_isLaw cX9_isLaw 1 (some .boolean) :: tR)) := gS_good tR_good wi_191 wi_192 wi_26 wi_190
theorem gd_isName : GoodIn tR (wsV RX9 159 yX9_isName.cls yX9_isName (Cond.code yX9_isName cX9_isName 2 (some .boolean) :: tR)) := gV_good tR_good wi_142 wi_143 wi_144 wi_26 wi_123
theorem gd_isPaper : GoodIn tR (wsV RX9 205 yX9_isPaper.cls yX9_isPaper (Cond.code yX9_isPaper cX9_isPaper 4 (some .boolean) :: tR)) := gV_good tR_good wi_200 wi_201 wi_202 wi_26 wi_198
theorem gd_isSheet : GoodIn tR (va_wsS RX9 278 yX9_isSheet (Cond.code yX9_isSheet cX9_isSheet 1 (some .boolean) :: tR)) := gS_good tR_good wi_291 wi_292 wi_26 wi_290
theorem gd_isThing : GoodIn tR (wsV RX9 77 yX9_isThing.cls yX9_isThing (Cond.code yX9_isThing cX9_isThing 2 (some .boolean) :: tR)) := gV_good tR_good wi_75 wi_76 wi_77 wi_26 wi_27
theorem gd_isUnder : GoodIn tR (va_wsS RX9 84 yX9_isUnder (Cond.code yX9_isUnder cX9_isUnder 2 (some .boolean) :: tR)) := gS_good tR_good wi_83 wi_84 wi_26 wi_82
theorem gd_its : GoodIn tR (wsV RX9 73 yX9_its.cls yX9_its (Cond.code yX9_its cX9_its 3 (some .int) :: tR)) := gV_good tR_good wi_44 wi_45 wi_46 wi_26 wi_28
theorem gd_joined : GoodIn tR (va_wsS RX9 171 yX9_joined (Cond.code yX9_joined cX9_joined 3 (some .int) :: tR)) := gS_good tR_good wi_52 wi_53 wi_26 wi_51
theorem gd_kindNow : GoodIn tR (wsV RX9 259 yX9_kindNow.cls yX9_kindNow (Cond.code yX9_kindNow cX9_kindNow 1 (some .int) :: tR)) := gV_good tR_good wi_269 wi_270 wi_271 wi_26 wi_258
theorem gd_lacks : GoodIn tR (wsV RX9 281 yX9_lacks.cls yX9_lacks (Cond.code yX9_lacks cX9_lacks 2 (some .int) :: tR)) := gV_good tR_good wi_297 wi_298 wi_299 wi_26 wi_296
theorem gd_lays : GoodIn tR (wsV RX9 140 yX9_lays.cls yX9_lays (Cond.code yX9_lays cX9_lays 3 none :: tR)) := gV_good tR_good wi_134 wi_135 wi_136 wi_26 wi_125
theorem gd_lays1 : GoodIn tR (wsV RX9 57 yX9_lays1.cls yX9_lays1 (Cond.code yX9_lays1 cX9_lays1 4 none :: tR)) := gV_good tR_good wi_30 wi_31 wi_32 wi_26 wi_29
theorem gd_look : GoodIn tR (wsV RX9 137 yX9_look.cls yX9_look (Cond.code yX9_look cX9_look 1 (some .int) :: tR)) := gV_good tR_good wi_131 wi_132 wi_133 wi_26 wi_121
theorem gd_mNow : GoodIn tR (wsV RX9 265 yX9_mNow.cls yX9_mNow (Cond.code yX9_mNow cX9_mNow 1 (some .int) :: tR)) := gV_good tR_good wi_275 wi_276 wi_277 wi_26 wi_259
theorem gd_manyOn : GoodIn tR (wsV RX9 186 yX9_manyOn.cls yX9_manyOn (Cond.code yX9_manyOn cX9_manyOn 4 (some .int) :: tR)) := gV_good tR_good wi_172 wi_173 wi_174 wi_26 wi_171
theorem gd_meltsBy : GoodIn tR (wsV RX9 268 yX9_meltsBy.cls yX9_meltsBy (Cond.code yX9_meltsBy cX9_meltsBy 3 (some .int) :: tR)) := gV_good tR_good wi_279 wi_280 wi_281 wi_26 wi_282
theorem gd_moves : GoodIn tR (wsV RX9 96 yX9_moves.cls yX9_moves (Cond.code yX9_moves cX9_moves 11 none :: tR)) := gV_good tR_good wi_90 wi_91 wi_92 wi_26 wi_89
theorem gd_of : GoodIn tR (wsV RX9 183 yX9_of.cls yX9_of (Cond.code yX9_of cX9_of 3 (some .int) :: tR)) := gV_good tR_good wi_168 wi_169 wi_170 wi_26 wi_167
theorem gd_one : GoodIn tR (wsV RX9 153 yX9_one.cls yX9_one (Cond.code yX9_one cX9_one 4 (some .boolean) :: tR)) := gV_good tR_good wi_148 wi_149 wi_150 wi_26 wi_141
theorem gd_opens : GoodIn tR (wsV RX9 162 yX9_opens.cls yX9_opens (Cond.code yX9_opens cX9_opens 1 (some .boolean) :: tR)) := gV_good tR_good wi_145 wi_146 wi_147 wi_26 wi_127
theorem gd_partOf : GoodIn tR (va_wsS RX9 99 yX9_partOf (Cond.code yX9_partOf cX9_partOf 3 (some .int) :: tR)) := gS_good tR_good wi_47 wi_48 wi_26 wi_43
theorem gd_partsBy : GoodIn tR (wsV RX9 275 yX9_partsBy.cls yX9_partsBy (Cond.code yX9_partsBy cX9_partsBy 5 (some .int) :: tR)) := gV_good tR_good wi_284 wi_285 wi_286 wi_26 wi_287
theorem gd_product : GoodIn tR (wsV RX9 150 yX9_product.cls yX9_product (Cond.code yX9_product cX9_product 2 (some .boolean) :: tR)) := gV_good tR_good wi_156 wi_157 wi_158 wi_26 wi_154
theorem gd_rings : GoodIn tR (wsV RX9 180 yX9_rings.cls yX9_rings (Cond.code yX9_rings cX9_rings 3 (some .int) :: tR)) := gV_good tR_good wi_67 wi_68 wi_69 wi_26 wi_66
theorem gd_ringsBy : GoodIn tR (wsV RX9 256 yX9_ringsBy.cls yX9_ringsBy (Cond.code yX9_ringsBy cX9_ringsBy 3 (some .int) :: tR)) := gV_good tR_good wi_265 wi_266 wi_267 wi_26 wi_268
theorem gd_shareOf : GoodIn tR (wsV RX9 202 yX9_shareOf.cls yX9_shareOf (Cond.code yX9_shareOf cX9_shareOf 7 (some .int) :: tR)) := gV_good tR_good wi_193 wi_194 wi_195 wi_26 wi_189
theorem gd_sum : GoodIn tR (wsV RX9 147 yX9_sum.cls yX9_sum (Cond.code yX9_sum cX9_sum 2 (some .boolean) :: tR)) := gV_good tR_good wi_138 wi_139 wi_140 wi_26 wi_155
theorem gd_thousandths : GoodIn tR (wsV RX9 174 yX9_thousandths.cls yX9_thousandths (Cond.code yX9_thousandths cX9_thousandths 2 (some .int) :: tR)) := gV_good tR_good wi_55 wi_56 wi_57 wi_26 wi_49
theorem gd_together : GoodIn tR (wsV RX9 241 yX9_together.cls yX9_together (Cond.code yX9_together cX9_together 8 (some .int) :: tR)) := gV_good tR_good wi_250 wi_251 wi_252 wi_26 wi_245
theorem gd_told1 : GoodIn tR (wsV RX9 81 yX9_told1.cls yX9_told1 (Cond.code yX9_told1 cX9_told1 3 (some .int) :: tR)) := gV_good tR_good wi_78 wi_79 wi_80 wi_26 wi_74
theorem gd_tone : GoodIn tR (wsV RX9 70 yX9_tone.cls yX9_tone (Cond.code yX9_tone cX9_tone 4 (some .int) :: tR)) := gV_good tR_good wi_71 wi_72 wi_73 wi_26 wi_70
theorem gd_weighsBy : GoodIn tR (wsV RX9 262 yX9_weighsBy.cls yX9_weighsBy (Cond.code yX9_weighsBy cX9_weighsBy 3 (some .int) :: tR)) := gV_good tR_good wi_272 wi_273 wi_274 wi_26 wi_278
theorem gd_whole : GoodIn tR (wsV RX9 165 yX9_whole.cls yX9_whole (Cond.code yX9_whole cX9_whole 1 (some .boolean) :: tR)) := gV_good tR_good wi_151 wi_152 wi_153 wi_26 wi_159
theorem gd_worked : GoodIn tR (wsV RX9 177 yX9_worked.cls yX9_worked (Cond.code yX9_worked cX9_worked 7 (some .int) :: tR)) := gV_good tR_good wi_63 wi_64 wi_65 wi_26 wi_54
theorem gd_year : GoodIn tR (wsV RX9 107 yX9_year.cls yX9_year (Cond.code yX9_year cX9_year 3 none :: tR)) := gV_good tR_good wi_102 wi_103 wi_104 wi_26 wi_101
end
section
-- decode rows of the reference
theorem dR_init_0 : decode cX9_init 0 = .ok (.aload_n 0, 1) := by decide +kernel
theorem dR_init_1 : decode cX9_init 1 = .ok (.invokespecial 1, 3) := by decide +kernel
theorem dR_init_4 : decode cX9_init 4 = .ok (.aload_n 0, 1) := by decide +kernel
theorem dR_init_5 : decode cX9_init 5 = .ok (.sipush 536, 3) := by decide +kernel
theorem dR_init_8 : decode cX9_init 8 = .ok (.newarray .int, 2) := by decide +kernel
theorem dR_init_10 : decode cX9_init 10 = .ok (.putfield 7, 3) := by decide +kernel
theorem dR_init_13 : decode cX9_init 13 = .ok (.aload_n 0, 1) := by decide +kernel
theorem dR_init_14 : decode cX9_init 14 = .ok (.sipush 536, 3) := by decide +kernel
theorem dR_init_17 : decode cX9_init 17 = .ok (.newarray .int, 2) := by decide +kernel
theorem dR_init_19 : decode cX9_init 19 = .ok (.putfield 13, 3) := by decide +kernel
theorem dR_init_22 : decode cX9_init 22 = .ok (.aload_n 0, 1) := by decide +kernel
theorem dR_init_23 : decode cX9_init 23 = .ok (.sipush 536, 3) := by decide +kernel
theorem dR_init_26 : decode cX9_init 26 = .ok (.newarray .int, 2) := by decide +kernel
theorem dR_init_28 : decode cX9_init 28 = .ok (.putfield 16, 3) := by decide +kernel
theorem dR_init_31 : decode cX9_init 31 = .ok (.aload_n 0, 1) := by decide +kernel
theorem dR_init_32 : decode cX9_init 32 = .ok (.bipush 7, 2) := by decide +kernel
theorem dR_init_34 : decode cX9_init 34 = .ok (.newarray .int, 2) := by decide +kernel
theorem dR_init_36 : decode cX9_init 36 = .ok (.putfield 19, 3) := by decide +kernel
theorem dR_init_39 : decode cX9_init 39 = .ok (.aload_n 0, 1) := by decide +kernel
theorem dR_init_40 : decode cX9_init 40 = .ok (.bipush 124, 2) := by decide +kernel
theorem dR_init_42 : decode cX9_init 42 = .ok (.newarray .int, 2) := by decide +kernel
theorem dR_init_44 : decode cX9_init 44 = .ok (.putfield 22, 3) := by decide +kernel
theorem dR_init_47 : decode cX9_init 47 = .ok (.aload_n 0, 1) := by decide +kernel
theorem dR_init_48 : decode cX9_init 48 = .ok (.sipush 128, 3) := by decide +kernel
theorem dR_init_51 : decode cX9_init 51 = .ok (.newarray .int, 2) := by decide +kernel
theorem dR_init_53 : decode cX9_init 53 = .ok (.putfield 25, 3) := by decide +kernel
theorem dR_init_56 : decode cX9_init 56 = .ok (.aload_n 0, 1) := by decide +kernel
theorem dR_init_57 : decode cX9_init 57 = .ok (.bipush 64, 2) := by decide +kernel
theorem dR_init_59 : decode cX9_init 59 = .ok (.newarray .int, 2) := by decide +kernel
theorem dR_init_61 : decode cX9_init 61 = .ok (.putfield 28, 3) := by decide +kernel
theorem dR_init_64 : decode cX9_init 64 = .ok (.aload_n 0, 1) := by decide +kernel
theorem dR_init_65 : decode cX9_init 65 = .ok (.bipush 64, 2) := by decide +kernel
theorem dR_init_67 : decode cX9_init 67 = .ok (.newarray .int, 2) := by decide +kernel
theorem dR_init_69 : decode cX9_init 69 = .ok (.putfield 31, 3) := by decide +kernel
theorem dR_init_72 : decode cX9_init 72 = .ok (.aload_n 0, 1) := by decide +kernel
theorem dR_init_73 : decode cX9_init 73 = .ok (.bipush 64, 2) := by decide +kernel
theorem dR_init_75 : decode cX9_init 75 = .ok (.newarray .int, 2) := by decide +kernel
theorem dR_init_77 : decode cX9_init 77 = .ok (.putfield 34, 3) := by decide +kernel
theorem dR_init_80 : decode cX9_init 80 = .ok (.aload_n 0, 1) := by decide +kernel
theorem dR_init_81 : decode cX9_init 81 = .ok (.bipush 30, 2) := by decide +kernel
theorem dR_init_83 : decode cX9_init 83 = .ok (.newarray .int, 2) := by decide +kernel
theorem dR_init_85 : decode cX9_init 85 = .ok (.putfield 37, 3) := by decide +kernel
theorem dR_init_88 : decode cX9_init 88 = .ok (.aload_n 0, 1) := by decide +kernel
theorem dR_init_89 : decode cX9_init 89 = .ok (.iconst 4, 1) := by decide +kernel
theorem dR_init_90 : decode cX9_init 90 = .ok (.newarray .int, 2) := by decide +kernel
theorem dR_init_92 : decode cX9_init 92 = .ok (.putfield 40, 3) := by decide +kernel
theorem dR_init_95 : decode cX9_init 95 = .ok (.aload_n 0, 1) := by decide +kernel
theorem dR_init_96 : decode cX9_init 96 = .ok (.iconst 4, 1) := by decide +kernel
theorem dR_init_97 : decode cX9_init 97 = .ok (.newarray .int, 2) := by decide +kernel
theorem dR_init_99 : decode cX9_init 99 = .ok (.putfield 43, 3) := by decide +kernel
theorem dR_init_102 : decode cX9_init 102 = .ok (.aload_n 0, 1) := by decide +kernel
theorem dR_init_103 : decode cX9_init 103 = .ok (.bipush 96, 2) := by decide +kernel
theorem dR_init_105 : decode cX9_init 105 = .ok (.newarray .int, 2) := by decide +kernel
theorem dR_init_107 : decode cX9_init 107 = .ok (.putfield 46, 3) := by decide +kernel
theorem dR_init_110 : decode cX9_init 110 = .ok (.aload_n 0, 1) := by decide +kernel
theorem dR_init_111 : decode cX9_init 111 = .ok (.bipush 24, 2) := by decide +kernel
theorem dR_init_113 : decode cX9_init 113 = .ok (.newarray .int, 2) := by decide +kernel
theorem dR_init_115 : decode cX9_init 115 = .ok (.putfield 49, 3) := by decide +kernel
theorem dR_init_118 : decode cX9_init 118 = .ok (.aload_n 0, 1) := by decide +kernel
theorem dR_init_119 : decode cX9_init 119 = .ok (.getfield 7, 3) := by decide +kernel
theorem dR_init_122 : decode cX9_init 122 = .ok (.bipush 8, 2) := by decide +kernel
theorem dR_init_124 : decode cX9_init 124 = .ok (.iconst 1, 1) := by decide +kernel
theorem dR_init_125 : decode cX9_init 125 = .ok (.iastore, 1) := by decide +kernel
theorem dR_init_126 : decode cX9_init 126 = .ok (.return_, 1) := by decide +kernel
theorem dR_error_0 : decode cX9_error 0 = .ok (.aload_n 0, 1) := by decide +kernel
theorem dR_error_1 : decode cX9_error 1 = .ok (.getfield 19, 3) := by decide +kernel
theorem dR_error_4 : decode cX9_error 4 = .ok (.iload_n 1, 1) := by decide +kernel
theorem dR_error_5 : decode cX9_error 5 = .ok (.dup2, 1) := by decide +kernel
theorem dR_error_6 : decode cX9_error 6 = .ok (.iaload, 1) := by decide +kernel
theorem dR_error_7 : decode cX9_error 7 = .ok (.iconst 1, 1) := by decide +kernel
theorem dR_error_8 : decode cX9_error 8 = .ok (.iadd, 1) := by decide +kernel
theorem dR_error_9 : decode cX9_error 9 = .ok (.iastore, 1) := by decide +kernel
theorem dR_error_10 : decode cX9_error 10 = .ok (.ldc 52, 2) := by decide +kernel
theorem dR_error_12 : decode cX9_error 12 = .ok (.iload_n 1, 1) := by decide +kernel
theorem dR_error_13 : decode cX9_error 13 = .ok (.isub, 1) := by decide +kernel
theorem dR_error_14 : decode cX9_error 14 = .ok (.ireturn, 1) := by decide +kernel
theorem dR_in_0 : decode cX9_in 0 = .ok (.iload_n 0, 1) := by decide +kernel
theorem dR_in_1 : decode cX9_in 1 = .ok (.iload_n 1, 1) := by decide +kernel
theorem dR_in_2 : decode cX9_in 2 = .ok (.if_icmp .lt 12, 3) := by decide +kernel
theorem dR_in_5 : decode cX9_in 5 = .ok (.iload_n 0, 1) := by decide +kernel
theorem dR_in_6 : decode cX9_in 6 = .ok (.iload_n 2, 1) := by decide +kernel
theorem dR_in_7 : decode cX9_in 7 = .ok (.if_icmp .gt 7, 3) := by decide +kernel
theorem dR_in_10 : decode cX9_in 10 = .ok (.iconst 1, 1) := by decide +kernel
theorem dR_in_11 : decode cX9_in 11 = .ok (.goto 4, 3) := by decide +kernel
theorem dR_in_14 : decode cX9_in 14 = .ok (.iconst 0, 1) := by decide +kernel
theorem dR_in_15 : decode cX9_in 15 = .ok (.ireturn, 1) := by decide +kernel
theorem dR_held_0 : decode cX9_held 0 = .ok (.iload_n 0, 1) := by decide +kernel
theorem dR_held_1 : decode cX9_held 1 = .ok (.iload_n 1, 1) := by decide +kernel
theorem dR_held_2 : decode cX9_held 2 = .ok (.if_icmp .ge 7, 3) := by decide +kernel
theorem dR_held_5 : decode cX9_held 5 = .ok (.iload_n 1, 1) := by decide +kernel
theorem dR_held_6 : decode cX9_held 6 = .ok (.goto 13, 3) := by decide +kernel
theorem dR_held_9 : decode cX9_held 9 = .ok (.iload_n 0, 1) := by decide +kernel
theorem dR_held_10 : decode cX9_held 10 = .ok (.iload_n 2, 1) := by decide +kernel
theorem dR_held_11 : decode cX9_held 11 = .ok (.if_icmp .le 7, 3) := by decide +kernel
theorem dR_held_14 : decode cX9_held 14 = .ok (.iload_n 2, 1) := by decide +kernel
theorem dR_held_15 : decode cX9_held 15 = .ok (.goto 4, 3) := by decide +kernel
theorem dR_held_18 : decode cX9_held 18 = .ok (.iload_n 0, 1) := by decide +kernel
theorem dR_held_19 : decode cX9_held 19 = .ok (.ireturn, 1) := by decide +kernel
theorem dR_carry_0 : decode cX9_carry 0 = .ok (.iconst 0, 1) := by decide +kernel
theorem dR_carry_1 : decode cX9_carry 1 = .ok (.istore_n 2, 1) := by decide +kernel
theorem dR_carry_2 : decode cX9_carry 2 = .ok (.iload_n 2, 1) := by decide +kernel
theorem dR_carry_3 : decode cX9_carry 3 = .ok (.sipush 536, 3) := by decide +kernel
theorem dR_carry_6 : decode cX9_carry 6 = .ok (.if_icmp .ge 15, 3) := by decide +kernel
theorem dR_carry_9 : decode cX9_carry 9 = .ok (.aload_n 1, 1) := by decide +kernel
theorem dR_carry_10 : decode cX9_carry 10 = .ok (.iload_n 2, 1) := by decide +kernel
theorem dR_carry_11 : decode cX9_carry 11 = .ok (.aload_n 0, 1) := by decide +kernel
theorem dR_carry_12 : decode cX9_carry 12 = .ok (.iload_n 2, 1) := by decide +kernel
theorem dR_carry_13 : decode cX9_carry 13 = .ok (.iaload, 1) := by decide +kernel
theorem dR_carry_14 : decode cX9_carry 14 = .ok (.iastore, 1) := by decide +kernel
theorem dR_carry_15 : decode cX9_carry 15 = .ok (.iinc 2 1, 3) := by decide +kernel
theorem dR_carry_18 : decode cX9_carry 18 = .ok (.goto (-16), 3) := by decide +kernel
theorem dR_carry_21 : decode cX9_carry 21 = .ok (.return_, 1) := by decide +kernel
theorem dR_isThing_0 : decode cX9_isThing 0 = .ok (.iload_n 1, 1) := by decide +kernel
theorem dR_isThing_1 : decode cX9_isThing 1 = .ok (.iconst 0, 1) := by decide +kernel
theorem dR_isThing_2 : decode cX9_isThing 2 = .ok (.aload_n 0, 1) := by decide +kernel
theorem dR_isThing_3 : decode cX9_isThing 3 = .ok (.getfield 7, 3) := by decide +kernel
theorem dR_isThing_6 : decode cX9_isThing 6 = .ok (.iconst 0, 1) := by decide +kernel
theorem dR_isThing_7 : decode cX9_isThing 7 = .ok (.iaload, 1) := by decide +kernel
theorem dR_isThing_8 : decode cX9_isThing 8 = .ok (.iconst 1, 1) := by decide +kernel
theorem dR_isThing_9 : decode cX9_isThing 9 = .ok (.isub, 1) := by decide +kernel
theorem dR_isThing_10 : decode cX9_isThing 10 = .ok (.invokestatic 53, 3) := by decide +kernel
theorem dR_isThing_13 : decode cX9_isThing 13 = .ok (.ireturn, 1) := by decide +kernel
theorem dR_its_0 : decode cX9_its 0 = .ok (.aload_n 0, 1) := by decide +kernel
theorem dR_its_1 : decode cX9_its 1 = .ok (.getfield 7, 3) := by decide +kernel
theorem dR_its_4 : decode cX9_its 4 = .ok (.bipush 10, 2) := by decide +kernel
theorem dR_its_6 : decode cX9_its 6 = .ok (.bipush 10, 2) := by decide +kernel
theorem dR_its_8 : decode cX9_its 8 = .ok (.iload_n 1, 1) := by decide +kernel
theorem dR_its_9 : decode cX9_its 9 = .ok (.imul, 1) := by decide +kernel
theorem dR_its_10 : decode cX9_its 10 = .ok (.iadd, 1) := by decide +kernel
theorem dR_its_11 : decode cX9_its 11 = .ok (.iload_n 2, 1) := by decide +kernel
theorem dR_its_12 : decode cX9_its 12 = .ok (.iadd, 1) := by decide +kernel
theorem dR_its_13 : decode cX9_its 13 = .ok (.iaload, 1) := by decide +kernel
theorem dR_its_14 : decode cX9_its 14 = .ok (.ireturn, 1) := by decide +kernel
theorem dR_lays1_0 : decode cX9_lays1 0 = .ok (.aload_n 0, 1) := by decide +kernel
theorem dR_lays1_1 : decode cX9_lays1 1 = .ok (.getfield 7, 3) := by decide +kernel
theorem dR_lays1_4 : decode cX9_lays1 4 = .ok (.bipush 10, 2) := by decide +kernel
theorem dR_lays1_6 : decode cX9_lays1 6 = .ok (.bipush 10, 2) := by decide +kernel
theorem dR_lays1_8 : decode cX9_lays1 8 = .ok (.iload_n 1, 1) := by decide +kernel
theorem dR_lays1_9 : decode cX9_lays1 9 = .ok (.imul, 1) := by decide +kernel
theorem dR_lays1_10 : decode cX9_lays1 10 = .ok (.iadd, 1) := by decide +kernel
theorem dR_lays1_11 : decode cX9_lays1 11 = .ok (.iload_n 2, 1) := by decide +kernel
theorem dR_lays1_12 : decode cX9_lays1 12 = .ok (.iadd, 1) := by decide +kernel
theorem dR_lays1_13 : decode cX9_lays1 13 = .ok (.iload_n 3, 1) := by decide +kernel
theorem dR_lays1_14 : decode cX9_lays1 14 = .ok (.iastore, 1) := by decide +kernel
theorem dR_lays1_15 : decode cX9_lays1 15 = .ok (.return_, 1) := by decide +kernel
theorem dR_addThing_0 : decode cX9_addThing 0 = .ok (.aload_n 0, 1) := by decide +kernel
theorem dR_addThing_1 : decode cX9_addThing 1 = .ok (.getfield 7, 3) := by decide +kernel
theorem dR_addThing_4 : decode cX9_addThing 4 = .ok (.iconst 0, 1) := by decide +kernel
theorem dR_addThing_5 : decode cX9_addThing 5 = .ok (.iaload, 1) := by decide +kernel
theorem dR_addThing_6 : decode cX9_addThing 6 = .ok (.istore_n 2, 1) := by decide +kernel
theorem dR_addThing_7 : decode cX9_addThing 7 = .ok (.iconst 0, 1) := by decide +kernel
theorem dR_addThing_8 : decode cX9_addThing 8 = .ok (.istore_n 3, 1) := by decide +kernel
theorem dR_addThing_9 : decode cX9_addThing 9 = .ok (.iload_n 3, 1) := by decide +kernel
theorem dR_addThing_10 : decode cX9_addThing 10 = .ok (.bipush 10, 2) := by decide +kernel
theorem dR_addThing_12 : decode cX9_addThing 12 = .ok (.if_icmp .ge 16, 3) := by decide +kernel
theorem dR_addThing_15 : decode cX9_addThing 15 = .ok (.aload_n 0, 1) := by decide +kernel
theorem dR_addThing_16 : decode cX9_addThing 16 = .ok (.iload_n 2, 1) := by decide +kernel
theorem dR_addThing_17 : decode cX9_addThing 17 = .ok (.iload_n 3, 1) := by decide +kernel
theorem dR_addThing_18 : decode cX9_addThing 18 = .ok (.iconst 0, 1) := by decide +kernel
theorem dR_addThing_19 : decode cX9_addThing 19 = .ok (.invokevirtual 57, 3) := by decide +kernel
theorem dR_addThing_22 : decode cX9_addThing 22 = .ok (.iinc 3 1, 3) := by decide +kernel
theorem dR_addThing_25 : decode cX9_addThing 25 = .ok (.goto (-16), 3) := by decide +kernel
theorem dR_addThing_28 : decode cX9_addThing 28 = .ok (.aload_n 0, 1) := by decide +kernel
theorem dR_addThing_29 : decode cX9_addThing 29 = .ok (.iload_n 2, 1) := by decide +kernel
theorem dR_addThing_30 : decode cX9_addThing 30 = .ok (.iconst 0, 1) := by decide +kernel
theorem dR_addThing_31 : decode cX9_addThing 31 = .ok (.iload_n 1, 1) := by decide +kernel
theorem dR_addThing_32 : decode cX9_addThing 32 = .ok (.bipush 100, 2) := by decide +kernel
theorem dR_addThing_34 : decode cX9_addThing 34 = .ok (.idiv, 1) := by decide +kernel
theorem dR_addThing_35 : decode cX9_addThing 35 = .ok (.invokevirtual 57, 3) := by decide +kernel
theorem dR_addThing_38 : decode cX9_addThing 38 = .ok (.aload_n 0, 1) := by decide +kernel
theorem dR_addThing_39 : decode cX9_addThing 39 = .ok (.iload_n 2, 1) := by decide +kernel
theorem dR_addThing_40 : decode cX9_addThing 40 = .ok (.iconst 1, 1) := by decide +kernel
theorem dR_addThing_41 : decode cX9_addThing 41 = .ok (.iload_n 1, 1) := by decide +kernel
theorem dR_addThing_42 : decode cX9_addThing 42 = .ok (.bipush 100, 2) := by decide +kernel
theorem dR_addThing_44 : decode cX9_addThing 44 = .ok (.irem, 1) := by decide +kernel
theorem dR_addThing_45 : decode cX9_addThing 45 = .ok (.invokevirtual 57, 3) := by decide +kernel
theorem dR_addThing_48 : decode cX9_addThing 48 = .ok (.aload_n 0, 1) := by decide +kernel
theorem dR_addThing_49 : decode cX9_addThing 49 = .ok (.getfield 7, 3) := by decide +kernel
theorem dR_addThing_52 : decode cX9_addThing 52 = .ok (.iconst 0, 1) := by decide +kernel
theorem dR_addThing_53 : decode cX9_addThing 53 = .ok (.dup2, 1) := by decide +kernel
theorem dR_addThing_54 : decode cX9_addThing 54 = .ok (.iaload, 1) := by decide +kernel
theorem dR_addThing_55 : decode cX9_addThing 55 = .ok (.iconst 1, 1) := by decide +kernel
theorem dR_addThing_56 : decode cX9_addThing 56 = .ok (.iadd, 1) := by decide +kernel
theorem dR_addThing_57 : decode cX9_addThing 57 = .ok (.iastore, 1) := by decide +kernel
theorem dR_addThing_58 : decode cX9_addThing 58 = .ok (.iload_n 2, 1) := by decide +kernel
theorem dR_addThing_59 : decode cX9_addThing 59 = .ok (.ireturn, 1) := by decide +kernel
theorem dR_thing_0 : decode cX9_thing 0 = .ok (.iload_n 1, 1) := by decide +kernel
theorem dR_thing_1 : decode cX9_thing 1 = .ok (.iconst 0, 1) := by decide +kernel
theorem dR_thing_2 : decode cX9_thing 2 = .ok (.sipush 699, 3) := by decide +kernel
theorem dR_thing_5 : decode cX9_thing 5 = .ok (.invokestatic 53, 3) := by decide +kernel
theorem dR_thing_8 : decode cX9_thing 8 = .ok (.ifCond .eq 13, 3) := by decide +kernel
theorem dR_thing_11 : decode cX9_thing 11 = .ok (.iload_n 2, 1) := by decide +kernel
theorem dR_thing_12 : decode cX9_thing 12 = .ok (.iconst 0, 1) := by decide +kernel
theorem dR_thing_13 : decode cX9_thing 13 = .ok (.ldc 61, 2) := by decide +kernel
theorem dR_thing_15 : decode cX9_thing 15 = .ok (.invokestatic 53, 3) := by decide +kernel
theorem dR_thing_18 : decode cX9_thing 18 = .ok (.ifCond .ne 9, 3) := by decide +kernel
theorem dR_thing_21 : decode cX9_thing 21 = .ok (.aload_n 0, 1) := by decide +kernel
theorem dR_thing_22 : decode cX9_thing 22 = .ok (.iconst 1, 1) := by decide +kernel
theorem dR_thing_23 : decode cX9_thing 23 = .ok (.invokevirtual 62, 3) := by decide +kernel
theorem dR_thing_26 : decode cX9_thing 26 = .ok (.ireturn, 1) := by decide +kernel
theorem dR_thing_27 : decode cX9_thing 27 = .ok (.aload_n 0, 1) := by decide +kernel
theorem dR_thing_28 : decode cX9_thing 28 = .ok (.getfield 7, 3) := by decide +kernel
theorem dR_thing_31 : decode cX9_thing 31 = .ok (.iconst 0, 1) := by decide +kernel
theorem dR_thing_32 : decode cX9_thing 32 = .ok (.iaload, 1) := by decide +kernel
theorem dR_thing_33 : decode cX9_thing 33 = .ok (.bipush 12, 2) := by decide +kernel
theorem dR_thing_35 : decode cX9_thing 35 = .ok (.if_icmp .ne 9, 3) := by decide +kernel
theorem dR_thing_38 : decode cX9_thing 38 = .ok (.aload_n 0, 1) := by decide +kernel
theorem dR_thing_39 : decode cX9_thing 39 = .ok (.iconst 4, 1) := by decide +kernel
theorem dR_thing_40 : decode cX9_thing 40 = .ok (.invokevirtual 62, 3) := by decide +kernel
theorem dR_thing_43 : decode cX9_thing 43 = .ok (.ireturn, 1) := by decide +kernel
theorem dR_thing_44 : decode cX9_thing 44 = .ok (.aload_n 0, 1) := by decide +kernel
theorem dR_thing_45 : decode cX9_thing 45 = .ok (.iload_n 1, 1) := by decide +kernel
theorem dR_thing_46 : decode cX9_thing 46 = .ok (.invokevirtual 66, 3) := by decide +kernel
theorem dR_thing_49 : decode cX9_thing 49 = .ok (.istore_n 3, 1) := by decide +kernel
theorem dR_thing_50 : decode cX9_thing 50 = .ok (.aload_n 0, 1) := by decide +kernel
theorem dR_thing_51 : decode cX9_thing 51 = .ok (.iload_n 3, 1) := by decide +kernel
theorem dR_thing_52 : decode cX9_thing 52 = .ok (.iconst 2, 1) := by decide +kernel
theorem dR_thing_53 : decode cX9_thing 53 = .ok (.iload_n 2, 1) := by decide +kernel
theorem dR_thing_54 : decode cX9_thing 54 = .ok (.invokevirtual 57, 3) := by decide +kernel
theorem dR_thing_57 : decode cX9_thing 57 = .ok (.aload_n 0, 1) := by decide +kernel
theorem dR_thing_58 : decode cX9_thing 58 = .ok (.getfield 7, 3) := by decide +kernel
theorem dR_thing_61 : decode cX9_thing 61 = .ok (.iconst 1, 1) := by decide +kernel
theorem dR_thing_62 : decode cX9_thing 62 = .ok (.iaload, 1) := by decide +kernel
theorem dR_thing_63 : decode cX9_thing 63 = .ok (.iconst 4, 1) := by decide +kernel
theorem dR_thing_64 : decode cX9_thing 64 = .ok (.if_icmp .ge 29, 3) := by decide +kernel
theorem dR_thing_67 : decode cX9_thing 67 = .ok (.aload_n 0, 1) := by decide +kernel
theorem dR_thing_68 : decode cX9_thing 68 = .ok (.iload_n 3, 1) := by decide +kernel
theorem dR_thing_69 : decode cX9_thing 69 = .ok (.bipush 6, 2) := by decide +kernel
theorem dR_thing_71 : decode cX9_thing 71 = .ok (.aload_n 0, 1) := by decide +kernel
theorem dR_thing_72 : decode cX9_thing 72 = .ok (.getfield 7, 3) := by decide +kernel
theorem dR_thing_75 : decode cX9_thing 75 = .ok (.iconst 1, 1) := by decide +kernel
theorem dR_thing_76 : decode cX9_thing 76 = .ok (.iaload, 1) := by decide +kernel
theorem dR_thing_77 : decode cX9_thing 77 = .ok (.iadd, 1) := by decide +kernel
theorem dR_thing_78 : decode cX9_thing 78 = .ok (.ldc 69, 2) := by decide +kernel
theorem dR_thing_80 : decode cX9_thing 80 = .ok (.invokevirtual 57, 3) := by decide +kernel
theorem dR_thing_83 : decode cX9_thing 83 = .ok (.aload_n 0, 1) := by decide +kernel
theorem dR_thing_84 : decode cX9_thing 84 = .ok (.getfield 7, 3) := by decide +kernel
theorem dR_thing_87 : decode cX9_thing 87 = .ok (.iconst 1, 1) := by decide +kernel
theorem dR_thing_88 : decode cX9_thing 88 = .ok (.dup2, 1) := by decide +kernel
theorem dR_thing_89 : decode cX9_thing 89 = .ok (.iaload, 1) := by decide +kernel
theorem dR_thing_90 : decode cX9_thing 90 = .ok (.iconst 1, 1) := by decide +kernel
theorem dR_thing_91 : decode cX9_thing 91 = .ok (.iadd, 1) := by decide +kernel
theorem dR_thing_92 : decode cX9_thing 92 = .ok (.iastore, 1) := by decide +kernel
theorem dR_thing_93 : decode cX9_thing 93 = .ok (.iload_n 3, 1) := by decide +kernel
theorem dR_thing_94 : decode cX9_thing 94 = .ok (.ireturn, 1) := by decide +kernel
theorem dR_told1_0 : decode cX9_told1 0 = .ok (.iload_n 2, 1) := by decide +kernel
theorem dR_told1_1 : decode cX9_told1 1 = .ok (.bipush 10, 2) := by decide +kernel
theorem dR_told1_3 : decode cX9_told1 3 = .ok (.if_icmp .ne 11, 3) := by decide +kernel
theorem dR_told1_6 : decode cX9_told1 6 = .ok (.aload_n 0, 1) := by decide +kernel
theorem dR_told1_7 : decode cX9_told1 7 = .ok (.iload_n 1, 1) := by decide +kernel
theorem dR_told1_8 : decode cX9_told1 8 = .ok (.invokevirtual 70, 3) := by decide +kernel
theorem dR_told1_11 : decode cX9_told1 11 = .ok (.goto 9, 3) := by decide +kernel
theorem dR_told1_14 : decode cX9_told1 14 = .ok (.aload_n 0, 1) := by decide +kernel
theorem dR_told1_15 : decode cX9_told1 15 = .ok (.iload_n 1, 1) := by decide +kernel
theorem dR_told1_16 : decode cX9_told1 16 = .ok (.iload_n 2, 1) := by decide +kernel
theorem dR_told1_17 : decode cX9_told1 17 = .ok (.invokevirtual 73, 3) := by decide +kernel
theorem dR_told1_20 : decode cX9_told1 20 = .ok (.ireturn, 1) := by decide +kernel
theorem dR_thingIs_0 : decode cX9_thingIs 0 = .ok (.aload_n 0, 1) := by decide +kernel
theorem dR_thingIs_1 : decode cX9_thingIs 1 = .ok (.iload_n 1, 1) := by decide +kernel
theorem dR_thingIs_2 : decode cX9_thingIs 2 = .ok (.invokevirtual 77, 3) := by decide +kernel
theorem dR_thingIs_5 : decode cX9_thingIs 5 = .ok (.ifCond .eq 22, 3) := by decide +kernel
theorem dR_thingIs_8 : decode cX9_thingIs 8 = .ok (.iload_n 2, 1) := by decide +kernel
theorem dR_thingIs_9 : decode cX9_thingIs 9 = .ok (.iconst 0, 1) := by decide +kernel
theorem dR_thingIs_10 : decode cX9_thingIs 10 = .ok (.bipush 10, 2) := by decide +kernel
theorem dR_thingIs_12 : decode cX9_thingIs 12 = .ok (.invokestatic 53, 3) := by decide +kernel
theorem dR_thingIs_15 : decode cX9_thingIs 15 = .ok (.ifCond .eq 12, 3) := by decide +kernel
theorem dR_thingIs_18 : decode cX9_thingIs 18 = .ok (.aload_n 0, 1) := by decide +kernel
theorem dR_thingIs_19 : decode cX9_thingIs 19 = .ok (.iload_n 1, 1) := by decide +kernel
theorem dR_thingIs_20 : decode cX9_thingIs 20 = .ok (.iload_n 2, 1) := by decide +kernel
theorem dR_thingIs_21 : decode cX9_thingIs 21 = .ok (.invokevirtual 81, 3) := by decide +kernel
theorem dR_thingIs_24 : decode cX9_thingIs 24 = .ok (.goto 8, 3) := by decide +kernel
theorem dR_thingIs_27 : decode cX9_thingIs 27 = .ok (.aload_n 0, 1) := by decide +kernel
theorem dR_thingIs_28 : decode cX9_thingIs 28 = .ok (.iconst 1, 1) := by decide +kernel
theorem dR_thingIs_29 : decode cX9_thingIs 29 = .ok (.invokevirtual 62, 3) := by decide +kernel
theorem dR_thingIs_32 : decode cX9_thingIs 32 = .ok (.ireturn, 1) := by decide +kernel
theorem dR_isUnder_0 : decode cX9_isUnder 0 = .ok (.iload_n 1, 1) := by decide +kernel
theorem dR_isUnder_1 : decode cX9_isUnder 1 = .ok (.ifCond .eq 39, 3) := by decide +kernel
theorem dR_isUnder_4 : decode cX9_isUnder 4 = .ok (.iload_n 0, 1) := by decide +kernel
theorem dR_isUnder_5 : decode cX9_isUnder 5 = .ok (.iload_n 1, 1) := by decide +kernel
theorem dR_isUnder_6 : decode cX9_isUnder 6 = .ok (.if_icmp .eq 34, 3) := by decide +kernel
theorem dR_isUnder_9 : decode cX9_isUnder 9 = .ok (.iload_n 1, 1) := by decide +kernel
theorem dR_isUnder_10 : decode cX9_isUnder 10 = .ok (.iconst 1, 1) := by decide +kernel
theorem dR_isUnder_11 : decode cX9_isUnder 11 = .ok (.if_icmp .ne 8, 3) := by decide +kernel
theorem dR_isUnder_14 : decode cX9_isUnder 14 = .ok (.iload_n 0, 1) := by decide +kernel
theorem dR_isUnder_15 : decode cX9_isUnder 15 = .ok (.iconst 4, 1) := by decide +kernel
theorem dR_isUnder_16 : decode cX9_isUnder 16 = .ok (.if_icmp .eq 24, 3) := by decide +kernel
theorem dR_isUnder_19 : decode cX9_isUnder 19 = .ok (.iload_n 1, 1) := by decide +kernel
theorem dR_isUnder_20 : decode cX9_isUnder 20 = .ok (.iconst 2, 1) := by decide +kernel
theorem dR_isUnder_21 : decode cX9_isUnder 21 = .ok (.if_icmp .ne 8, 3) := by decide +kernel
theorem dR_isUnder_24 : decode cX9_isUnder 24 = .ok (.iload_n 0, 1) := by decide +kernel
theorem dR_isUnder_25 : decode cX9_isUnder 25 = .ok (.iconst 5, 1) := by decide +kernel
theorem dR_isUnder_26 : decode cX9_isUnder 26 = .ok (.if_icmp .eq 14, 3) := by decide +kernel
theorem dR_isUnder_29 : decode cX9_isUnder 29 = .ok (.iload_n 1, 1) := by decide +kernel
theorem dR_isUnder_30 : decode cX9_isUnder 30 = .ok (.iconst 3, 1) := by decide +kernel
theorem dR_isUnder_31 : decode cX9_isUnder 31 = .ok (.if_icmp .ne 13, 3) := by decide +kernel
theorem dR_isUnder_34 : decode cX9_isUnder 34 = .ok (.iload_n 0, 1) := by decide +kernel
theorem dR_isUnder_35 : decode cX9_isUnder 35 = .ok (.bipush 6, 2) := by decide +kernel
theorem dR_isUnder_37 : decode cX9_isUnder 37 = .ok (.if_icmp .ne 7, 3) := by decide +kernel
theorem dR_isUnder_40 : decode cX9_isUnder 40 = .ok (.iconst 1, 1) := by decide +kernel
theorem dR_isUnder_41 : decode cX9_isUnder 41 = .ok (.goto 4, 3) := by decide +kernel
theorem dR_isUnder_44 : decode cX9_isUnder 44 = .ok (.iconst 0, 1) := by decide +kernel
theorem dR_isUnder_45 : decode cX9_isUnder 45 = .ok (.ireturn, 1) := by decide +kernel
theorem dR_as_0 : decode cX9_as 0 = .ok (.aload_n 0, 1) := by decide +kernel
theorem dR_as_1 : decode cX9_as 1 = .ok (.iload_n 1, 1) := by decide +kernel
theorem dR_as_2 : decode cX9_as 2 = .ok (.invokevirtual 77, 3) := by decide +kernel
theorem dR_as_5 : decode cX9_as 5 = .ok (.ifCond .eq 13, 3) := by decide +kernel
theorem dR_as_8 : decode cX9_as 8 = .ok (.iload_n 2, 1) := by decide +kernel
theorem dR_as_9 : decode cX9_as 9 = .ok (.iconst 0, 1) := by decide +kernel
theorem dR_as_10 : decode cX9_as 10 = .ok (.bipush 6, 2) := by decide +kernel
theorem dR_as_12 : decode cX9_as 12 = .ok (.invokestatic 53, 3) := by decide +kernel
theorem dR_as_15 : decode cX9_as 15 = .ok (.ifCond .ne 9, 3) := by decide +kernel
theorem dR_as_18 : decode cX9_as 18 = .ok (.aload_n 0, 1) := by decide +kernel
theorem dR_as_19 : decode cX9_as 19 = .ok (.iconst 1, 1) := by decide +kernel
theorem dR_as_20 : decode cX9_as 20 = .ok (.invokevirtual 62, 3) := by decide +kernel
theorem dR_as_23 : decode cX9_as 23 = .ok (.ireturn, 1) := by decide +kernel
theorem dR_as_24 : decode cX9_as 24 = .ok (.aload_n 0, 1) := by decide +kernel
theorem dR_as_25 : decode cX9_as 25 = .ok (.iload_n 1, 1) := by decide +kernel
theorem dR_as_26 : decode cX9_as 26 = .ok (.iconst 0, 1) := by decide +kernel
theorem dR_as_27 : decode cX9_as 27 = .ok (.invokevirtual 73, 3) := by decide +kernel
theorem dR_as_30 : decode cX9_as 30 = .ok (.iload_n 2, 1) := by decide +kernel
theorem dR_as_31 : decode cX9_as 31 = .ok (.invokestatic 84, 3) := by decide +kernel
theorem dR_as_34 : decode cX9_as 34 = .ok (.ifCond .eq 12, 3) := by decide +kernel
theorem dR_as_37 : decode cX9_as 37 = .ok (.aload_n 0, 1) := by decide +kernel
theorem dR_as_38 : decode cX9_as 38 = .ok (.iload_n 1, 1) := by decide +kernel
theorem dR_as_39 : decode cX9_as 39 = .ok (.iconst 2, 1) := by decide +kernel
theorem dR_as_40 : decode cX9_as 40 = .ok (.invokevirtual 73, 3) := by decide +kernel
theorem dR_as_43 : decode cX9_as 43 = .ok (.goto 8, 3) := by decide +kernel
theorem dR_as_46 : decode cX9_as 46 = .ok (.aload_n 0, 1) := by decide +kernel
theorem dR_as_47 : decode cX9_as 47 = .ok (.iconst 5, 1) := by decide +kernel
theorem dR_as_48 : decode cX9_as 48 = .ok (.invokevirtual 62, 3) := by decide +kernel
theorem dR_as_51 : decode cX9_as 51 = .ok (.ireturn, 1) := by decide +kernel
theorem dR_set_0 : decode cX9_set 0 = .ok (.aload_n 0, 1) := by decide +kernel
theorem dR_set_1 : decode cX9_set 1 = .ok (.iload_n 1, 1) := by decide +kernel
theorem dR_set_2 : decode cX9_set 2 = .ok (.invokevirtual 77, 3) := by decide +kernel
theorem dR_set_5 : decode cX9_set 5 = .ok (.ifCond .eq 17, 3) := by decide +kernel
theorem dR_set_8 : decode cX9_set 8 = .ok (.iload_n 2, 1) := by decide +kernel
theorem dR_set_9 : decode cX9_set 9 = .ok (.iconst 0, 1) := by decide +kernel
theorem dR_set_10 : decode cX9_set 10 = .ok (.iconst 5, 1) := by decide +kernel
theorem dR_set_11 : decode cX9_set 11 = .ok (.invokestatic 53, 3) := by decide +kernel
theorem dR_set_14 : decode cX9_set 14 = .ok (.ifCond .eq 8, 3) := by decide +kernel
theorem dR_set_17 : decode cX9_set 17 = .ok (.iload_n 2, 1) := by decide +kernel
theorem dR_set_18 : decode cX9_set 18 = .ok (.iconst 2, 1) := by decide +kernel
theorem dR_set_19 : decode cX9_set 19 = .ok (.if_icmp .ne 9, 3) := by decide +kernel
theorem dR_set_22 : decode cX9_set 22 = .ok (.aload_n 0, 1) := by decide +kernel
theorem dR_set_23 : decode cX9_set 23 = .ok (.iconst 1, 1) := by decide +kernel
theorem dR_set_24 : decode cX9_set 24 = .ok (.invokevirtual 62, 3) := by decide +kernel
theorem dR_set_27 : decode cX9_set 27 = .ok (.ireturn, 1) := by decide +kernel
theorem dR_set_28 : decode cX9_set 28 = .ok (.iload_n 3, 1) := by decide +kernel
theorem dR_set_29 : decode cX9_set 29 = .ok (.iconst 0, 1) := by decide +kernel
theorem dR_set_30 : decode cX9_set 30 = .ok (.iload_n 2, 1) := by decide +kernel
theorem dR_set_31 : decode cX9_set 31 = .ok (.ifCond .ne 8, 3) := by decide +kernel
theorem dR_set_34 : decode cX9_set 34 = .ok (.bipush 6, 2) := by decide +kernel
theorem dR_set_36 : decode cX9_set 36 = .ok (.goto 19, 3) := by decide +kernel
theorem dR_set_39 : decode cX9_set 39 = .ok (.iload_n 2, 1) := by decide +kernel
theorem dR_set_40 : decode cX9_set 40 = .ok (.iconst 1, 1) := by decide +kernel
theorem dR_set_41 : decode cX9_set 41 = .ok (.if_icmp .ne 8, 3) := by decide +kernel
theorem dR_set_44 : decode cX9_set 44 = .ok (.bipush 99, 2) := by decide +kernel
theorem dR_set_46 : decode cX9_set 46 = .ok (.goto 9, 3) := by decide +kernel
theorem dR_set_49 : decode cX9_set 49 = .ok (.aload_n 0, 1) := by decide +kernel
theorem dR_set_50 : decode cX9_set 50 = .ok (.iload_n 1, 1) := by decide +kernel
theorem dR_set_51 : decode cX9_set 51 = .ok (.iconst 2, 1) := by decide +kernel
theorem dR_set_52 : decode cX9_set 52 = .ok (.invokevirtual 73, 3) := by decide +kernel
theorem dR_set_55 : decode cX9_set 55 = .ok (.invokestatic 53, 3) := by decide +kernel
theorem dR_set_58 : decode cX9_set 58 = .ok (.ifCond .ne 9, 3) := by decide +kernel
theorem dR_set_61 : decode cX9_set 61 = .ok (.aload_n 0, 1) := by decide +kernel
theorem dR_set_62 : decode cX9_set 62 = .ok (.iconst 1, 1) := by decide +kernel
theorem dR_set_63 : decode cX9_set 63 = .ok (.invokevirtual 62, 3) := by decide +kernel
theorem dR_set_66 : decode cX9_set 66 = .ok (.ireturn, 1) := by decide +kernel
theorem dR_set_67 : decode cX9_set 67 = .ok (.aload_n 0, 1) := by decide +kernel
theorem dR_set_68 : decode cX9_set 68 = .ok (.iload_n 1, 1) := by decide +kernel
theorem dR_set_69 : decode cX9_set 69 = .ok (.iload_n 2, 1) := by decide +kernel
theorem dR_set_70 : decode cX9_set 70 = .ok (.invokevirtual 73, 3) := by decide +kernel
theorem dR_set_73 : decode cX9_set 73 = .ok (.istore 4, 2) := by decide +kernel
theorem dR_set_75 : decode cX9_set 75 = .ok (.aload_n 0, 1) := by decide +kernel
theorem dR_set_76 : decode cX9_set 76 = .ok (.iload_n 1, 1) := by decide +kernel
theorem dR_set_77 : decode cX9_set 77 = .ok (.iload_n 2, 1) := by decide +kernel
theorem dR_set_78 : decode cX9_set 78 = .ok (.iload_n 3, 1) := by decide +kernel
theorem dR_set_79 : decode cX9_set 79 = .ok (.invokevirtual 57, 3) := by decide +kernel
theorem dR_set_82 : decode cX9_set 82 = .ok (.iload 4, 2) := by decide +kernel
theorem dR_set_84 : decode cX9_set 84 = .ok (.ireturn, 1) := by decide +kernel
theorem dR_moves_0 : decode cX9_moves 0 = .ok (.aload_n 0, 1) := by decide +kernel
theorem dR_moves_1 : decode cX9_moves 1 = .ok (.iload_n 1, 1) := by decide +kernel
theorem dR_moves_2 : decode cX9_moves 2 = .ok (.iconst 2, 1) := by decide +kernel
theorem dR_moves_3 : decode cX9_moves 3 = .ok (.invokevirtual 73, 3) := by decide +kernel
theorem dR_moves_6 : decode cX9_moves 6 = .ok (.i2l, 1) := by decide +kernel
theorem dR_moves_7 : decode cX9_moves 7 = .ok (.iload_n 3, 1) := by decide +kernel
theorem dR_moves_8 : decode cX9_moves 8 = .ok (.i2l, 1) := by decide +kernel
theorem dR_moves_9 : decode cX9_moves 9 = .ok (.lmul, 1) := by decide +kernel
theorem dR_moves_10 : decode cX9_moves 10 = .ok (.ldc2_w 88, 3) := by decide +kernel
theorem dR_moves_13 : decode cX9_moves 13 = .ok (.ldiv, 1) := by decide +kernel
theorem dR_moves_14 : decode cX9_moves 14 = .ok (.lstore 4, 2) := by decide +kernel
theorem dR_moves_16 : decode cX9_moves 16 = .ok (.aload_n 0, 1) := by decide +kernel
theorem dR_moves_17 : decode cX9_moves 17 = .ok (.iload_n 2, 1) := by decide +kernel
theorem dR_moves_18 : decode cX9_moves 18 = .ok (.iconst 2, 1) := by decide +kernel
theorem dR_moves_19 : decode cX9_moves 19 = .ok (.invokevirtual 73, 3) := by decide +kernel
theorem dR_moves_22 : decode cX9_moves 22 = .ok (.i2l, 1) := by decide +kernel
theorem dR_moves_23 : decode cX9_moves 23 = .ok (.lstore 6, 2) := by decide +kernel
theorem dR_moves_25 : decode cX9_moves 25 = .ok (.bipush 6, 2) := by decide +kernel
theorem dR_moves_27 : decode cX9_moves 27 = .ok (.istore 8, 2) := by decide +kernel
theorem dR_moves_29 : decode cX9_moves 29 = .ok (.iload 8, 2) := by decide +kernel
theorem dR_moves_31 : decode cX9_moves 31 = .ok (.bipush 10, 2) := by decide +kernel
theorem dR_moves_33 : decode cX9_moves 33 = .ok (.if_icmp .ge 64, 3) := by decide +kernel
theorem dR_moves_36 : decode cX9_moves 36 = .ok (.lload 4, 2) := by decide +kernel
theorem dR_moves_38 : decode cX9_moves 38 = .ok (.aload_n 0, 1) := by decide +kernel
theorem dR_moves_39 : decode cX9_moves 39 = .ok (.iload_n 1, 1) := by decide +kernel
theorem dR_moves_40 : decode cX9_moves 40 = .ok (.iload 8, 2) := by decide +kernel
theorem dR_moves_42 : decode cX9_moves 42 = .ok (.invokevirtual 73, 3) := by decide +kernel
theorem dR_moves_45 : decode cX9_moves 45 = .ok (.i2l, 1) := by decide +kernel
theorem dR_moves_46 : decode cX9_moves 46 = .ok (.lmul, 1) := by decide +kernel
theorem dR_moves_47 : decode cX9_moves 47 = .ok (.lload 6, 2) := by decide +kernel
theorem dR_moves_49 : decode cX9_moves 49 = .ok (.aload_n 0, 1) := by decide +kernel
theorem dR_moves_50 : decode cX9_moves 50 = .ok (.iload_n 2, 1) := by decide +kernel
theorem dR_moves_51 : decode cX9_moves 51 = .ok (.iload 8, 2) := by decide +kernel
theorem dR_moves_53 : decode cX9_moves 53 = .ok (.invokevirtual 73, 3) := by decide +kernel
theorem dR_moves_56 : decode cX9_moves 56 = .ok (.i2l, 1) := by decide +kernel
theorem dR_moves_57 : decode cX9_moves 57 = .ok (.lmul, 1) := by decide +kernel
theorem dR_moves_58 : decode cX9_moves 58 = .ok (.ladd, 1) := by decide +kernel
theorem dR_moves_59 : decode cX9_moves 59 = .ok (.lstore 9, 2) := by decide +kernel
theorem dR_moves_61 : decode cX9_moves 61 = .ok (.aload_n 0, 1) := by decide +kernel
theorem dR_moves_62 : decode cX9_moves 62 = .ok (.iload_n 2, 1) := by decide +kernel
theorem dR_moves_63 : decode cX9_moves 63 = .ok (.iload 8, 2) := by decide +kernel
theorem dR_moves_65 : decode cX9_moves 65 = .ok (.lload 4, 2) := by decide +kernel
theorem dR_moves_67 : decode cX9_moves 67 = .ok (.lload 6, 2) := by decide +kernel
theorem dR_moves_69 : decode cX9_moves 69 = .ok (.ladd, 1) := by decide +kernel
theorem dR_moves_70 : decode cX9_moves 70 = .ok (.lconst 0, 1) := by decide +kernel
theorem dR_moves_71 : decode cX9_moves 71 = .ok (.lcmp, 1) := by decide +kernel
theorem dR_moves_72 : decode cX9_moves 72 = .ok (.ifCond .ne 7, 3) := by decide +kernel
theorem dR_moves_75 : decode cX9_moves 75 = .ok (.iconst 0, 1) := by decide +kernel
theorem dR_moves_76 : decode cX9_moves 76 = .ok (.goto 12, 3) := by decide +kernel
theorem dR_moves_79 : decode cX9_moves 79 = .ok (.lload 9, 2) := by decide +kernel
theorem dR_moves_81 : decode cX9_moves 81 = .ok (.lload 4, 2) := by decide +kernel
theorem dR_moves_83 : decode cX9_moves 83 = .ok (.lload 6, 2) := by decide +kernel
theorem dR_moves_85 : decode cX9_moves 85 = .ok (.ladd, 1) := by decide +kernel
theorem dR_moves_86 : decode cX9_moves 86 = .ok (.ldiv, 1) := by decide +kernel
theorem dR_moves_87 : decode cX9_moves 87 = .ok (.l2i, 1) := by decide +kernel
theorem dR_moves_88 : decode cX9_moves 88 = .ok (.invokevirtual 57, 3) := by decide +kernel
theorem dR_moves_91 : decode cX9_moves 91 = .ok (.iinc 8 1, 3) := by decide +kernel
theorem dR_moves_94 : decode cX9_moves 94 = .ok (.goto (-65), 3) := by decide +kernel
theorem dR_moves_97 : decode cX9_moves 97 = .ok (.lload 4, 2) := by decide +kernel
theorem dR_moves_99 : decode cX9_moves 99 = .ok (.lload 6, 2) := by decide +kernel
theorem dR_moves_101 : decode cX9_moves 101 = .ok (.ladd, 1) := by decide +kernel
theorem dR_moves_102 : decode cX9_moves 102 = .ok (.ldc2_w 90, 3) := by decide +kernel
theorem dR_moves_105 : decode cX9_moves 105 = .ok (.lcmp, 1) := by decide +kernel
theorem dR_moves_106 : decode cX9_moves 106 = .ok (.ifCond .le 9, 3) := by decide +kernel
theorem dR_moves_109 : decode cX9_moves 109 = .ok (.ldc2_w 90, 3) := by decide +kernel
theorem dR_moves_112 : decode cX9_moves 112 = .ok (.goto 8, 3) := by decide +kernel
theorem dR_moves_115 : decode cX9_moves 115 = .ok (.lload 4, 2) := by decide +kernel
theorem dR_moves_117 : decode cX9_moves 117 = .ok (.lload 6, 2) := by decide +kernel
theorem dR_moves_119 : decode cX9_moves 119 = .ok (.ladd, 1) := by decide +kernel
theorem dR_moves_120 : decode cX9_moves 120 = .ok (.l2i, 1) := by decide +kernel
theorem dR_moves_121 : decode cX9_moves 121 = .ok (.istore 8, 2) := by decide +kernel
theorem dR_moves_123 : decode cX9_moves 123 = .ok (.aload_n 0, 1) := by decide +kernel
theorem dR_moves_124 : decode cX9_moves 124 = .ok (.iload_n 2, 1) := by decide +kernel
theorem dR_moves_125 : decode cX9_moves 125 = .ok (.iconst 2, 1) := by decide +kernel
theorem dR_moves_126 : decode cX9_moves 126 = .ok (.iload 8, 2) := by decide +kernel
theorem dR_moves_128 : decode cX9_moves 128 = .ok (.invokevirtual 57, 3) := by decide +kernel
theorem dR_moves_131 : decode cX9_moves 131 = .ok (.iconst 3, 1) := by decide +kernel
theorem dR_moves_132 : decode cX9_moves 132 = .ok (.istore 9, 2) := by decide +kernel
theorem dR_moves_134 : decode cX9_moves 134 = .ok (.iload 9, 2) := by decide +kernel
theorem dR_moves_136 : decode cX9_moves 136 = .ok (.iconst 5, 1) := by decide +kernel
theorem dR_moves_137 : decode cX9_moves 137 = .ok (.if_icmp .gt 67, 3) := by decide +kernel
theorem dR_moves_140 : decode cX9_moves 140 = .ok (.aload_n 0, 1) := by decide +kernel
theorem dR_moves_141 : decode cX9_moves 141 = .ok (.iload_n 1, 1) := by decide +kernel
theorem dR_moves_142 : decode cX9_moves 142 = .ok (.iload 9, 2) := by decide +kernel
theorem dR_moves_144 : decode cX9_moves 144 = .ok (.invokevirtual 73, 3) := by decide +kernel
theorem dR_moves_147 : decode cX9_moves 147 = .ok (.i2l, 1) := by decide +kernel
theorem dR_moves_148 : decode cX9_moves 148 = .ok (.iload_n 3, 1) := by decide +kernel
theorem dR_moves_149 : decode cX9_moves 149 = .ok (.i2l, 1) := by decide +kernel
theorem dR_moves_150 : decode cX9_moves 150 = .ok (.lmul, 1) := by decide +kernel
theorem dR_moves_151 : decode cX9_moves 151 = .ok (.ldc2_w 88, 3) := by decide +kernel
theorem dR_moves_154 : decode cX9_moves 154 = .ok (.ldiv, 1) := by decide +kernel
theorem dR_moves_155 : decode cX9_moves 155 = .ok (.l2i, 1) := by decide +kernel
theorem dR_moves_156 : decode cX9_moves 156 = .ok (.istore 10, 2) := by decide +kernel
theorem dR_moves_158 : decode cX9_moves 158 = .ok (.aload_n 0, 1) := by decide +kernel
theorem dR_moves_159 : decode cX9_moves 159 = .ok (.iload_n 1, 1) := by decide +kernel
theorem dR_moves_160 : decode cX9_moves 160 = .ok (.iload 9, 2) := by decide +kernel
theorem dR_moves_162 : decode cX9_moves 162 = .ok (.aload_n 0, 1) := by decide +kernel
theorem dR_moves_163 : decode cX9_moves 163 = .ok (.iload_n 1, 1) := by decide +kernel
theorem dR_moves_164 : decode cX9_moves 164 = .ok (.iload 9, 2) := by decide +kernel
theorem dR_moves_166 : decode cX9_moves 166 = .ok (.invokevirtual 73, 3) := by decide +kernel
theorem dR_moves_169 : decode cX9_moves 169 = .ok (.iload 10, 2) := by decide +kernel
theorem dR_moves_171 : decode cX9_moves 171 = .ok (.isub, 1) := by decide +kernel
theorem dR_moves_172 : decode cX9_moves 172 = .ok (.invokevirtual 57, 3) := by decide +kernel
theorem dR_moves_175 : decode cX9_moves 175 = .ok (.aload_n 0, 1) := by decide +kernel
theorem dR_moves_176 : decode cX9_moves 176 = .ok (.iload_n 2, 1) := by decide +kernel
theorem dR_moves_177 : decode cX9_moves 177 = .ok (.iload 9, 2) := by decide +kernel
theorem dR_moves_179 : decode cX9_moves 179 = .ok (.aload_n 0, 1) := by decide +kernel
theorem dR_moves_180 : decode cX9_moves 180 = .ok (.iload_n 2, 1) := by decide +kernel
theorem dR_moves_181 : decode cX9_moves 181 = .ok (.iload 9, 2) := by decide +kernel
theorem dR_moves_183 : decode cX9_moves 183 = .ok (.invokevirtual 73, 3) := by decide +kernel
theorem dR_moves_186 : decode cX9_moves 186 = .ok (.iload 10, 2) := by decide +kernel
theorem dR_moves_188 : decode cX9_moves 188 = .ok (.iadd, 1) := by decide +kernel
theorem dR_moves_189 : decode cX9_moves 189 = .ok (.iconst 0, 1) := by decide +kernel
theorem dR_moves_190 : decode cX9_moves 190 = .ok (.iload 8, 2) := by decide +kernel
theorem dR_moves_192 : decode cX9_moves 192 = .ok (.invokestatic 92, 3) := by decide +kernel
theorem dR_moves_195 : decode cX9_moves 195 = .ok (.invokevirtual 57, 3) := by decide +kernel
theorem dR_moves_198 : decode cX9_moves 198 = .ok (.iinc 9 1, 3) := by decide +kernel
theorem dR_moves_201 : decode cX9_moves 201 = .ok (.goto (-67), 3) := by decide +kernel
theorem dR_moves_204 : decode cX9_moves 204 = .ok (.aload_n 0, 1) := by decide +kernel
theorem dR_moves_205 : decode cX9_moves 205 = .ok (.iload_n 1, 1) := by decide +kernel
theorem dR_moves_206 : decode cX9_moves 206 = .ok (.iconst 2, 1) := by decide +kernel
theorem dR_moves_207 : decode cX9_moves 207 = .ok (.aload_n 0, 1) := by decide +kernel
theorem dR_moves_208 : decode cX9_moves 208 = .ok (.iload_n 1, 1) := by decide +kernel
theorem dR_moves_209 : decode cX9_moves 209 = .ok (.iconst 2, 1) := by decide +kernel
theorem dR_moves_210 : decode cX9_moves 210 = .ok (.invokevirtual 73, 3) := by decide +kernel
theorem dR_moves_213 : decode cX9_moves 213 = .ok (.lload 4, 2) := by decide +kernel
theorem dR_moves_215 : decode cX9_moves 215 = .ok (.l2i, 1) := by decide +kernel
theorem dR_moves_216 : decode cX9_moves 216 = .ok (.isub, 1) := by decide +kernel
theorem dR_moves_217 : decode cX9_moves 217 = .ok (.invokevirtual 57, 3) := by decide +kernel
theorem dR_moves_220 : decode cX9_moves 220 = .ok (.return_, 1) := by decide +kernel
theorem dR_melt_0 : decode cX9_melt 0 = .ok (.aload_n 0, 1) := by decide +kernel
theorem dR_melt_1 : decode cX9_melt 1 = .ok (.iload_n 1, 1) := by decide +kernel
theorem dR_melt_2 : decode cX9_melt 2 = .ok (.invokevirtual 77, 3) := by decide +kernel
theorem dR_melt_5 : decode cX9_melt 5 = .ok (.ifCond .eq 13, 3) := by decide +kernel
theorem dR_melt_8 : decode cX9_melt 8 = .ok (.iload_n 2, 1) := by decide +kernel
theorem dR_melt_9 : decode cX9_melt 9 = .ok (.iconst 1, 1) := by decide +kernel
theorem dR_melt_10 : decode cX9_melt 10 = .ok (.bipush 8, 2) := by decide +kernel
theorem dR_melt_12 : decode cX9_melt 12 = .ok (.invokestatic 53, 3) := by decide +kernel
theorem dR_melt_15 : decode cX9_melt 15 = .ok (.ifCond .ne 9, 3) := by decide +kernel
theorem dR_melt_18 : decode cX9_melt 18 = .ok (.aload_n 0, 1) := by decide +kernel
theorem dR_melt_19 : decode cX9_melt 19 = .ok (.iconst 1, 1) := by decide +kernel
theorem dR_melt_20 : decode cX9_melt 20 = .ok (.invokevirtual 62, 3) := by decide +kernel
theorem dR_melt_23 : decode cX9_melt 23 = .ok (.ireturn, 1) := by decide +kernel
theorem dR_melt_24 : decode cX9_melt 24 = .ok (.aload_n 0, 1) := by decide +kernel
theorem dR_melt_25 : decode cX9_melt 25 = .ok (.iload_n 1, 1) := by decide +kernel
theorem dR_melt_26 : decode cX9_melt 26 = .ok (.iconst 2, 1) := by decide +kernel
theorem dR_melt_27 : decode cX9_melt 27 = .ok (.invokevirtual 73, 3) := by decide +kernel
theorem dR_melt_30 : decode cX9_melt 30 = .ok (.ifCond .ne 9, 3) := by decide +kernel
theorem dR_melt_33 : decode cX9_melt 33 = .ok (.aload_n 0, 1) := by decide +kernel
theorem dR_melt_34 : decode cX9_melt 34 = .ok (.iconst 3, 1) := by decide +kernel
theorem dR_melt_35 : decode cX9_melt 35 = .ok (.invokevirtual 62, 3) := by decide +kernel
theorem dR_melt_38 : decode cX9_melt 38 = .ok (.ireturn, 1) := by decide +kernel
theorem dR_melt_39 : decode cX9_melt 39 = .ok (.aload_n 0, 1) := by decide +kernel
theorem dR_melt_40 : decode cX9_melt 40 = .ok (.iload_n 1, 1) := by decide +kernel
theorem dR_melt_41 : decode cX9_melt 41 = .ok (.bipush 12, 2) := by decide +kernel
theorem dR_melt_43 : decode cX9_melt 43 = .ok (.iload_n 2, 1) := by decide +kernel
theorem dR_melt_44 : decode cX9_melt 44 = .ok (.invokevirtual 96, 3) := by decide +kernel
theorem dR_melt_47 : decode cX9_melt 47 = .ok (.aload_n 0, 1) := by decide +kernel
theorem dR_melt_48 : decode cX9_melt 48 = .ok (.bipush 12, 2) := by decide +kernel
theorem dR_melt_50 : decode cX9_melt 50 = .ok (.iconst 2, 1) := by decide +kernel
theorem dR_melt_51 : decode cX9_melt 51 = .ok (.invokevirtual 73, 3) := by decide +kernel
theorem dR_melt_54 : decode cX9_melt 54 = .ok (.ireturn, 1) := by decide +kernel
theorem dR_crucible_0 : decode cX9_crucible 0 = .ok (.iload_n 1, 1) := by decide +kernel
theorem dR_crucible_1 : decode cX9_crucible 1 = .ok (.iconst 2, 1) := by decide +kernel
theorem dR_crucible_2 : decode cX9_crucible 2 = .ok (.bipush 9, 2) := by decide +kernel
theorem dR_crucible_4 : decode cX9_crucible 4 = .ok (.invokestatic 53, 3) := by decide +kernel
theorem dR_crucible_7 : decode cX9_crucible 7 = .ok (.ifCond .eq 13, 3) := by decide +kernel
theorem dR_crucible_10 : decode cX9_crucible 10 = .ok (.aload_n 0, 1) := by decide +kernel
theorem dR_crucible_11 : decode cX9_crucible 11 = .ok (.bipush 12, 2) := by decide +kernel
theorem dR_crucible_13 : decode cX9_crucible 13 = .ok (.iload_n 1, 1) := by decide +kernel
theorem dR_crucible_14 : decode cX9_crucible 14 = .ok (.invokevirtual 73, 3) := by decide +kernel
theorem dR_crucible_17 : decode cX9_crucible 17 = .ok (.goto 8, 3) := by decide +kernel
theorem dR_crucible_20 : decode cX9_crucible 20 = .ok (.aload_n 0, 1) := by decide +kernel
theorem dR_crucible_21 : decode cX9_crucible 21 = .ok (.iconst 1, 1) := by decide +kernel
theorem dR_crucible_22 : decode cX9_crucible 22 = .ok (.invokevirtual 62, 3) := by decide +kernel
theorem dR_crucible_25 : decode cX9_crucible 25 = .ok (.ireturn, 1) := by decide +kernel
theorem dR_partOf_0 : decode cX9_partOf 0 = .ok (.iload_n 0, 1) := by decide +kernel
theorem dR_partOf_1 : decode cX9_partOf 1 = .ok (.i2l, 1) := by decide +kernel
theorem dR_partOf_2 : decode cX9_partOf 2 = .ok (.iload_n 1, 1) := by decide +kernel
theorem dR_partOf_3 : decode cX9_partOf 3 = .ok (.i2l, 1) := by decide +kernel
theorem dR_partOf_4 : decode cX9_partOf 4 = .ok (.lmul, 1) := by decide +kernel
theorem dR_partOf_5 : decode cX9_partOf 5 = .ok (.iload_n 2, 1) := by decide +kernel
theorem dR_partOf_6 : decode cX9_partOf 6 = .ok (.i2l, 1) := by decide +kernel
theorem dR_partOf_7 : decode cX9_partOf 7 = .ok (.ldiv, 1) := by decide +kernel
theorem dR_partOf_8 : decode cX9_partOf 8 = .ok (.l2i, 1) := by decide +kernel
theorem dR_partOf_9 : decode cX9_partOf 9 = .ok (.ireturn, 1) := by decide +kernel
theorem dR_cast_0 : decode cX9_cast 0 = .ok (.iload_n 1, 1) := by decide +kernel
theorem dR_cast_1 : decode cX9_cast 1 = .ok (.iconst 0, 1) := by decide +kernel
theorem dR_cast_2 : decode cX9_cast 2 = .ok (.sipush 699, 3) := by decide +kernel
theorem dR_cast_5 : decode cX9_cast 5 = .ok (.invokestatic 53, 3) := by decide +kernel
theorem dR_cast_8 : decode cX9_cast 8 = .ok (.ifCond .eq 36, 3) := by decide +kernel
theorem dR_cast_11 : decode cX9_cast 11 = .ok (.iload_n 2, 1) := by decide +kernel
theorem dR_cast_12 : decode cX9_cast 12 = .ok (.iconst 0, 1) := by decide +kernel
theorem dR_cast_13 : decode cX9_cast 13 = .ok (.sipush 9999, 3) := by decide +kernel
theorem dR_cast_16 : decode cX9_cast 16 = .ok (.invokestatic 53, 3) := by decide +kernel
theorem dR_cast_19 : decode cX9_cast 19 = .ok (.ifCond .eq 25, 3) := by decide +kernel
theorem dR_cast_22 : decode cX9_cast 22 = .ok (.iload_n 3, 1) := by decide +kernel
theorem dR_cast_23 : decode cX9_cast 23 = .ok (.iconst 0, 1) := by decide +kernel
theorem dR_cast_24 : decode cX9_cast 24 = .ok (.sipush 990, 3) := by decide +kernel
theorem dR_cast_27 : decode cX9_cast 27 = .ok (.invokestatic 53, 3) := by decide +kernel
theorem dR_cast_30 : decode cX9_cast 30 = .ok (.ifCond .eq 14, 3) := by decide +kernel
theorem dR_cast_33 : decode cX9_cast 33 = .ok (.iload_n 3, 1) := by decide +kernel
theorem dR_cast_34 : decode cX9_cast 34 = .ok (.bipush 10, 2) := by decide +kernel
theorem dR_cast_36 : decode cX9_cast 36 = .ok (.irem, 1) := by decide +kernel
theorem dR_cast_37 : decode cX9_cast 37 = .ok (.ifCond .ne 7, 3) := by decide +kernel
theorem dR_cast_40 : decode cX9_cast 40 = .ok (.iconst 1, 1) := by decide +kernel
theorem dR_cast_41 : decode cX9_cast 41 = .ok (.goto 4, 3) := by decide +kernel
theorem dR_cast_44 : decode cX9_cast 44 = .ok (.iconst 0, 1) := by decide +kernel
theorem dR_cast_45 : decode cX9_cast 45 = .ok (.istore 4, 2) := by decide +kernel
theorem dR_cast_47 : decode cX9_cast 47 = .ok (.iload 4, 2) := by decide +kernel
theorem dR_cast_49 : decode cX9_cast 49 = .ok (.ifCond .ne 9, 3) := by decide +kernel
theorem dR_cast_52 : decode cX9_cast 52 = .ok (.aload_n 0, 1) := by decide +kernel
theorem dR_cast_53 : decode cX9_cast 53 = .ok (.iconst 1, 1) := by decide +kernel
theorem dR_cast_54 : decode cX9_cast 54 = .ok (.invokevirtual 62, 3) := by decide +kernel
theorem dR_cast_57 : decode cX9_cast 57 = .ok (.ireturn, 1) := by decide +kernel
theorem dR_cast_58 : decode cX9_cast 58 = .ok (.iload_n 3, 1) := by decide +kernel
theorem dR_cast_59 : decode cX9_cast 59 = .ok (.bipush 100, 2) := by decide +kernel
theorem dR_cast_61 : decode cX9_cast 61 = .ok (.idiv, 1) := by decide +kernel
theorem dR_cast_62 : decode cX9_cast 62 = .ok (.istore 5, 2) := by decide +kernel
theorem dR_cast_64 : decode cX9_cast 64 = .ok (.iload_n 3, 1) := by decide +kernel
theorem dR_cast_65 : decode cX9_cast 65 = .ok (.bipush 10, 2) := by decide +kernel
theorem dR_cast_67 : decode cX9_cast 67 = .ok (.idiv, 1) := by decide +kernel
theorem dR_cast_68 : decode cX9_cast 68 = .ok (.bipush 10, 2) := by decide +kernel
theorem dR_cast_70 : decode cX9_cast 70 = .ok (.irem, 1) := by decide +kernel
theorem dR_cast_71 : decode cX9_cast 71 = .ok (.istore 6, 2) := by decide +kernel
theorem dR_cast_73 : decode cX9_cast 73 = .ok (.aload_n 0, 1) := by decide +kernel
theorem dR_cast_74 : decode cX9_cast 74 = .ok (.bipush 12, 2) := by decide +kernel
theorem dR_cast_76 : decode cX9_cast 76 = .ok (.iconst 2, 1) := by decide +kernel
theorem dR_cast_77 : decode cX9_cast 77 = .ok (.invokevirtual 73, 3) := by decide +kernel
theorem dR_cast_80 : decode cX9_cast 80 = .ok (.istore 7, 2) := by decide +kernel
theorem dR_cast_82 : decode cX9_cast 82 = .ok (.iload 7, 2) := by decide +kernel
theorem dR_cast_84 : decode cX9_cast 84 = .ok (.ifCond .ne 9, 3) := by decide +kernel
theorem dR_cast_87 : decode cX9_cast 87 = .ok (.aload_n 0, 1) := by decide +kernel
theorem dR_cast_88 : decode cX9_cast 88 = .ok (.iconst 3, 1) := by decide +kernel
theorem dR_cast_89 : decode cX9_cast 89 = .ok (.invokevirtual 62, 3) := by decide +kernel
theorem dR_cast_92 : decode cX9_cast 92 = .ok (.ireturn, 1) := by decide +kernel
theorem dR_cast_93 : decode cX9_cast 93 = .ok (.aload_n 0, 1) := by decide +kernel
theorem dR_cast_94 : decode cX9_cast 94 = .ok (.getfield 7, 3) := by decide +kernel
theorem dR_cast_97 : decode cX9_cast 97 = .ok (.iconst 0, 1) := by decide +kernel
theorem dR_cast_98 : decode cX9_cast 98 = .ok (.iaload, 1) := by decide +kernel
theorem dR_cast_99 : decode cX9_cast 99 = .ok (.iload 6, 2) := by decide +kernel
theorem dR_cast_101 : decode cX9_cast 101 = .ok (.ifCond .le 7, 3) := by decide +kernel
theorem dR_cast_104 : decode cX9_cast 104 = .ok (.iconst 2, 1) := by decide +kernel
theorem dR_cast_105 : decode cX9_cast 105 = .ok (.goto 4, 3) := by decide +kernel
theorem dR_cast_108 : decode cX9_cast 108 = .ok (.iconst 1, 1) := by decide +kernel
theorem dR_cast_109 : decode cX9_cast 109 = .ok (.iadd, 1) := by decide +kernel
theorem dR_cast_110 : decode cX9_cast 110 = .ok (.bipush 12, 2) := by decide +kernel
theorem dR_cast_112 : decode cX9_cast 112 = .ok (.if_icmp .le 9, 3) := by decide +kernel
theorem dR_cast_115 : decode cX9_cast 115 = .ok (.aload_n 0, 1) := by decide +kernel
theorem dR_cast_116 : decode cX9_cast 116 = .ok (.iconst 4, 1) := by decide +kernel
theorem dR_cast_117 : decode cX9_cast 117 = .ok (.invokevirtual 62, 3) := by decide +kernel
theorem dR_cast_120 : decode cX9_cast 120 = .ok (.ireturn, 1) := by decide +kernel
theorem dR_cast_121 : decode cX9_cast 121 = .ok (.iload 7, 2) := by decide +kernel
theorem dR_cast_123 : decode cX9_cast 123 = .ok (.iload_n 2, 1) := by decide +kernel
theorem dR_cast_124 : decode cX9_cast 124 = .ok (.iadd, 1) := by decide +kernel
theorem dR_cast_125 : decode cX9_cast 125 = .ok (.iconst 0, 1) := by decide +kernel
theorem dR_cast_126 : decode cX9_cast 126 = .ok (.ldc 61, 2) := by decide +kernel
theorem dR_cast_128 : decode cX9_cast 128 = .ok (.invokestatic 92, 3) := by decide +kernel
theorem dR_cast_131 : decode cX9_cast 131 = .ok (.istore 8, 2) := by decide +kernel
theorem dR_cast_133 : decode cX9_cast 133 = .ok (.aload_n 0, 1) := by decide +kernel
theorem dR_cast_134 : decode cX9_cast 134 = .ok (.bipush 12, 2) := by decide +kernel
theorem dR_cast_136 : decode cX9_cast 136 = .ok (.iconst 2, 1) := by decide +kernel
theorem dR_cast_137 : decode cX9_cast 137 = .ok (.iload 8, 2) := by decide +kernel
theorem dR_cast_139 : decode cX9_cast 139 = .ok (.invokevirtual 57, 3) := by decide +kernel
theorem dR_cast_142 : decode cX9_cast 142 = .ok (.aload_n 0, 1) := by decide +kernel
theorem dR_cast_143 : decode cX9_cast 143 = .ok (.bipush 12, 2) := by decide +kernel
theorem dR_cast_145 : decode cX9_cast 145 = .ok (.iconst 3, 1) := by decide +kernel
theorem dR_cast_146 : decode cX9_cast 146 = .ok (.aload_n 0, 1) := by decide +kernel
theorem dR_cast_147 : decode cX9_cast 147 = .ok (.bipush 12, 2) := by decide +kernel
theorem dR_cast_149 : decode cX9_cast 149 = .ok (.iconst 3, 1) := by decide +kernel
theorem dR_cast_150 : decode cX9_cast 150 = .ok (.invokevirtual 73, 3) := by decide +kernel
theorem dR_cast_153 : decode cX9_cast 153 = .ok (.iload_n 2, 1) := by decide +kernel
theorem dR_cast_154 : decode cX9_cast 154 = .ok (.iadd, 1) := by decide +kernel
theorem dR_cast_155 : decode cX9_cast 155 = .ok (.iconst 0, 1) := by decide +kernel
theorem dR_cast_156 : decode cX9_cast 156 = .ok (.iload 8, 2) := by decide +kernel
theorem dR_cast_158 : decode cX9_cast 158 = .ok (.invokestatic 92, 3) := by decide +kernel
theorem dR_cast_161 : decode cX9_cast 161 = .ok (.invokevirtual 57, 3) := by decide +kernel
theorem dR_cast_164 : decode cX9_cast 164 = .ok (.bipush 6, 2) := by decide +kernel
theorem dR_cast_166 : decode cX9_cast 166 = .ok (.istore 9, 2) := by decide +kernel
theorem dR_cast_168 : decode cX9_cast 168 = .ok (.iload 9, 2) := by decide +kernel
theorem dR_cast_170 : decode cX9_cast 170 = .ok (.bipush 10, 2) := by decide +kernel
theorem dR_cast_172 : decode cX9_cast 172 = .ok (.if_icmp .ge 32, 3) := by decide +kernel
theorem dR_cast_175 : decode cX9_cast 175 = .ok (.aload_n 0, 1) := by decide +kernel
theorem dR_cast_176 : decode cX9_cast 176 = .ok (.bipush 12, 2) := by decide +kernel
theorem dR_cast_178 : decode cX9_cast 178 = .ok (.iload 9, 2) := by decide +kernel
theorem dR_cast_180 : decode cX9_cast 180 = .ok (.aload_n 0, 1) := by decide +kernel
theorem dR_cast_181 : decode cX9_cast 181 = .ok (.bipush 12, 2) := by decide +kernel
theorem dR_cast_183 : decode cX9_cast 183 = .ok (.iload 9, 2) := by decide +kernel
theorem dR_cast_185 : decode cX9_cast 185 = .ok (.invokevirtual 73, 3) := by decide +kernel
theorem dR_cast_188 : decode cX9_cast 188 = .ok (.iload 7, 2) := by decide +kernel
theorem dR_cast_190 : decode cX9_cast 190 = .ok (.iload 8, 2) := by decide +kernel
theorem dR_cast_192 : decode cX9_cast 192 = .ok (.invokestatic 99, 3) := by decide +kernel
theorem dR_cast_195 : decode cX9_cast 195 = .ok (.invokevirtual 57, 3) := by decide +kernel
theorem dR_cast_198 : decode cX9_cast 198 = .ok (.iinc 9 1, 3) := by decide +kernel
theorem dR_cast_201 : decode cX9_cast 201 = .ok (.goto (-33), 3) := by decide +kernel
theorem dR_cast_204 : decode cX9_cast 204 = .ok (.aload_n 0, 1) := by decide +kernel
theorem dR_cast_205 : decode cX9_cast 205 = .ok (.iload_n 1, 1) := by decide +kernel
theorem dR_cast_206 : decode cX9_cast 206 = .ok (.invokevirtual 66, 3) := by decide +kernel
theorem dR_cast_209 : decode cX9_cast 209 = .ok (.istore 9, 2) := by decide +kernel
theorem dR_cast_211 : decode cX9_cast 211 = .ok (.iload 6, 2) := by decide +kernel
theorem dR_cast_213 : decode cX9_cast 213 = .ok (.ifCond .le 13, 3) := by decide +kernel
theorem dR_cast_216 : decode cX9_cast 216 = .ok (.aload_n 0, 1) := by decide +kernel
theorem dR_cast_217 : decode cX9_cast 217 = .ok (.sipush 600, 3) := by decide +kernel
theorem dR_cast_220 : decode cX9_cast 220 = .ok (.invokevirtual 66, 3) := by decide +kernel
theorem dR_cast_223 : decode cX9_cast 223 = .ok (.goto 4, 3) := by decide +kernel
theorem dR_cast_226 : decode cX9_cast 226 = .ok (.iconst (-1), 1) := by decide +kernel
theorem dR_cast_227 : decode cX9_cast 227 = .ok (.istore 10, 2) := by decide +kernel
theorem dR_cast_229 : decode cX9_cast 229 = .ok (.iconst 2, 1) := by decide +kernel
theorem dR_cast_230 : decode cX9_cast 230 = .ok (.istore 11, 2) := by decide +kernel
theorem dR_cast_232 : decode cX9_cast 232 = .ok (.iload 11, 2) := by decide +kernel
theorem dR_cast_234 : decode cX9_cast 234 = .ok (.bipush 10, 2) := by decide +kernel
theorem dR_cast_236 : decode cX9_cast 236 = .ok (.if_icmp .ge 126, 3) := by decide +kernel
theorem dR_cast_239 : decode cX9_cast 239 = .ok (.aload_n 0, 1) := by decide +kernel
theorem dR_cast_240 : decode cX9_cast 240 = .ok (.bipush 12, 2) := by decide +kernel
theorem dR_cast_242 : decode cX9_cast 242 = .ok (.iload 11, 2) := by decide +kernel
theorem dR_cast_244 : decode cX9_cast 244 = .ok (.invokevirtual 73, 3) := by decide +kernel
theorem dR_cast_247 : decode cX9_cast 247 = .ok (.istore 12, 2) := by decide +kernel
theorem dR_cast_249 : decode cX9_cast 249 = .ok (.iload 11, 2) := by decide +kernel
theorem dR_cast_251 : decode cX9_cast 251 = .ok (.bipush 6, 2) := by decide +kernel
theorem dR_cast_253 : decode cX9_cast 253 = .ok (.if_icmp .lt 7, 3) := by decide +kernel
theorem dR_cast_256 : decode cX9_cast 256 = .ok (.iconst 1, 1) := by decide +kernel
theorem dR_cast_257 : decode cX9_cast 257 = .ok (.goto 4, 3) := by decide +kernel
theorem dR_cast_260 : decode cX9_cast 260 = .ok (.iconst 0, 1) := by decide +kernel
theorem dR_cast_261 : decode cX9_cast 261 = .ok (.istore 13, 2) := by decide +kernel
theorem dR_cast_263 : decode cX9_cast 263 = .ok (.iload 13, 2) := by decide +kernel
theorem dR_cast_265 : decode cX9_cast 265 = .ok (.ifCond .eq 8, 3) := by decide +kernel
theorem dR_cast_268 : decode cX9_cast 268 = .ok (.iload 12, 2) := by decide +kernel
theorem dR_cast_270 : decode cX9_cast 270 = .ok (.goto 15, 3) := by decide +kernel
theorem dR_cast_273 : decode cX9_cast 273 = .ok (.iload 12, 2) := by decide +kernel
theorem dR_cast_275 : decode cX9_cast 275 = .ok (.iload 12, 2) := by decide +kernel
theorem dR_cast_277 : decode cX9_cast 277 = .ok (.iload 5, 2) := by decide +kernel
theorem dR_cast_279 : decode cX9_cast 279 = .ok (.bipush 100, 2) := by decide +kernel
theorem dR_cast_281 : decode cX9_cast 281 = .ok (.invokestatic 99, 3) := by decide +kernel
theorem dR_cast_284 : decode cX9_cast 284 = .ok (.isub, 1) := by decide +kernel
theorem dR_cast_285 : decode cX9_cast 285 = .ok (.istore 14, 2) := by decide +kernel
theorem dR_cast_287 : decode cX9_cast 287 = .ok (.iload 13, 2) := by decide +kernel
theorem dR_cast_289 : decode cX9_cast 289 = .ok (.ifCond .eq 8, 3) := by decide +kernel
theorem dR_cast_292 : decode cX9_cast 292 = .ok (.iload 12, 2) := by decide +kernel
theorem dR_cast_294 : decode cX9_cast 294 = .ok (.goto 12, 3) := by decide +kernel
theorem dR_cast_297 : decode cX9_cast 297 = .ok (.iload 14, 2) := by decide +kernel
theorem dR_cast_299 : decode cX9_cast 299 = .ok (.iload 6, 2) := by decide +kernel
theorem dR_cast_301 : decode cX9_cast 301 = .ok (.bipush 10, 2) := by decide +kernel
theorem dR_cast_303 : decode cX9_cast 303 = .ok (.invokestatic 99, 3) := by decide +kernel
theorem dR_cast_306 : decode cX9_cast 306 = .ok (.istore 15, 2) := by decide +kernel
theorem dR_cast_308 : decode cX9_cast 308 = .ok (.aload_n 0, 1) := by decide +kernel
theorem dR_cast_309 : decode cX9_cast 309 = .ok (.iload 9, 2) := by decide +kernel
theorem dR_cast_311 : decode cX9_cast 311 = .ok (.iload 11, 2) := by decide +kernel
theorem dR_cast_313 : decode cX9_cast 313 = .ok (.iload 13, 2) := by decide +kernel
theorem dR_cast_315 : decode cX9_cast 315 = .ok (.ifCond .eq 8, 3) := by decide +kernel
theorem dR_cast_318 : decode cX9_cast 318 = .ok (.iload 12, 2) := by decide +kernel
theorem dR_cast_320 : decode cX9_cast 320 = .ok (.goto 8, 3) := by decide +kernel
theorem dR_cast_323 : decode cX9_cast 323 = .ok (.iload 14, 2) := by decide +kernel
theorem dR_cast_325 : decode cX9_cast 325 = .ok (.iload 15, 2) := by decide +kernel
theorem dR_cast_327 : decode cX9_cast 327 = .ok (.isub, 1) := by decide +kernel
theorem dR_cast_328 : decode cX9_cast 328 = .ok (.invokevirtual 57, 3) := by decide +kernel
theorem dR_cast_331 : decode cX9_cast 331 = .ok (.iload 10, 2) := by decide +kernel
theorem dR_cast_333 : decode cX9_cast 333 = .ok (.iconst (-1), 1) := by decide +kernel
theorem dR_cast_334 : decode cX9_cast 334 = .ok (.if_icmp .eq 13, 3) := by decide +kernel
theorem dR_cast_337 : decode cX9_cast 337 = .ok (.aload_n 0, 1) := by decide +kernel
theorem dR_cast_338 : decode cX9_cast 338 = .ok (.iload 10, 2) := by decide +kernel
theorem dR_cast_340 : decode cX9_cast 340 = .ok (.iload 11, 2) := by decide +kernel
theorem dR_cast_342 : decode cX9_cast 342 = .ok (.iload 15, 2) := by decide +kernel
theorem dR_cast_344 : decode cX9_cast 344 = .ok (.invokevirtual 57, 3) := by decide +kernel
theorem dR_cast_347 : decode cX9_cast 347 = .ok (.aload_n 0, 1) := by decide +kernel
theorem dR_cast_348 : decode cX9_cast 348 = .ok (.bipush 12, 2) := by decide +kernel
theorem dR_cast_350 : decode cX9_cast 350 = .ok (.iload 11, 2) := by decide +kernel
theorem dR_cast_352 : decode cX9_cast 352 = .ok (.iconst 0, 1) := by decide +kernel
theorem dR_cast_353 : decode cX9_cast 353 = .ok (.invokevirtual 57, 3) := by decide +kernel
theorem dR_cast_356 : decode cX9_cast 356 = .ok (.iinc 11 1, 3) := by decide +kernel
theorem dR_cast_359 : decode cX9_cast 359 = .ok (.goto (-127), 3) := by decide +kernel
theorem dR_cast_362 : decode cX9_cast 362 = .ok (.iload 9, 2) := by decide +kernel
theorem dR_cast_364 : decode cX9_cast 364 = .ok (.ireturn, 1) := by decide +kernel
theorem dR_draw_0 : decode cX9_draw 0 = .ok (.aload_n 0, 1) := by decide +kernel
theorem dR_draw_1 : decode cX9_draw 1 = .ok (.getfield 7, 3) := by decide +kernel
theorem dR_draw_4 : decode cX9_draw 4 = .ok (.bipush 8, 2) := by decide +kernel
theorem dR_draw_6 : decode cX9_draw 6 = .ok (.aload_n 0, 1) := by decide +kernel
theorem dR_draw_7 : decode cX9_draw 7 = .ok (.getfield 7, 3) := by decide +kernel
theorem dR_draw_10 : decode cX9_draw 10 = .ok (.bipush 8, 2) := by decide +kernel
theorem dR_draw_12 : decode cX9_draw 12 = .ok (.iaload, 1) := by decide +kernel
theorem dR_draw_13 : decode cX9_draw 13 = .ok (.ldc 102, 2) := by decide +kernel
theorem dR_draw_15 : decode cX9_draw 15 = .ok (.imul, 1) := by decide +kernel
theorem dR_draw_16 : decode cX9_draw 16 = .ok (.sipush 12345, 3) := by decide +kernel
theorem dR_draw_19 : decode cX9_draw 19 = .ok (.iadd, 1) := by decide +kernel
theorem dR_draw_20 : decode cX9_draw 20 = .ok (.iastore, 1) := by decide +kernel
theorem dR_draw_21 : decode cX9_draw 21 = .ok (.aload_n 0, 1) := by decide +kernel
theorem dR_draw_22 : decode cX9_draw 22 = .ok (.getfield 7, 3) := by decide +kernel
theorem dR_draw_25 : decode cX9_draw 25 = .ok (.bipush 8, 2) := by decide +kernel
theorem dR_draw_27 : decode cX9_draw 27 = .ok (.iaload, 1) := by decide +kernel
theorem dR_draw_28 : decode cX9_draw 28 = .ok (.bipush 8, 2) := by decide +kernel
theorem dR_draw_30 : decode cX9_draw 30 = .ok (.iushr, 1) := by decide +kernel
theorem dR_draw_31 : decode cX9_draw 31 = .ok (.ireturn, 1) := by decide +kernel
theorem dR_year_0 : decode cX9_year 0 = .ok (.iconst 0, 1) := by decide +kernel
theorem dR_year_1 : decode cX9_year 1 = .ok (.istore_n 1, 1) := by decide +kernel
theorem dR_year_2 : decode cX9_year 2 = .ok (.iload_n 1, 1) := by decide +kernel
theorem dR_year_3 : decode cX9_year 3 = .ok (.aload_n 0, 1) := by decide +kernel
theorem dR_year_4 : decode cX9_year 4 = .ok (.getfield 7, 3) := by decide +kernel
theorem dR_year_7 : decode cX9_year 7 = .ok (.iconst 0, 1) := by decide +kernel
theorem dR_year_8 : decode cX9_year 8 = .ok (.iaload, 1) := by decide +kernel
theorem dR_year_9 : decode cX9_year 9 = .ok (.if_icmp .ge 60, 3) := by decide +kernel
theorem dR_year_12 : decode cX9_year 12 = .ok (.aload_n 0, 1) := by decide +kernel
theorem dR_year_13 : decode cX9_year 13 = .ok (.invokevirtual 103, 3) := by decide +kernel
theorem dR_year_16 : decode cX9_year 16 = .ok (.bipush 100, 2) := by decide +kernel
theorem dR_year_18 : decode cX9_year 18 = .ok (.irem, 1) := by decide +kernel
theorem dR_year_19 : decode cX9_year 19 = .ok (.aload_n 0, 1) := by decide +kernel
theorem dR_year_20 : decode cX9_year 20 = .ok (.iload_n 1, 1) := by decide +kernel
theorem dR_year_21 : decode cX9_year 21 = .ok (.iconst 1, 1) := by decide +kernel
theorem dR_year_22 : decode cX9_year 22 = .ok (.invokevirtual 73, 3) := by decide +kernel
theorem dR_year_25 : decode cX9_year 25 = .ok (.if_icmp .ge 38, 3) := by decide +kernel
theorem dR_year_28 : decode cX9_year 28 = .ok (.iconst 2, 1) := by decide +kernel
theorem dR_year_29 : decode cX9_year 29 = .ok (.istore_n 2, 1) := by decide +kernel
theorem dR_year_30 : decode cX9_year 30 = .ok (.iload_n 2, 1) := by decide +kernel
theorem dR_year_31 : decode cX9_year 31 = .ok (.iconst 5, 1) := by decide +kernel
theorem dR_year_32 : decode cX9_year 32 = .ok (.if_icmp .gt 31, 3) := by decide +kernel
theorem dR_year_35 : decode cX9_year 35 = .ok (.aload_n 0, 1) := by decide +kernel
theorem dR_year_36 : decode cX9_year 36 = .ok (.iload_n 1, 1) := by decide +kernel
theorem dR_year_37 : decode cX9_year 37 = .ok (.iload_n 2, 1) := by decide +kernel
theorem dR_year_38 : decode cX9_year 38 = .ok (.aload_n 0, 1) := by decide +kernel
theorem dR_year_39 : decode cX9_year 39 = .ok (.iload_n 1, 1) := by decide +kernel
theorem dR_year_40 : decode cX9_year 40 = .ok (.iload_n 2, 1) := by decide +kernel
theorem dR_year_41 : decode cX9_year 41 = .ok (.invokevirtual 73, 3) := by decide +kernel
theorem dR_year_44 : decode cX9_year 44 = .ok (.aload_n 0, 1) := by decide +kernel
theorem dR_year_45 : decode cX9_year 45 = .ok (.iload_n 1, 1) := by decide +kernel
theorem dR_year_46 : decode cX9_year 46 = .ok (.iload_n 2, 1) := by decide +kernel
theorem dR_year_47 : decode cX9_year 47 = .ok (.invokevirtual 73, 3) := by decide +kernel
theorem dR_year_50 : decode cX9_year 50 = .ok (.bipush 100, 2) := by decide +kernel
theorem dR_year_52 : decode cX9_year 52 = .ok (.idiv, 1) := by decide +kernel
theorem dR_year_53 : decode cX9_year 53 = .ok (.isub, 1) := by decide +kernel
theorem dR_year_54 : decode cX9_year 54 = .ok (.invokevirtual 57, 3) := by decide +kernel
theorem dR_year_57 : decode cX9_year 57 = .ok (.iinc 2 1, 3) := by decide +kernel
theorem dR_year_60 : decode cX9_year 60 = .ok (.goto (-30), 3) := by decide +kernel
theorem dR_year_63 : decode cX9_year 63 = .ok (.iinc 1 1, 3) := by decide +kernel
theorem dR_year_66 : decode cX9_year 66 = .ok (.goto (-64), 3) := by decide +kernel
theorem dR_year_69 : decode cX9_year 69 = .ok (.aload_n 0, 1) := by decide +kernel
theorem dR_year_70 : decode cX9_year 70 = .ok (.getfield 7, 3) := by decide +kernel
theorem dR_year_73 : decode cX9_year 73 = .ok (.iconst 5, 1) := by decide +kernel
theorem dR_year_74 : decode cX9_year 74 = .ok (.dup2, 1) := by decide +kernel
theorem dR_year_75 : decode cX9_year 75 = .ok (.iaload, 1) := by decide +kernel
theorem dR_year_76 : decode cX9_year 76 = .ok (.iconst 1, 1) := by decide +kernel
theorem dR_year_77 : decode cX9_year 77 = .ok (.iadd, 1) := by decide +kernel
theorem dR_year_78 : decode cX9_year 78 = .ok (.iastore, 1) := by decide +kernel
theorem dR_year_79 : decode cX9_year 79 = .ok (.return_, 1) := by decide +kernel
theorem dR_go_0 : decode cX9_go 0 = .ok (.iconst 0, 1) := by decide +kernel
theorem dR_go_1 : decode cX9_go 1 = .ok (.istore_n 2, 1) := by decide +kernel
theorem dR_go_2 : decode cX9_go 2 = .ok (.iload_n 2, 1) := by decide +kernel
theorem dR_go_3 : decode cX9_go 3 = .ok (.iload_n 1, 1) := by decide +kernel
theorem dR_go_4 : decode cX9_go 4 = .ok (.if_icmp .ge 13, 3) := by decide +kernel
theorem dR_go_7 : decode cX9_go 7 = .ok (.aload_n 0, 1) := by decide +kernel
theorem dR_go_8 : decode cX9_go 8 = .ok (.invokevirtual 107, 3) := by decide +kernel
theorem dR_go_11 : decode cX9_go 11 = .ok (.iinc 2 1, 3) := by decide +kernel
theorem dR_go_14 : decode cX9_go 14 = .ok (.goto (-12), 3) := by decide +kernel
theorem dR_go_17 : decode cX9_go 17 = .ok (.return_, 1) := by decide +kernel
theorem dR_allGrams_0 : decode cX9_allGrams 0 = .ok (.iconst 0, 1) := by decide +kernel
theorem dR_allGrams_1 : decode cX9_allGrams 1 = .ok (.istore_n 1, 1) := by decide +kernel
theorem dR_allGrams_2 : decode cX9_allGrams 2 = .ok (.iconst 0, 1) := by decide +kernel
theorem dR_allGrams_3 : decode cX9_allGrams 3 = .ok (.istore_n 2, 1) := by decide +kernel
theorem dR_allGrams_4 : decode cX9_allGrams 4 = .ok (.iload_n 2, 1) := by decide +kernel
theorem dR_allGrams_5 : decode cX9_allGrams 5 = .ok (.aload_n 0, 1) := by decide +kernel
theorem dR_allGrams_6 : decode cX9_allGrams 6 = .ok (.getfield 7, 3) := by decide +kernel
theorem dR_allGrams_9 : decode cX9_allGrams 9 = .ok (.iconst 0, 1) := by decide +kernel
theorem dR_allGrams_10 : decode cX9_allGrams 10 = .ok (.iaload, 1) := by decide +kernel
theorem dR_allGrams_11 : decode cX9_allGrams 11 = .ok (.if_icmp .ge 18, 3) := by decide +kernel
theorem dR_allGrams_14 : decode cX9_allGrams 14 = .ok (.iload_n 1, 1) := by decide +kernel
theorem dR_allGrams_15 : decode cX9_allGrams 15 = .ok (.aload_n 0, 1) := by decide +kernel
theorem dR_allGrams_16 : decode cX9_allGrams 16 = .ok (.iload_n 2, 1) := by decide +kernel
theorem dR_allGrams_17 : decode cX9_allGrams 17 = .ok (.iconst 2, 1) := by decide +kernel
theorem dR_allGrams_18 : decode cX9_allGrams 18 = .ok (.invokevirtual 73, 3) := by decide +kernel
theorem dR_allGrams_21 : decode cX9_allGrams 21 = .ok (.iadd, 1) := by decide +kernel
theorem dR_allGrams_22 : decode cX9_allGrams 22 = .ok (.istore_n 1, 1) := by decide +kernel
theorem dR_allGrams_23 : decode cX9_allGrams 23 = .ok (.iinc 2 1, 3) := by decide +kernel
theorem dR_allGrams_26 : decode cX9_allGrams 26 = .ok (.goto (-22), 3) := by decide +kernel
theorem dR_allGrams_29 : decode cX9_allGrams 29 = .ok (.iload_n 1, 1) := by decide +kernel
theorem dR_allGrams_30 : decode cX9_allGrams 30 = .ok (.ireturn, 1) := by decide +kernel
theorem dR_years_0 : decode cX9_years 0 = .ok (.iload_n 1, 1) := by decide +kernel
theorem dR_years_1 : decode cX9_years 1 = .ok (.iconst 1, 1) := by decide +kernel
theorem dR_years_2 : decode cX9_years 2 = .ok (.bipush 60, 2) := by decide +kernel
theorem dR_years_4 : decode cX9_years 4 = .ok (.invokestatic 53, 3) := by decide +kernel
theorem dR_years_7 : decode cX9_years 7 = .ok (.ifCond .ne 9, 3) := by decide +kernel
theorem dR_years_10 : decode cX9_years 10 = .ok (.aload_n 0, 1) := by decide +kernel
theorem dR_years_11 : decode cX9_years 11 = .ok (.iconst 1, 1) := by decide +kernel
theorem dR_years_12 : decode cX9_years 12 = .ok (.invokevirtual 62, 3) := by decide +kernel
theorem dR_years_15 : decode cX9_years 15 = .ok (.ireturn, 1) := by decide +kernel
theorem dR_years_16 : decode cX9_years 16 = .ok (.aload_n 0, 1) := by decide +kernel
theorem dR_years_17 : decode cX9_years 17 = .ok (.getfield 7, 3) := by decide +kernel
theorem dR_years_20 : decode cX9_years 20 = .ok (.iconst 5, 1) := by decide +kernel
theorem dR_years_21 : decode cX9_years 21 = .ok (.iaload, 1) := by decide +kernel
theorem dR_years_22 : decode cX9_years 22 = .ok (.iload_n 1, 1) := by decide +kernel
theorem dR_years_23 : decode cX9_years 23 = .ok (.iadd, 1) := by decide +kernel
theorem dR_years_24 : decode cX9_years 24 = .ok (.sipush 9999, 3) := by decide +kernel
theorem dR_years_27 : decode cX9_years 27 = .ok (.if_icmp .le 9, 3) := by decide +kernel
theorem dR_years_30 : decode cX9_years 30 = .ok (.aload_n 0, 1) := by decide +kernel
theorem dR_years_31 : decode cX9_years 31 = .ok (.iconst 3, 1) := by decide +kernel
theorem dR_years_32 : decode cX9_years 32 = .ok (.invokevirtual 62, 3) := by decide +kernel
theorem dR_years_35 : decode cX9_years 35 = .ok (.ireturn, 1) := by decide +kernel
theorem dR_years_36 : decode cX9_years 36 = .ok (.aload_n 0, 1) := by decide +kernel
theorem dR_years_37 : decode cX9_years 37 = .ok (.iload_n 1, 1) := by decide +kernel
theorem dR_years_38 : decode cX9_years 38 = .ok (.invokevirtual 110, 3) := by decide +kernel
theorem dR_years_41 : decode cX9_years 41 = .ok (.aload_n 0, 1) := by decide +kernel
theorem dR_years_42 : decode cX9_years 42 = .ok (.invokevirtual 114, 3) := by decide +kernel
theorem dR_years_45 : decode cX9_years 45 = .ok (.ireturn, 1) := by decide +kernel
theorem dR_then_0 : decode cX9_then 0 = .ok (.iload_n 1, 1) := by decide +kernel
theorem dR_then_1 : decode cX9_then 1 = .ok (.iconst 0, 1) := by decide +kernel
theorem dR_then_2 : decode cX9_then 2 = .ok (.bipush 60, 2) := by decide +kernel
theorem dR_then_4 : decode cX9_then 4 = .ok (.invokestatic 53, 3) := by decide +kernel
theorem dR_then_7 : decode cX9_then 7 = .ok (.ifCond .eq 21, 3) := by decide +kernel
theorem dR_then_10 : decode cX9_then 10 = .ok (.aload_n 0, 1) := by decide +kernel
theorem dR_then_11 : decode cX9_then 11 = .ok (.iload_n 2, 1) := by decide +kernel
theorem dR_then_12 : decode cX9_then 12 = .ok (.invokevirtual 77, 3) := by decide +kernel
theorem dR_then_15 : decode cX9_then 15 = .ok (.ifCond .eq 13, 3) := by decide +kernel
theorem dR_then_18 : decode cX9_then 18 = .ok (.iload_n 3, 1) := by decide +kernel
theorem dR_then_19 : decode cX9_then 19 = .ok (.iconst 0, 1) := by decide +kernel
theorem dR_then_20 : decode cX9_then 20 = .ok (.bipush 10, 2) := by decide +kernel
theorem dR_then_22 : decode cX9_then 22 = .ok (.invokestatic 53, 3) := by decide +kernel
theorem dR_then_25 : decode cX9_then 25 = .ok (.ifCond .ne 9, 3) := by decide +kernel
theorem dR_then_28 : decode cX9_then 28 = .ok (.aload_n 0, 1) := by decide +kernel
theorem dR_then_29 : decode cX9_then 29 = .ok (.iconst 1, 1) := by decide +kernel
theorem dR_then_30 : decode cX9_then 30 = .ok (.invokevirtual 62, 3) := by decide +kernel
theorem dR_then_33 : decode cX9_then 33 = .ok (.ireturn, 1) := by decide +kernel
theorem dR_then_34 : decode cX9_then 34 = .ok (.aload_n 0, 1) := by decide +kernel
theorem dR_then_35 : decode cX9_then 35 = .ok (.getfield 7, 3) := by decide +kernel
theorem dR_then_38 : decode cX9_then 38 = .ok (.aload_n 0, 1) := by decide +kernel
theorem dR_then_39 : decode cX9_then 39 = .ok (.getfield 16, 3) := by decide +kernel
theorem dR_then_42 : decode cX9_then 42 = .ok (.invokestatic 117, 3) := by decide +kernel
theorem dR_then_45 : decode cX9_then 45 = .ok (.aload_n 0, 1) := by decide +kernel
theorem dR_then_46 : decode cX9_then 46 = .ok (.iload_n 1, 1) := by decide +kernel
theorem dR_then_47 : decode cX9_then 47 = .ok (.invokevirtual 110, 3) := by decide +kernel
theorem dR_then_50 : decode cX9_then 50 = .ok (.aload_n 0, 1) := by decide +kernel
theorem dR_then_51 : decode cX9_then 51 = .ok (.iload_n 2, 1) := by decide +kernel
theorem dR_then_52 : decode cX9_then 52 = .ok (.iload_n 3, 1) := by decide +kernel
theorem dR_then_53 : decode cX9_then 53 = .ok (.invokevirtual 81, 3) := by decide +kernel
theorem dR_then_56 : decode cX9_then 56 = .ok (.istore 4, 2) := by decide +kernel
theorem dR_then_58 : decode cX9_then 58 = .ok (.aload_n 0, 1) := by decide +kernel
theorem dR_then_59 : decode cX9_then 59 = .ok (.getfield 16, 3) := by decide +kernel
theorem dR_then_62 : decode cX9_then 62 = .ok (.aload_n 0, 1) := by decide +kernel
theorem dR_then_63 : decode cX9_then 63 = .ok (.getfield 7, 3) := by decide +kernel
theorem dR_then_66 : decode cX9_then 66 = .ok (.invokestatic 117, 3) := by decide +kernel
theorem dR_then_69 : decode cX9_then 69 = .ok (.iload 4, 2) := by decide +kernel
theorem dR_then_71 : decode cX9_then 71 = .ok (.ireturn, 1) := by decide +kernel
theorem dR_seed_0 : decode cX9_seed 0 = .ok (.aload_n 0, 1) := by decide +kernel
theorem dR_seed_1 : decode cX9_seed 1 = .ok (.getfield 7, 3) := by decide +kernel
theorem dR_seed_4 : decode cX9_seed 4 = .ok (.bipush 8, 2) := by decide +kernel
theorem dR_seed_6 : decode cX9_seed 6 = .ok (.iaload, 1) := by decide +kernel
theorem dR_seed_7 : decode cX9_seed 7 = .ok (.istore_n 2, 1) := by decide +kernel
theorem dR_seed_8 : decode cX9_seed 8 = .ok (.aload_n 0, 1) := by decide +kernel
theorem dR_seed_9 : decode cX9_seed 9 = .ok (.getfield 7, 3) := by decide +kernel
theorem dR_seed_12 : decode cX9_seed 12 = .ok (.bipush 8, 2) := by decide +kernel
theorem dR_seed_14 : decode cX9_seed 14 = .ok (.iload_n 1, 1) := by decide +kernel
theorem dR_seed_15 : decode cX9_seed 15 = .ok (.iastore, 1) := by decide +kernel
theorem dR_seed_16 : decode cX9_seed 16 = .ok (.iload_n 2, 1) := by decide +kernel
theorem dR_seed_17 : decode cX9_seed 17 = .ok (.ireturn, 1) := by decide +kernel
theorem dR_feed_0 : decode cX9_feed 0 = .ok (.iload_n 3, 1) := by decide +kernel
theorem dR_feed_1 : decode cX9_feed 1 = .ok (.iconst 1, 1) := by decide +kernel
theorem dR_feed_2 : decode cX9_feed 2 = .ok (.bipush 8, 2) := by decide +kernel
theorem dR_feed_4 : decode cX9_feed 4 = .ok (.invokestatic 53, 3) := by decide +kernel
theorem dR_feed_7 : decode cX9_feed 7 = .ok (.ifCond .ne 9, 3) := by decide +kernel
theorem dR_feed_10 : decode cX9_feed 10 = .ok (.aload_n 0, 1) := by decide +kernel
theorem dR_feed_11 : decode cX9_feed 11 = .ok (.iconst 1, 1) := by decide +kernel
theorem dR_feed_12 : decode cX9_feed 12 = .ok (.invokevirtual 62, 3) := by decide +kernel
theorem dR_feed_15 : decode cX9_feed 15 = .ok (.ireturn, 1) := by decide +kernel
theorem dR_feed_16 : decode cX9_feed 16 = .ok (.aload_n 0, 1) := by decide +kernel
theorem dR_feed_17 : decode cX9_feed 17 = .ok (.getfield 7, 3) := by decide +kernel
theorem dR_feed_20 : decode cX9_feed 20 = .ok (.bipush 6, 2) := by decide +kernel
theorem dR_feed_22 : decode cX9_feed 22 = .ok (.iaload, 1) := by decide +kernel
theorem dR_feed_23 : decode cX9_feed 23 = .ok (.iload_n 3, 1) := by decide +kernel
theorem dR_feed_24 : decode cX9_feed 24 = .ok (.iadd, 1) := by decide +kernel
theorem dR_feed_25 : decode cX9_feed 25 = .ok (.bipush 60, 2) := by decide +kernel
theorem dR_feed_27 : decode cX9_feed 27 = .ok (.if_icmp .le 9, 3) := by decide +kernel
theorem dR_feed_30 : decode cX9_feed 30 = .ok (.aload_n 0, 1) := by decide +kernel
theorem dR_feed_31 : decode cX9_feed 31 = .ok (.iconst 4, 1) := by decide +kernel
theorem dR_feed_32 : decode cX9_feed 32 = .ok (.invokevirtual 62, 3) := by decide +kernel
theorem dR_feed_35 : decode cX9_feed 35 = .ok (.ireturn, 1) := by decide +kernel
theorem dR_feed_36 : decode cX9_feed 36 = .ok (.iconst 0, 1) := by decide +kernel
theorem dR_feed_37 : decode cX9_feed 37 = .ok (.istore 4, 2) := by decide +kernel
theorem dR_feed_39 : decode cX9_feed 39 = .ok (.iload 4, 2) := by decide +kernel
theorem dR_feed_41 : decode cX9_feed 41 = .ok (.iload_n 3, 1) := by decide +kernel
theorem dR_feed_42 : decode cX9_feed 42 = .ok (.if_icmp .ge 48, 3) := by decide +kernel
theorem dR_feed_45 : decode cX9_feed 45 = .ok (.aload_n 0, 1) := by decide +kernel
theorem dR_feed_46 : decode cX9_feed 46 = .ok (.getfield 7, 3) := by decide +kernel
theorem dR_feed_49 : decode cX9_feed 49 = .ok (.sipush 452, 3) := by decide +kernel
theorem dR_feed_52 : decode cX9_feed 52 = .ok (.aload_n 0, 1) := by decide +kernel
theorem dR_feed_53 : decode cX9_feed 53 = .ok (.getfield 7, 3) := by decide +kernel
theorem dR_feed_56 : decode cX9_feed 56 = .ok (.bipush 6, 2) := by decide +kernel
theorem dR_feed_58 : decode cX9_feed 58 = .ok (.iaload, 1) := by decide +kernel
theorem dR_feed_59 : decode cX9_feed 59 = .ok (.iadd, 1) := by decide +kernel
theorem dR_feed_60 : decode cX9_feed 60 = .ok (.lload_n 1, 1) := by decide +kernel
theorem dR_feed_61 : decode cX9_feed 61 = .ok (.bipush 8, 2) := by decide +kernel
theorem dR_feed_63 : decode cX9_feed 63 = .ok (.iload 4, 2) := by decide +kernel
theorem dR_feed_65 : decode cX9_feed 65 = .ok (.imul, 1) := by decide +kernel
theorem dR_feed_66 : decode cX9_feed 66 = .ok (.lshr, 1) := by decide +kernel
theorem dR_feed_67 : decode cX9_feed 67 = .ok (.ldc2_w 121, 3) := by decide +kernel
theorem dR_feed_70 : decode cX9_feed 70 = .ok (.land, 1) := by decide +kernel
theorem dR_feed_71 : decode cX9_feed 71 = .ok (.l2i, 1) := by decide +kernel
theorem dR_feed_72 : decode cX9_feed 72 = .ok (.iastore, 1) := by decide +kernel
theorem dR_feed_73 : decode cX9_feed 73 = .ok (.aload_n 0, 1) := by decide +kernel
theorem dR_feed_74 : decode cX9_feed 74 = .ok (.getfield 7, 3) := by decide +kernel
theorem dR_feed_77 : decode cX9_feed 77 = .ok (.bipush 6, 2) := by decide +kernel
theorem dR_feed_79 : decode cX9_feed 79 = .ok (.dup2, 1) := by decide +kernel
theorem dR_feed_80 : decode cX9_feed 80 = .ok (.iaload, 1) := by decide +kernel
theorem dR_feed_81 : decode cX9_feed 81 = .ok (.iconst 1, 1) := by decide +kernel
theorem dR_feed_82 : decode cX9_feed 82 = .ok (.iadd, 1) := by decide +kernel
theorem dR_feed_83 : decode cX9_feed 83 = .ok (.iastore, 1) := by decide +kernel
theorem dR_feed_84 : decode cX9_feed 84 = .ok (.iinc 4 1, 3) := by decide +kernel
theorem dR_feed_87 : decode cX9_feed 87 = .ok (.goto (-48), 3) := by decide +kernel
theorem dR_feed_90 : decode cX9_feed 90 = .ok (.aload_n 0, 1) := by decide +kernel
theorem dR_feed_91 : decode cX9_feed 91 = .ok (.getfield 7, 3) := by decide +kernel
theorem dR_feed_94 : decode cX9_feed 94 = .ok (.bipush 6, 2) := by decide +kernel
theorem dR_feed_96 : decode cX9_feed 96 = .ok (.iaload, 1) := by decide +kernel
theorem dR_feed_97 : decode cX9_feed 97 = .ok (.ireturn, 1) := by decide +kernel
theorem dR_look_0 : decode cX9_look 0 = .ok (.aload_n 0, 1) := by decide +kernel
theorem dR_look_1 : decode cX9_look 1 = .ok (.getfield 123, 3) := by decide +kernel
theorem dR_look_4 : decode cX9_look 4 = .ok (.aload_n 0, 1) := by decide +kernel
theorem dR_look_5 : decode cX9_look 5 = .ok (.getfield 7, 3) := by decide +kernel
theorem dR_look_8 : decode cX9_look 8 = .ok (.bipush 6, 2) := by decide +kernel
theorem dR_look_10 : decode cX9_look 10 = .ok (.iaload, 1) := by decide +kernel
theorem dR_look_11 : decode cX9_look 11 = .ok (.if_icmp .ge 19, 3) := by decide +kernel
theorem dR_look_14 : decode cX9_look 14 = .ok (.aload_n 0, 1) := by decide +kernel
theorem dR_look_15 : decode cX9_look 15 = .ok (.getfield 7, 3) := by decide +kernel
theorem dR_look_18 : decode cX9_look 18 = .ok (.sipush 452, 3) := by decide +kernel
theorem dR_look_21 : decode cX9_look 21 = .ok (.aload_n 0, 1) := by decide +kernel
theorem dR_look_22 : decode cX9_look 22 = .ok (.getfield 123, 3) := by decide +kernel
theorem dR_look_25 : decode cX9_look 25 = .ok (.iadd, 1) := by decide +kernel
end
section
-- decode rows of the reference
theorem dR_look_26 : decode cX9_look 26 = .ok (.iaload, 1) := by decide +kernel
theorem dR_look_27 : decode cX9_look 27 = .ok (.goto 4, 3) := by decide +kernel
theorem dR_look_30 : decode cX9_look 30 = .ok (.iconst (-1), 1) := by decide +kernel
theorem dR_look_31 : decode cX9_look 31 = .ok (.ireturn, 1) := by decide +kernel
theorem dR_isName_0 : decode cX9_isName 0 = .ok (.iload_n 1, 1) := by decide +kernel
theorem dR_isName_1 : decode cX9_isName 1 = .ok (.bipush 103, 2) := by decide +kernel
theorem dR_isName_3 : decode cX9_isName 3 = .ok (.if_icmp .ne 5, 3) := by decide +kernel
theorem dR_isName_6 : decode cX9_isName 6 = .ok (.iconst 1, 1) := by decide +kernel
theorem dR_isName_7 : decode cX9_isName 7 = .ok (.ireturn, 1) := by decide +kernel
theorem dR_isName_8 : decode cX9_isName 8 = .ok (.aload_n 0, 1) := by decide +kernel
theorem dR_isName_9 : decode cX9_isName 9 = .ok (.getfield 127, 3) := by decide +kernel
theorem dR_isName_12 : decode cX9_isName 12 = .ok (.ifCond .ne 23, 3) := by decide +kernel
theorem dR_isName_15 : decode cX9_isName 15 = .ok (.iload_n 1, 1) := by decide +kernel
theorem dR_isName_16 : decode cX9_isName 16 = .ok (.bipush 115, 2) := by decide +kernel
theorem dR_isName_18 : decode cX9_isName 18 = .ok (.if_icmp .eq 9, 3) := by decide +kernel
theorem dR_isName_21 : decode cX9_isName 21 = .ok (.iload_n 1, 1) := by decide +kernel
theorem dR_isName_22 : decode cX9_isName 22 = .ok (.bipush 109, 2) := by decide +kernel
theorem dR_isName_24 : decode cX9_isName 24 = .ok (.if_icmp .ne 7, 3) := by decide +kernel
theorem dR_isName_27 : decode cX9_isName 27 = .ok (.iconst 1, 1) := by decide +kernel
theorem dR_isName_28 : decode cX9_isName 28 = .ok (.goto 24, 3) := by decide +kernel
theorem dR_isName_31 : decode cX9_isName 31 = .ok (.iconst 0, 1) := by decide +kernel
theorem dR_isName_32 : decode cX9_isName 32 = .ok (.goto 20, 3) := by decide +kernel
theorem dR_isName_35 : decode cX9_isName 35 = .ok (.iload_n 1, 1) := by decide +kernel
theorem dR_isName_36 : decode cX9_isName 36 = .ok (.bipush 99, 2) := by decide +kernel
theorem dR_isName_38 : decode cX9_isName 38 = .ok (.if_icmp .eq 9, 3) := by decide +kernel
theorem dR_isName_41 : decode cX9_isName 41 = .ok (.iload_n 1, 1) := by decide +kernel
theorem dR_isName_42 : decode cX9_isName 42 = .ok (.bipush 110, 2) := by decide +kernel
theorem dR_isName_44 : decode cX9_isName 44 = .ok (.if_icmp .ne 7, 3) := by decide +kernel
theorem dR_isName_47 : decode cX9_isName 47 = .ok (.iconst 1, 1) := by decide +kernel
theorem dR_isName_48 : decode cX9_isName 48 = .ok (.goto 4, 3) := by decide +kernel
theorem dR_isName_51 : decode cX9_isName 51 = .ok (.iconst 0, 1) := by decide +kernel
theorem dR_isName_52 : decode cX9_isName 52 = .ok (.ireturn, 1) := by decide +kernel
theorem dR_lays_0 : decode cX9_lays 0 = .ok (.aload_n 0, 1) := by decide +kernel
theorem dR_lays_1 : decode cX9_lays 1 = .ok (.getfield 22, 3) := by decide +kernel
theorem dR_lays_4 : decode cX9_lays 4 = .ok (.iconst 2, 1) := by decide +kernel
theorem dR_lays_5 : decode cX9_lays 5 = .ok (.aload_n 0, 1) := by decide +kernel
theorem dR_lays_6 : decode cX9_lays 6 = .ok (.getfield 130, 3) := by decide +kernel
theorem dR_lays_9 : decode cX9_lays 9 = .ok (.imul, 1) := by decide +kernel
theorem dR_lays_10 : decode cX9_lays 10 = .ok (.iload_n 1, 1) := by decide +kernel
theorem dR_lays_11 : decode cX9_lays 11 = .ok (.iastore, 1) := by decide +kernel
theorem dR_lays_12 : decode cX9_lays 12 = .ok (.aload_n 0, 1) := by decide +kernel
theorem dR_lays_13 : decode cX9_lays 13 = .ok (.getfield 22, 3) := by decide +kernel
theorem dR_lays_16 : decode cX9_lays 16 = .ok (.iconst 2, 1) := by decide +kernel
theorem dR_lays_17 : decode cX9_lays 17 = .ok (.aload_n 0, 1) := by decide +kernel
theorem dR_lays_18 : decode cX9_lays 18 = .ok (.getfield 130, 3) := by decide +kernel
theorem dR_lays_21 : decode cX9_lays 21 = .ok (.imul, 1) := by decide +kernel
theorem dR_lays_22 : decode cX9_lays 22 = .ok (.iconst 1, 1) := by decide +kernel
theorem dR_lays_23 : decode cX9_lays 23 = .ok (.iadd, 1) := by decide +kernel
theorem dR_lays_24 : decode cX9_lays 24 = .ok (.iload_n 2, 1) := by decide +kernel
theorem dR_lays_25 : decode cX9_lays 25 = .ok (.iastore, 1) := by decide +kernel
theorem dR_lays_26 : decode cX9_lays 26 = .ok (.aload_n 0, 1) := by decide +kernel
theorem dR_lays_27 : decode cX9_lays 27 = .ok (.dup, 1) := by decide +kernel
theorem dR_lays_28 : decode cX9_lays 28 = .ok (.getfield 130, 3) := by decide +kernel
theorem dR_lays_31 : decode cX9_lays 31 = .ok (.iconst 1, 1) := by decide +kernel
theorem dR_lays_32 : decode cX9_lays 32 = .ok (.iadd, 1) := by decide +kernel
theorem dR_lays_33 : decode cX9_lays 33 = .ok (.putfield 130, 3) := by decide +kernel
theorem dR_lays_36 : decode cX9_lays 36 = .ok (.return_, 1) := by decide +kernel
theorem dR_whole_0 : decode cX9_whole 0 = .ok (.aload_n 0, 1) := by decide +kernel
theorem dR_whole_1 : decode cX9_whole 1 = .ok (.invokevirtual 133, 3) := by decide +kernel
theorem dR_whole_4 : decode cX9_whole 4 = .ok (.ifCond .ne 5, 3) := by decide +kernel
theorem dR_whole_7 : decode cX9_whole 7 = .ok (.iconst 0, 1) := by decide +kernel
theorem dR_whole_8 : decode cX9_whole 8 = .ok (.ireturn, 1) := by decide +kernel
theorem dR_whole_9 : decode cX9_whole 9 = .ok (.aload_n 0, 1) := by decide +kernel
theorem dR_whole_10 : decode cX9_whole 10 = .ok (.invokevirtual 137, 3) := by decide +kernel
theorem dR_whole_13 : decode cX9_whole 13 = .ok (.bipush 124, 2) := by decide +kernel
theorem dR_whole_15 : decode cX9_whole 15 = .ok (.if_icmp .ne 32, 3) := by decide +kernel
theorem dR_whole_18 : decode cX9_whole 18 = .ok (.aload_n 0, 1) := by decide +kernel
theorem dR_whole_19 : decode cX9_whole 19 = .ok (.dup, 1) := by decide +kernel
theorem dR_whole_20 : decode cX9_whole 20 = .ok (.getfield 123, 3) := by decide +kernel
theorem dR_whole_23 : decode cX9_whole 23 = .ok (.iconst 1, 1) := by decide +kernel
theorem dR_whole_24 : decode cX9_whole 24 = .ok (.iadd, 1) := by decide +kernel
theorem dR_whole_25 : decode cX9_whole 25 = .ok (.putfield 123, 3) := by decide +kernel
theorem dR_whole_28 : decode cX9_whole 28 = .ok (.aload_n 0, 1) := by decide +kernel
theorem dR_whole_29 : decode cX9_whole 29 = .ok (.invokevirtual 133, 3) := by decide +kernel
theorem dR_whole_32 : decode cX9_whole 32 = .ok (.ifCond .ne 5, 3) := by decide +kernel
theorem dR_whole_35 : decode cX9_whole 35 = .ok (.iconst 0, 1) := by decide +kernel
theorem dR_whole_36 : decode cX9_whole 36 = .ok (.ireturn, 1) := by decide +kernel
theorem dR_whole_37 : decode cX9_whole 37 = .ok (.aload_n 0, 1) := by decide +kernel
theorem dR_whole_38 : decode cX9_whole 38 = .ok (.iconst 3, 1) := by decide +kernel
theorem dR_whole_39 : decode cX9_whole 39 = .ok (.bipush 124, 2) := by decide +kernel
theorem dR_whole_41 : decode cX9_whole 41 = .ok (.invokevirtual 140, 3) := by decide +kernel
theorem dR_whole_44 : decode cX9_whole 44 = .ok (.goto (-35), 3) := by decide +kernel
theorem dR_whole_47 : decode cX9_whole 47 = .ok (.iconst 1, 1) := by decide +kernel
theorem dR_whole_48 : decode cX9_whole 48 = .ok (.ireturn, 1) := by decide +kernel
theorem dR_both_0 : decode cX9_both 0 = .ok (.aload_n 0, 1) := by decide +kernel
theorem dR_both_1 : decode cX9_both 1 = .ok (.invokevirtual 144, 3) := by decide +kernel
theorem dR_both_4 : decode cX9_both 4 = .ok (.ifCond .ne 5, 3) := by decide +kernel
theorem dR_both_7 : decode cX9_both 7 = .ok (.iconst 0, 1) := by decide +kernel
theorem dR_both_8 : decode cX9_both 8 = .ok (.ireturn, 1) := by decide +kernel
theorem dR_both_9 : decode cX9_both 9 = .ok (.aload_n 0, 1) := by decide +kernel
theorem dR_both_10 : decode cX9_both 10 = .ok (.invokevirtual 137, 3) := by decide +kernel
theorem dR_both_13 : decode cX9_both 13 = .ok (.bipush 38, 2) := by decide +kernel
theorem dR_both_15 : decode cX9_both 15 = .ok (.if_icmp .ne 32, 3) := by decide +kernel
theorem dR_both_18 : decode cX9_both 18 = .ok (.aload_n 0, 1) := by decide +kernel
theorem dR_both_19 : decode cX9_both 19 = .ok (.dup, 1) := by decide +kernel
theorem dR_both_20 : decode cX9_both 20 = .ok (.getfield 123, 3) := by decide +kernel
theorem dR_both_23 : decode cX9_both 23 = .ok (.iconst 1, 1) := by decide +kernel
theorem dR_both_24 : decode cX9_both 24 = .ok (.iadd, 1) := by decide +kernel
theorem dR_both_25 : decode cX9_both 25 = .ok (.putfield 123, 3) := by decide +kernel
theorem dR_both_28 : decode cX9_both 28 = .ok (.aload_n 0, 1) := by decide +kernel
theorem dR_both_29 : decode cX9_both 29 = .ok (.invokevirtual 144, 3) := by decide +kernel
theorem dR_both_32 : decode cX9_both 32 = .ok (.ifCond .ne 5, 3) := by decide +kernel
theorem dR_both_35 : decode cX9_both 35 = .ok (.iconst 0, 1) := by decide +kernel
theorem dR_both_36 : decode cX9_both 36 = .ok (.ireturn, 1) := by decide +kernel
theorem dR_both_37 : decode cX9_both 37 = .ok (.aload_n 0, 1) := by decide +kernel
theorem dR_both_38 : decode cX9_both 38 = .ok (.iconst 3, 1) := by decide +kernel
theorem dR_both_39 : decode cX9_both 39 = .ok (.bipush 38, 2) := by decide +kernel
theorem dR_both_41 : decode cX9_both 41 = .ok (.invokevirtual 140, 3) := by decide +kernel
theorem dR_both_44 : decode cX9_both 44 = .ok (.goto (-35), 3) := by decide +kernel
theorem dR_both_47 : decode cX9_both 47 = .ok (.iconst 1, 1) := by decide +kernel
theorem dR_both_48 : decode cX9_both 48 = .ok (.ireturn, 1) := by decide +kernel
theorem dR_compared_0 : decode cX9_compared 0 = .ok (.aload_n 0, 1) := by decide +kernel
theorem dR_compared_1 : decode cX9_compared 1 = .ok (.invokevirtual 147, 3) := by decide +kernel
theorem dR_compared_4 : decode cX9_compared 4 = .ok (.ifCond .ne 5, 3) := by decide +kernel
theorem dR_compared_7 : decode cX9_compared 7 = .ok (.iconst 0, 1) := by decide +kernel
theorem dR_compared_8 : decode cX9_compared 8 = .ok (.ireturn, 1) := by decide +kernel
theorem dR_compared_9 : decode cX9_compared 9 = .ok (.aload_n 0, 1) := by decide +kernel
theorem dR_compared_10 : decode cX9_compared 10 = .ok (.invokevirtual 137, 3) := by decide +kernel
theorem dR_compared_13 : decode cX9_compared 13 = .ok (.istore_n 1, 1) := by decide +kernel
theorem dR_compared_14 : decode cX9_compared 14 = .ok (.iload_n 1, 1) := by decide +kernel
theorem dR_compared_15 : decode cX9_compared 15 = .ok (.bipush 60, 2) := by decide +kernel
theorem dR_compared_17 : decode cX9_compared 17 = .ok (.if_icmp .eq 17, 3) := by decide +kernel
theorem dR_compared_20 : decode cX9_compared 20 = .ok (.iload_n 1, 1) := by decide +kernel
theorem dR_compared_21 : decode cX9_compared 21 = .ok (.bipush 61, 2) := by decide +kernel
theorem dR_compared_23 : decode cX9_compared 23 = .ok (.if_icmp .eq 11, 3) := by decide +kernel
theorem dR_compared_26 : decode cX9_compared 26 = .ok (.iload_n 1, 1) := by decide +kernel
theorem dR_compared_27 : decode cX9_compared 27 = .ok (.bipush 62, 2) := by decide +kernel
theorem dR_compared_29 : decode cX9_compared 29 = .ok (.if_icmp .eq 5, 3) := by decide +kernel
theorem dR_compared_32 : decode cX9_compared 32 = .ok (.iconst 1, 1) := by decide +kernel
theorem dR_compared_33 : decode cX9_compared 33 = .ok (.ireturn, 1) := by decide +kernel
theorem dR_compared_34 : decode cX9_compared 34 = .ok (.aload_n 0, 1) := by decide +kernel
theorem dR_compared_35 : decode cX9_compared 35 = .ok (.dup, 1) := by decide +kernel
theorem dR_compared_36 : decode cX9_compared 36 = .ok (.getfield 123, 3) := by decide +kernel
theorem dR_compared_39 : decode cX9_compared 39 = .ok (.iconst 1, 1) := by decide +kernel
theorem dR_compared_40 : decode cX9_compared 40 = .ok (.iadd, 1) := by decide +kernel
theorem dR_compared_41 : decode cX9_compared 41 = .ok (.putfield 123, 3) := by decide +kernel
theorem dR_compared_44 : decode cX9_compared 44 = .ok (.aload_n 0, 1) := by decide +kernel
theorem dR_compared_45 : decode cX9_compared 45 = .ok (.invokevirtual 147, 3) := by decide +kernel
theorem dR_compared_48 : decode cX9_compared 48 = .ok (.ifCond .ne 5, 3) := by decide +kernel
theorem dR_compared_51 : decode cX9_compared 51 = .ok (.iconst 0, 1) := by decide +kernel
theorem dR_compared_52 : decode cX9_compared 52 = .ok (.ireturn, 1) := by decide +kernel
theorem dR_compared_53 : decode cX9_compared 53 = .ok (.aload_n 0, 1) := by decide +kernel
theorem dR_compared_54 : decode cX9_compared 54 = .ok (.iconst 3, 1) := by decide +kernel
theorem dR_compared_55 : decode cX9_compared 55 = .ok (.iload_n 1, 1) := by decide +kernel
theorem dR_compared_56 : decode cX9_compared 56 = .ok (.invokevirtual 140, 3) := by decide +kernel
theorem dR_compared_59 : decode cX9_compared 59 = .ok (.iconst 1, 1) := by decide +kernel
theorem dR_compared_60 : decode cX9_compared 60 = .ok (.ireturn, 1) := by decide +kernel
theorem dR_sum_0 : decode cX9_sum 0 = .ok (.aload_n 0, 1) := by decide +kernel
theorem dR_sum_1 : decode cX9_sum 1 = .ok (.invokevirtual 150, 3) := by decide +kernel
theorem dR_sum_4 : decode cX9_sum 4 = .ok (.ifCond .ne 5, 3) := by decide +kernel
theorem dR_sum_7 : decode cX9_sum 7 = .ok (.iconst 0, 1) := by decide +kernel
theorem dR_sum_8 : decode cX9_sum 8 = .ok (.ireturn, 1) := by decide +kernel
theorem dR_sum_9 : decode cX9_sum 9 = .ok (.aload_n 0, 1) := by decide +kernel
theorem dR_sum_10 : decode cX9_sum 10 = .ok (.invokevirtual 137, 3) := by decide +kernel
theorem dR_sum_13 : decode cX9_sum 13 = .ok (.bipush 43, 2) := by decide +kernel
theorem dR_sum_15 : decode cX9_sum 15 = .ok (.if_icmp .eq 12, 3) := by decide +kernel
theorem dR_sum_18 : decode cX9_sum 18 = .ok (.aload_n 0, 1) := by decide +kernel
theorem dR_sum_19 : decode cX9_sum 19 = .ok (.invokevirtual 137, 3) := by decide +kernel
theorem dR_sum_22 : decode cX9_sum 22 = .ok (.bipush 45, 2) := by decide +kernel
theorem dR_sum_24 : decode cX9_sum 24 = .ok (.if_icmp .ne 36, 3) := by decide +kernel
theorem dR_sum_27 : decode cX9_sum 27 = .ok (.aload_n 0, 1) := by decide +kernel
theorem dR_sum_28 : decode cX9_sum 28 = .ok (.invokevirtual 137, 3) := by decide +kernel
theorem dR_sum_31 : decode cX9_sum 31 = .ok (.istore_n 1, 1) := by decide +kernel
theorem dR_sum_32 : decode cX9_sum 32 = .ok (.aload_n 0, 1) := by decide +kernel
theorem dR_sum_33 : decode cX9_sum 33 = .ok (.dup, 1) := by decide +kernel
theorem dR_sum_34 : decode cX9_sum 34 = .ok (.getfield 123, 3) := by decide +kernel
theorem dR_sum_37 : decode cX9_sum 37 = .ok (.iconst 1, 1) := by decide +kernel
theorem dR_sum_38 : decode cX9_sum 38 = .ok (.iadd, 1) := by decide +kernel
theorem dR_sum_39 : decode cX9_sum 39 = .ok (.putfield 123, 3) := by decide +kernel
theorem dR_sum_42 : decode cX9_sum 42 = .ok (.aload_n 0, 1) := by decide +kernel
theorem dR_sum_43 : decode cX9_sum 43 = .ok (.invokevirtual 150, 3) := by decide +kernel
theorem dR_sum_46 : decode cX9_sum 46 = .ok (.ifCond .ne 5, 3) := by decide +kernel
theorem dR_sum_49 : decode cX9_sum 49 = .ok (.iconst 0, 1) := by decide +kernel
theorem dR_sum_50 : decode cX9_sum 50 = .ok (.ireturn, 1) := by decide +kernel
theorem dR_sum_51 : decode cX9_sum 51 = .ok (.aload_n 0, 1) := by decide +kernel
theorem dR_sum_52 : decode cX9_sum 52 = .ok (.iconst 3, 1) := by decide +kernel
theorem dR_sum_53 : decode cX9_sum 53 = .ok (.iload_n 1, 1) := by decide +kernel
theorem dR_sum_54 : decode cX9_sum 54 = .ok (.invokevirtual 140, 3) := by decide +kernel
theorem dR_sum_57 : decode cX9_sum 57 = .ok (.goto (-48), 3) := by decide +kernel
theorem dR_sum_60 : decode cX9_sum 60 = .ok (.iconst 1, 1) := by decide +kernel
theorem dR_sum_61 : decode cX9_sum 61 = .ok (.ireturn, 1) := by decide +kernel
theorem dR_product_0 : decode cX9_product 0 = .ok (.aload_n 0, 1) := by decide +kernel
theorem dR_product_1 : decode cX9_product 1 = .ok (.invokevirtual 153, 3) := by decide +kernel
theorem dR_product_4 : decode cX9_product 4 = .ok (.ifCond .ne 5, 3) := by decide +kernel
theorem dR_product_7 : decode cX9_product 7 = .ok (.iconst 0, 1) := by decide +kernel
theorem dR_product_8 : decode cX9_product 8 = .ok (.ireturn, 1) := by decide +kernel
theorem dR_product_9 : decode cX9_product 9 = .ok (.aload_n 0, 1) := by decide +kernel
theorem dR_product_10 : decode cX9_product 10 = .ok (.invokevirtual 137, 3) := by decide +kernel
theorem dR_product_13 : decode cX9_product 13 = .ok (.bipush 42, 2) := by decide +kernel
theorem dR_product_15 : decode cX9_product 15 = .ok (.if_icmp .eq 21, 3) := by decide +kernel
theorem dR_product_18 : decode cX9_product 18 = .ok (.aload_n 0, 1) := by decide +kernel
theorem dR_product_19 : decode cX9_product 19 = .ok (.invokevirtual 137, 3) := by decide +kernel
theorem dR_product_22 : decode cX9_product 22 = .ok (.bipush 47, 2) := by decide +kernel
theorem dR_product_24 : decode cX9_product 24 = .ok (.if_icmp .eq 12, 3) := by decide +kernel
theorem dR_product_27 : decode cX9_product 27 = .ok (.aload_n 0, 1) := by decide +kernel
theorem dR_product_28 : decode cX9_product 28 = .ok (.invokevirtual 137, 3) := by decide +kernel
theorem dR_product_31 : decode cX9_product 31 = .ok (.bipush 37, 2) := by decide +kernel
theorem dR_product_33 : decode cX9_product 33 = .ok (.if_icmp .ne 36, 3) := by decide +kernel
theorem dR_product_36 : decode cX9_product 36 = .ok (.aload_n 0, 1) := by decide +kernel
theorem dR_product_37 : decode cX9_product 37 = .ok (.invokevirtual 137, 3) := by decide +kernel
theorem dR_product_40 : decode cX9_product 40 = .ok (.istore_n 1, 1) := by decide +kernel
theorem dR_product_41 : decode cX9_product 41 = .ok (.aload_n 0, 1) := by decide +kernel
theorem dR_product_42 : decode cX9_product 42 = .ok (.dup, 1) := by decide +kernel
theorem dR_product_43 : decode cX9_product 43 = .ok (.getfield 123, 3) := by decide +kernel
theorem dR_product_46 : decode cX9_product 46 = .ok (.iconst 1, 1) := by decide +kernel
theorem dR_product_47 : decode cX9_product 47 = .ok (.iadd, 1) := by decide +kernel
theorem dR_product_48 : decode cX9_product 48 = .ok (.putfield 123, 3) := by decide +kernel
theorem dR_product_51 : decode cX9_product 51 = .ok (.aload_n 0, 1) := by decide +kernel
theorem dR_product_52 : decode cX9_product 52 = .ok (.invokevirtual 153, 3) := by decide +kernel
theorem dR_product_55 : decode cX9_product 55 = .ok (.ifCond .ne 5, 3) := by decide +kernel
theorem dR_product_58 : decode cX9_product 58 = .ok (.iconst 0, 1) := by decide +kernel
theorem dR_product_59 : decode cX9_product 59 = .ok (.ireturn, 1) := by decide +kernel
theorem dR_product_60 : decode cX9_product 60 = .ok (.aload_n 0, 1) := by decide +kernel
theorem dR_product_61 : decode cX9_product 61 = .ok (.iconst 3, 1) := by decide +kernel
theorem dR_product_62 : decode cX9_product 62 = .ok (.iload_n 1, 1) := by decide +kernel
theorem dR_product_63 : decode cX9_product 63 = .ok (.invokevirtual 140, 3) := by decide +kernel
theorem dR_product_66 : decode cX9_product 66 = .ok (.goto (-57), 3) := by decide +kernel
theorem dR_product_69 : decode cX9_product 69 = .ok (.iconst 1, 1) := by decide +kernel
theorem dR_product_70 : decode cX9_product 70 = .ok (.ireturn, 1) := by decide +kernel
theorem dR_opens_0 : decode cX9_opens 0 = .ok (.aload_n 0, 1) := by decide +kernel
theorem dR_opens_1 : decode cX9_opens 1 = .ok (.getfield 156, 3) := by decide +kernel
theorem dR_opens_4 : decode cX9_opens 4 = .ok (.iconst 5, 1) := by decide +kernel
theorem dR_opens_5 : decode cX9_opens 5 = .ok (.if_icmp .ne 5, 3) := by decide +kernel
theorem dR_opens_8 : decode cX9_opens 8 = .ok (.iconst 0, 1) := by decide +kernel
theorem dR_opens_9 : decode cX9_opens 9 = .ok (.ireturn, 1) := by decide +kernel
theorem dR_opens_10 : decode cX9_opens 10 = .ok (.aload_n 0, 1) := by decide +kernel
theorem dR_opens_11 : decode cX9_opens 11 = .ok (.dup, 1) := by decide +kernel
theorem dR_opens_12 : decode cX9_opens 12 = .ok (.getfield 156, 3) := by decide +kernel
theorem dR_opens_15 : decode cX9_opens 15 = .ok (.iconst 1, 1) := by decide +kernel
theorem dR_opens_16 : decode cX9_opens 16 = .ok (.iadd, 1) := by decide +kernel
theorem dR_opens_17 : decode cX9_opens 17 = .ok (.putfield 156, 3) := by decide +kernel
theorem dR_opens_20 : decode cX9_opens 20 = .ok (.aload_n 0, 1) := by decide +kernel
theorem dR_opens_21 : decode cX9_opens 21 = .ok (.dup, 1) := by decide +kernel
theorem dR_opens_22 : decode cX9_opens 22 = .ok (.getfield 123, 3) := by decide +kernel
theorem dR_opens_25 : decode cX9_opens 25 = .ok (.iconst 1, 1) := by decide +kernel
theorem dR_opens_26 : decode cX9_opens 26 = .ok (.iadd, 1) := by decide +kernel
theorem dR_opens_27 : decode cX9_opens 27 = .ok (.putfield 123, 3) := by decide +kernel
theorem dR_opens_30 : decode cX9_opens 30 = .ok (.iconst 1, 1) := by decide +kernel
theorem dR_opens_31 : decode cX9_opens 31 = .ok (.ireturn, 1) := by decide +kernel
theorem dR_one_0 : decode cX9_one 0 = .ok (.aload_n 0, 1) := by decide +kernel
theorem dR_one_1 : decode cX9_one 1 = .ok (.invokevirtual 137, 3) := by decide +kernel
theorem dR_one_4 : decode cX9_one 4 = .ok (.istore_n 1, 1) := by decide +kernel
theorem dR_one_5 : decode cX9_one 5 = .ok (.aload_n 0, 1) := by decide +kernel
theorem dR_one_6 : decode cX9_one 6 = .ok (.iload_n 1, 1) := by decide +kernel
theorem dR_one_7 : decode cX9_one 7 = .ok (.invokevirtual 159, 3) := by decide +kernel
theorem dR_one_10 : decode cX9_one 10 = .ok (.ifCond .eq 21, 3) := by decide +kernel
theorem dR_one_13 : decode cX9_one 13 = .ok (.aload_n 0, 1) := by decide +kernel
theorem dR_one_14 : decode cX9_one 14 = .ok (.dup, 1) := by decide +kernel
theorem dR_one_15 : decode cX9_one 15 = .ok (.getfield 123, 3) := by decide +kernel
theorem dR_one_18 : decode cX9_one 18 = .ok (.iconst 1, 1) := by decide +kernel
theorem dR_one_19 : decode cX9_one 19 = .ok (.iadd, 1) := by decide +kernel
theorem dR_one_20 : decode cX9_one 20 = .ok (.putfield 123, 3) := by decide +kernel
theorem dR_one_23 : decode cX9_one 23 = .ok (.aload_n 0, 1) := by decide +kernel
theorem dR_one_24 : decode cX9_one 24 = .ok (.iconst 1, 1) := by decide +kernel
theorem dR_one_25 : decode cX9_one 25 = .ok (.iload_n 1, 1) := by decide +kernel
theorem dR_one_26 : decode cX9_one 26 = .ok (.invokevirtual 140, 3) := by decide +kernel
theorem dR_one_29 : decode cX9_one 29 = .ok (.iconst 1, 1) := by decide +kernel
theorem dR_one_30 : decode cX9_one 30 = .ok (.ireturn, 1) := by decide +kernel
theorem dR_one_31 : decode cX9_one 31 = .ok (.iload_n 1, 1) := by decide +kernel
theorem dR_one_32 : decode cX9_one 32 = .ok (.bipush 48, 2) := by decide +kernel
theorem dR_one_34 : decode cX9_one 34 = .ok (.bipush 57, 2) := by decide +kernel
theorem dR_one_36 : decode cX9_one 36 = .ok (.invokestatic 53, 3) := by decide +kernel
theorem dR_one_39 : decode cX9_one 39 = .ok (.ifCond .eq 63, 3) := by decide +kernel
theorem dR_one_42 : decode cX9_one 42 = .ok (.iconst 0, 1) := by decide +kernel
theorem dR_one_43 : decode cX9_one 43 = .ok (.istore_n 2, 1) := by decide +kernel
theorem dR_one_44 : decode cX9_one 44 = .ok (.iconst 0, 1) := by decide +kernel
theorem dR_one_45 : decode cX9_one 45 = .ok (.istore_n 3, 1) := by decide +kernel
theorem dR_one_46 : decode cX9_one 46 = .ok (.iload_n 3, 1) := by decide +kernel
theorem dR_one_47 : decode cX9_one 47 = .ok (.iconst 4, 1) := by decide +kernel
theorem dR_one_48 : decode cX9_one 48 = .ok (.if_icmp .ge 46, 3) := by decide +kernel
theorem dR_one_51 : decode cX9_one 51 = .ok (.aload_n 0, 1) := by decide +kernel
theorem dR_one_52 : decode cX9_one 52 = .ok (.invokevirtual 137, 3) := by decide +kernel
theorem dR_one_55 : decode cX9_one 55 = .ok (.bipush 48, 2) := by decide +kernel
theorem dR_one_57 : decode cX9_one 57 = .ok (.bipush 57, 2) := by decide +kernel
theorem dR_one_59 : decode cX9_one 59 = .ok (.invokestatic 53, 3) := by decide +kernel
theorem dR_one_62 : decode cX9_one 62 = .ok (.ifCond .eq 32, 3) := by decide +kernel
theorem dR_one_65 : decode cX9_one 65 = .ok (.bipush 10, 2) := by decide +kernel
theorem dR_one_67 : decode cX9_one 67 = .ok (.iload_n 2, 1) := by decide +kernel
theorem dR_one_68 : decode cX9_one 68 = .ok (.imul, 1) := by decide +kernel
theorem dR_one_69 : decode cX9_one 69 = .ok (.aload_n 0, 1) := by decide +kernel
theorem dR_one_70 : decode cX9_one 70 = .ok (.invokevirtual 137, 3) := by decide +kernel
theorem dR_one_73 : decode cX9_one 73 = .ok (.iadd, 1) := by decide +kernel
theorem dR_one_74 : decode cX9_one 74 = .ok (.bipush 48, 2) := by decide +kernel
theorem dR_one_76 : decode cX9_one 76 = .ok (.isub, 1) := by decide +kernel
theorem dR_one_77 : decode cX9_one 77 = .ok (.istore_n 2, 1) := by decide +kernel
theorem dR_one_78 : decode cX9_one 78 = .ok (.aload_n 0, 1) := by decide +kernel
theorem dR_one_79 : decode cX9_one 79 = .ok (.dup, 1) := by decide +kernel
theorem dR_one_80 : decode cX9_one 80 = .ok (.getfield 123, 3) := by decide +kernel
theorem dR_one_83 : decode cX9_one 83 = .ok (.iconst 1, 1) := by decide +kernel
theorem dR_one_84 : decode cX9_one 84 = .ok (.iadd, 1) := by decide +kernel
theorem dR_one_85 : decode cX9_one 85 = .ok (.putfield 123, 3) := by decide +kernel
theorem dR_one_88 : decode cX9_one 88 = .ok (.iinc 3 1, 3) := by decide +kernel
theorem dR_one_91 : decode cX9_one 91 = .ok (.goto (-45), 3) := by decide +kernel
theorem dR_one_94 : decode cX9_one 94 = .ok (.aload_n 0, 1) := by decide +kernel
theorem dR_one_95 : decode cX9_one 95 = .ok (.iconst 0, 1) := by decide +kernel
theorem dR_one_96 : decode cX9_one 96 = .ok (.iload_n 2, 1) := by decide +kernel
theorem dR_one_97 : decode cX9_one 97 = .ok (.invokevirtual 140, 3) := by decide +kernel
theorem dR_one_100 : decode cX9_one 100 = .ok (.iconst 1, 1) := by decide +kernel
theorem dR_one_101 : decode cX9_one 101 = .ok (.ireturn, 1) := by decide +kernel
theorem dR_one_102 : decode cX9_one 102 = .ok (.iload_n 1, 1) := by decide +kernel
theorem dR_one_103 : decode cX9_one 103 = .ok (.bipush 33, 2) := by decide +kernel
theorem dR_one_105 : decode cX9_one 105 = .ok (.if_icmp .ne 37, 3) := by decide +kernel
theorem dR_one_108 : decode cX9_one 108 = .ok (.aload_n 0, 1) := by decide +kernel
theorem dR_one_109 : decode cX9_one 109 = .ok (.invokevirtual 162, 3) := by decide +kernel
theorem dR_one_112 : decode cX9_one 112 = .ok (.ifCond .eq 10, 3) := by decide +kernel
theorem dR_one_115 : decode cX9_one 115 = .ok (.aload_n 0, 1) := by decide +kernel
theorem dR_one_116 : decode cX9_one 116 = .ok (.invokevirtual 153, 3) := by decide +kernel
theorem dR_one_119 : decode cX9_one 119 = .ok (.ifCond .ne 5, 3) := by decide +kernel
theorem dR_one_122 : decode cX9_one 122 = .ok (.iconst 0, 1) := by decide +kernel
theorem dR_one_123 : decode cX9_one 123 = .ok (.ireturn, 1) := by decide +kernel
theorem dR_one_124 : decode cX9_one 124 = .ok (.aload_n 0, 1) := by decide +kernel
theorem dR_one_125 : decode cX9_one 125 = .ok (.dup, 1) := by decide +kernel
theorem dR_one_126 : decode cX9_one 126 = .ok (.getfield 156, 3) := by decide +kernel
theorem dR_one_129 : decode cX9_one 129 = .ok (.iconst 1, 1) := by decide +kernel
theorem dR_one_130 : decode cX9_one 130 = .ok (.isub, 1) := by decide +kernel
theorem dR_one_131 : decode cX9_one 131 = .ok (.putfield 156, 3) := by decide +kernel
theorem dR_one_134 : decode cX9_one 134 = .ok (.aload_n 0, 1) := by decide +kernel
theorem dR_one_135 : decode cX9_one 135 = .ok (.iconst 2, 1) := by decide +kernel
theorem dR_one_136 : decode cX9_one 136 = .ok (.iconst 0, 1) := by decide +kernel
theorem dR_one_137 : decode cX9_one 137 = .ok (.invokevirtual 140, 3) := by decide +kernel
theorem dR_one_140 : decode cX9_one 140 = .ok (.iconst 1, 1) := by decide +kernel
theorem dR_one_141 : decode cX9_one 141 = .ok (.ireturn, 1) := by decide +kernel
theorem dR_one_142 : decode cX9_one 142 = .ok (.iload_n 1, 1) := by decide +kernel
theorem dR_one_143 : decode cX9_one 143 = .ok (.bipush 40, 2) := by decide +kernel
theorem dR_one_145 : decode cX9_one 145 = .ok (.if_icmp .ne 26, 3) := by decide +kernel
theorem dR_one_148 : decode cX9_one 148 = .ok (.aload_n 0, 1) := by decide +kernel
theorem dR_one_149 : decode cX9_one 149 = .ok (.invokevirtual 162, 3) := by decide +kernel
theorem dR_one_152 : decode cX9_one 152 = .ok (.ifCond .eq 19, 3) := by decide +kernel
theorem dR_one_155 : decode cX9_one 155 = .ok (.aload_n 0, 1) := by decide +kernel
theorem dR_one_156 : decode cX9_one 156 = .ok (.invokevirtual 165, 3) := by decide +kernel
theorem dR_one_159 : decode cX9_one 159 = .ok (.ifCond .eq 12, 3) := by decide +kernel
theorem dR_one_162 : decode cX9_one 162 = .ok (.aload_n 0, 1) := by decide +kernel
theorem dR_one_163 : decode cX9_one 163 = .ok (.invokevirtual 137, 3) := by decide +kernel
theorem dR_one_166 : decode cX9_one 166 = .ok (.bipush 41, 2) := by decide +kernel
theorem dR_one_168 : decode cX9_one 168 = .ok (.if_icmp .eq 5, 3) := by decide +kernel
theorem dR_one_171 : decode cX9_one 171 = .ok (.iconst 0, 1) := by decide +kernel
theorem dR_one_172 : decode cX9_one 172 = .ok (.ireturn, 1) := by decide +kernel
theorem dR_one_173 : decode cX9_one 173 = .ok (.aload_n 0, 1) := by decide +kernel
theorem dR_one_174 : decode cX9_one 174 = .ok (.dup, 1) := by decide +kernel
theorem dR_one_175 : decode cX9_one 175 = .ok (.getfield 123, 3) := by decide +kernel
theorem dR_one_178 : decode cX9_one 178 = .ok (.iconst 1, 1) := by decide +kernel
theorem dR_one_179 : decode cX9_one 179 = .ok (.iadd, 1) := by decide +kernel
theorem dR_one_180 : decode cX9_one 180 = .ok (.putfield 123, 3) := by decide +kernel
theorem dR_one_183 : decode cX9_one 183 = .ok (.aload_n 0, 1) := by decide +kernel
theorem dR_one_184 : decode cX9_one 184 = .ok (.dup, 1) := by decide +kernel
theorem dR_one_185 : decode cX9_one 185 = .ok (.getfield 156, 3) := by decide +kernel
theorem dR_one_188 : decode cX9_one 188 = .ok (.iconst 1, 1) := by decide +kernel
theorem dR_one_189 : decode cX9_one 189 = .ok (.isub, 1) := by decide +kernel
theorem dR_one_190 : decode cX9_one 190 = .ok (.putfield 156, 3) := by decide +kernel
theorem dR_one_193 : decode cX9_one 193 = .ok (.iconst 1, 1) := by decide +kernel
theorem dR_one_194 : decode cX9_one 194 = .ok (.ireturn, 1) := by decide +kernel
theorem dR_hasText_0 : decode cX9_hasText 0 = .ok (.aload_n 0, 1) := by decide +kernel
theorem dR_hasText_1 : decode cX9_hasText 1 = .ok (.getfield 7, 3) := by decide +kernel
theorem dR_hasText_4 : decode cX9_hasText 4 = .ok (.sipush 202, 3) := by decide +kernel
theorem dR_hasText_7 : decode cX9_hasText 7 = .ok (.bipush 125, 2) := by decide +kernel
theorem dR_hasText_9 : decode cX9_hasText 9 = .ok (.iload_n 1, 1) := by decide +kernel
theorem dR_hasText_10 : decode cX9_hasText 10 = .ok (.imul, 1) := by decide +kernel
theorem dR_hasText_11 : decode cX9_hasText 11 = .ok (.iadd, 1) := by decide +kernel
theorem dR_hasText_12 : decode cX9_hasText 12 = .ok (.iaload, 1) := by decide +kernel
theorem dR_hasText_13 : decode cX9_hasText 13 = .ok (.ifCond .le 7, 3) := by decide +kernel
theorem dR_hasText_16 : decode cX9_hasText 16 = .ok (.iconst 1, 1) := by decide +kernel
theorem dR_hasText_17 : decode cX9_hasText 17 = .ok (.goto 4, 3) := by decide +kernel
theorem dR_hasText_20 : decode cX9_hasText 20 = .ok (.iconst 0, 1) := by decide +kernel
theorem dR_hasText_21 : decode cX9_hasText 21 = .ok (.ireturn, 1) := by decide +kernel
theorem dR_text_0 : decode cX9_text 0 = .ok (.iload_n 1, 1) := by decide +kernel
theorem dR_text_1 : decode cX9_text 1 = .ok (.iconst 0, 1) := by decide +kernel
theorem dR_text_2 : decode cX9_text 2 = .ok (.iconst 1, 1) := by decide +kernel
theorem dR_text_3 : decode cX9_text 3 = .ok (.invokestatic 53, 3) := by decide +kernel
theorem dR_text_6 : decode cX9_text 6 = .ok (.ifCond .ne 9, 3) := by decide +kernel
theorem dR_text_9 : decode cX9_text 9 = .ok (.aload_n 0, 1) := by decide +kernel
theorem dR_text_10 : decode cX9_text 10 = .ok (.iconst 1, 1) := by decide +kernel
theorem dR_text_11 : decode cX9_text 11 = .ok (.invokevirtual 62, 3) := by decide +kernel
theorem dR_text_14 : decode cX9_text 14 = .ok (.ireturn, 1) := by decide +kernel
theorem dR_text_15 : decode cX9_text 15 = .ok (.aload_n 0, 1) := by decide +kernel
theorem dR_text_16 : decode cX9_text 16 = .ok (.iload_n 1, 1) := by decide +kernel
theorem dR_text_17 : decode cX9_text 17 = .ok (.putfield 127, 3) := by decide +kernel
theorem dR_text_20 : decode cX9_text 20 = .ok (.aload_n 0, 1) := by decide +kernel
theorem dR_text_21 : decode cX9_text 21 = .ok (.iconst 0, 1) := by decide +kernel
theorem dR_text_22 : decode cX9_text 22 = .ok (.putfield 123, 3) := by decide +kernel
theorem dR_text_25 : decode cX9_text 25 = .ok (.aload_n 0, 1) := by decide +kernel
theorem dR_text_26 : decode cX9_text 26 = .ok (.iconst 0, 1) := by decide +kernel
theorem dR_text_27 : decode cX9_text 27 = .ok (.putfield 156, 3) := by decide +kernel
theorem dR_text_30 : decode cX9_text 30 = .ok (.aload_n 0, 1) := by decide +kernel
theorem dR_text_31 : decode cX9_text 31 = .ok (.iconst 0, 1) := by decide +kernel
theorem dR_text_32 : decode cX9_text 32 = .ok (.putfield 130, 3) := by decide +kernel
theorem dR_text_35 : decode cX9_text 35 = .ok (.aload_n 0, 1) := by decide +kernel
theorem dR_text_36 : decode cX9_text 36 = .ok (.invokevirtual 165, 3) := by decide +kernel
theorem dR_text_39 : decode cX9_text 39 = .ok (.ifCond .eq 21, 3) := by decide +kernel
theorem dR_text_42 : decode cX9_text 42 = .ok (.aload_n 0, 1) := by decide +kernel
theorem dR_text_43 : decode cX9_text 43 = .ok (.getfield 123, 3) := by decide +kernel
theorem dR_text_46 : decode cX9_text 46 = .ok (.aload_n 0, 1) := by decide +kernel
theorem dR_text_47 : decode cX9_text 47 = .ok (.getfield 7, 3) := by decide +kernel
theorem dR_text_50 : decode cX9_text 50 = .ok (.bipush 6, 2) := by decide +kernel
theorem dR_text_52 : decode cX9_text 52 = .ok (.iaload, 1) := by decide +kernel
theorem dR_text_53 : decode cX9_text 53 = .ok (.if_icmp .ne 7, 3) := by decide +kernel
theorem dR_text_56 : decode cX9_text 56 = .ok (.iconst 1, 1) := by decide +kernel
theorem dR_text_57 : decode cX9_text 57 = .ok (.goto 4, 3) := by decide +kernel
theorem dR_text_60 : decode cX9_text 60 = .ok (.iconst 0, 1) := by decide +kernel
theorem dR_text_61 : decode cX9_text 61 = .ok (.istore_n 2, 1) := by decide +kernel
theorem dR_text_62 : decode cX9_text 62 = .ok (.aload_n 0, 1) := by decide +kernel
theorem dR_text_63 : decode cX9_text 63 = .ok (.getfield 7, 3) := by decide +kernel
theorem dR_text_66 : decode cX9_text 66 = .ok (.bipush 6, 2) := by decide +kernel
theorem dR_text_68 : decode cX9_text 68 = .ok (.iconst 0, 1) := by decide +kernel
theorem dR_text_69 : decode cX9_text 69 = .ok (.iastore, 1) := by decide +kernel
theorem dR_text_70 : decode cX9_text 70 = .ok (.iload_n 2, 1) := by decide +kernel
theorem dR_text_71 : decode cX9_text 71 = .ok (.ifCond .ne 11, 3) := by decide +kernel
theorem dR_text_74 : decode cX9_text 74 = .ok (.bipush (-10), 2) := by decide +kernel
theorem dR_text_76 : decode cX9_text 76 = .ok (.aload_n 0, 1) := by decide +kernel
theorem dR_text_77 : decode cX9_text 77 = .ok (.getfield 123, 3) := by decide +kernel
theorem dR_text_80 : decode cX9_text 80 = .ok (.isub, 1) := by decide +kernel
theorem dR_text_81 : decode cX9_text 81 = .ok (.ireturn, 1) := by decide +kernel
theorem dR_text_82 : decode cX9_text 82 = .ok (.sipush 202, 3) := by decide +kernel
theorem dR_text_85 : decode cX9_text 85 = .ok (.bipush 125, 2) := by decide +kernel
theorem dR_text_87 : decode cX9_text 87 = .ok (.iload_n 1, 1) := by decide +kernel
theorem dR_text_88 : decode cX9_text 88 = .ok (.imul, 1) := by decide +kernel
theorem dR_text_89 : decode cX9_text 89 = .ok (.iadd, 1) := by decide +kernel
theorem dR_text_90 : decode cX9_text 90 = .ok (.istore_n 3, 1) := by decide +kernel
theorem dR_text_91 : decode cX9_text 91 = .ok (.aload_n 0, 1) := by decide +kernel
theorem dR_text_92 : decode cX9_text 92 = .ok (.getfield 7, 3) := by decide +kernel
theorem dR_text_95 : decode cX9_text 95 = .ok (.iload_n 3, 1) := by decide +kernel
theorem dR_text_96 : decode cX9_text 96 = .ok (.aload_n 0, 1) := by decide +kernel
theorem dR_text_97 : decode cX9_text 97 = .ok (.getfield 130, 3) := by decide +kernel
theorem dR_text_100 : decode cX9_text 100 = .ok (.iastore, 1) := by decide +kernel
theorem dR_text_101 : decode cX9_text 101 = .ok (.iconst 0, 1) := by decide +kernel
theorem dR_text_102 : decode cX9_text 102 = .ok (.istore 4, 2) := by decide +kernel
theorem dR_text_104 : decode cX9_text 104 = .ok (.iload 4, 2) := by decide +kernel
theorem dR_text_106 : decode cX9_text 106 = .ok (.iconst 2, 1) := by decide +kernel
theorem dR_text_107 : decode cX9_text 107 = .ok (.aload_n 0, 1) := by decide +kernel
theorem dR_text_108 : decode cX9_text 108 = .ok (.getfield 130, 3) := by decide +kernel
theorem dR_text_111 : decode cX9_text 111 = .ok (.imul, 1) := by decide +kernel
theorem dR_text_112 : decode cX9_text 112 = .ok (.if_icmp .ge 27, 3) := by decide +kernel
theorem dR_text_115 : decode cX9_text 115 = .ok (.aload_n 0, 1) := by decide +kernel
theorem dR_text_116 : decode cX9_text 116 = .ok (.getfield 7, 3) := by decide +kernel
theorem dR_text_119 : decode cX9_text 119 = .ok (.iload_n 3, 1) := by decide +kernel
theorem dR_text_120 : decode cX9_text 120 = .ok (.iconst 1, 1) := by decide +kernel
theorem dR_text_121 : decode cX9_text 121 = .ok (.iadd, 1) := by decide +kernel
theorem dR_text_122 : decode cX9_text 122 = .ok (.iload 4, 2) := by decide +kernel
theorem dR_text_124 : decode cX9_text 124 = .ok (.iadd, 1) := by decide +kernel
theorem dR_text_125 : decode cX9_text 125 = .ok (.aload_n 0, 1) := by decide +kernel
theorem dR_text_126 : decode cX9_text 126 = .ok (.getfield 22, 3) := by decide +kernel
theorem dR_text_129 : decode cX9_text 129 = .ok (.iload 4, 2) := by decide +kernel
theorem dR_text_131 : decode cX9_text 131 = .ok (.iaload, 1) := by decide +kernel
theorem dR_text_132 : decode cX9_text 132 = .ok (.iastore, 1) := by decide +kernel
theorem dR_text_133 : decode cX9_text 133 = .ok (.iinc 4 1, 3) := by decide +kernel
theorem dR_text_136 : decode cX9_text 136 = .ok (.goto (-32), 3) := by decide +kernel
theorem dR_text_139 : decode cX9_text 139 = .ok (.iconst 1, 1) := by decide +kernel
theorem dR_text_140 : decode cX9_text 140 = .ok (.ireturn, 1) := by decide +kernel
theorem dR_untell_0 : decode cX9_untell 0 = .ok (.iload_n 1, 1) := by decide +kernel
theorem dR_untell_1 : decode cX9_untell 1 = .ok (.iconst 0, 1) := by decide +kernel
theorem dR_untell_2 : decode cX9_untell 2 = .ok (.iconst 1, 1) := by decide +kernel
theorem dR_untell_3 : decode cX9_untell 3 = .ok (.invokestatic 53, 3) := by decide +kernel
theorem dR_untell_6 : decode cX9_untell 6 = .ok (.ifCond .ne 9, 3) := by decide +kernel
theorem dR_untell_9 : decode cX9_untell 9 = .ok (.aload_n 0, 1) := by decide +kernel
theorem dR_untell_10 : decode cX9_untell 10 = .ok (.iconst 1, 1) := by decide +kernel
theorem dR_untell_11 : decode cX9_untell 11 = .ok (.invokevirtual 62, 3) := by decide +kernel
theorem dR_untell_14 : decode cX9_untell 14 = .ok (.ireturn, 1) := by decide +kernel
theorem dR_untell_15 : decode cX9_untell 15 = .ok (.aload_n 0, 1) := by decide +kernel
theorem dR_untell_16 : decode cX9_untell 16 = .ok (.iload_n 1, 1) := by decide +kernel
theorem dR_untell_17 : decode cX9_untell 17 = .ok (.invokevirtual 168, 3) := by decide +kernel
theorem dR_untell_20 : decode cX9_untell 20 = .ok (.ifCond .eq 7, 3) := by decide +kernel
theorem dR_untell_23 : decode cX9_untell 23 = .ok (.iconst 1, 1) := by decide +kernel
theorem dR_untell_24 : decode cX9_untell 24 = .ok (.goto 4, 3) := by decide +kernel
theorem dR_untell_27 : decode cX9_untell 27 = .ok (.iconst 0, 1) := by decide +kernel
theorem dR_untell_28 : decode cX9_untell 28 = .ok (.istore_n 2, 1) := by decide +kernel
theorem dR_untell_29 : decode cX9_untell 29 = .ok (.aload_n 0, 1) := by decide +kernel
theorem dR_untell_30 : decode cX9_untell 30 = .ok (.getfield 7, 3) := by decide +kernel
theorem dR_untell_33 : decode cX9_untell 33 = .ok (.sipush 202, 3) := by decide +kernel
theorem dR_untell_36 : decode cX9_untell 36 = .ok (.bipush 125, 2) := by decide +kernel
theorem dR_untell_38 : decode cX9_untell 38 = .ok (.iload_n 1, 1) := by decide +kernel
theorem dR_untell_39 : decode cX9_untell 39 = .ok (.imul, 1) := by decide +kernel
theorem dR_untell_40 : decode cX9_untell 40 = .ok (.iadd, 1) := by decide +kernel
theorem dR_untell_41 : decode cX9_untell 41 = .ok (.iconst 0, 1) := by decide +kernel
theorem dR_untell_42 : decode cX9_untell 42 = .ok (.iastore, 1) := by decide +kernel
theorem dR_untell_43 : decode cX9_untell 43 = .ok (.iload_n 2, 1) := by decide +kernel
theorem dR_untell_44 : decode cX9_untell 44 = .ok (.ireturn, 1) := by decide +kernel
theorem dR_joined_0 : decode cX9_joined 0 = .ok (.iload_n 0, 1) := by decide +kernel
theorem dR_joined_1 : decode cX9_joined 1 = .ok (.tableswitch 217 37 62 #[153, 203, 217, 217, 217, 127, 119, 217, 123, 217, 131, 217, 217, 217, 217, 217, 217, 217, 217, 217, 217, 217, 217, 170, 192, 181], 119) := by decide +kernel
theorem dR_joined_120 : decode cX9_joined 120 = .ok (.iload_n 1, 1) := by decide +kernel
theorem dR_joined_121 : decode cX9_joined 121 = .ok (.iload_n 2, 1) := by decide +kernel
theorem dR_joined_122 : decode cX9_joined 122 = .ok (.iadd, 1) := by decide +kernel
theorem dR_joined_123 : decode cX9_joined 123 = .ok (.ireturn, 1) := by decide +kernel
theorem dR_joined_124 : decode cX9_joined 124 = .ok (.iload_n 1, 1) := by decide +kernel
theorem dR_joined_125 : decode cX9_joined 125 = .ok (.iload_n 2, 1) := by decide +kernel
theorem dR_joined_126 : decode cX9_joined 126 = .ok (.isub, 1) := by decide +kernel
theorem dR_joined_127 : decode cX9_joined 127 = .ok (.ireturn, 1) := by decide +kernel
theorem dR_joined_128 : decode cX9_joined 128 = .ok (.iload_n 1, 1) := by decide +kernel
theorem dR_joined_129 : decode cX9_joined 129 = .ok (.iload_n 2, 1) := by decide +kernel
theorem dR_joined_130 : decode cX9_joined 130 = .ok (.imul, 1) := by decide +kernel
theorem dR_joined_131 : decode cX9_joined 131 = .ok (.ireturn, 1) := by decide +kernel
theorem dR_joined_132 : decode cX9_joined 132 = .ok (.iload_n 2, 1) := by decide +kernel
theorem dR_joined_133 : decode cX9_joined 133 = .ok (.ifCond .ne 7, 3) := by decide +kernel
theorem dR_joined_136 : decode cX9_joined 136 = .ok (.iconst 0, 1) := by decide +kernel
theorem dR_joined_137 : decode cX9_joined 137 = .ok (.goto 16, 3) := by decide +kernel
theorem dR_joined_140 : decode cX9_joined 140 = .ok (.iload_n 2, 1) := by decide +kernel
theorem dR_joined_141 : decode cX9_joined 141 = .ok (.iconst (-1), 1) := by decide +kernel
theorem dR_joined_142 : decode cX9_joined 142 = .ok (.if_icmp .ne 8, 3) := by decide +kernel
theorem dR_joined_145 : decode cX9_joined 145 = .ok (.iload_n 1, 1) := by decide +kernel
theorem dR_joined_146 : decode cX9_joined 146 = .ok (.ineg, 1) := by decide +kernel
theorem dR_joined_147 : decode cX9_joined 147 = .ok (.goto 6, 3) := by decide +kernel
theorem dR_joined_150 : decode cX9_joined 150 = .ok (.iload_n 1, 1) := by decide +kernel
theorem dR_joined_151 : decode cX9_joined 151 = .ok (.iload_n 2, 1) := by decide +kernel
theorem dR_joined_152 : decode cX9_joined 152 = .ok (.idiv, 1) := by decide +kernel
theorem dR_joined_153 : decode cX9_joined 153 = .ok (.ireturn, 1) := by decide +kernel
theorem dR_joined_154 : decode cX9_joined 154 = .ok (.iload_n 2, 1) := by decide +kernel
theorem dR_joined_155 : decode cX9_joined 155 = .ok (.ifCond .eq 8, 3) := by decide +kernel
theorem dR_joined_158 : decode cX9_joined 158 = .ok (.iload_n 2, 1) := by decide +kernel
theorem dR_joined_159 : decode cX9_joined 159 = .ok (.iconst (-1), 1) := by decide +kernel
theorem dR_joined_160 : decode cX9_joined 160 = .ok (.if_icmp .ne 7, 3) := by decide +kernel
theorem dR_joined_163 : decode cX9_joined 163 = .ok (.iconst 0, 1) := by decide +kernel
theorem dR_joined_164 : decode cX9_joined 164 = .ok (.goto 6, 3) := by decide +kernel
theorem dR_joined_167 : decode cX9_joined 167 = .ok (.iload_n 1, 1) := by decide +kernel
theorem dR_joined_168 : decode cX9_joined 168 = .ok (.iload_n 2, 1) := by decide +kernel
theorem dR_joined_169 : decode cX9_joined 169 = .ok (.irem, 1) := by decide +kernel
theorem dR_joined_170 : decode cX9_joined 170 = .ok (.ireturn, 1) := by decide +kernel
theorem dR_joined_171 : decode cX9_joined 171 = .ok (.iload_n 1, 1) := by decide +kernel
theorem dR_joined_172 : decode cX9_joined 172 = .ok (.iload_n 2, 1) := by decide +kernel
theorem dR_joined_173 : decode cX9_joined 173 = .ok (.if_icmp .ge 7, 3) := by decide +kernel
theorem dR_joined_176 : decode cX9_joined 176 = .ok (.iconst 1, 1) := by decide +kernel
theorem dR_joined_177 : decode cX9_joined 177 = .ok (.goto 4, 3) := by decide +kernel
theorem dR_joined_180 : decode cX9_joined 180 = .ok (.iconst 0, 1) := by decide +kernel
theorem dR_joined_181 : decode cX9_joined 181 = .ok (.ireturn, 1) := by decide +kernel
theorem dR_joined_182 : decode cX9_joined 182 = .ok (.iload_n 1, 1) := by decide +kernel
theorem dR_joined_183 : decode cX9_joined 183 = .ok (.iload_n 2, 1) := by decide +kernel
theorem dR_joined_184 : decode cX9_joined 184 = .ok (.if_icmp .le 7, 3) := by decide +kernel
theorem dR_joined_187 : decode cX9_joined 187 = .ok (.iconst 1, 1) := by decide +kernel
theorem dR_joined_188 : decode cX9_joined 188 = .ok (.goto 4, 3) := by decide +kernel
theorem dR_joined_191 : decode cX9_joined 191 = .ok (.iconst 0, 1) := by decide +kernel
theorem dR_joined_192 : decode cX9_joined 192 = .ok (.ireturn, 1) := by decide +kernel
theorem dR_joined_193 : decode cX9_joined 193 = .ok (.iload_n 1, 1) := by decide +kernel
theorem dR_joined_194 : decode cX9_joined 194 = .ok (.iload_n 2, 1) := by decide +kernel
theorem dR_joined_195 : decode cX9_joined 195 = .ok (.if_icmp .ne 7, 3) := by decide +kernel
theorem dR_joined_198 : decode cX9_joined 198 = .ok (.iconst 1, 1) := by decide +kernel
theorem dR_joined_199 : decode cX9_joined 199 = .ok (.goto 4, 3) := by decide +kernel
theorem dR_joined_202 : decode cX9_joined 202 = .ok (.iconst 0, 1) := by decide +kernel
theorem dR_joined_203 : decode cX9_joined 203 = .ok (.ireturn, 1) := by decide +kernel
theorem dR_joined_204 : decode cX9_joined 204 = .ok (.iload_n 1, 1) := by decide +kernel
theorem dR_joined_205 : decode cX9_joined 205 = .ok (.ifCond .eq 11, 3) := by decide +kernel
theorem dR_joined_208 : decode cX9_joined 208 = .ok (.iload_n 2, 1) := by decide +kernel
theorem dR_joined_209 : decode cX9_joined 209 = .ok (.ifCond .eq 7, 3) := by decide +kernel
theorem dR_joined_212 : decode cX9_joined 212 = .ok (.iconst 1, 1) := by decide +kernel
theorem dR_joined_213 : decode cX9_joined 213 = .ok (.goto 4, 3) := by decide +kernel
theorem dR_joined_216 : decode cX9_joined 216 = .ok (.iconst 0, 1) := by decide +kernel
theorem dR_joined_217 : decode cX9_joined 217 = .ok (.ireturn, 1) := by decide +kernel
theorem dR_joined_218 : decode cX9_joined 218 = .ok (.iload_n 1, 1) := by decide +kernel
theorem dR_joined_219 : decode cX9_joined 219 = .ok (.ifCond .ne 7, 3) := by decide +kernel
theorem dR_joined_222 : decode cX9_joined 222 = .ok (.iload_n 2, 1) := by decide +kernel
theorem dR_joined_223 : decode cX9_joined 223 = .ok (.ifCond .eq 7, 3) := by decide +kernel
theorem dR_joined_226 : decode cX9_joined 226 = .ok (.iconst 1, 1) := by decide +kernel
theorem dR_joined_227 : decode cX9_joined 227 = .ok (.goto 4, 3) := by decide +kernel
theorem dR_joined_230 : decode cX9_joined 230 = .ok (.iconst 0, 1) := by decide +kernel
theorem dR_joined_231 : decode cX9_joined 231 = .ok (.ireturn, 1) := by decide +kernel
theorem dR_worked_0 : decode cX9_worked 0 = .ok (.sipush 202, 3) := by decide +kernel
theorem dR_worked_3 : decode cX9_worked 3 = .ok (.bipush 125, 2) := by decide +kernel
theorem dR_worked_5 : decode cX9_worked 5 = .ok (.iload_n 1, 1) := by decide +kernel
theorem dR_worked_6 : decode cX9_worked 6 = .ok (.imul, 1) := by decide +kernel
theorem dR_worked_7 : decode cX9_worked 7 = .ok (.iadd, 1) := by decide +kernel
theorem dR_worked_8 : decode cX9_worked 8 = .ok (.istore_n 2, 1) := by decide +kernel
theorem dR_worked_9 : decode cX9_worked 9 = .ok (.iconst 0, 1) := by decide +kernel
theorem dR_worked_10 : decode cX9_worked 10 = .ok (.istore_n 3, 1) := by decide +kernel
theorem dR_worked_11 : decode cX9_worked 11 = .ok (.iconst 0, 1) := by decide +kernel
theorem dR_worked_12 : decode cX9_worked 12 = .ok (.istore 4, 2) := by decide +kernel
theorem dR_worked_14 : decode cX9_worked 14 = .ok (.iload 4, 2) := by decide +kernel
theorem dR_worked_16 : decode cX9_worked 16 = .ok (.aload_n 0, 1) := by decide +kernel
theorem dR_worked_17 : decode cX9_worked 17 = .ok (.getfield 7, 3) := by decide +kernel
theorem dR_worked_20 : decode cX9_worked 20 = .ok (.iload_n 2, 1) := by decide +kernel
theorem dR_worked_21 : decode cX9_worked 21 = .ok (.iaload, 1) := by decide +kernel
theorem dR_worked_22 : decode cX9_worked 22 = .ok (.if_icmp .ge 142, 3) := by decide +kernel
theorem dR_worked_25 : decode cX9_worked 25 = .ok (.aload_n 0, 1) := by decide +kernel
theorem dR_worked_26 : decode cX9_worked 26 = .ok (.getfield 7, 3) := by decide +kernel
theorem dR_worked_29 : decode cX9_worked 29 = .ok (.iload_n 2, 1) := by decide +kernel
theorem dR_worked_30 : decode cX9_worked 30 = .ok (.iconst 1, 1) := by decide +kernel
theorem dR_worked_31 : decode cX9_worked 31 = .ok (.iadd, 1) := by decide +kernel
theorem dR_worked_32 : decode cX9_worked 32 = .ok (.iconst 2, 1) := by decide +kernel
theorem dR_worked_33 : decode cX9_worked 33 = .ok (.iload 4, 2) := by decide +kernel
theorem dR_worked_35 : decode cX9_worked 35 = .ok (.imul, 1) := by decide +kernel
theorem dR_worked_36 : decode cX9_worked 36 = .ok (.iadd, 1) := by decide +kernel
theorem dR_worked_37 : decode cX9_worked 37 = .ok (.iaload, 1) := by decide +kernel
theorem dR_worked_38 : decode cX9_worked 38 = .ok (.istore 5, 2) := by decide +kernel
theorem dR_worked_40 : decode cX9_worked 40 = .ok (.aload_n 0, 1) := by decide +kernel
theorem dR_worked_41 : decode cX9_worked 41 = .ok (.getfield 7, 3) := by decide +kernel
theorem dR_worked_44 : decode cX9_worked 44 = .ok (.iload_n 2, 1) := by decide +kernel
theorem dR_worked_45 : decode cX9_worked 45 = .ok (.iconst 2, 1) := by decide +kernel
theorem dR_worked_46 : decode cX9_worked 46 = .ok (.iadd, 1) := by decide +kernel
theorem dR_worked_47 : decode cX9_worked 47 = .ok (.iconst 2, 1) := by decide +kernel
theorem dR_worked_48 : decode cX9_worked 48 = .ok (.iload 4, 2) := by decide +kernel
theorem dR_worked_50 : decode cX9_worked 50 = .ok (.imul, 1) := by decide +kernel
theorem dR_worked_51 : decode cX9_worked 51 = .ok (.iadd, 1) := by decide +kernel
theorem dR_worked_52 : decode cX9_worked 52 = .ok (.iaload, 1) := by decide +kernel
theorem dR_worked_53 : decode cX9_worked 53 = .ok (.istore 6, 2) := by decide +kernel
theorem dR_worked_55 : decode cX9_worked 55 = .ok (.iload 5, 2) := by decide +kernel
theorem dR_worked_57 : decode cX9_worked 57 = .ok (.ifCond .eq 9, 3) := by decide +kernel
theorem dR_worked_60 : decode cX9_worked 60 = .ok (.iload 5, 2) := by decide +kernel
theorem dR_worked_62 : decode cX9_worked 62 = .ok (.iconst 1, 1) := by decide +kernel
theorem dR_worked_63 : decode cX9_worked 63 = .ok (.if_icmp .ne 32, 3) := by decide +kernel
theorem dR_worked_66 : decode cX9_worked 66 = .ok (.aload_n 0, 1) := by decide +kernel
theorem dR_worked_67 : decode cX9_worked 67 = .ok (.getfield 28, 3) := by decide +kernel
theorem dR_worked_70 : decode cX9_worked 70 = .ok (.iload_n 3, 1) := by decide +kernel
theorem dR_worked_71 : decode cX9_worked 71 = .ok (.iload 5, 2) := by decide +kernel
theorem dR_worked_73 : decode cX9_worked 73 = .ok (.ifCond .ne 8, 3) := by decide +kernel
theorem dR_worked_76 : decode cX9_worked 76 = .ok (.iload 6, 2) := by decide +kernel
theorem dR_worked_78 : decode cX9_worked 78 = .ok (.goto 10, 3) := by decide +kernel
theorem dR_worked_81 : decode cX9_worked 81 = .ok (.aload_n 0, 1) := by decide +kernel
theorem dR_worked_82 : decode cX9_worked 82 = .ok (.getfield 25, 3) := by decide +kernel
theorem dR_worked_85 : decode cX9_worked 85 = .ok (.iload 6, 2) := by decide +kernel
theorem dR_worked_87 : decode cX9_worked 87 = .ok (.iaload, 1) := by decide +kernel
theorem dR_worked_88 : decode cX9_worked 88 = .ok (.iastore, 1) := by decide +kernel
theorem dR_worked_89 : decode cX9_worked 89 = .ok (.iinc 3 1, 3) := by decide +kernel
theorem dR_worked_92 : decode cX9_worked 92 = .ok (.goto 66, 3) := by decide +kernel
theorem dR_worked_95 : decode cX9_worked 95 = .ok (.iload 5, 2) := by decide +kernel
theorem dR_worked_97 : decode cX9_worked 97 = .ok (.iconst 2, 1) := by decide +kernel
theorem dR_worked_98 : decode cX9_worked 98 = .ok (.if_icmp .ne 30, 3) := by decide +kernel
theorem dR_worked_101 : decode cX9_worked 101 = .ok (.aload_n 0, 1) := by decide +kernel
theorem dR_worked_102 : decode cX9_worked 102 = .ok (.getfield 28, 3) := by decide +kernel
theorem dR_worked_105 : decode cX9_worked 105 = .ok (.iload_n 3, 1) := by decide +kernel
theorem dR_worked_106 : decode cX9_worked 106 = .ok (.iconst 1, 1) := by decide +kernel
theorem dR_worked_107 : decode cX9_worked 107 = .ok (.isub, 1) := by decide +kernel
theorem dR_worked_108 : decode cX9_worked 108 = .ok (.aload_n 0, 1) := by decide +kernel
theorem dR_worked_109 : decode cX9_worked 109 = .ok (.getfield 28, 3) := by decide +kernel
theorem dR_worked_112 : decode cX9_worked 112 = .ok (.iload_n 3, 1) := by decide +kernel
theorem dR_worked_113 : decode cX9_worked 113 = .ok (.iconst 1, 1) := by decide +kernel
theorem dR_worked_114 : decode cX9_worked 114 = .ok (.isub, 1) := by decide +kernel
theorem dR_worked_115 : decode cX9_worked 115 = .ok (.iaload, 1) := by decide +kernel
theorem dR_worked_116 : decode cX9_worked 116 = .ok (.ifCond .ne 7, 3) := by decide +kernel
theorem dR_worked_119 : decode cX9_worked 119 = .ok (.iconst 1, 1) := by decide +kernel
theorem dR_worked_120 : decode cX9_worked 120 = .ok (.goto 4, 3) := by decide +kernel
theorem dR_worked_123 : decode cX9_worked 123 = .ok (.iconst 0, 1) := by decide +kernel
theorem dR_worked_124 : decode cX9_worked 124 = .ok (.iastore, 1) := by decide +kernel
theorem dR_worked_125 : decode cX9_worked 125 = .ok (.goto 33, 3) := by decide +kernel
theorem dR_worked_128 : decode cX9_worked 128 = .ok (.iinc 3 (-1), 3) := by decide +kernel
theorem dR_worked_131 : decode cX9_worked 131 = .ok (.aload_n 0, 1) := by decide +kernel
theorem dR_worked_132 : decode cX9_worked 132 = .ok (.getfield 28, 3) := by decide +kernel
theorem dR_worked_135 : decode cX9_worked 135 = .ok (.iload_n 3, 1) := by decide +kernel
theorem dR_worked_136 : decode cX9_worked 136 = .ok (.iconst 1, 1) := by decide +kernel
theorem dR_worked_137 : decode cX9_worked 137 = .ok (.isub, 1) := by decide +kernel
theorem dR_worked_138 : decode cX9_worked 138 = .ok (.iload 6, 2) := by decide +kernel
theorem dR_worked_140 : decode cX9_worked 140 = .ok (.aload_n 0, 1) := by decide +kernel
theorem dR_worked_141 : decode cX9_worked 141 = .ok (.getfield 28, 3) := by decide +kernel
theorem dR_worked_144 : decode cX9_worked 144 = .ok (.iload_n 3, 1) := by decide +kernel
theorem dR_worked_145 : decode cX9_worked 145 = .ok (.iconst 1, 1) := by decide +kernel
theorem dR_worked_146 : decode cX9_worked 146 = .ok (.isub, 1) := by decide +kernel
theorem dR_worked_147 : decode cX9_worked 147 = .ok (.iaload, 1) := by decide +kernel
theorem dR_worked_148 : decode cX9_worked 148 = .ok (.aload_n 0, 1) := by decide +kernel
theorem dR_worked_149 : decode cX9_worked 149 = .ok (.getfield 28, 3) := by decide +kernel
theorem dR_worked_152 : decode cX9_worked 152 = .ok (.iload_n 3, 1) := by decide +kernel
theorem dR_worked_153 : decode cX9_worked 153 = .ok (.iaload, 1) := by decide +kernel
theorem dR_worked_154 : decode cX9_worked 154 = .ok (.invokestatic 171, 3) := by decide +kernel
theorem dR_worked_157 : decode cX9_worked 157 = .ok (.iastore, 1) := by decide +kernel
theorem dR_worked_158 : decode cX9_worked 158 = .ok (.iinc 4 1, 3) := by decide +kernel
theorem dR_worked_161 : decode cX9_worked 161 = .ok (.goto (-147), 3) := by decide +kernel
theorem dR_worked_164 : decode cX9_worked 164 = .ok (.aload_n 0, 1) := by decide +kernel
theorem dR_worked_165 : decode cX9_worked 165 = .ok (.getfield 28, 3) := by decide +kernel
theorem dR_worked_168 : decode cX9_worked 168 = .ok (.iconst 0, 1) := by decide +kernel
theorem dR_worked_169 : decode cX9_worked 169 = .ok (.iaload, 1) := by decide +kernel
theorem dR_worked_170 : decode cX9_worked 170 = .ok (.ireturn, 1) := by decide +kernel
theorem dR_thousandths_0 : decode cX9_thousandths 0 = .ok (.aload_n 0, 1) := by decide +kernel
theorem dR_thousandths_1 : decode cX9_thousandths 1 = .ok (.iload_n 1, 1) := by decide +kernel
theorem dR_thousandths_2 : decode cX9_thousandths 2 = .ok (.iconst 2, 1) := by decide +kernel
theorem dR_thousandths_3 : decode cX9_thousandths 3 = .ok (.invokevirtual 73, 3) := by decide +kernel
theorem dR_thousandths_6 : decode cX9_thousandths 6 = .ok (.ifCond .ne 7, 3) := by decide +kernel
theorem dR_thousandths_9 : decode cX9_thousandths 9 = .ok (.iconst 0, 1) := by decide +kernel
theorem dR_thousandths_10 : decode cX9_thousandths 10 = .ok (.goto 21, 3) := by decide +kernel
theorem dR_thousandths_13 : decode cX9_thousandths 13 = .ok (.aload_n 0, 1) := by decide +kernel
theorem dR_thousandths_14 : decode cX9_thousandths 14 = .ok (.iload_n 1, 1) := by decide +kernel
theorem dR_thousandths_15 : decode cX9_thousandths 15 = .ok (.iconst 3, 1) := by decide +kernel
theorem dR_thousandths_16 : decode cX9_thousandths 16 = .ok (.invokevirtual 73, 3) := by decide +kernel
theorem dR_thousandths_19 : decode cX9_thousandths 19 = .ok (.sipush 1000, 3) := by decide +kernel
theorem dR_thousandths_22 : decode cX9_thousandths 22 = .ok (.aload_n 0, 1) := by decide +kernel
theorem dR_thousandths_23 : decode cX9_thousandths 23 = .ok (.iload_n 1, 1) := by decide +kernel
theorem dR_thousandths_24 : decode cX9_thousandths 24 = .ok (.iconst 2, 1) := by decide +kernel
theorem dR_thousandths_25 : decode cX9_thousandths 25 = .ok (.invokevirtual 73, 3) := by decide +kernel
theorem dR_thousandths_28 : decode cX9_thousandths 28 = .ok (.invokestatic 99, 3) := by decide +kernel
theorem dR_thousandths_31 : decode cX9_thousandths 31 = .ok (.ireturn, 1) := by decide +kernel
theorem dR_rings_0 : decode cX9_rings 0 = .ok (.aload_n 0, 1) := by decide +kernel
theorem dR_rings_1 : decode cX9_rings 1 = .ok (.iload_n 1, 1) := by decide +kernel
theorem dR_rings_2 : decode cX9_rings 2 = .ok (.invokevirtual 174, 3) := by decide +kernel
theorem dR_rings_5 : decode cX9_rings 5 = .ok (.istore_n 2, 1) := by decide +kernel
theorem dR_rings_6 : decode cX9_rings 6 = .ok (.aload_n 0, 1) := by decide +kernel
theorem dR_rings_7 : decode cX9_rings 7 = .ok (.iconst 0, 1) := by decide +kernel
theorem dR_rings_8 : decode cX9_rings 8 = .ok (.invokevirtual 168, 3) := by decide +kernel
theorem dR_rings_11 : decode cX9_rings 11 = .ok (.ifCond .ne 23, 3) := by decide +kernel
theorem dR_rings_14 : decode cX9_rings 14 = .ok (.sipush 1000, 3) := by decide +kernel
theorem dR_rings_17 : decode cX9_rings 17 = .ok (.iload_n 2, 1) := by decide +kernel
theorem dR_rings_18 : decode cX9_rings 18 = .ok (.isub, 1) := by decide +kernel
theorem dR_rings_19 : decode cX9_rings 19 = .ok (.aload_n 0, 1) := by decide +kernel
theorem dR_rings_20 : decode cX9_rings 20 = .ok (.iload_n 1, 1) := by decide +kernel
theorem dR_rings_21 : decode cX9_rings 21 = .ok (.iconst 1, 1) := by decide +kernel
theorem dR_rings_22 : decode cX9_rings 22 = .ok (.invokevirtual 73, 3) := by decide +kernel
theorem dR_rings_25 : decode cX9_rings 25 = .ok (.iadd, 1) := by decide +kernel
theorem dR_rings_26 : decode cX9_rings 26 = .ok (.iconst 0, 1) := by decide +kernel
theorem dR_rings_27 : decode cX9_rings 27 = .ok (.sipush 9999, 3) := by decide +kernel
theorem dR_rings_30 : decode cX9_rings 30 = .ok (.invokestatic 92, 3) := by decide +kernel
theorem dR_rings_33 : decode cX9_rings 33 = .ok (.ireturn, 1) := by decide +kernel
theorem dR_rings_34 : decode cX9_rings 34 = .ok (.aload_n 0, 1) := by decide +kernel
theorem dR_rings_35 : decode cX9_rings 35 = .ok (.getfield 25, 3) := by decide +kernel
theorem dR_rings_38 : decode cX9_rings 38 = .ok (.bipush 103, 2) := by decide +kernel
theorem dR_rings_40 : decode cX9_rings 40 = .ok (.aload_n 0, 1) := by decide +kernel
theorem dR_rings_41 : decode cX9_rings 41 = .ok (.iload_n 1, 1) := by decide +kernel
theorem dR_rings_42 : decode cX9_rings 42 = .ok (.iconst 2, 1) := by decide +kernel
theorem dR_rings_43 : decode cX9_rings 43 = .ok (.invokevirtual 73, 3) := by decide +kernel
theorem dR_rings_46 : decode cX9_rings 46 = .ok (.iastore, 1) := by decide +kernel
theorem dR_rings_47 : decode cX9_rings 47 = .ok (.aload_n 0, 1) := by decide +kernel
theorem dR_rings_48 : decode cX9_rings 48 = .ok (.getfield 25, 3) := by decide +kernel
theorem dR_rings_51 : decode cX9_rings 51 = .ok (.bipush 115, 2) := by decide +kernel
theorem dR_rings_53 : decode cX9_rings 53 = .ok (.iload_n 2, 1) := by decide +kernel
theorem dR_rings_54 : decode cX9_rings 54 = .ok (.iastore, 1) := by decide +kernel
theorem dR_rings_55 : decode cX9_rings 55 = .ok (.aload_n 0, 1) := by decide +kernel
theorem dR_rings_56 : decode cX9_rings 56 = .ok (.getfield 25, 3) := by decide +kernel
theorem dR_rings_59 : decode cX9_rings 59 = .ok (.bipush 109, 2) := by decide +kernel
theorem dR_rings_61 : decode cX9_rings 61 = .ok (.aload_n 0, 1) := by decide +kernel
theorem dR_rings_62 : decode cX9_rings 62 = .ok (.iload_n 1, 1) := by decide +kernel
theorem dR_rings_63 : decode cX9_rings 63 = .ok (.iconst 1, 1) := by decide +kernel
theorem dR_rings_64 : decode cX9_rings 64 = .ok (.invokevirtual 73, 3) := by decide +kernel
theorem dR_rings_67 : decode cX9_rings 67 = .ok (.iastore, 1) := by decide +kernel
theorem dR_rings_68 : decode cX9_rings 68 = .ok (.aload_n 0, 1) := by decide +kernel
theorem dR_rings_69 : decode cX9_rings 69 = .ok (.iconst 0, 1) := by decide +kernel
theorem dR_rings_70 : decode cX9_rings 70 = .ok (.invokevirtual 177, 3) := by decide +kernel
theorem dR_rings_73 : decode cX9_rings 73 = .ok (.iconst 0, 1) := by decide +kernel
theorem dR_rings_74 : decode cX9_rings 74 = .ok (.sipush 9999, 3) := by decide +kernel
theorem dR_rings_77 : decode cX9_rings 77 = .ok (.invokestatic 92, 3) := by decide +kernel
theorem dR_rings_80 : decode cX9_rings 80 = .ok (.ireturn, 1) := by decide +kernel
theorem dR_tone_0 : decode cX9_tone 0 = .ok (.sipush 1000, 3) := by decide +kernel
theorem dR_tone_3 : decode cX9_tone 3 = .ok (.aload_n 0, 1) := by decide +kernel
theorem dR_tone_4 : decode cX9_tone 4 = .ok (.iload_n 1, 1) := by decide +kernel
theorem dR_tone_5 : decode cX9_tone 5 = .ok (.invokevirtual 174, 3) := by decide +kernel
theorem dR_tone_8 : decode cX9_tone 8 = .ok (.isub, 1) := by decide +kernel
theorem dR_tone_9 : decode cX9_tone 9 = .ok (.istore_n 2, 1) := by decide +kernel
theorem dR_tone_10 : decode cX9_tone 10 = .ok (.aload_n 0, 1) := by decide +kernel
theorem dR_tone_11 : decode cX9_tone 11 = .ok (.iload_n 1, 1) := by decide +kernel
theorem dR_tone_12 : decode cX9_tone 12 = .ok (.iconst 1, 1) := by decide +kernel
theorem dR_tone_13 : decode cX9_tone 13 = .ok (.invokevirtual 73, 3) := by decide +kernel
theorem dR_tone_16 : decode cX9_tone 16 = .ok (.istore_n 3, 1) := by decide +kernel
theorem dR_tone_17 : decode cX9_tone 17 = .ok (.aload_n 0, 1) := by decide +kernel
theorem dR_tone_18 : decode cX9_tone 18 = .ok (.iload_n 1, 1) := by decide +kernel
theorem dR_tone_19 : decode cX9_tone 19 = .ok (.iconst 0, 1) := by decide +kernel
theorem dR_tone_20 : decode cX9_tone 20 = .ok (.invokevirtual 73, 3) := by decide +kernel
theorem dR_tone_23 : decode cX9_tone 23 = .ok (.tableswitch 90 1 6 #[37, 43, 49, 55, 65, 82], 37) := by decide +kernel
theorem dR_tone_60 : decode cX9_tone 60 = .ok (.aload_n 0, 1) := by decide +kernel
theorem dR_tone_61 : decode cX9_tone 61 = .ok (.iload_n 1, 1) := by decide +kernel
theorem dR_tone_62 : decode cX9_tone 62 = .ok (.invokevirtual 180, 3) := by decide +kernel
theorem dR_tone_65 : decode cX9_tone 65 = .ok (.ireturn, 1) := by decide +kernel
theorem dR_tone_66 : decode cX9_tone 66 = .ok (.iload_n 2, 1) := by decide +kernel
theorem dR_tone_67 : decode cX9_tone 67 = .ok (.iconst 2, 1) := by decide +kernel
theorem dR_tone_68 : decode cX9_tone 68 = .ok (.idiv, 1) := by decide +kernel
theorem dR_tone_69 : decode cX9_tone 69 = .ok (.iload_n 3, 1) := by decide +kernel
theorem dR_tone_70 : decode cX9_tone 70 = .ok (.iadd, 1) := by decide +kernel
theorem dR_tone_71 : decode cX9_tone 71 = .ok (.ireturn, 1) := by decide +kernel
theorem dR_tone_72 : decode cX9_tone 72 = .ok (.iload_n 2, 1) := by decide +kernel
theorem dR_tone_73 : decode cX9_tone 73 = .ok (.iconst 2, 1) := by decide +kernel
theorem dR_tone_74 : decode cX9_tone 74 = .ok (.iload_n 3, 1) := by decide +kernel
theorem dR_tone_75 : decode cX9_tone 75 = .ok (.imul, 1) := by decide +kernel
theorem dR_tone_76 : decode cX9_tone 76 = .ok (.isub, 1) := by decide +kernel
theorem dR_tone_77 : decode cX9_tone 77 = .ok (.ireturn, 1) := by decide +kernel
theorem dR_tone_78 : decode cX9_tone 78 = .ok (.aload_n 0, 1) := by decide +kernel
theorem dR_tone_79 : decode cX9_tone 79 = .ok (.iload_n 1, 1) := by decide +kernel
theorem dR_tone_80 : decode cX9_tone 80 = .ok (.invokevirtual 180, 3) := by decide +kernel
theorem dR_tone_83 : decode cX9_tone 83 = .ok (.iconst 2, 1) := by decide +kernel
theorem dR_tone_84 : decode cX9_tone 84 = .ok (.iload_n 3, 1) := by decide +kernel
theorem dR_tone_85 : decode cX9_tone 85 = .ok (.imul, 1) := by decide +kernel
theorem dR_tone_86 : decode cX9_tone 86 = .ok (.iadd, 1) := by decide +kernel
theorem dR_tone_87 : decode cX9_tone 87 = .ok (.ireturn, 1) := by decide +kernel
theorem dR_tone_88 : decode cX9_tone 88 = .ok (.iload_n 2, 1) := by decide +kernel
theorem dR_tone_89 : decode cX9_tone 89 = .ok (.iconst 2, 1) := by decide +kernel
theorem dR_tone_90 : decode cX9_tone 90 = .ok (.idiv, 1) := by decide +kernel
theorem dR_tone_91 : decode cX9_tone 91 = .ok (.iload_n 3, 1) := by decide +kernel
theorem dR_tone_92 : decode cX9_tone 92 = .ok (.iadd, 1) := by decide +kernel
theorem dR_tone_93 : decode cX9_tone 93 = .ok (.aload_n 0, 1) := by decide +kernel
theorem dR_tone_94 : decode cX9_tone 94 = .ok (.iload_n 1, 1) := by decide +kernel
theorem dR_tone_95 : decode cX9_tone 95 = .ok (.iconst 2, 1) := by decide +kernel
theorem dR_tone_96 : decode cX9_tone 96 = .ok (.invokevirtual 73, 3) := by decide +kernel
theorem dR_tone_99 : decode cX9_tone 99 = .ok (.sipush 1000, 3) := by decide +kernel
theorem dR_tone_102 : decode cX9_tone 102 = .ok (.idiv, 1) := by decide +kernel
theorem dR_tone_103 : decode cX9_tone 103 = .ok (.iadd, 1) := by decide +kernel
theorem dR_tone_104 : decode cX9_tone 104 = .ok (.ireturn, 1) := by decide +kernel
theorem dR_tone_105 : decode cX9_tone 105 = .ok (.iconst 0, 1) := by decide +kernel
theorem dR_tone_106 : decode cX9_tone 106 = .ok (.iload_n 2, 1) := by decide +kernel
theorem dR_tone_107 : decode cX9_tone 107 = .ok (.iconst 2, 1) := by decide +kernel
theorem dR_tone_108 : decode cX9_tone 108 = .ok (.iload_n 3, 1) := by decide +kernel
theorem dR_tone_109 : decode cX9_tone 109 = .ok (.imul, 1) := by decide +kernel
theorem dR_tone_110 : decode cX9_tone 110 = .ok (.isub, 1) := by decide +kernel
theorem dR_tone_111 : decode cX9_tone 111 = .ok (.isub, 1) := by decide +kernel
theorem dR_tone_112 : decode cX9_tone 112 = .ok (.ireturn, 1) := by decide +kernel
theorem dR_tone_113 : decode cX9_tone 113 = .ok (.iload_n 2, 1) := by decide +kernel
theorem dR_tone_114 : decode cX9_tone 114 = .ok (.ireturn, 1) := by decide +kernel
theorem dR_isClaim_0 : decode cX9_isClaim 0 = .ok (.iload_n 1, 1) := by decide +kernel
theorem dR_isClaim_1 : decode cX9_isClaim 1 = .ok (.iconst 0, 1) := by decide +kernel
theorem dR_isClaim_2 : decode cX9_isClaim 2 = .ok (.aload_n 0, 1) := by decide +kernel
theorem dR_isClaim_3 : decode cX9_isClaim 3 = .ok (.getfield 7, 3) := by decide +kernel
theorem dR_isClaim_6 : decode cX9_isClaim 6 = .ok (.iconst 2, 1) := by decide +kernel
theorem dR_isClaim_7 : decode cX9_isClaim 7 = .ok (.iaload, 1) := by decide +kernel
theorem dR_isClaim_8 : decode cX9_isClaim 8 = .ok (.iconst 1, 1) := by decide +kernel
theorem dR_isClaim_9 : decode cX9_isClaim 9 = .ok (.isub, 1) := by decide +kernel
theorem dR_isClaim_10 : decode cX9_isClaim 10 = .ok (.invokestatic 53, 3) := by decide +kernel
theorem dR_isClaim_13 : decode cX9_isClaim 13 = .ok (.ireturn, 1) := by decide +kernel
theorem dR_of_0 : decode cX9_of 0 = .ok (.aload_n 0, 1) := by decide +kernel
theorem dR_of_1 : decode cX9_of 1 = .ok (.getfield 7, 3) := by decide +kernel
theorem dR_of_4 : decode cX9_of 4 = .ok (.sipush 140, 3) := by decide +kernel
theorem dR_of_7 : decode cX9_of 7 = .ok (.iconst 2, 1) := by decide +kernel
theorem dR_of_8 : decode cX9_of 8 = .ok (.iload_n 1, 1) := by decide +kernel
theorem dR_of_9 : decode cX9_of 9 = .ok (.imul, 1) := by decide +kernel
theorem dR_of_10 : decode cX9_of 10 = .ok (.iadd, 1) := by decide +kernel
theorem dR_of_11 : decode cX9_of 11 = .ok (.iload_n 2, 1) := by decide +kernel
theorem dR_of_12 : decode cX9_of 12 = .ok (.iadd, 1) := by decide +kernel
theorem dR_of_13 : decode cX9_of 13 = .ok (.iaload, 1) := by decide +kernel
theorem dR_of_14 : decode cX9_of 14 = .ok (.ireturn, 1) := by decide +kernel
theorem dR_manyOn_0 : decode cX9_manyOn 0 = .ok (.iconst 0, 1) := by decide +kernel
theorem dR_manyOn_1 : decode cX9_manyOn 1 = .ok (.istore_n 2, 1) := by decide +kernel
theorem dR_manyOn_2 : decode cX9_manyOn 2 = .ok (.iconst 0, 1) := by decide +kernel
theorem dR_manyOn_3 : decode cX9_manyOn 3 = .ok (.istore_n 3, 1) := by decide +kernel
theorem dR_manyOn_4 : decode cX9_manyOn 4 = .ok (.iload_n 3, 1) := by decide +kernel
theorem dR_manyOn_5 : decode cX9_manyOn 5 = .ok (.aload_n 0, 1) := by decide +kernel
theorem dR_manyOn_6 : decode cX9_manyOn 6 = .ok (.getfield 7, 3) := by decide +kernel
theorem dR_manyOn_9 : decode cX9_manyOn 9 = .ok (.iconst 2, 1) := by decide +kernel
theorem dR_manyOn_10 : decode cX9_manyOn 10 = .ok (.iaload, 1) := by decide +kernel
theorem dR_manyOn_11 : decode cX9_manyOn 11 = .ok (.if_icmp .ge 27, 3) := by decide +kernel
theorem dR_manyOn_14 : decode cX9_manyOn 14 = .ok (.iload_n 2, 1) := by decide +kernel
theorem dR_manyOn_15 : decode cX9_manyOn 15 = .ok (.aload_n 0, 1) := by decide +kernel
theorem dR_manyOn_16 : decode cX9_manyOn 16 = .ok (.iload_n 3, 1) := by decide +kernel
theorem dR_manyOn_17 : decode cX9_manyOn 17 = .ok (.iconst 0, 1) := by decide +kernel
theorem dR_manyOn_18 : decode cX9_manyOn 18 = .ok (.invokevirtual 183, 3) := by decide +kernel
theorem dR_manyOn_21 : decode cX9_manyOn 21 = .ok (.iload_n 1, 1) := by decide +kernel
theorem dR_manyOn_22 : decode cX9_manyOn 22 = .ok (.if_icmp .ne 7, 3) := by decide +kernel
theorem dR_manyOn_25 : decode cX9_manyOn 25 = .ok (.iconst 1, 1) := by decide +kernel
theorem dR_manyOn_26 : decode cX9_manyOn 26 = .ok (.goto 4, 3) := by decide +kernel
theorem dR_manyOn_29 : decode cX9_manyOn 29 = .ok (.iconst 0, 1) := by decide +kernel
theorem dR_manyOn_30 : decode cX9_manyOn 30 = .ok (.iadd, 1) := by decide +kernel
theorem dR_manyOn_31 : decode cX9_manyOn 31 = .ok (.istore_n 2, 1) := by decide +kernel
theorem dR_manyOn_32 : decode cX9_manyOn 32 = .ok (.iinc 3 1, 3) := by decide +kernel
theorem dR_manyOn_35 : decode cX9_manyOn 35 = .ok (.goto (-31), 3) := by decide +kernel
theorem dR_manyOn_38 : decode cX9_manyOn 38 = .ok (.iload_n 2, 1) := by decide +kernel
theorem dR_manyOn_39 : decode cX9_manyOn 39 = .ok (.ireturn, 1) := by decide +kernel
theorem dR_counts_0 : decode cX9_counts 0 = .ok (.aload_n 0, 1) := by decide +kernel
theorem dR_counts_1 : decode cX9_counts 1 = .ok (.iload_n 1, 1) := by decide +kernel
theorem dR_counts_2 : decode cX9_counts 2 = .ok (.iconst 1, 1) := by decide +kernel
theorem dR_counts_3 : decode cX9_counts 3 = .ok (.invokevirtual 183, 3) := by decide +kernel
theorem dR_counts_6 : decode cX9_counts 6 = .ok (.istore_n 2, 1) := by decide +kernel
theorem dR_counts_7 : decode cX9_counts 7 = .ok (.aload_n 0, 1) := by decide +kernel
theorem dR_counts_8 : decode cX9_counts 8 = .ok (.iconst 1, 1) := by decide +kernel
theorem dR_counts_9 : decode cX9_counts 9 = .ok (.invokevirtual 168, 3) := by decide +kernel
theorem dR_counts_12 : decode cX9_counts 12 = .ok (.ifCond .ne 5, 3) := by decide +kernel
theorem dR_counts_15 : decode cX9_counts 15 = .ok (.iload_n 2, 1) := by decide +kernel
theorem dR_counts_16 : decode cX9_counts 16 = .ok (.ireturn, 1) := by decide +kernel
theorem dR_counts_17 : decode cX9_counts 17 = .ok (.aload_n 0, 1) := by decide +kernel
theorem dR_counts_18 : decode cX9_counts 18 = .ok (.getfield 25, 3) := by decide +kernel
theorem dR_counts_21 : decode cX9_counts 21 = .ok (.bipush 99, 2) := by decide +kernel
theorem dR_counts_23 : decode cX9_counts 23 = .ok (.iload_n 2, 1) := by decide +kernel
theorem dR_counts_24 : decode cX9_counts 24 = .ok (.iastore, 1) := by decide +kernel
theorem dR_counts_25 : decode cX9_counts 25 = .ok (.aload_n 0, 1) := by decide +kernel
theorem dR_counts_26 : decode cX9_counts 26 = .ok (.getfield 25, 3) := by decide +kernel
theorem dR_counts_29 : decode cX9_counts 29 = .ok (.bipush 103, 2) := by decide +kernel
theorem dR_counts_31 : decode cX9_counts 31 = .ok (.aload_n 0, 1) := by decide +kernel
theorem dR_counts_32 : decode cX9_counts 32 = .ok (.aload_n 0, 1) := by decide +kernel
theorem dR_counts_33 : decode cX9_counts 33 = .ok (.iload_n 1, 1) := by decide +kernel
theorem dR_counts_34 : decode cX9_counts 34 = .ok (.iconst 0, 1) := by decide +kernel
theorem dR_counts_35 : decode cX9_counts 35 = .ok (.invokevirtual 183, 3) := by decide +kernel
theorem dR_counts_38 : decode cX9_counts 38 = .ok (.iconst 2, 1) := by decide +kernel
theorem dR_counts_39 : decode cX9_counts 39 = .ok (.invokevirtual 73, 3) := by decide +kernel
theorem dR_counts_42 : decode cX9_counts 42 = .ok (.iastore, 1) := by decide +kernel
theorem dR_counts_43 : decode cX9_counts 43 = .ok (.aload_n 0, 1) := by decide +kernel
theorem dR_counts_44 : decode cX9_counts 44 = .ok (.getfield 25, 3) := by decide +kernel
theorem dR_counts_47 : decode cX9_counts 47 = .ok (.bipush 110, 2) := by decide +kernel
theorem dR_counts_49 : decode cX9_counts 49 = .ok (.aload_n 0, 1) := by decide +kernel
theorem dR_counts_50 : decode cX9_counts 50 = .ok (.aload_n 0, 1) := by decide +kernel
theorem dR_counts_51 : decode cX9_counts 51 = .ok (.iload_n 1, 1) := by decide +kernel
theorem dR_counts_52 : decode cX9_counts 52 = .ok (.iconst 0, 1) := by decide +kernel
theorem dR_counts_53 : decode cX9_counts 53 = .ok (.invokevirtual 183, 3) := by decide +kernel
theorem dR_counts_56 : decode cX9_counts 56 = .ok (.invokevirtual 186, 3) := by decide +kernel
theorem dR_counts_59 : decode cX9_counts 59 = .ok (.iastore, 1) := by decide +kernel
theorem dR_counts_60 : decode cX9_counts 60 = .ok (.aload_n 0, 1) := by decide +kernel
theorem dR_counts_61 : decode cX9_counts 61 = .ok (.iconst 1, 1) := by decide +kernel
theorem dR_counts_62 : decode cX9_counts 62 = .ok (.invokevirtual 177, 3) := by decide +kernel
theorem dR_counts_65 : decode cX9_counts 65 = .ok (.iconst 0, 1) := by decide +kernel
theorem dR_counts_66 : decode cX9_counts 66 = .ok (.iload_n 2, 1) := by decide +kernel
theorem dR_counts_67 : decode cX9_counts 67 = .ok (.invokestatic 92, 3) := by decide +kernel
theorem dR_counts_70 : decode cX9_counts 70 = .ok (.ireturn, 1) := by decide +kernel
theorem dR_claim_0 : decode cX9_claim 0 = .ok (.aload_n 0, 1) := by decide +kernel
theorem dR_claim_1 : decode cX9_claim 1 = .ok (.iload_n 1, 1) := by decide +kernel
theorem dR_claim_2 : decode cX9_claim 2 = .ok (.invokevirtual 77, 3) := by decide +kernel
theorem dR_claim_5 : decode cX9_claim 5 = .ok (.ifCond .eq 13, 3) := by decide +kernel
theorem dR_claim_8 : decode cX9_claim 8 = .ok (.iload_n 2, 1) := by decide +kernel
theorem dR_claim_9 : decode cX9_claim 9 = .ok (.iconst 1, 1) := by decide +kernel
theorem dR_claim_10 : decode cX9_claim 10 = .ok (.ldc 189, 2) := by decide +kernel
theorem dR_claim_12 : decode cX9_claim 12 = .ok (.invokestatic 53, 3) := by decide +kernel
theorem dR_claim_15 : decode cX9_claim 15 = .ok (.ifCond .ne 9, 3) := by decide +kernel
theorem dR_claim_18 : decode cX9_claim 18 = .ok (.aload_n 0, 1) := by decide +kernel
theorem dR_claim_19 : decode cX9_claim 19 = .ok (.iconst 1, 1) := by decide +kernel
theorem dR_claim_20 : decode cX9_claim 20 = .ok (.invokevirtual 62, 3) := by decide +kernel
theorem dR_claim_23 : decode cX9_claim 23 = .ok (.ireturn, 1) := by decide +kernel
theorem dR_claim_24 : decode cX9_claim 24 = .ok (.aload_n 0, 1) := by decide +kernel
theorem dR_claim_25 : decode cX9_claim 25 = .ok (.getfield 7, 3) := by decide +kernel
theorem dR_claim_28 : decode cX9_claim 28 = .ok (.iconst 2, 1) := by decide +kernel
theorem dR_claim_29 : decode cX9_claim 29 = .ok (.iaload, 1) := by decide +kernel
theorem dR_claim_30 : decode cX9_claim 30 = .ok (.bipush 10, 2) := by decide +kernel
theorem dR_claim_32 : decode cX9_claim 32 = .ok (.if_icmp .ne 9, 3) := by decide +kernel
theorem dR_claim_35 : decode cX9_claim 35 = .ok (.aload_n 0, 1) := by decide +kernel
theorem dR_claim_36 : decode cX9_claim 36 = .ok (.iconst 4, 1) := by decide +kernel
theorem dR_claim_37 : decode cX9_claim 37 = .ok (.invokevirtual 62, 3) := by decide +kernel
theorem dR_claim_40 : decode cX9_claim 40 = .ok (.ireturn, 1) := by decide +kernel
theorem dR_claim_41 : decode cX9_claim 41 = .ok (.aload_n 0, 1) := by decide +kernel
theorem dR_claim_42 : decode cX9_claim 42 = .ok (.getfield 7, 3) := by decide +kernel
theorem dR_claim_45 : decode cX9_claim 45 = .ok (.sipush 140, 3) := by decide +kernel
theorem dR_claim_48 : decode cX9_claim 48 = .ok (.iconst 2, 1) := by decide +kernel
theorem dR_claim_49 : decode cX9_claim 49 = .ok (.aload_n 0, 1) := by decide +kernel
theorem dR_claim_50 : decode cX9_claim 50 = .ok (.getfield 7, 3) := by decide +kernel
theorem dR_claim_53 : decode cX9_claim 53 = .ok (.iconst 2, 1) := by decide +kernel
theorem dR_claim_54 : decode cX9_claim 54 = .ok (.iaload, 1) := by decide +kernel
theorem dR_claim_55 : decode cX9_claim 55 = .ok (.imul, 1) := by decide +kernel
theorem dR_claim_56 : decode cX9_claim 56 = .ok (.iadd, 1) := by decide +kernel
theorem dR_claim_57 : decode cX9_claim 57 = .ok (.iload_n 1, 1) := by decide +kernel
theorem dR_claim_58 : decode cX9_claim 58 = .ok (.iastore, 1) := by decide +kernel
theorem dR_claim_59 : decode cX9_claim 59 = .ok (.aload_n 0, 1) := by decide +kernel
theorem dR_claim_60 : decode cX9_claim 60 = .ok (.getfield 7, 3) := by decide +kernel
theorem dR_claim_63 : decode cX9_claim 63 = .ok (.sipush 140, 3) := by decide +kernel
theorem dR_claim_66 : decode cX9_claim 66 = .ok (.iconst 2, 1) := by decide +kernel
theorem dR_claim_67 : decode cX9_claim 67 = .ok (.aload_n 0, 1) := by decide +kernel
theorem dR_claim_68 : decode cX9_claim 68 = .ok (.getfield 7, 3) := by decide +kernel
theorem dR_claim_71 : decode cX9_claim 71 = .ok (.iconst 2, 1) := by decide +kernel
theorem dR_claim_72 : decode cX9_claim 72 = .ok (.iaload, 1) := by decide +kernel
theorem dR_claim_73 : decode cX9_claim 73 = .ok (.imul, 1) := by decide +kernel
theorem dR_claim_74 : decode cX9_claim 74 = .ok (.iadd, 1) := by decide +kernel
theorem dR_claim_75 : decode cX9_claim 75 = .ok (.iconst 1, 1) := by decide +kernel
theorem dR_claim_76 : decode cX9_claim 76 = .ok (.iadd, 1) := by decide +kernel
theorem dR_claim_77 : decode cX9_claim 77 = .ok (.iload_n 2, 1) := by decide +kernel
theorem dR_claim_78 : decode cX9_claim 78 = .ok (.iastore, 1) := by decide +kernel
theorem dR_claim_79 : decode cX9_claim 79 = .ok (.aload_n 0, 1) := by decide +kernel
theorem dR_claim_80 : decode cX9_claim 80 = .ok (.getfield 7, 3) := by decide +kernel
theorem dR_claim_83 : decode cX9_claim 83 = .ok (.iconst 2, 1) := by decide +kernel
theorem dR_claim_84 : decode cX9_claim 84 = .ok (.dup2, 1) := by decide +kernel
theorem dR_claim_85 : decode cX9_claim 85 = .ok (.iaload, 1) := by decide +kernel
theorem dR_claim_86 : decode cX9_claim 86 = .ok (.iconst 1, 1) := by decide +kernel
theorem dR_claim_87 : decode cX9_claim 87 = .ok (.iadd, 1) := by decide +kernel
theorem dR_claim_88 : decode cX9_claim 88 = .ok (.iastore, 1) := by decide +kernel
theorem dR_claim_89 : decode cX9_claim 89 = .ok (.aload_n 0, 1) := by decide +kernel
theorem dR_claim_90 : decode cX9_claim 90 = .ok (.getfield 7, 3) := by decide +kernel
theorem dR_claim_93 : decode cX9_claim 93 = .ok (.iconst 2, 1) := by decide +kernel
theorem dR_claim_94 : decode cX9_claim 94 = .ok (.iaload, 1) := by decide +kernel
theorem dR_claim_95 : decode cX9_claim 95 = .ok (.iconst 1, 1) := by decide +kernel
theorem dR_claim_96 : decode cX9_claim 96 = .ok (.isub, 1) := by decide +kernel
theorem dR_claim_97 : decode cX9_claim 97 = .ok (.ireturn, 1) := by decide +kernel
theorem dR_claimIs_0 : decode cX9_claimIs 0 = .ok (.aload_n 0, 1) := by decide +kernel
theorem dR_claimIs_1 : decode cX9_claimIs 1 = .ok (.iload_n 1, 1) := by decide +kernel
theorem dR_claimIs_2 : decode cX9_claimIs 2 = .ok (.invokevirtual 190, 3) := by decide +kernel
theorem dR_claimIs_5 : decode cX9_claimIs 5 = .ok (.ifCond .eq 12, 3) := by decide +kernel
theorem dR_claimIs_8 : decode cX9_claimIs 8 = .ok (.iload_n 2, 1) := by decide +kernel
theorem dR_claimIs_9 : decode cX9_claimIs 9 = .ok (.iconst 0, 1) := by decide +kernel
theorem dR_claimIs_10 : decode cX9_claimIs 10 = .ok (.iconst 2, 1) := by decide +kernel
theorem dR_claimIs_11 : decode cX9_claimIs 11 = .ok (.invokestatic 53, 3) := by decide +kernel
theorem dR_claimIs_14 : decode cX9_claimIs 14 = .ok (.ifCond .ne 9, 3) := by decide +kernel
theorem dR_claimIs_17 : decode cX9_claimIs 17 = .ok (.aload_n 0, 1) := by decide +kernel
theorem dR_claimIs_18 : decode cX9_claimIs 18 = .ok (.iconst 1, 1) := by decide +kernel
theorem dR_claimIs_19 : decode cX9_claimIs 19 = .ok (.invokevirtual 62, 3) := by decide +kernel
theorem dR_claimIs_22 : decode cX9_claimIs 22 = .ok (.ireturn, 1) := by decide +kernel
theorem dR_claimIs_23 : decode cX9_claimIs 23 = .ok (.iload_n 2, 1) := by decide +kernel
theorem dR_claimIs_24 : decode cX9_claimIs 24 = .ok (.iconst 2, 1) := by decide +kernel
theorem dR_claimIs_25 : decode cX9_claimIs 25 = .ok (.if_icmp .ne 11, 3) := by decide +kernel
theorem dR_claimIs_28 : decode cX9_claimIs 28 = .ok (.aload_n 0, 1) := by decide +kernel
theorem dR_claimIs_29 : decode cX9_claimIs 29 = .ok (.iload_n 1, 1) := by decide +kernel
theorem dR_claimIs_30 : decode cX9_claimIs 30 = .ok (.invokevirtual 193, 3) := by decide +kernel
theorem dR_claimIs_33 : decode cX9_claimIs 33 = .ok (.goto 9, 3) := by decide +kernel
theorem dR_claimIs_36 : decode cX9_claimIs 36 = .ok (.aload_n 0, 1) := by decide +kernel
theorem dR_claimIs_37 : decode cX9_claimIs 37 = .ok (.iload_n 1, 1) := by decide +kernel
theorem dR_claimIs_38 : decode cX9_claimIs 38 = .ok (.iload_n 2, 1) := by decide +kernel
theorem dR_claimIs_39 : decode cX9_claimIs 39 = .ok (.invokevirtual 183, 3) := by decide +kernel
theorem dR_claimIs_42 : decode cX9_claimIs 42 = .ok (.ireturn, 1) := by decide +kernel
theorem dR_countsBelow_0 : decode cX9_countsBelow 0 = .ok (.iconst 0, 1) := by decide +kernel
theorem dR_countsBelow_1 : decode cX9_countsBelow 1 = .ok (.istore_n 3, 1) := by decide +kernel
theorem dR_countsBelow_2 : decode cX9_countsBelow 2 = .ok (.iconst 0, 1) := by decide +kernel
theorem dR_countsBelow_3 : decode cX9_countsBelow 3 = .ok (.istore 4, 2) := by decide +kernel
theorem dR_countsBelow_5 : decode cX9_countsBelow 5 = .ok (.iload 4, 2) := by decide +kernel
theorem dR_countsBelow_7 : decode cX9_countsBelow 7 = .ok (.iload_n 2, 1) := by decide +kernel
theorem dR_countsBelow_8 : decode cX9_countsBelow 8 = .ok (.if_icmp .ge 33, 3) := by decide +kernel
theorem dR_countsBelow_11 : decode cX9_countsBelow 11 = .ok (.iload_n 3, 1) := by decide +kernel
theorem dR_countsBelow_12 : decode cX9_countsBelow 12 = .ok (.aload_n 0, 1) := by decide +kernel
theorem dR_countsBelow_13 : decode cX9_countsBelow 13 = .ok (.iload 4, 2) := by decide +kernel
theorem dR_countsBelow_15 : decode cX9_countsBelow 15 = .ok (.iconst 0, 1) := by decide +kernel
theorem dR_countsBelow_16 : decode cX9_countsBelow 16 = .ok (.invokevirtual 183, 3) := by decide +kernel
theorem dR_countsBelow_19 : decode cX9_countsBelow 19 = .ok (.iload_n 1, 1) := by decide +kernel
theorem dR_countsBelow_20 : decode cX9_countsBelow 20 = .ok (.if_icmp .ne 12, 3) := by decide +kernel
theorem dR_countsBelow_23 : decode cX9_countsBelow 23 = .ok (.aload_n 0, 1) := by decide +kernel
theorem dR_countsBelow_24 : decode cX9_countsBelow 24 = .ok (.iload 4, 2) := by decide +kernel
theorem dR_countsBelow_26 : decode cX9_countsBelow 26 = .ok (.invokevirtual 193, 3) := by decide +kernel
theorem dR_countsBelow_29 : decode cX9_countsBelow 29 = .ok (.goto 4, 3) := by decide +kernel
theorem dR_countsBelow_32 : decode cX9_countsBelow 32 = .ok (.iconst 0, 1) := by decide +kernel
theorem dR_countsBelow_33 : decode cX9_countsBelow 33 = .ok (.iadd, 1) := by decide +kernel
theorem dR_countsBelow_34 : decode cX9_countsBelow 34 = .ok (.istore_n 3, 1) := by decide +kernel
theorem dR_countsBelow_35 : decode cX9_countsBelow 35 = .ok (.iinc 4 1, 3) := by decide +kernel
theorem dR_countsBelow_38 : decode cX9_countsBelow 38 = .ok (.goto (-33), 3) := by decide +kernel
theorem dR_countsBelow_41 : decode cX9_countsBelow 41 = .ok (.iload_n 3, 1) := by decide +kernel
theorem dR_countsBelow_42 : decode cX9_countsBelow 42 = .ok (.ireturn, 1) := by decide +kernel
theorem dR_shareOf_0 : decode cX9_shareOf 0 = .ok (.aload_n 0, 1) := by decide +kernel
theorem dR_shareOf_1 : decode cX9_shareOf 1 = .ok (.iload_n 1, 1) := by decide +kernel
theorem dR_shareOf_2 : decode cX9_shareOf 2 = .ok (.iconst 0, 1) := by decide +kernel
theorem dR_shareOf_3 : decode cX9_shareOf 3 = .ok (.invokevirtual 183, 3) := by decide +kernel
theorem dR_shareOf_6 : decode cX9_shareOf 6 = .ok (.istore_n 3, 1) := by decide +kernel
theorem dR_shareOf_7 : decode cX9_shareOf 7 = .ok (.aload_n 0, 1) := by decide +kernel
theorem dR_shareOf_8 : decode cX9_shareOf 8 = .ok (.iload_n 3, 1) := by decide +kernel
theorem dR_shareOf_9 : decode cX9_shareOf 9 = .ok (.iconst 2, 1) := by decide +kernel
theorem dR_shareOf_10 : decode cX9_shareOf 10 = .ok (.invokevirtual 73, 3) := by decide +kernel
theorem dR_shareOf_13 : decode cX9_shareOf 13 = .ok (.istore 4, 2) := by decide +kernel
theorem dR_shareOf_15 : decode cX9_shareOf 15 = .ok (.aload_n 0, 1) := by decide +kernel
theorem dR_shareOf_16 : decode cX9_shareOf 16 = .ok (.iload_n 1, 1) := by decide +kernel
end
section
-- decode rows of the reference
theorem dR_shareOf_17 : decode cX9_shareOf 17 = .ok (.invokevirtual 193, 3) := by decide +kernel
theorem dR_shareOf_20 : decode cX9_shareOf 20 = .ok (.istore 5, 2) := by decide +kernel
theorem dR_shareOf_22 : decode cX9_shareOf 22 = .ok (.iload_n 2, 1) := by decide +kernel
theorem dR_shareOf_23 : decode cX9_shareOf 23 = .ok (.ifCond .ne 18, 3) := by decide +kernel
theorem dR_shareOf_26 : decode cX9_shareOf 26 = .ok (.iload 5, 2) := by decide +kernel
theorem dR_shareOf_28 : decode cX9_shareOf 28 = .ok (.iconst 0, 1) := by decide +kernel
theorem dR_shareOf_29 : decode cX9_shareOf 29 = .ok (.iload 4, 2) := by decide +kernel
theorem dR_shareOf_31 : decode cX9_shareOf 31 = .ok (.aload_n 0, 1) := by decide +kernel
theorem dR_shareOf_32 : decode cX9_shareOf 32 = .ok (.iload_n 3, 1) := by decide +kernel
theorem dR_shareOf_33 : decode cX9_shareOf 33 = .ok (.invokevirtual 186, 3) := by decide +kernel
theorem dR_shareOf_36 : decode cX9_shareOf 36 = .ok (.idiv, 1) := by decide +kernel
theorem dR_shareOf_37 : decode cX9_shareOf 37 = .ok (.invokestatic 92, 3) := by decide +kernel
theorem dR_shareOf_40 : decode cX9_shareOf 40 = .ok (.ireturn, 1) := by decide +kernel
theorem dR_shareOf_41 : decode cX9_shareOf 41 = .ok (.iload_n 2, 1) := by decide +kernel
theorem dR_shareOf_42 : decode cX9_shareOf 42 = .ok (.iconst 1, 1) := by decide +kernel
theorem dR_shareOf_43 : decode cX9_shareOf 43 = .ok (.if_icmp .ne 38, 3) := by decide +kernel
theorem dR_shareOf_46 : decode cX9_shareOf 46 = .ok (.aload_n 0, 1) := by decide +kernel
theorem dR_shareOf_47 : decode cX9_shareOf 47 = .ok (.iload_n 3, 1) := by decide +kernel
theorem dR_shareOf_48 : decode cX9_shareOf 48 = .ok (.aload_n 0, 1) := by decide +kernel
theorem dR_shareOf_49 : decode cX9_shareOf 49 = .ok (.getfield 7, 3) := by decide +kernel
theorem dR_shareOf_52 : decode cX9_shareOf 52 = .ok (.iconst 2, 1) := by decide +kernel
theorem dR_shareOf_53 : decode cX9_shareOf 53 = .ok (.iaload, 1) := by decide +kernel
theorem dR_shareOf_54 : decode cX9_shareOf 54 = .ok (.invokevirtual 196, 3) := by decide +kernel
theorem dR_shareOf_57 : decode cX9_shareOf 57 = .ok (.istore 6, 2) := by decide +kernel
theorem dR_shareOf_59 : decode cX9_shareOf 59 = .ok (.iload 6, 2) := by decide +kernel
theorem dR_shareOf_61 : decode cX9_shareOf 61 = .ok (.iload 4, 2) := by decide +kernel
theorem dR_shareOf_63 : decode cX9_shareOf 63 = .ok (.if_icmp .gt 8, 3) := by decide +kernel
theorem dR_shareOf_66 : decode cX9_shareOf 66 = .ok (.iload 5, 2) := by decide +kernel
theorem dR_shareOf_68 : decode cX9_shareOf 68 = .ok (.goto 12, 3) := by decide +kernel
theorem dR_shareOf_71 : decode cX9_shareOf 71 = .ok (.iload 5, 2) := by decide +kernel
theorem dR_shareOf_73 : decode cX9_shareOf 73 = .ok (.iload 4, 2) := by decide +kernel
theorem dR_shareOf_75 : decode cX9_shareOf 75 = .ok (.iload 6, 2) := by decide +kernel
theorem dR_shareOf_77 : decode cX9_shareOf 77 = .ok (.invokestatic 99, 3) := by decide +kernel
theorem dR_shareOf_80 : decode cX9_shareOf 80 = .ok (.ireturn, 1) := by decide +kernel
theorem dR_shareOf_81 : decode cX9_shareOf 81 = .ok (.iload 5, 2) := by decide +kernel
theorem dR_shareOf_83 : decode cX9_shareOf 83 = .ok (.iconst 0, 1) := by decide +kernel
theorem dR_shareOf_84 : decode cX9_shareOf 84 = .ok (.iload 4, 2) := by decide +kernel
theorem dR_shareOf_86 : decode cX9_shareOf 86 = .ok (.aload_n 0, 1) := by decide +kernel
theorem dR_shareOf_87 : decode cX9_shareOf 87 = .ok (.iload_n 3, 1) := by decide +kernel
theorem dR_shareOf_88 : decode cX9_shareOf 88 = .ok (.iload_n 1, 1) := by decide +kernel
theorem dR_shareOf_89 : decode cX9_shareOf 89 = .ok (.invokevirtual 196, 3) := by decide +kernel
theorem dR_shareOf_92 : decode cX9_shareOf 92 = .ok (.isub, 1) := by decide +kernel
theorem dR_shareOf_93 : decode cX9_shareOf 93 = .ok (.iconst 0, 1) := by decide +kernel
theorem dR_shareOf_94 : decode cX9_shareOf 94 = .ok (.ldc 61, 2) := by decide +kernel
theorem dR_shareOf_96 : decode cX9_shareOf 96 = .ok (.invokestatic 92, 3) := by decide +kernel
theorem dR_shareOf_99 : decode cX9_shareOf 99 = .ok (.invokestatic 92, 3) := by decide +kernel
theorem dR_shareOf_102 : decode cX9_shareOf 102 = .ok (.ireturn, 1) := by decide +kernel
theorem dR_isLaw_0 : decode cX9_isLaw 0 = .ok (.iload_n 0, 1) := by decide +kernel
theorem dR_isLaw_1 : decode cX9_isLaw 1 = .ok (.iconst 0, 1) := by decide +kernel
theorem dR_isLaw_2 : decode cX9_isLaw 2 = .ok (.iconst 2, 1) := by decide +kernel
theorem dR_isLaw_3 : decode cX9_isLaw 3 = .ok (.invokestatic 53, 3) := by decide +kernel
theorem dR_isLaw_6 : decode cX9_isLaw 6 = .ok (.ireturn, 1) := by decide +kernel
theorem dR_share_0 : decode cX9_share 0 = .ok (.aload_n 0, 1) := by decide +kernel
theorem dR_share_1 : decode cX9_share 1 = .ok (.iload_n 1, 1) := by decide +kernel
theorem dR_share_2 : decode cX9_share 2 = .ok (.invokevirtual 190, 3) := by decide +kernel
theorem dR_share_5 : decode cX9_share 5 = .ok (.ifCond .eq 19, 3) := by decide +kernel
theorem dR_share_8 : decode cX9_share 8 = .ok (.iload_n 2, 1) := by decide +kernel
theorem dR_share_9 : decode cX9_share 9 = .ok (.invokestatic 199, 3) := by decide +kernel
theorem dR_share_12 : decode cX9_share 12 = .ok (.ifCond .eq 12, 3) := by decide +kernel
theorem dR_share_15 : decode cX9_share 15 = .ok (.aload_n 0, 1) := by decide +kernel
theorem dR_share_16 : decode cX9_share 16 = .ok (.iload_n 1, 1) := by decide +kernel
theorem dR_share_17 : decode cX9_share 17 = .ok (.iload_n 2, 1) := by decide +kernel
theorem dR_share_18 : decode cX9_share 18 = .ok (.invokevirtual 202, 3) := by decide +kernel
theorem dR_share_21 : decode cX9_share 21 = .ok (.goto 8, 3) := by decide +kernel
theorem dR_share_24 : decode cX9_share 24 = .ok (.aload_n 0, 1) := by decide +kernel
theorem dR_share_25 : decode cX9_share 25 = .ok (.iconst 1, 1) := by decide +kernel
theorem dR_share_26 : decode cX9_share 26 = .ok (.invokevirtual 62, 3) := by decide +kernel
theorem dR_share_29 : decode cX9_share 29 = .ok (.ireturn, 1) := by decide +kernel
theorem dR_left_0 : decode cX9_left 0 = .ok (.aload_n 0, 1) := by decide +kernel
theorem dR_left_1 : decode cX9_left 1 = .ok (.iload_n 1, 1) := by decide +kernel
theorem dR_left_2 : decode cX9_left 2 = .ok (.invokevirtual 77, 3) := by decide +kernel
theorem dR_left_5 : decode cX9_left 5 = .ok (.ifCond .eq 10, 3) := by decide +kernel
theorem dR_left_8 : decode cX9_left 8 = .ok (.iload_n 2, 1) := by decide +kernel
theorem dR_left_9 : decode cX9_left 9 = .ok (.invokestatic 199, 3) := by decide +kernel
theorem dR_left_12 : decode cX9_left 12 = .ok (.ifCond .ne 9, 3) := by decide +kernel
theorem dR_left_15 : decode cX9_left 15 = .ok (.aload_n 0, 1) := by decide +kernel
theorem dR_left_16 : decode cX9_left 16 = .ok (.iconst 1, 1) := by decide +kernel
theorem dR_left_17 : decode cX9_left 17 = .ok (.invokevirtual 62, 3) := by decide +kernel
theorem dR_left_20 : decode cX9_left 20 = .ok (.ireturn, 1) := by decide +kernel
theorem dR_left_21 : decode cX9_left 21 = .ok (.aload_n 0, 1) := by decide +kernel
theorem dR_left_22 : decode cX9_left 22 = .ok (.iload_n 1, 1) := by decide +kernel
theorem dR_left_23 : decode cX9_left 23 = .ok (.iconst 2, 1) := by decide +kernel
theorem dR_left_24 : decode cX9_left 24 = .ok (.invokevirtual 73, 3) := by decide +kernel
theorem dR_left_27 : decode cX9_left 27 = .ok (.istore_n 3, 1) := by decide +kernel
theorem dR_left_28 : decode cX9_left 28 = .ok (.iconst 0, 1) := by decide +kernel
theorem dR_left_29 : decode cX9_left 29 = .ok (.istore 4, 2) := by decide +kernel
theorem dR_left_31 : decode cX9_left 31 = .ok (.iload 4, 2) := by decide +kernel
theorem dR_left_33 : decode cX9_left 33 = .ok (.aload_n 0, 1) := by decide +kernel
theorem dR_left_34 : decode cX9_left 34 = .ok (.getfield 7, 3) := by decide +kernel
theorem dR_left_37 : decode cX9_left 37 = .ok (.iconst 2, 1) := by decide +kernel
theorem dR_left_38 : decode cX9_left 38 = .ok (.iaload, 1) := by decide +kernel
theorem dR_left_39 : decode cX9_left 39 = .ok (.if_icmp .ge 34, 3) := by decide +kernel
theorem dR_left_42 : decode cX9_left 42 = .ok (.iload_n 3, 1) := by decide +kernel
theorem dR_left_43 : decode cX9_left 43 = .ok (.aload_n 0, 1) := by decide +kernel
theorem dR_left_44 : decode cX9_left 44 = .ok (.iload 4, 2) := by decide +kernel
theorem dR_left_46 : decode cX9_left 46 = .ok (.iconst 0, 1) := by decide +kernel
theorem dR_left_47 : decode cX9_left 47 = .ok (.invokevirtual 183, 3) := by decide +kernel
theorem dR_left_50 : decode cX9_left 50 = .ok (.iload_n 1, 1) := by decide +kernel
theorem dR_left_51 : decode cX9_left 51 = .ok (.if_icmp .ne 13, 3) := by decide +kernel
theorem dR_left_54 : decode cX9_left 54 = .ok (.aload_n 0, 1) := by decide +kernel
theorem dR_left_55 : decode cX9_left 55 = .ok (.iload 4, 2) := by decide +kernel
theorem dR_left_57 : decode cX9_left 57 = .ok (.iload_n 2, 1) := by decide +kernel
theorem dR_left_58 : decode cX9_left 58 = .ok (.invokevirtual 202, 3) := by decide +kernel
theorem dR_left_61 : decode cX9_left 61 = .ok (.goto 4, 3) := by decide +kernel
theorem dR_left_64 : decode cX9_left 64 = .ok (.iconst 0, 1) := by decide +kernel
theorem dR_left_65 : decode cX9_left 65 = .ok (.isub, 1) := by decide +kernel
theorem dR_left_66 : decode cX9_left 66 = .ok (.istore_n 3, 1) := by decide +kernel
theorem dR_left_67 : decode cX9_left 67 = .ok (.iinc 4 1, 3) := by decide +kernel
theorem dR_left_70 : decode cX9_left 70 = .ok (.goto (-39), 3) := by decide +kernel
theorem dR_left_73 : decode cX9_left 73 = .ok (.iload_n 3, 1) := by decide +kernel
theorem dR_left_74 : decode cX9_left 74 = .ok (.ireturn, 1) := by decide +kernel
theorem dR_isPaper_0 : decode cX9_isPaper 0 = .ok (.aload_n 0, 1) := by decide +kernel
theorem dR_isPaper_1 : decode cX9_isPaper 1 = .ok (.iload_n 1, 1) := by decide +kernel
theorem dR_isPaper_2 : decode cX9_isPaper 2 = .ok (.invokevirtual 77, 3) := by decide +kernel
theorem dR_isPaper_5 : decode cX9_isPaper 5 = .ok (.ifCond .eq 30, 3) := by decide +kernel
theorem dR_isPaper_8 : decode cX9_isPaper 8 = .ok (.aload_n 0, 1) := by decide +kernel
theorem dR_isPaper_9 : decode cX9_isPaper 9 = .ok (.iload_n 2, 1) := by decide +kernel
theorem dR_isPaper_10 : decode cX9_isPaper 10 = .ok (.invokevirtual 77, 3) := by decide +kernel
theorem dR_isPaper_13 : decode cX9_isPaper 13 = .ok (.ifCond .eq 22, 3) := by decide +kernel
theorem dR_isPaper_16 : decode cX9_isPaper 16 = .ok (.iload_n 1, 1) := by decide +kernel
theorem dR_isPaper_17 : decode cX9_isPaper 17 = .ok (.iload_n 2, 1) := by decide +kernel
theorem dR_isPaper_18 : decode cX9_isPaper 18 = .ok (.if_icmp .eq 17, 3) := by decide +kernel
theorem dR_isPaper_21 : decode cX9_isPaper 21 = .ok (.iload_n 3, 1) := by decide +kernel
theorem dR_isPaper_22 : decode cX9_isPaper 22 = .ok (.iconst 1, 1) := by decide +kernel
theorem dR_isPaper_23 : decode cX9_isPaper 23 = .ok (.bipush 8, 2) := by decide +kernel
theorem dR_isPaper_25 : decode cX9_isPaper 25 = .ok (.invokestatic 53, 3) := by decide +kernel
theorem dR_isPaper_28 : decode cX9_isPaper 28 = .ok (.ifCond .eq 7, 3) := by decide +kernel
theorem dR_isPaper_31 : decode cX9_isPaper 31 = .ok (.iconst 1, 1) := by decide +kernel
theorem dR_isPaper_32 : decode cX9_isPaper 32 = .ok (.goto 4, 3) := by decide +kernel
theorem dR_isPaper_35 : decode cX9_isPaper 35 = .ok (.iconst 0, 1) := by decide +kernel
theorem dR_isPaper_36 : decode cX9_isPaper 36 = .ok (.ireturn, 1) := by decide +kernel
theorem dR_addPaper_0 : decode cX9_addPaper 0 = .ok (.sipush 160, 3) := by decide +kernel
theorem dR_addPaper_3 : decode cX9_addPaper 3 = .ok (.iconst 3, 1) := by decide +kernel
theorem dR_addPaper_4 : decode cX9_addPaper 4 = .ok (.aload_n 0, 1) := by decide +kernel
theorem dR_addPaper_5 : decode cX9_addPaper 5 = .ok (.getfield 7, 3) := by decide +kernel
theorem dR_addPaper_8 : decode cX9_addPaper 8 = .ok (.iconst 3, 1) := by decide +kernel
theorem dR_addPaper_9 : decode cX9_addPaper 9 = .ok (.iaload, 1) := by decide +kernel
theorem dR_addPaper_10 : decode cX9_addPaper 10 = .ok (.imul, 1) := by decide +kernel
theorem dR_addPaper_11 : decode cX9_addPaper 11 = .ok (.iadd, 1) := by decide +kernel
theorem dR_addPaper_12 : decode cX9_addPaper 12 = .ok (.istore 4, 2) := by decide +kernel
theorem dR_addPaper_14 : decode cX9_addPaper 14 = .ok (.aload_n 0, 1) := by decide +kernel
theorem dR_addPaper_15 : decode cX9_addPaper 15 = .ok (.getfield 7, 3) := by decide +kernel
theorem dR_addPaper_18 : decode cX9_addPaper 18 = .ok (.iload 4, 2) := by decide +kernel
theorem dR_addPaper_20 : decode cX9_addPaper 20 = .ok (.iload_n 1, 1) := by decide +kernel
theorem dR_addPaper_21 : decode cX9_addPaper 21 = .ok (.iastore, 1) := by decide +kernel
theorem dR_addPaper_22 : decode cX9_addPaper 22 = .ok (.aload_n 0, 1) := by decide +kernel
theorem dR_addPaper_23 : decode cX9_addPaper 23 = .ok (.getfield 7, 3) := by decide +kernel
theorem dR_addPaper_26 : decode cX9_addPaper 26 = .ok (.iload 4, 2) := by decide +kernel
theorem dR_addPaper_28 : decode cX9_addPaper 28 = .ok (.iconst 1, 1) := by decide +kernel
theorem dR_addPaper_29 : decode cX9_addPaper 29 = .ok (.iadd, 1) := by decide +kernel
theorem dR_addPaper_30 : decode cX9_addPaper 30 = .ok (.iload_n 2, 1) := by decide +kernel
theorem dR_addPaper_31 : decode cX9_addPaper 31 = .ok (.iastore, 1) := by decide +kernel
theorem dR_addPaper_32 : decode cX9_addPaper 32 = .ok (.aload_n 0, 1) := by decide +kernel
theorem dR_addPaper_33 : decode cX9_addPaper 33 = .ok (.getfield 7, 3) := by decide +kernel
theorem dR_addPaper_36 : decode cX9_addPaper 36 = .ok (.iload 4, 2) := by decide +kernel
theorem dR_addPaper_38 : decode cX9_addPaper 38 = .ok (.iconst 2, 1) := by decide +kernel
theorem dR_addPaper_39 : decode cX9_addPaper 39 = .ok (.iadd, 1) := by decide +kernel
theorem dR_addPaper_40 : decode cX9_addPaper 40 = .ok (.iload_n 3, 1) := by decide +kernel
theorem dR_addPaper_41 : decode cX9_addPaper 41 = .ok (.iastore, 1) := by decide +kernel
theorem dR_addPaper_42 : decode cX9_addPaper 42 = .ok (.aload_n 0, 1) := by decide +kernel
theorem dR_addPaper_43 : decode cX9_addPaper 43 = .ok (.getfield 7, 3) := by decide +kernel
theorem dR_addPaper_46 : decode cX9_addPaper 46 = .ok (.iconst 3, 1) := by decide +kernel
theorem dR_addPaper_47 : decode cX9_addPaper 47 = .ok (.dup2, 1) := by decide +kernel
theorem dR_addPaper_48 : decode cX9_addPaper 48 = .ok (.iaload, 1) := by decide +kernel
theorem dR_addPaper_49 : decode cX9_addPaper 49 = .ok (.iconst 1, 1) := by decide +kernel
theorem dR_addPaper_50 : decode cX9_addPaper 50 = .ok (.iadd, 1) := by decide +kernel
theorem dR_addPaper_51 : decode cX9_addPaper 51 = .ok (.iastore, 1) := by decide +kernel
theorem dR_addPaper_52 : decode cX9_addPaper 52 = .ok (.return_, 1) := by decide +kernel
theorem dR_paper_0 : decode cX9_paper 0 = .ok (.aload_n 0, 1) := by decide +kernel
theorem dR_paper_1 : decode cX9_paper 1 = .ok (.iload_n 1, 1) := by decide +kernel
theorem dR_paper_2 : decode cX9_paper 2 = .ok (.iload_n 2, 1) := by decide +kernel
theorem dR_paper_3 : decode cX9_paper 3 = .ok (.iload_n 3, 1) := by decide +kernel
theorem dR_paper_4 : decode cX9_paper 4 = .ok (.invokevirtual 205, 3) := by decide +kernel
theorem dR_paper_7 : decode cX9_paper 7 = .ok (.ifCond .ne 9, 3) := by decide +kernel
theorem dR_paper_10 : decode cX9_paper 10 = .ok (.aload_n 0, 1) := by decide +kernel
theorem dR_paper_11 : decode cX9_paper 11 = .ok (.iconst 1, 1) := by decide +kernel
theorem dR_paper_12 : decode cX9_paper 12 = .ok (.invokevirtual 62, 3) := by decide +kernel
theorem dR_paper_15 : decode cX9_paper 15 = .ok (.ireturn, 1) := by decide +kernel
theorem dR_paper_16 : decode cX9_paper 16 = .ok (.aload_n 0, 1) := by decide +kernel
theorem dR_paper_17 : decode cX9_paper 17 = .ok (.getfield 7, 3) := by decide +kernel
theorem dR_paper_20 : decode cX9_paper 20 = .ok (.iconst 3, 1) := by decide +kernel
theorem dR_paper_21 : decode cX9_paper 21 = .ok (.iaload, 1) := by decide +kernel
theorem dR_paper_22 : decode cX9_paper 22 = .ok (.bipush 6, 2) := by decide +kernel
theorem dR_paper_24 : decode cX9_paper 24 = .ok (.if_icmp .ne 9, 3) := by decide +kernel
theorem dR_paper_27 : decode cX9_paper 27 = .ok (.aload_n 0, 1) := by decide +kernel
theorem dR_paper_28 : decode cX9_paper 28 = .ok (.iconst 4, 1) := by decide +kernel
theorem dR_paper_29 : decode cX9_paper 29 = .ok (.invokevirtual 62, 3) := by decide +kernel
theorem dR_paper_32 : decode cX9_paper 32 = .ok (.ireturn, 1) := by decide +kernel
theorem dR_paper_33 : decode cX9_paper 33 = .ok (.aload_n 0, 1) := by decide +kernel
theorem dR_paper_34 : decode cX9_paper 34 = .ok (.iload_n 1, 1) := by decide +kernel
theorem dR_paper_35 : decode cX9_paper 35 = .ok (.iload_n 2, 1) := by decide +kernel
theorem dR_paper_36 : decode cX9_paper 36 = .ok (.iload_n 3, 1) := by decide +kernel
theorem dR_paper_37 : decode cX9_paper 37 = .ok (.invokevirtual 208, 3) := by decide +kernel
theorem dR_paper_40 : decode cX9_paper 40 = .ok (.aload_n 0, 1) := by decide +kernel
theorem dR_paper_41 : decode cX9_paper 41 = .ok (.getfield 7, 3) := by decide +kernel
theorem dR_paper_44 : decode cX9_paper 44 = .ok (.iconst 3, 1) := by decide +kernel
theorem dR_paper_45 : decode cX9_paper 45 = .ok (.iaload, 1) := by decide +kernel
theorem dR_paper_46 : decode cX9_paper 46 = .ok (.iconst 1, 1) := by decide +kernel
theorem dR_paper_47 : decode cX9_paper 47 = .ok (.isub, 1) := by decide +kernel
theorem dR_paper_48 : decode cX9_paper 48 = .ok (.ireturn, 1) := by decide +kernel
theorem dR_weigh_0 : decode cX9_weigh 0 = .ok (.aload_n 0, 1) := by decide +kernel
theorem dR_weigh_1 : decode cX9_weigh 1 = .ok (.iload_n 1, 1) := by decide +kernel
theorem dR_weigh_2 : decode cX9_weigh 2 = .ok (.invokevirtual 77, 3) := by decide +kernel
theorem dR_weigh_5 : decode cX9_weigh 5 = .ok (.ifCond .eq 23, 3) := by decide +kernel
theorem dR_weigh_8 : decode cX9_weigh 8 = .ok (.iload_n 2, 1) := by decide +kernel
theorem dR_weigh_9 : decode cX9_weigh 9 = .ok (.iconst 0, 1) := by decide +kernel
theorem dR_weigh_10 : decode cX9_weigh 10 = .ok (.ldc 61, 2) := by decide +kernel
theorem dR_weigh_12 : decode cX9_weigh 12 = .ok (.invokestatic 53, 3) := by decide +kernel
theorem dR_weigh_15 : decode cX9_weigh 15 = .ok (.ifCond .eq 13, 3) := by decide +kernel
theorem dR_weigh_18 : decode cX9_weigh 18 = .ok (.iload_n 3, 1) := by decide +kernel
theorem dR_weigh_19 : decode cX9_weigh 19 = .ok (.iconst 0, 1) := by decide +kernel
theorem dR_weigh_20 : decode cX9_weigh 20 = .ok (.bipush 99, 2) := by decide +kernel
theorem dR_weigh_22 : decode cX9_weigh 22 = .ok (.invokestatic 53, 3) := by decide +kernel
theorem dR_weigh_25 : decode cX9_weigh 25 = .ok (.ifCond .ne 9, 3) := by decide +kernel
theorem dR_weigh_28 : decode cX9_weigh 28 = .ok (.aload_n 0, 1) := by decide +kernel
theorem dR_weigh_29 : decode cX9_weigh 29 = .ok (.iconst 1, 1) := by decide +kernel
theorem dR_weigh_30 : decode cX9_weigh 30 = .ok (.invokevirtual 62, 3) := by decide +kernel
theorem dR_weigh_33 : decode cX9_weigh 33 = .ok (.ireturn, 1) := by decide +kernel
theorem dR_weigh_34 : decode cX9_weigh 34 = .ok (.aload_n 0, 1) := by decide +kernel
theorem dR_weigh_35 : decode cX9_weigh 35 = .ok (.getfield 7, 3) := by decide +kernel
theorem dR_weigh_38 : decode cX9_weigh 38 = .ok (.iconst 4, 1) := by decide +kernel
theorem dR_weigh_39 : decode cX9_weigh 39 = .ok (.iaload, 1) := by decide +kernel
theorem dR_weigh_40 : decode cX9_weigh 40 = .ok (.bipush 8, 2) := by decide +kernel
theorem dR_weigh_42 : decode cX9_weigh 42 = .ok (.if_icmp .ne 9, 3) := by decide +kernel
theorem dR_weigh_45 : decode cX9_weigh 45 = .ok (.aload_n 0, 1) := by decide +kernel
theorem dR_weigh_46 : decode cX9_weigh 46 = .ok (.iconst 4, 1) := by decide +kernel
theorem dR_weigh_47 : decode cX9_weigh 47 = .ok (.invokevirtual 62, 3) := by decide +kernel
theorem dR_weigh_50 : decode cX9_weigh 50 = .ok (.ireturn, 1) := by decide +kernel
theorem dR_weigh_51 : decode cX9_weigh 51 = .ok (.sipush 178, 3) := by decide +kernel
theorem dR_weigh_54 : decode cX9_weigh 54 = .ok (.iconst 3, 1) := by decide +kernel
theorem dR_weigh_55 : decode cX9_weigh 55 = .ok (.aload_n 0, 1) := by decide +kernel
theorem dR_weigh_56 : decode cX9_weigh 56 = .ok (.getfield 7, 3) := by decide +kernel
theorem dR_weigh_59 : decode cX9_weigh 59 = .ok (.iconst 4, 1) := by decide +kernel
theorem dR_weigh_60 : decode cX9_weigh 60 = .ok (.iaload, 1) := by decide +kernel
theorem dR_weigh_61 : decode cX9_weigh 61 = .ok (.imul, 1) := by decide +kernel
theorem dR_weigh_62 : decode cX9_weigh 62 = .ok (.iadd, 1) := by decide +kernel
theorem dR_weigh_63 : decode cX9_weigh 63 = .ok (.istore 4, 2) := by decide +kernel
theorem dR_weigh_65 : decode cX9_weigh 65 = .ok (.aload_n 0, 1) := by decide +kernel
theorem dR_weigh_66 : decode cX9_weigh 66 = .ok (.getfield 7, 3) := by decide +kernel
theorem dR_weigh_69 : decode cX9_weigh 69 = .ok (.iload 4, 2) := by decide +kernel
theorem dR_weigh_71 : decode cX9_weigh 71 = .ok (.iload_n 1, 1) := by decide +kernel
theorem dR_weigh_72 : decode cX9_weigh 72 = .ok (.iastore, 1) := by decide +kernel
theorem dR_weigh_73 : decode cX9_weigh 73 = .ok (.aload_n 0, 1) := by decide +kernel
theorem dR_weigh_74 : decode cX9_weigh 74 = .ok (.getfield 7, 3) := by decide +kernel
theorem dR_weigh_77 : decode cX9_weigh 77 = .ok (.iload 4, 2) := by decide +kernel
theorem dR_weigh_79 : decode cX9_weigh 79 = .ok (.iconst 1, 1) := by decide +kernel
theorem dR_weigh_80 : decode cX9_weigh 80 = .ok (.iadd, 1) := by decide +kernel
theorem dR_weigh_81 : decode cX9_weigh 81 = .ok (.iload_n 2, 1) := by decide +kernel
theorem dR_weigh_82 : decode cX9_weigh 82 = .ok (.iastore, 1) := by decide +kernel
theorem dR_weigh_83 : decode cX9_weigh 83 = .ok (.aload_n 0, 1) := by decide +kernel
theorem dR_weigh_84 : decode cX9_weigh 84 = .ok (.getfield 7, 3) := by decide +kernel
theorem dR_weigh_87 : decode cX9_weigh 87 = .ok (.iload 4, 2) := by decide +kernel
theorem dR_weigh_89 : decode cX9_weigh 89 = .ok (.iconst 2, 1) := by decide +kernel
theorem dR_weigh_90 : decode cX9_weigh 90 = .ok (.iadd, 1) := by decide +kernel
theorem dR_weigh_91 : decode cX9_weigh 91 = .ok (.iload_n 3, 1) := by decide +kernel
theorem dR_weigh_92 : decode cX9_weigh 92 = .ok (.iastore, 1) := by decide +kernel
theorem dR_weigh_93 : decode cX9_weigh 93 = .ok (.aload_n 0, 1) := by decide +kernel
theorem dR_weigh_94 : decode cX9_weigh 94 = .ok (.getfield 7, 3) := by decide +kernel
theorem dR_weigh_97 : decode cX9_weigh 97 = .ok (.iconst 4, 1) := by decide +kernel
theorem dR_weigh_98 : decode cX9_weigh 98 = .ok (.dup2, 1) := by decide +kernel
theorem dR_weigh_99 : decode cX9_weigh 99 = .ok (.iaload, 1) := by decide +kernel
theorem dR_weigh_100 : decode cX9_weigh 100 = .ok (.iconst 1, 1) := by decide +kernel
theorem dR_weigh_101 : decode cX9_weigh 101 = .ok (.iadd, 1) := by decide +kernel
theorem dR_weigh_102 : decode cX9_weigh 102 = .ok (.iastore, 1) := by decide +kernel
theorem dR_weigh_103 : decode cX9_weigh 103 = .ok (.aload_n 0, 1) := by decide +kernel
theorem dR_weigh_104 : decode cX9_weigh 104 = .ok (.getfield 7, 3) := by decide +kernel
theorem dR_weigh_107 : decode cX9_weigh 107 = .ok (.iconst 4, 1) := by decide +kernel
theorem dR_weigh_108 : decode cX9_weigh 108 = .ok (.iaload, 1) := by decide +kernel
theorem dR_weigh_109 : decode cX9_weigh 109 = .ok (.iconst 1, 1) := by decide +kernel
theorem dR_weigh_110 : decode cX9_weigh 110 = .ok (.isub, 1) := by decide +kernel
theorem dR_weigh_111 : decode cX9_weigh 111 = .ok (.ireturn, 1) := by decide +kernel
theorem dR_forget_0 : decode cX9_forget 0 = .ok (.iload_n 1, 1) := by decide +kernel
theorem dR_forget_1 : decode cX9_forget 1 = .ok (.iconst 0, 1) := by decide +kernel
theorem dR_forget_2 : decode cX9_forget 2 = .ok (.iconst 1, 1) := by decide +kernel
theorem dR_forget_3 : decode cX9_forget 3 = .ok (.invokestatic 53, 3) := by decide +kernel
theorem dR_forget_6 : decode cX9_forget 6 = .ok (.ifCond .ne 9, 3) := by decide +kernel
theorem dR_forget_9 : decode cX9_forget 9 = .ok (.aload_n 0, 1) := by decide +kernel
theorem dR_forget_10 : decode cX9_forget 10 = .ok (.iconst 1, 1) := by decide +kernel
theorem dR_forget_11 : decode cX9_forget 11 = .ok (.invokevirtual 62, 3) := by decide +kernel
theorem dR_forget_14 : decode cX9_forget 14 = .ok (.ireturn, 1) := by decide +kernel
theorem dR_forget_15 : decode cX9_forget 15 = .ok (.aload_n 0, 1) := by decide +kernel
theorem dR_forget_16 : decode cX9_forget 16 = .ok (.getfield 7, 3) := by decide +kernel
theorem dR_forget_19 : decode cX9_forget 19 = .ok (.iconst 3, 1) := by decide +kernel
theorem dR_forget_20 : decode cX9_forget 20 = .ok (.iload_n 1, 1) := by decide +kernel
theorem dR_forget_21 : decode cX9_forget 21 = .ok (.iadd, 1) := by decide +kernel
theorem dR_forget_22 : decode cX9_forget 22 = .ok (.iaload, 1) := by decide +kernel
theorem dR_forget_23 : decode cX9_forget 23 = .ok (.istore_n 2, 1) := by decide +kernel
theorem dR_forget_24 : decode cX9_forget 24 = .ok (.aload_n 0, 1) := by decide +kernel
theorem dR_forget_25 : decode cX9_forget 25 = .ok (.getfield 7, 3) := by decide +kernel
theorem dR_forget_28 : decode cX9_forget 28 = .ok (.iconst 3, 1) := by decide +kernel
theorem dR_forget_29 : decode cX9_forget 29 = .ok (.iload_n 1, 1) := by decide +kernel
theorem dR_forget_30 : decode cX9_forget 30 = .ok (.iadd, 1) := by decide +kernel
theorem dR_forget_31 : decode cX9_forget 31 = .ok (.iconst 0, 1) := by decide +kernel
theorem dR_forget_32 : decode cX9_forget 32 = .ok (.iastore, 1) := by decide +kernel
theorem dR_forget_33 : decode cX9_forget 33 = .ok (.iload_n 2, 1) := by decide +kernel
theorem dR_forget_34 : decode cX9_forget 34 = .ok (.ireturn, 1) := by decide +kernel
theorem dR_allPapers_0 : decode cX9_allPapers 0 = .ok (.iconst 1, 1) := by decide +kernel
theorem dR_allPapers_1 : decode cX9_allPapers 1 = .ok (.aload_n 0, 1) := by decide +kernel
theorem dR_allPapers_2 : decode cX9_allPapers 2 = .ok (.getfield 7, 3) := by decide +kernel
theorem dR_allPapers_5 : decode cX9_allPapers 5 = .ok (.iconst 3, 1) := by decide +kernel
theorem dR_allPapers_6 : decode cX9_allPapers 6 = .ok (.iaload, 1) := by decide +kernel
theorem dR_allPapers_7 : decode cX9_allPapers 7 = .ok (.ishl, 1) := by decide +kernel
theorem dR_allPapers_8 : decode cX9_allPapers 8 = .ok (.iconst 1, 1) := by decide +kernel
theorem dR_allPapers_9 : decode cX9_allPapers 9 = .ok (.isub, 1) := by decide +kernel
theorem dR_allPapers_10 : decode cX9_allPapers 10 = .ok (.ireturn, 1) := by decide +kernel
theorem dR_isHistory_0 : decode cX9_isHistory 0 = .ok (.iload_n 1, 1) := by decide +kernel
theorem dR_isHistory_1 : decode cX9_isHistory 1 = .ok (.iconst 0, 1) := by decide +kernel
theorem dR_isHistory_2 : decode cX9_isHistory 2 = .ok (.aload_n 0, 1) := by decide +kernel
theorem dR_isHistory_3 : decode cX9_isHistory 3 = .ok (.invokevirtual 211, 3) := by decide +kernel
theorem dR_isHistory_6 : decode cX9_isHistory 6 = .ok (.invokestatic 53, 3) := by decide +kernel
theorem dR_isHistory_9 : decode cX9_isHistory 9 = .ok (.ireturn, 1) := by decide +kernel
theorem dR_goesBy_0 : decode cX9_goesBy 0 = .ok (.iconst 0, 1) := by decide +kernel
theorem dR_goesBy_1 : decode cX9_goesBy 1 = .ok (.istore_n 2, 1) := by decide +kernel
theorem dR_goesBy_2 : decode cX9_goesBy 2 = .ok (.iload_n 2, 1) := by decide +kernel
theorem dR_goesBy_3 : decode cX9_goesBy 3 = .ok (.aload_n 0, 1) := by decide +kernel
theorem dR_goesBy_4 : decode cX9_goesBy 4 = .ok (.getfield 7, 3) := by decide +kernel
theorem dR_goesBy_7 : decode cX9_goesBy 7 = .ok (.iconst 3, 1) := by decide +kernel
theorem dR_goesBy_8 : decode cX9_goesBy 8 = .ok (.iaload, 1) := by decide +kernel
theorem dR_goesBy_9 : decode cX9_goesBy 9 = .ok (.if_icmp .ge 62, 3) := by decide +kernel
theorem dR_goesBy_12 : decode cX9_goesBy 12 = .ok (.iload_n 1, 1) := by decide +kernel
theorem dR_goesBy_13 : decode cX9_goesBy 13 = .ok (.iload_n 2, 1) := by decide +kernel
theorem dR_goesBy_14 : decode cX9_goesBy 14 = .ok (.ishr, 1) := by decide +kernel
theorem dR_goesBy_15 : decode cX9_goesBy 15 = .ok (.iconst 1, 1) := by decide +kernel
theorem dR_goesBy_16 : decode cX9_goesBy 16 = .ok (.iand, 1) := by decide +kernel
theorem dR_goesBy_17 : decode cX9_goesBy 17 = .ok (.iconst 1, 1) := by decide +kernel
theorem dR_goesBy_18 : decode cX9_goesBy 18 = .ok (.if_icmp .ne 47, 3) := by decide +kernel
theorem dR_goesBy_21 : decode cX9_goesBy 21 = .ok (.aload_n 0, 1) := by decide +kernel
theorem dR_goesBy_22 : decode cX9_goesBy 22 = .ok (.aload_n 0, 1) := by decide +kernel
theorem dR_goesBy_23 : decode cX9_goesBy 23 = .ok (.getfield 7, 3) := by decide +kernel
theorem dR_goesBy_26 : decode cX9_goesBy 26 = .ok (.sipush 160, 3) := by decide +kernel
theorem dR_goesBy_29 : decode cX9_goesBy 29 = .ok (.iconst 3, 1) := by decide +kernel
theorem dR_goesBy_30 : decode cX9_goesBy 30 = .ok (.iload_n 2, 1) := by decide +kernel
theorem dR_goesBy_31 : decode cX9_goesBy 31 = .ok (.imul, 1) := by decide +kernel
theorem dR_goesBy_32 : decode cX9_goesBy 32 = .ok (.iadd, 1) := by decide +kernel
theorem dR_goesBy_33 : decode cX9_goesBy 33 = .ok (.iaload, 1) := by decide +kernel
theorem dR_goesBy_34 : decode cX9_goesBy 34 = .ok (.aload_n 0, 1) := by decide +kernel
theorem dR_goesBy_35 : decode cX9_goesBy 35 = .ok (.getfield 7, 3) := by decide +kernel
theorem dR_goesBy_38 : decode cX9_goesBy 38 = .ok (.sipush 160, 3) := by decide +kernel
theorem dR_goesBy_41 : decode cX9_goesBy 41 = .ok (.iconst 3, 1) := by decide +kernel
theorem dR_goesBy_42 : decode cX9_goesBy 42 = .ok (.iload_n 2, 1) := by decide +kernel
theorem dR_goesBy_43 : decode cX9_goesBy 43 = .ok (.imul, 1) := by decide +kernel
theorem dR_goesBy_44 : decode cX9_goesBy 44 = .ok (.iadd, 1) := by decide +kernel
theorem dR_goesBy_45 : decode cX9_goesBy 45 = .ok (.iconst 1, 1) := by decide +kernel
theorem dR_goesBy_46 : decode cX9_goesBy 46 = .ok (.iadd, 1) := by decide +kernel
theorem dR_goesBy_47 : decode cX9_goesBy 47 = .ok (.iaload, 1) := by decide +kernel
theorem dR_goesBy_48 : decode cX9_goesBy 48 = .ok (.aload_n 0, 1) := by decide +kernel
theorem dR_goesBy_49 : decode cX9_goesBy 49 = .ok (.getfield 7, 3) := by decide +kernel
theorem dR_goesBy_52 : decode cX9_goesBy 52 = .ok (.sipush 160, 3) := by decide +kernel
theorem dR_goesBy_55 : decode cX9_goesBy 55 = .ok (.iconst 3, 1) := by decide +kernel
theorem dR_goesBy_56 : decode cX9_goesBy 56 = .ok (.iload_n 2, 1) := by decide +kernel
theorem dR_goesBy_57 : decode cX9_goesBy 57 = .ok (.imul, 1) := by decide +kernel
theorem dR_goesBy_58 : decode cX9_goesBy 58 = .ok (.iadd, 1) := by decide +kernel
theorem dR_goesBy_59 : decode cX9_goesBy 59 = .ok (.iconst 2, 1) := by decide +kernel
theorem dR_goesBy_60 : decode cX9_goesBy 60 = .ok (.iadd, 1) := by decide +kernel
theorem dR_goesBy_61 : decode cX9_goesBy 61 = .ok (.iaload, 1) := by decide +kernel
theorem dR_goesBy_62 : decode cX9_goesBy 62 = .ok (.invokevirtual 96, 3) := by decide +kernel
theorem dR_goesBy_65 : decode cX9_goesBy 65 = .ok (.iinc 2 1, 3) := by decide +kernel
theorem dR_goesBy_68 : decode cX9_goesBy 68 = .ok (.goto (-66), 3) := by decide +kernel
theorem dR_goesBy_71 : decode cX9_goesBy 71 = .ok (.return_, 1) := by decide +kernel
theorem dR_after_0 : decode cX9_after 0 = .ok (.aload_n 0, 1) := by decide +kernel
theorem dR_after_1 : decode cX9_after 1 = .ok (.getfield 7, 3) := by decide +kernel
theorem dR_after_4 : decode cX9_after 4 = .ok (.aload_n 0, 1) := by decide +kernel
theorem dR_after_5 : decode cX9_after 5 = .ok (.getfield 16, 3) := by decide +kernel
theorem dR_after_8 : decode cX9_after 8 = .ok (.invokestatic 117, 3) := by decide +kernel
theorem dR_after_11 : decode cX9_after 11 = .ok (.aload_n 0, 1) := by decide +kernel
theorem dR_after_12 : decode cX9_after 12 = .ok (.iload_n 1, 1) := by decide +kernel
theorem dR_after_13 : decode cX9_after 13 = .ok (.invokevirtual 214, 3) := by decide +kernel
theorem dR_after_16 : decode cX9_after 16 = .ok (.aload_n 0, 1) := by decide +kernel
theorem dR_after_17 : decode cX9_after 17 = .ok (.iload_n 2, 1) := by decide +kernel
theorem dR_after_18 : decode cX9_after 18 = .ok (.iload_n 3, 1) := by decide +kernel
theorem dR_after_19 : decode cX9_after 19 = .ok (.invokevirtual 73, 3) := by decide +kernel
theorem dR_after_22 : decode cX9_after 22 = .ok (.istore 4, 2) := by decide +kernel
theorem dR_after_24 : decode cX9_after 24 = .ok (.aload_n 0, 1) := by decide +kernel
theorem dR_after_25 : decode cX9_after 25 = .ok (.getfield 16, 3) := by decide +kernel
theorem dR_after_28 : decode cX9_after 28 = .ok (.aload_n 0, 1) := by decide +kernel
theorem dR_after_29 : decode cX9_after 29 = .ok (.getfield 7, 3) := by decide +kernel
theorem dR_after_32 : decode cX9_after 32 = .ok (.invokestatic 117, 3) := by decide +kernel
theorem dR_after_35 : decode cX9_after 35 = .ok (.iload 4, 2) := by decide +kernel
theorem dR_after_37 : decode cX9_after 37 = .ok (.ireturn, 1) := by decide +kernel
theorem dR_by_0 : decode cX9_by 0 = .ok (.aload_n 0, 1) := by decide +kernel
theorem dR_by_1 : decode cX9_by 1 = .ok (.iload_n 1, 1) := by decide +kernel
theorem dR_by_2 : decode cX9_by 2 = .ok (.invokevirtual 217, 3) := by decide +kernel
theorem dR_by_5 : decode cX9_by 5 = .ok (.ifCond .eq 21, 3) := by decide +kernel
theorem dR_by_8 : decode cX9_by 8 = .ok (.aload_n 0, 1) := by decide +kernel
theorem dR_by_9 : decode cX9_by 9 = .ok (.iload_n 2, 1) := by decide +kernel
theorem dR_by_10 : decode cX9_by 10 = .ok (.invokevirtual 77, 3) := by decide +kernel
theorem dR_by_13 : decode cX9_by 13 = .ok (.ifCond .eq 13, 3) := by decide +kernel
theorem dR_by_16 : decode cX9_by 16 = .ok (.iload_n 3, 1) := by decide +kernel
theorem dR_by_17 : decode cX9_by 17 = .ok (.iconst 2, 1) := by decide +kernel
theorem dR_by_18 : decode cX9_by 18 = .ok (.bipush 9, 2) := by decide +kernel
theorem dR_by_20 : decode cX9_by 20 = .ok (.invokestatic 53, 3) := by decide +kernel
theorem dR_by_23 : decode cX9_by 23 = .ok (.ifCond .ne 9, 3) := by decide +kernel
theorem dR_by_26 : decode cX9_by 26 = .ok (.aload_n 0, 1) := by decide +kernel
theorem dR_by_27 : decode cX9_by 27 = .ok (.iconst 1, 1) := by decide +kernel
theorem dR_by_28 : decode cX9_by 28 = .ok (.invokevirtual 62, 3) := by decide +kernel
theorem dR_by_31 : decode cX9_by 31 = .ok (.ireturn, 1) := by decide +kernel
theorem dR_by_32 : decode cX9_by 32 = .ok (.aload_n 0, 1) := by decide +kernel
theorem dR_by_33 : decode cX9_by 33 = .ok (.iload_n 1, 1) := by decide +kernel
theorem dR_by_34 : decode cX9_by 34 = .ok (.iload_n 2, 1) := by decide +kernel
theorem dR_by_35 : decode cX9_by 35 = .ok (.iload_n 3, 1) := by decide +kernel
theorem dR_by_36 : decode cX9_by 36 = .ok (.invokevirtual 220, 3) := by decide +kernel
theorem dR_by_39 : decode cX9_by 39 = .ok (.ireturn, 1) := by decide +kernel
theorem dR_doesFit_0 : decode cX9_doesFit 0 = .ok (.aload_n 0, 1) := by decide +kernel
theorem dR_doesFit_1 : decode cX9_doesFit 1 = .ok (.getfield 7, 3) := by decide +kernel
theorem dR_doesFit_4 : decode cX9_doesFit 4 = .ok (.aload_n 0, 1) := by decide +kernel
theorem dR_doesFit_5 : decode cX9_doesFit 5 = .ok (.getfield 16, 3) := by decide +kernel
theorem dR_doesFit_8 : decode cX9_doesFit 8 = .ok (.invokestatic 117, 3) := by decide +kernel
theorem dR_doesFit_11 : decode cX9_doesFit 11 = .ok (.aload_n 0, 1) := by decide +kernel
theorem dR_doesFit_12 : decode cX9_doesFit 12 = .ok (.iload_n 1, 1) := by decide +kernel
theorem dR_doesFit_13 : decode cX9_doesFit 13 = .ok (.invokevirtual 214, 3) := by decide +kernel
theorem dR_doesFit_16 : decode cX9_doesFit 16 = .ok (.iconst 1, 1) := by decide +kernel
theorem dR_doesFit_17 : decode cX9_doesFit 17 = .ok (.istore_n 2, 1) := by decide +kernel
theorem dR_doesFit_18 : decode cX9_doesFit 18 = .ok (.iconst 0, 1) := by decide +kernel
theorem dR_doesFit_19 : decode cX9_doesFit 19 = .ok (.istore_n 3, 1) := by decide +kernel
theorem dR_doesFit_20 : decode cX9_doesFit 20 = .ok (.iload_n 3, 1) := by decide +kernel
theorem dR_doesFit_21 : decode cX9_doesFit 21 = .ok (.aload_n 0, 1) := by decide +kernel
theorem dR_doesFit_22 : decode cX9_doesFit 22 = .ok (.getfield 7, 3) := by decide +kernel
theorem dR_doesFit_25 : decode cX9_doesFit 25 = .ok (.iconst 4, 1) := by decide +kernel
theorem dR_doesFit_26 : decode cX9_doesFit 26 = .ok (.iaload, 1) := by decide +kernel
theorem dR_doesFit_27 : decode cX9_doesFit 27 = .ok (.if_icmp .ge 74, 3) := by decide +kernel
theorem dR_doesFit_30 : decode cX9_doesFit 30 = .ok (.iload_n 2, 1) := by decide +kernel
theorem dR_doesFit_31 : decode cX9_doesFit 31 = .ok (.ifCond .eq 70, 3) := by decide +kernel
theorem dR_doesFit_34 : decode cX9_doesFit 34 = .ok (.aload_n 0, 1) := by decide +kernel
theorem dR_doesFit_35 : decode cX9_doesFit 35 = .ok (.aload_n 0, 1) := by decide +kernel
theorem dR_doesFit_36 : decode cX9_doesFit 36 = .ok (.getfield 7, 3) := by decide +kernel
theorem dR_doesFit_39 : decode cX9_doesFit 39 = .ok (.sipush 178, 3) := by decide +kernel
theorem dR_doesFit_42 : decode cX9_doesFit 42 = .ok (.iconst 3, 1) := by decide +kernel
theorem dR_doesFit_43 : decode cX9_doesFit 43 = .ok (.iload_n 3, 1) := by decide +kernel
theorem dR_doesFit_44 : decode cX9_doesFit 44 = .ok (.imul, 1) := by decide +kernel
theorem dR_doesFit_45 : decode cX9_doesFit 45 = .ok (.iadd, 1) := by decide +kernel
theorem dR_doesFit_46 : decode cX9_doesFit 46 = .ok (.iaload, 1) := by decide +kernel
theorem dR_doesFit_47 : decode cX9_doesFit 47 = .ok (.iconst 2, 1) := by decide +kernel
theorem dR_doesFit_48 : decode cX9_doesFit 48 = .ok (.invokevirtual 73, 3) := by decide +kernel
theorem dR_doesFit_51 : decode cX9_doesFit 51 = .ok (.aload_n 0, 1) := by decide +kernel
theorem dR_doesFit_52 : decode cX9_doesFit 52 = .ok (.getfield 7, 3) := by decide +kernel
theorem dR_doesFit_55 : decode cX9_doesFit 55 = .ok (.sipush 178, 3) := by decide +kernel
theorem dR_doesFit_58 : decode cX9_doesFit 58 = .ok (.iconst 3, 1) := by decide +kernel
theorem dR_doesFit_59 : decode cX9_doesFit 59 = .ok (.iload_n 3, 1) := by decide +kernel
theorem dR_doesFit_60 : decode cX9_doesFit 60 = .ok (.imul, 1) := by decide +kernel
theorem dR_doesFit_61 : decode cX9_doesFit 61 = .ok (.iadd, 1) := by decide +kernel
theorem dR_doesFit_62 : decode cX9_doesFit 62 = .ok (.iconst 1, 1) := by decide +kernel
theorem dR_doesFit_63 : decode cX9_doesFit 63 = .ok (.iadd, 1) := by decide +kernel
theorem dR_doesFit_64 : decode cX9_doesFit 64 = .ok (.iaload, 1) := by decide +kernel
theorem dR_doesFit_65 : decode cX9_doesFit 65 = .ok (.isub, 1) := by decide +kernel
theorem dR_doesFit_66 : decode cX9_doesFit 66 = .ok (.istore 4, 2) := by decide +kernel
theorem dR_doesFit_68 : decode cX9_doesFit 68 = .ok (.aload_n 0, 1) := by decide +kernel
theorem dR_doesFit_69 : decode cX9_doesFit 69 = .ok (.getfield 7, 3) := by decide +kernel
theorem dR_doesFit_72 : decode cX9_doesFit 72 = .ok (.sipush 178, 3) := by decide +kernel
theorem dR_doesFit_75 : decode cX9_doesFit 75 = .ok (.iconst 3, 1) := by decide +kernel
theorem dR_doesFit_76 : decode cX9_doesFit 76 = .ok (.iload_n 3, 1) := by decide +kernel
theorem dR_doesFit_77 : decode cX9_doesFit 77 = .ok (.imul, 1) := by decide +kernel
theorem dR_doesFit_78 : decode cX9_doesFit 78 = .ok (.iadd, 1) := by decide +kernel
theorem dR_doesFit_79 : decode cX9_doesFit 79 = .ok (.iconst 2, 1) := by decide +kernel
theorem dR_doesFit_80 : decode cX9_doesFit 80 = .ok (.iadd, 1) := by decide +kernel
theorem dR_doesFit_81 : decode cX9_doesFit 81 = .ok (.iaload, 1) := by decide +kernel
theorem dR_doesFit_82 : decode cX9_doesFit 82 = .ok (.istore 5, 2) := by decide +kernel
theorem dR_doesFit_84 : decode cX9_doesFit 84 = .ok (.iload 4, 2) := by decide +kernel
theorem dR_doesFit_86 : decode cX9_doesFit 86 = .ok (.iload 5, 2) := by decide +kernel
theorem dR_doesFit_88 : decode cX9_doesFit 88 = .ok (.ineg, 1) := by decide +kernel
theorem dR_doesFit_89 : decode cX9_doesFit 89 = .ok (.iload 5, 2) := by decide +kernel
theorem dR_doesFit_91 : decode cX9_doesFit 91 = .ok (.invokestatic 53, 3) := by decide +kernel
theorem dR_doesFit_94 : decode cX9_doesFit 94 = .ok (.istore_n 2, 1) := by decide +kernel
theorem dR_doesFit_95 : decode cX9_doesFit 95 = .ok (.iinc 3 1, 3) := by decide +kernel
theorem dR_doesFit_98 : decode cX9_doesFit 98 = .ok (.goto (-78), 3) := by decide +kernel
theorem dR_doesFit_101 : decode cX9_doesFit 101 = .ok (.aload_n 0, 1) := by decide +kernel
theorem dR_doesFit_102 : decode cX9_doesFit 102 = .ok (.getfield 16, 3) := by decide +kernel
theorem dR_doesFit_105 : decode cX9_doesFit 105 = .ok (.aload_n 0, 1) := by decide +kernel
theorem dR_doesFit_106 : decode cX9_doesFit 106 = .ok (.getfield 7, 3) := by decide +kernel
theorem dR_doesFit_109 : decode cX9_doesFit 109 = .ok (.invokestatic 117, 3) := by decide +kernel
theorem dR_doesFit_112 : decode cX9_doesFit 112 = .ok (.iload_n 2, 1) := by decide +kernel
theorem dR_doesFit_113 : decode cX9_doesFit 113 = .ok (.ireturn, 1) := by decide +kernel
theorem dR_findFits_0 : decode cX9_findFits 0 = .ok (.aload_n 0, 1) := by decide +kernel
theorem dR_findFits_1 : decode cX9_findFits 1 = .ok (.iconst 0, 1) := by decide +kernel
theorem dR_findFits_2 : decode cX9_findFits 2 = .ok (.putfield 223, 3) := by decide +kernel
theorem dR_findFits_5 : decode cX9_findFits 5 = .ok (.iconst 0, 1) := by decide +kernel
theorem dR_findFits_6 : decode cX9_findFits 6 = .ok (.istore_n 1, 1) := by decide +kernel
theorem dR_findFits_7 : decode cX9_findFits 7 = .ok (.iload_n 1, 1) := by decide +kernel
theorem dR_findFits_8 : decode cX9_findFits 8 = .ok (.aload_n 0, 1) := by decide +kernel
theorem dR_findFits_9 : decode cX9_findFits 9 = .ok (.invokevirtual 211, 3) := by decide +kernel
theorem dR_findFits_12 : decode cX9_findFits 12 = .ok (.if_icmp .gt 37, 3) := by decide +kernel
theorem dR_findFits_15 : decode cX9_findFits 15 = .ok (.aload_n 0, 1) := by decide +kernel
theorem dR_findFits_16 : decode cX9_findFits 16 = .ok (.iload_n 1, 1) := by decide +kernel
theorem dR_findFits_17 : decode cX9_findFits 17 = .ok (.invokevirtual 226, 3) := by decide +kernel
theorem dR_findFits_20 : decode cX9_findFits 20 = .ok (.ifCond .eq 23, 3) := by decide +kernel
theorem dR_findFits_23 : decode cX9_findFits 23 = .ok (.aload_n 0, 1) := by decide +kernel
theorem dR_findFits_24 : decode cX9_findFits 24 = .ok (.getfield 31, 3) := by decide +kernel
theorem dR_findFits_27 : decode cX9_findFits 27 = .ok (.aload_n 0, 1) := by decide +kernel
theorem dR_findFits_28 : decode cX9_findFits 28 = .ok (.getfield 223, 3) := by decide +kernel
theorem dR_findFits_31 : decode cX9_findFits 31 = .ok (.iload_n 1, 1) := by decide +kernel
theorem dR_findFits_32 : decode cX9_findFits 32 = .ok (.iastore, 1) := by decide +kernel
theorem dR_findFits_33 : decode cX9_findFits 33 = .ok (.aload_n 0, 1) := by decide +kernel
theorem dR_findFits_34 : decode cX9_findFits 34 = .ok (.dup, 1) := by decide +kernel
theorem dR_findFits_35 : decode cX9_findFits 35 = .ok (.getfield 223, 3) := by decide +kernel
theorem dR_findFits_38 : decode cX9_findFits 38 = .ok (.iconst 1, 1) := by decide +kernel
theorem dR_findFits_39 : decode cX9_findFits 39 = .ok (.iadd, 1) := by decide +kernel
theorem dR_findFits_40 : decode cX9_findFits 40 = .ok (.putfield 223, 3) := by decide +kernel
theorem dR_findFits_43 : decode cX9_findFits 43 = .ok (.iinc 1 1, 3) := by decide +kernel
theorem dR_findFits_46 : decode cX9_findFits 46 = .ok (.goto (-39), 3) := by decide +kernel
theorem dR_findFits_49 : decode cX9_findFits 49 = .ok (.return_, 1) := by decide +kernel
theorem dR_bitsOf_0 : decode cX9_bitsOf 0 = .ok (.iconst 0, 1) := by decide +kernel
theorem dR_bitsOf_1 : decode cX9_bitsOf 1 = .ok (.istore_n 1, 1) := by decide +kernel
theorem dR_bitsOf_2 : decode cX9_bitsOf 2 = .ok (.iload_n 0, 1) := by decide +kernel
theorem dR_bitsOf_3 : decode cX9_bitsOf 3 = .ok (.istore_n 2, 1) := by decide +kernel
theorem dR_bitsOf_4 : decode cX9_bitsOf 4 = .ok (.iload_n 2, 1) := by decide +kernel
theorem dR_bitsOf_5 : decode cX9_bitsOf 5 = .ok (.ifCond .eq 15, 3) := by decide +kernel
theorem dR_bitsOf_8 : decode cX9_bitsOf 8 = .ok (.iinc 1 1, 3) := by decide +kernel
theorem dR_bitsOf_11 : decode cX9_bitsOf 11 = .ok (.iload_n 2, 1) := by decide +kernel
theorem dR_bitsOf_12 : decode cX9_bitsOf 12 = .ok (.iload_n 2, 1) := by decide +kernel
theorem dR_bitsOf_13 : decode cX9_bitsOf 13 = .ok (.iconst 1, 1) := by decide +kernel
theorem dR_bitsOf_14 : decode cX9_bitsOf 14 = .ok (.isub, 1) := by decide +kernel
theorem dR_bitsOf_15 : decode cX9_bitsOf 15 = .ok (.iand, 1) := by decide +kernel
theorem dR_bitsOf_16 : decode cX9_bitsOf 16 = .ok (.istore_n 2, 1) := by decide +kernel
theorem dR_bitsOf_17 : decode cX9_bitsOf 17 = .ok (.goto (-13), 3) := by decide +kernel
theorem dR_bitsOf_20 : decode cX9_bitsOf 20 = .ok (.iload_n 1, 1) := by decide +kernel
theorem dR_bitsOf_21 : decode cX9_bitsOf 21 = .ok (.ireturn, 1) := by decide +kernel
theorem dR_fits_0 : decode cX9_fits 0 = .ok (.iload_n 1, 1) := by decide +kernel
theorem dR_fits_1 : decode cX9_fits 1 = .ok (.iconst 0, 1) := by decide +kernel
theorem dR_fits_2 : decode cX9_fits 2 = .ok (.iconst 4, 1) := by decide +kernel
theorem dR_fits_3 : decode cX9_fits 3 = .ok (.invokestatic 53, 3) := by decide +kernel
theorem dR_fits_6 : decode cX9_fits 6 = .ok (.ifCond .ne 9, 3) := by decide +kernel
theorem dR_fits_9 : decode cX9_fits 9 = .ok (.aload_n 0, 1) := by decide +kernel
theorem dR_fits_10 : decode cX9_fits 10 = .ok (.iconst 1, 1) := by decide +kernel
theorem dR_fits_11 : decode cX9_fits 11 = .ok (.invokevirtual 62, 3) := by decide +kernel
theorem dR_fits_14 : decode cX9_fits 14 = .ok (.ireturn, 1) := by decide +kernel
theorem dR_fits_15 : decode cX9_fits 15 = .ok (.aload_n 0, 1) := by decide +kernel
theorem dR_fits_16 : decode cX9_fits 16 = .ok (.invokevirtual 229, 3) := by decide +kernel
theorem dR_fits_19 : decode cX9_fits 19 = .ok (.aload_n 0, 1) := by decide +kernel
theorem dR_fits_20 : decode cX9_fits 20 = .ok (.invokevirtual 211, 3) := by decide +kernel
theorem dR_fits_23 : decode cX9_fits 23 = .ok (.istore_n 2, 1) := by decide +kernel
theorem dR_fits_24 : decode cX9_fits 24 = .ok (.iconst 0, 1) := by decide +kernel
theorem dR_fits_25 : decode cX9_fits 25 = .ok (.istore_n 3, 1) := by decide +kernel
theorem dR_fits_26 : decode cX9_fits 26 = .ok (.iconst 0, 1) := by decide +kernel
theorem dR_fits_27 : decode cX9_fits 27 = .ok (.istore 4, 2) := by decide +kernel
theorem dR_fits_29 : decode cX9_fits 29 = .ok (.iconst 0, 1) := by decide +kernel
theorem dR_fits_30 : decode cX9_fits 30 = .ok (.istore 5, 2) := by decide +kernel
theorem dR_fits_32 : decode cX9_fits 32 = .ok (.iload 5, 2) := by decide +kernel
theorem dR_fits_34 : decode cX9_fits 34 = .ok (.aload_n 0, 1) := by decide +kernel
theorem dR_fits_35 : decode cX9_fits 35 = .ok (.getfield 223, 3) := by decide +kernel
theorem dR_fits_38 : decode cX9_fits 38 = .ok (.if_icmp .ge 61, 3) := by decide +kernel
theorem dR_fits_41 : decode cX9_fits 41 = .ok (.iload_n 2, 1) := by decide +kernel
theorem dR_fits_42 : decode cX9_fits 42 = .ok (.aload_n 0, 1) := by decide +kernel
theorem dR_fits_43 : decode cX9_fits 43 = .ok (.getfield 31, 3) := by decide +kernel
theorem dR_fits_46 : decode cX9_fits 46 = .ok (.iload 5, 2) := by decide +kernel
theorem dR_fits_48 : decode cX9_fits 48 = .ok (.iaload, 1) := by decide +kernel
theorem dR_fits_49 : decode cX9_fits 49 = .ok (.iand, 1) := by decide +kernel
theorem dR_fits_50 : decode cX9_fits 50 = .ok (.istore_n 2, 1) := by decide +kernel
theorem dR_fits_51 : decode cX9_fits 51 = .ok (.iload_n 3, 1) := by decide +kernel
theorem dR_fits_52 : decode cX9_fits 52 = .ok (.aload_n 0, 1) := by decide +kernel
theorem dR_fits_53 : decode cX9_fits 53 = .ok (.getfield 31, 3) := by decide +kernel
theorem dR_fits_56 : decode cX9_fits 56 = .ok (.iload 5, 2) := by decide +kernel
theorem dR_fits_58 : decode cX9_fits 58 = .ok (.iaload, 1) := by decide +kernel
theorem dR_fits_59 : decode cX9_fits 59 = .ok (.ior, 1) := by decide +kernel
theorem dR_fits_60 : decode cX9_fits 60 = .ok (.istore_n 3, 1) := by decide +kernel
theorem dR_fits_61 : decode cX9_fits 61 = .ok (.aload_n 0, 1) := by decide +kernel
theorem dR_fits_62 : decode cX9_fits 62 = .ok (.getfield 31, 3) := by decide +kernel
theorem dR_fits_65 : decode cX9_fits 65 = .ok (.iload 5, 2) := by decide +kernel
theorem dR_fits_67 : decode cX9_fits 67 = .ok (.iaload, 1) := by decide +kernel
theorem dR_fits_68 : decode cX9_fits 68 = .ok (.invokestatic 232, 3) := by decide +kernel
theorem dR_fits_71 : decode cX9_fits 71 = .ok (.iload 4, 2) := by decide +kernel
theorem dR_fits_73 : decode cX9_fits 73 = .ok (.if_icmp .le 16, 3) := by decide +kernel
theorem dR_fits_76 : decode cX9_fits 76 = .ok (.aload_n 0, 1) := by decide +kernel
theorem dR_fits_77 : decode cX9_fits 77 = .ok (.getfield 31, 3) := by decide +kernel
theorem dR_fits_80 : decode cX9_fits 80 = .ok (.iload 5, 2) := by decide +kernel
theorem dR_fits_82 : decode cX9_fits 82 = .ok (.iaload, 1) := by decide +kernel
theorem dR_fits_83 : decode cX9_fits 83 = .ok (.invokestatic 232, 3) := by decide +kernel
theorem dR_fits_86 : decode cX9_fits 86 = .ok (.goto 5, 3) := by decide +kernel
theorem dR_fits_89 : decode cX9_fits 89 = .ok (.iload 4, 2) := by decide +kernel
theorem dR_fits_91 : decode cX9_fits 91 = .ok (.istore 4, 2) := by decide +kernel
theorem dR_fits_93 : decode cX9_fits 93 = .ok (.iinc 5 1, 3) := by decide +kernel
theorem dR_fits_96 : decode cX9_fits 96 = .ok (.goto (-64), 3) := by decide +kernel
theorem dR_fits_99 : decode cX9_fits 99 = .ok (.iload_n 1, 1) := by decide +kernel
theorem dR_fits_100 : decode cX9_fits 100 = .ok (.iconst 1, 1) := by decide +kernel
theorem dR_fits_101 : decode cX9_fits 101 = .ok (.if_icmp .eq 8, 3) := by decide +kernel
theorem dR_fits_104 : decode cX9_fits 104 = .ok (.iload_n 1, 1) := by decide +kernel
theorem dR_fits_105 : decode cX9_fits 105 = .ok (.iconst 4, 1) := by decide +kernel
theorem dR_fits_106 : decode cX9_fits 106 = .ok (.if_icmp .ne 16, 3) := by decide +kernel
theorem dR_fits_109 : decode cX9_fits 109 = .ok (.aload_n 0, 1) := by decide +kernel
theorem dR_fits_110 : decode cX9_fits 110 = .ok (.getfield 223, 3) := by decide +kernel
theorem dR_fits_113 : decode cX9_fits 113 = .ok (.ifCond .ne 9, 3) := by decide +kernel
theorem dR_fits_116 : decode cX9_fits 116 = .ok (.aload_n 0, 1) := by decide +kernel
theorem dR_fits_117 : decode cX9_fits 117 = .ok (.iconst 2, 1) := by decide +kernel
theorem dR_fits_118 : decode cX9_fits 118 = .ok (.invokevirtual 62, 3) := by decide +kernel
theorem dR_fits_121 : decode cX9_fits 121 = .ok (.ireturn, 1) := by decide +kernel
theorem dR_fits_122 : decode cX9_fits 122 = .ok (.iload_n 1, 1) := by decide +kernel
theorem dR_fits_123 : decode cX9_fits 123 = .ok (.ifCond .ne 10, 3) := by decide +kernel
theorem dR_fits_126 : decode cX9_fits 126 = .ok (.aload_n 0, 1) := by decide +kernel
theorem dR_fits_127 : decode cX9_fits 127 = .ok (.getfield 223, 3) := by decide +kernel
theorem dR_fits_130 : decode cX9_fits 130 = .ok (.goto 44, 3) := by decide +kernel
theorem dR_fits_133 : decode cX9_fits 133 = .ok (.iload_n 1, 1) := by decide +kernel
theorem dR_fits_134 : decode cX9_fits 134 = .ok (.iconst 1, 1) := by decide +kernel
theorem dR_fits_135 : decode cX9_fits 135 = .ok (.if_icmp .ne 12, 3) := by decide +kernel
theorem dR_fits_138 : decode cX9_fits 138 = .ok (.aload_n 0, 1) := by decide +kernel
theorem dR_fits_139 : decode cX9_fits 139 = .ok (.getfield 31, 3) := by decide +kernel
theorem dR_fits_142 : decode cX9_fits 142 = .ok (.iconst 0, 1) := by decide +kernel
theorem dR_fits_143 : decode cX9_fits 143 = .ok (.iaload, 1) := by decide +kernel
theorem dR_fits_144 : decode cX9_fits 144 = .ok (.goto 30, 3) := by decide +kernel
theorem dR_fits_147 : decode cX9_fits 147 = .ok (.iload_n 1, 1) := by decide +kernel
theorem dR_fits_148 : decode cX9_fits 148 = .ok (.iconst 2, 1) := by decide +kernel
theorem dR_fits_149 : decode cX9_fits 149 = .ok (.if_icmp .ne 7, 3) := by decide +kernel
theorem dR_fits_152 : decode cX9_fits 152 = .ok (.iload_n 2, 1) := by decide +kernel
theorem dR_fits_153 : decode cX9_fits 153 = .ok (.goto 21, 3) := by decide +kernel
theorem dR_fits_156 : decode cX9_fits 156 = .ok (.iload_n 1, 1) := by decide +kernel
theorem dR_fits_157 : decode cX9_fits 157 = .ok (.iconst 3, 1) := by decide +kernel
theorem dR_fits_158 : decode cX9_fits 158 = .ok (.if_icmp .ne 7, 3) := by decide +kernel
theorem dR_fits_161 : decode cX9_fits 161 = .ok (.iload_n 3, 1) := by decide +kernel
theorem dR_fits_162 : decode cX9_fits 162 = .ok (.goto 12, 3) := by decide +kernel
theorem dR_fits_165 : decode cX9_fits 165 = .ok (.aload_n 0, 1) := by decide +kernel
theorem dR_fits_166 : decode cX9_fits 166 = .ok (.getfield 7, 3) := by decide +kernel
theorem dR_fits_169 : decode cX9_fits 169 = .ok (.iconst 3, 1) := by decide +kernel
theorem dR_fits_170 : decode cX9_fits 170 = .ok (.iaload, 1) := by decide +kernel
theorem dR_fits_171 : decode cX9_fits 171 = .ok (.iload 4, 2) := by decide +kernel
theorem dR_fits_173 : decode cX9_fits 173 = .ok (.isub, 1) := by decide +kernel
theorem dR_fits_174 : decode cX9_fits 174 = .ok (.ireturn, 1) := by decide +kernel
theorem dR_span_0 : decode cX9_span 0 = .ok (.aload_n 0, 1) := by decide +kernel
theorem dR_span_1 : decode cX9_span 1 = .ok (.iload_n 1, 1) := by decide +kernel
theorem dR_span_2 : decode cX9_span 2 = .ok (.invokevirtual 77, 3) := by decide +kernel
theorem dR_span_5 : decode cX9_span 5 = .ok (.ifCond .eq 21, 3) := by decide +kernel
theorem dR_span_8 : decode cX9_span 8 = .ok (.iload_n 2, 1) := by decide +kernel
theorem dR_span_9 : decode cX9_span 9 = .ok (.iconst 0, 1) := by decide +kernel
theorem dR_span_10 : decode cX9_span 10 = .ok (.iconst 3, 1) := by decide +kernel
theorem dR_span_11 : decode cX9_span 11 = .ok (.invokestatic 53, 3) := by decide +kernel
theorem dR_span_14 : decode cX9_span 14 = .ok (.ifCond .eq 12, 3) := by decide +kernel
theorem dR_span_17 : decode cX9_span 17 = .ok (.iload_n 3, 1) := by decide +kernel
theorem dR_span_18 : decode cX9_span 18 = .ok (.iconst 0, 1) := by decide +kernel
theorem dR_span_19 : decode cX9_span 19 = .ok (.iconst 1, 1) := by decide +kernel
theorem dR_span_20 : decode cX9_span 20 = .ok (.invokestatic 53, 3) := by decide +kernel
theorem dR_span_23 : decode cX9_span 23 = .ok (.ifCond .ne 9, 3) := by decide +kernel
theorem dR_span_26 : decode cX9_span 26 = .ok (.aload_n 0, 1) := by decide +kernel
theorem dR_span_27 : decode cX9_span 27 = .ok (.iconst 1, 1) := by decide +kernel
theorem dR_span_28 : decode cX9_span 28 = .ok (.invokevirtual 62, 3) := by decide +kernel
theorem dR_span_31 : decode cX9_span 31 = .ok (.ireturn, 1) := by decide +kernel
theorem dR_span_32 : decode cX9_span 32 = .ok (.aload_n 0, 1) := by decide +kernel
theorem dR_span_33 : decode cX9_span 33 = .ok (.invokevirtual 229, 3) := by decide +kernel
theorem dR_span_36 : decode cX9_span 36 = .ok (.aload_n 0, 1) := by decide +kernel
theorem dR_span_37 : decode cX9_span 37 = .ok (.getfield 223, 3) := by decide +kernel
theorem dR_span_40 : decode cX9_span 40 = .ok (.ifCond .ne 9, 3) := by decide +kernel
theorem dR_span_43 : decode cX9_span 43 = .ok (.aload_n 0, 1) := by decide +kernel
theorem dR_span_44 : decode cX9_span 44 = .ok (.iconst 2, 1) := by decide +kernel
theorem dR_span_45 : decode cX9_span 45 = .ok (.invokevirtual 62, 3) := by decide +kernel
theorem dR_span_48 : decode cX9_span 48 = .ok (.ireturn, 1) := by decide +kernel
theorem dR_span_49 : decode cX9_span 49 = .ok (.aload_n 0, 1) := by decide +kernel
theorem dR_span_50 : decode cX9_span 50 = .ok (.aload_n 0, 1) := by decide +kernel
theorem dR_span_51 : decode cX9_span 51 = .ok (.getfield 31, 3) := by decide +kernel
theorem dR_span_54 : decode cX9_span 54 = .ok (.iconst 0, 1) := by decide +kernel
theorem dR_span_55 : decode cX9_span 55 = .ok (.iaload, 1) := by decide +kernel
theorem dR_span_56 : decode cX9_span 56 = .ok (.iload_n 1, 1) := by decide +kernel
theorem dR_span_57 : decode cX9_span 57 = .ok (.bipush 6, 2) := by decide +kernel
theorem dR_span_59 : decode cX9_span 59 = .ok (.iload_n 2, 1) := by decide +kernel
theorem dR_span_60 : decode cX9_span 60 = .ok (.iadd, 1) := by decide +kernel
theorem dR_span_61 : decode cX9_span 61 = .ok (.invokevirtual 220, 3) := by decide +kernel
theorem dR_span_64 : decode cX9_span 64 = .ok (.istore 4, 2) := by decide +kernel
theorem dR_span_66 : decode cX9_span 66 = .ok (.iconst 1, 1) := by decide +kernel
theorem dR_span_67 : decode cX9_span 67 = .ok (.istore 5, 2) := by decide +kernel
theorem dR_span_69 : decode cX9_span 69 = .ok (.iload 5, 2) := by decide +kernel
theorem dR_span_71 : decode cX9_span 71 = .ok (.aload_n 0, 1) := by decide +kernel
theorem dR_span_72 : decode cX9_span 72 = .ok (.getfield 223, 3) := by decide +kernel
theorem dR_span_75 : decode cX9_span 75 = .ok (.if_icmp .ge 65, 3) := by decide +kernel
theorem dR_span_78 : decode cX9_span 78 = .ok (.aload_n 0, 1) := by decide +kernel
theorem dR_span_79 : decode cX9_span 79 = .ok (.aload_n 0, 1) := by decide +kernel
theorem dR_span_80 : decode cX9_span 80 = .ok (.getfield 31, 3) := by decide +kernel
theorem dR_span_83 : decode cX9_span 83 = .ok (.iload 5, 2) := by decide +kernel
theorem dR_span_85 : decode cX9_span 85 = .ok (.iaload, 1) := by decide +kernel
theorem dR_span_86 : decode cX9_span 86 = .ok (.iload_n 1, 1) := by decide +kernel
theorem dR_span_87 : decode cX9_span 87 = .ok (.bipush 6, 2) := by decide +kernel
theorem dR_span_89 : decode cX9_span 89 = .ok (.iload_n 2, 1) := by decide +kernel
theorem dR_span_90 : decode cX9_span 90 = .ok (.iadd, 1) := by decide +kernel
theorem dR_span_91 : decode cX9_span 91 = .ok (.invokevirtual 220, 3) := by decide +kernel
theorem dR_span_94 : decode cX9_span 94 = .ok (.istore 6, 2) := by decide +kernel
theorem dR_span_96 : decode cX9_span 96 = .ok (.iload_n 3, 1) := by decide +kernel
theorem dR_span_97 : decode cX9_span 97 = .ok (.iconst 1, 1) := by decide +kernel
theorem dR_span_98 : decode cX9_span 98 = .ok (.if_icmp .ne 20, 3) := by decide +kernel
theorem dR_span_101 : decode cX9_span 101 = .ok (.iload 6, 2) := by decide +kernel
theorem dR_span_103 : decode cX9_span 103 = .ok (.iload 4, 2) := by decide +kernel
theorem dR_span_105 : decode cX9_span 105 = .ok (.if_icmp .le 8, 3) := by decide +kernel
theorem dR_span_108 : decode cX9_span 108 = .ok (.iload 6, 2) := by decide +kernel
theorem dR_span_110 : decode cX9_span 110 = .ok (.goto 22, 3) := by decide +kernel
theorem dR_span_113 : decode cX9_span 113 = .ok (.iload 4, 2) := by decide +kernel
theorem dR_span_115 : decode cX9_span 115 = .ok (.goto 17, 3) := by decide +kernel
theorem dR_span_118 : decode cX9_span 118 = .ok (.iload 6, 2) := by decide +kernel
theorem dR_span_120 : decode cX9_span 120 = .ok (.iload 4, 2) := by decide +kernel
theorem dR_span_122 : decode cX9_span 122 = .ok (.if_icmp .ge 8, 3) := by decide +kernel
theorem dR_span_125 : decode cX9_span 125 = .ok (.iload 6, 2) := by decide +kernel
theorem dR_span_127 : decode cX9_span 127 = .ok (.goto 5, 3) := by decide +kernel
theorem dR_span_130 : decode cX9_span 130 = .ok (.iload 4, 2) := by decide +kernel
theorem dR_span_132 : decode cX9_span 132 = .ok (.istore 4, 2) := by decide +kernel
theorem dR_span_134 : decode cX9_span 134 = .ok (.iinc 5 1, 3) := by decide +kernel
theorem dR_span_137 : decode cX9_span 137 = .ok (.goto (-68), 3) := by decide +kernel
theorem dR_span_140 : decode cX9_span 140 = .ok (.iload 4, 2) := by decide +kernel
theorem dR_span_142 : decode cX9_span 142 = .ok (.ireturn, 1) := by decide +kernel
theorem dR_heap_0 : decode cX9_heap 0 = .ok (.iconst 0, 1) := by decide +kernel
theorem dR_heap_1 : decode cX9_heap 1 = .ok (.istore_n 2, 1) := by decide +kernel
theorem dR_heap_2 : decode cX9_heap 2 = .ok (.iload_n 2, 1) := by decide +kernel
theorem dR_heap_3 : decode cX9_heap 3 = .ok (.aload_n 0, 1) := by decide +kernel
theorem dR_heap_4 : decode cX9_heap 4 = .ok (.getfield 223, 3) := by decide +kernel
theorem dR_heap_7 : decode cX9_heap 7 = .ok (.if_icmp .ge 27, 3) := by decide +kernel
theorem dR_heap_10 : decode cX9_heap 10 = .ok (.aload_n 0, 1) := by decide +kernel
theorem dR_heap_11 : decode cX9_heap 11 = .ok (.getfield 34, 3) := by decide +kernel
theorem dR_heap_14 : decode cX9_heap 14 = .ok (.iload_n 2, 1) := by decide +kernel
theorem dR_heap_15 : decode cX9_heap 15 = .ok (.aload_n 0, 1) := by decide +kernel
theorem dR_heap_16 : decode cX9_heap 16 = .ok (.aload_n 0, 1) := by decide +kernel
theorem dR_heap_17 : decode cX9_heap 17 = .ok (.getfield 31, 3) := by decide +kernel
theorem dR_heap_20 : decode cX9_heap 20 = .ok (.iload_n 2, 1) := by decide +kernel
theorem dR_heap_21 : decode cX9_heap 21 = .ok (.iaload, 1) := by decide +kernel
theorem dR_heap_22 : decode cX9_heap 22 = .ok (.iload_n 1, 1) := by decide +kernel
theorem dR_heap_23 : decode cX9_heap 23 = .ok (.iconst 2, 1) := by decide +kernel
theorem dR_heap_24 : decode cX9_heap 24 = .ok (.invokevirtual 220, 3) := by decide +kernel
theorem dR_heap_27 : decode cX9_heap 27 = .ok (.iastore, 1) := by decide +kernel
theorem dR_heap_28 : decode cX9_heap 28 = .ok (.iinc 2 1, 3) := by decide +kernel
theorem dR_heap_31 : decode cX9_heap 31 = .ok (.goto (-29), 3) := by decide +kernel
theorem dR_heap_34 : decode cX9_heap 34 = .ok (.iconst 0, 1) := by decide +kernel
theorem dR_heap_35 : decode cX9_heap 35 = .ok (.istore_n 2, 1) := by decide +kernel
theorem dR_heap_36 : decode cX9_heap 36 = .ok (.iconst 0, 1) := by decide +kernel
theorem dR_heap_37 : decode cX9_heap 37 = .ok (.istore_n 3, 1) := by decide +kernel
theorem dR_heap_38 : decode cX9_heap 38 = .ok (.iload_n 3, 1) := by decide +kernel
theorem dR_heap_39 : decode cX9_heap 39 = .ok (.aload_n 0, 1) := by decide +kernel
theorem dR_heap_40 : decode cX9_heap 40 = .ok (.getfield 223, 3) := by decide +kernel
theorem dR_heap_43 : decode cX9_heap 43 = .ok (.if_icmp .ge 69, 3) := by decide +kernel
theorem dR_heap_46 : decode cX9_heap 46 = .ok (.iconst 0, 1) := by decide +kernel
theorem dR_heap_47 : decode cX9_heap 47 = .ok (.istore 4, 2) := by decide +kernel
theorem dR_heap_49 : decode cX9_heap 49 = .ok (.iconst 0, 1) := by decide +kernel
theorem dR_heap_50 : decode cX9_heap 50 = .ok (.istore 5, 2) := by decide +kernel
theorem dR_heap_52 : decode cX9_heap 52 = .ok (.iload 5, 2) := by decide +kernel
theorem dR_heap_54 : decode cX9_heap 54 = .ok (.aload_n 0, 1) := by decide +kernel
theorem dR_heap_55 : decode cX9_heap 55 = .ok (.getfield 223, 3) := by decide +kernel
theorem dR_heap_58 : decode cX9_heap 58 = .ok (.if_icmp .ge 35, 3) := by decide +kernel
theorem dR_heap_61 : decode cX9_heap 61 = .ok (.iload 4, 2) := by decide +kernel
theorem dR_heap_63 : decode cX9_heap 63 = .ok (.aload_n 0, 1) := by decide +kernel
theorem dR_heap_64 : decode cX9_heap 64 = .ok (.getfield 34, 3) := by decide +kernel
theorem dR_heap_67 : decode cX9_heap 67 = .ok (.iload 5, 2) := by decide +kernel
theorem dR_heap_69 : decode cX9_heap 69 = .ok (.iaload, 1) := by decide +kernel
theorem dR_heap_70 : decode cX9_heap 70 = .ok (.aload_n 0, 1) := by decide +kernel
theorem dR_heap_71 : decode cX9_heap 71 = .ok (.getfield 34, 3) := by decide +kernel
theorem dR_heap_74 : decode cX9_heap 74 = .ok (.iload_n 3, 1) := by decide +kernel
theorem dR_heap_75 : decode cX9_heap 75 = .ok (.iaload, 1) := by decide +kernel
theorem dR_heap_76 : decode cX9_heap 76 = .ok (.if_icmp .ne 7, 3) := by decide +kernel
theorem dR_heap_79 : decode cX9_heap 79 = .ok (.iconst 1, 1) := by decide +kernel
theorem dR_heap_80 : decode cX9_heap 80 = .ok (.goto 4, 3) := by decide +kernel
theorem dR_heap_83 : decode cX9_heap 83 = .ok (.iconst 0, 1) := by decide +kernel
theorem dR_heap_84 : decode cX9_heap 84 = .ok (.iadd, 1) := by decide +kernel
theorem dR_heap_85 : decode cX9_heap 85 = .ok (.istore 4, 2) := by decide +kernel
theorem dR_heap_87 : decode cX9_heap 87 = .ok (.iinc 5 1, 3) := by decide +kernel
theorem dR_heap_90 : decode cX9_heap 90 = .ok (.goto (-38), 3) := by decide +kernel
theorem dR_heap_93 : decode cX9_heap 93 = .ok (.iload 4, 2) := by decide +kernel
theorem dR_heap_95 : decode cX9_heap 95 = .ok (.iload_n 2, 1) := by decide +kernel
theorem dR_heap_96 : decode cX9_heap 96 = .ok (.if_icmp .le 8, 3) := by decide +kernel
theorem dR_heap_99 : decode cX9_heap 99 = .ok (.iload 4, 2) := by decide +kernel
theorem dR_heap_101 : decode cX9_heap 101 = .ok (.goto 4, 3) := by decide +kernel
theorem dR_heap_104 : decode cX9_heap 104 = .ok (.iload_n 2, 1) := by decide +kernel
theorem dR_heap_105 : decode cX9_heap 105 = .ok (.istore_n 2, 1) := by decide +kernel
theorem dR_heap_106 : decode cX9_heap 106 = .ok (.iinc 3 1, 3) := by decide +kernel
theorem dR_heap_109 : decode cX9_heap 109 = .ok (.goto (-71), 3) := by decide +kernel
theorem dR_heap_112 : decode cX9_heap 112 = .ok (.iload_n 2, 1) := by decide +kernel
theorem dR_heap_113 : decode cX9_heap 113 = .ok (.ireturn, 1) := by decide +kernel
theorem dR_next_0 : decode cX9_next 0 = .ok (.aload_n 0, 1) := by decide +kernel
theorem dR_next_1 : decode cX9_next 1 = .ok (.invokevirtual 229, 3) := by decide +kernel
theorem dR_next_4 : decode cX9_next 4 = .ok (.aload_n 0, 1) := by decide +kernel
theorem dR_next_5 : decode cX9_next 5 = .ok (.getfield 223, 3) := by decide +kernel
theorem dR_next_8 : decode cX9_next 8 = .ok (.ifCond .eq 12, 3) := by decide +kernel
theorem dR_next_11 : decode cX9_next 11 = .ok (.aload_n 0, 1) := by decide +kernel
theorem dR_next_12 : decode cX9_next 12 = .ok (.getfield 7, 3) := by decide +kernel
theorem dR_next_15 : decode cX9_next 15 = .ok (.iconst 0, 1) := by decide +kernel
theorem dR_next_16 : decode cX9_next 16 = .ok (.iaload, 1) := by decide +kernel
theorem dR_next_17 : decode cX9_next 17 = .ok (.ifCond .ne 9, 3) := by decide +kernel
theorem dR_next_20 : decode cX9_next 20 = .ok (.aload_n 0, 1) := by decide +kernel
theorem dR_next_21 : decode cX9_next 21 = .ok (.iconst 2, 1) := by decide +kernel
theorem dR_next_22 : decode cX9_next 22 = .ok (.invokevirtual 62, 3) := by decide +kernel
theorem dR_next_25 : decode cX9_next 25 = .ok (.ireturn, 1) := by decide +kernel
theorem dR_next_26 : decode cX9_next 26 = .ok (.iconst 0, 1) := by decide +kernel
theorem dR_next_27 : decode cX9_next 27 = .ok (.istore_n 1, 1) := by decide +kernel
theorem dR_next_28 : decode cX9_next 28 = .ok (.iconst 1, 1) := by decide +kernel
theorem dR_next_29 : decode cX9_next 29 = .ok (.istore_n 2, 1) := by decide +kernel
theorem dR_next_30 : decode cX9_next 30 = .ok (.iload_n 2, 1) := by decide +kernel
theorem dR_next_31 : decode cX9_next 31 = .ok (.aload_n 0, 1) := by decide +kernel
theorem dR_next_32 : decode cX9_next 32 = .ok (.getfield 7, 3) := by decide +kernel
theorem dR_next_35 : decode cX9_next 35 = .ok (.iconst 0, 1) := by decide +kernel
theorem dR_next_36 : decode cX9_next 36 = .ok (.iaload, 1) := by decide +kernel
theorem dR_next_37 : decode cX9_next 37 = .ok (.if_icmp .ge 28, 3) := by decide +kernel
theorem dR_next_40 : decode cX9_next 40 = .ok (.aload_n 0, 1) := by decide +kernel
theorem dR_next_41 : decode cX9_next 41 = .ok (.iload_n 2, 1) := by decide +kernel
theorem dR_next_42 : decode cX9_next 42 = .ok (.invokevirtual 235, 3) := by decide +kernel
theorem dR_next_45 : decode cX9_next 45 = .ok (.aload_n 0, 1) := by decide +kernel
theorem dR_next_46 : decode cX9_next 46 = .ok (.iload_n 1, 1) := by decide +kernel
theorem dR_next_47 : decode cX9_next 47 = .ok (.invokevirtual 235, 3) := by decide +kernel
theorem dR_next_50 : decode cX9_next 50 = .ok (.if_icmp .ge 7, 3) := by decide +kernel
theorem dR_next_53 : decode cX9_next 53 = .ok (.iload_n 2, 1) := by decide +kernel
theorem dR_next_54 : decode cX9_next 54 = .ok (.goto 4, 3) := by decide +kernel
theorem dR_next_57 : decode cX9_next 57 = .ok (.iload_n 1, 1) := by decide +kernel
theorem dR_next_58 : decode cX9_next 58 = .ok (.istore_n 1, 1) := by decide +kernel
theorem dR_next_59 : decode cX9_next 59 = .ok (.iinc 2 1, 3) := by decide +kernel
theorem dR_next_62 : decode cX9_next 62 = .ok (.goto (-32), 3) := by decide +kernel
theorem dR_next_65 : decode cX9_next 65 = .ok (.iload_n 1, 1) := by decide +kernel
theorem dR_next_66 : decode cX9_next 66 = .ok (.ireturn, 1) := by decide +kernel
theorem dR_together_0 : decode cX9_together 0 = .ok (.lconst 0, 1) := by decide +kernel
theorem dR_together_1 : decode cX9_together 1 = .ok (.lstore_n 3, 1) := by decide +kernel
theorem dR_together_2 : decode cX9_together 2 = .ok (.lconst 0, 1) := by decide +kernel
theorem dR_together_3 : decode cX9_together 3 = .ok (.lstore 5, 2) := by decide +kernel
theorem dR_together_5 : decode cX9_together 5 = .ok (.iconst 0, 1) := by decide +kernel
theorem dR_together_6 : decode cX9_together 6 = .ok (.istore 7, 2) := by decide +kernel
theorem dR_together_8 : decode cX9_together 8 = .ok (.iload 7, 2) := by decide +kernel
theorem dR_together_10 : decode cX9_together 10 = .ok (.aload_n 0, 1) := by decide +kernel
theorem dR_together_11 : decode cX9_together 11 = .ok (.getfield 7, 3) := by decide +kernel
theorem dR_together_14 : decode cX9_together 14 = .ok (.iconst 0, 1) := by decide +kernel
theorem dR_together_15 : decode cX9_together 15 = .ok (.iaload, 1) := by decide +kernel
theorem dR_together_16 : decode cX9_together 16 = .ok (.if_icmp .ge 55, 3) := by decide +kernel
theorem dR_together_19 : decode cX9_together 19 = .ok (.iload_n 2, 1) := by decide +kernel
theorem dR_together_20 : decode cX9_together 20 = .ok (.iload 7, 2) := by decide +kernel
theorem dR_together_22 : decode cX9_together 22 = .ok (.ishr, 1) := by decide +kernel
theorem dR_together_23 : decode cX9_together 23 = .ok (.iconst 1, 1) := by decide +kernel
theorem dR_together_24 : decode cX9_together 24 = .ok (.iand, 1) := by decide +kernel
theorem dR_together_25 : decode cX9_together 25 = .ok (.iconst 1, 1) := by decide +kernel
theorem dR_together_26 : decode cX9_together 26 = .ok (.if_icmp .ne 39, 3) := by decide +kernel
theorem dR_together_29 : decode cX9_together 29 = .ok (.lload_n 3, 1) := by decide +kernel
theorem dR_together_30 : decode cX9_together 30 = .ok (.aload_n 0, 1) := by decide +kernel
theorem dR_together_31 : decode cX9_together 31 = .ok (.iload 7, 2) := by decide +kernel
theorem dR_together_33 : decode cX9_together 33 = .ok (.iconst 2, 1) := by decide +kernel
theorem dR_together_34 : decode cX9_together 34 = .ok (.invokevirtual 73, 3) := by decide +kernel
theorem dR_together_37 : decode cX9_together 37 = .ok (.i2l, 1) := by decide +kernel
theorem dR_together_38 : decode cX9_together 38 = .ok (.ladd, 1) := by decide +kernel
theorem dR_together_39 : decode cX9_together 39 = .ok (.lstore_n 3, 1) := by decide +kernel
theorem dR_together_40 : decode cX9_together 40 = .ok (.lload 5, 2) := by decide +kernel
theorem dR_together_42 : decode cX9_together 42 = .ok (.aload_n 0, 1) := by decide +kernel
theorem dR_together_43 : decode cX9_together 43 = .ok (.iload 7, 2) := by decide +kernel
theorem dR_together_45 : decode cX9_together 45 = .ok (.iconst 2, 1) := by decide +kernel
theorem dR_together_46 : decode cX9_together 46 = .ok (.invokevirtual 73, 3) := by decide +kernel
theorem dR_together_49 : decode cX9_together 49 = .ok (.i2l, 1) := by decide +kernel
theorem dR_together_50 : decode cX9_together 50 = .ok (.aload_n 0, 1) := by decide +kernel
theorem dR_together_51 : decode cX9_together 51 = .ok (.iload 7, 2) := by decide +kernel
theorem dR_together_53 : decode cX9_together 53 = .ok (.bipush 6, 2) := by decide +kernel
theorem dR_together_55 : decode cX9_together 55 = .ok (.iload_n 1, 1) := by decide +kernel
theorem dR_together_56 : decode cX9_together 56 = .ok (.iadd, 1) := by decide +kernel
theorem dR_together_57 : decode cX9_together 57 = .ok (.invokevirtual 73, 3) := by decide +kernel
theorem dR_together_60 : decode cX9_together 60 = .ok (.i2l, 1) := by decide +kernel
theorem dR_together_61 : decode cX9_together 61 = .ok (.lmul, 1) := by decide +kernel
theorem dR_together_62 : decode cX9_together 62 = .ok (.ladd, 1) := by decide +kernel
theorem dR_together_63 : decode cX9_together 63 = .ok (.lstore 5, 2) := by decide +kernel
theorem dR_together_65 : decode cX9_together 65 = .ok (.iinc 7 1, 3) := by decide +kernel
theorem dR_together_68 : decode cX9_together 68 = .ok (.goto (-60), 3) := by decide +kernel
theorem dR_together_71 : decode cX9_together 71 = .ok (.lload_n 3, 1) := by decide +kernel
theorem dR_together_72 : decode cX9_together 72 = .ok (.lconst 0, 1) := by decide +kernel
theorem dR_together_73 : decode cX9_together 73 = .ok (.lcmp, 1) := by decide +kernel
theorem dR_together_74 : decode cX9_together 74 = .ok (.ifCond .ne 7, 3) := by decide +kernel
theorem dR_together_77 : decode cX9_together 77 = .ok (.iconst 0, 1) := by decide +kernel
theorem dR_together_78 : decode cX9_together 78 = .ok (.goto 8, 3) := by decide +kernel
theorem dR_together_81 : decode cX9_together 81 = .ok (.lload 5, 2) := by decide +kernel
theorem dR_together_83 : decode cX9_together 83 = .ok (.lload_n 3, 1) := by decide +kernel
theorem dR_together_84 : decode cX9_together 84 = .ok (.ldiv, 1) := by decide +kernel
theorem dR_together_85 : decode cX9_together 85 = .ok (.l2i, 1) := by decide +kernel
theorem dR_together_86 : decode cX9_together 86 = .ok (.ireturn, 1) := by decide +kernel
theorem dR_haveGrams_0 : decode cX9_haveGrams 0 = .ok (.iconst 1, 1) := by decide +kernel
theorem dR_haveGrams_1 : decode cX9_haveGrams 1 = .ok (.istore_n 2, 1) := by decide +kernel
theorem dR_haveGrams_2 : decode cX9_haveGrams 2 = .ok (.iconst 0, 1) := by decide +kernel
theorem dR_haveGrams_3 : decode cX9_haveGrams 3 = .ok (.istore_n 3, 1) := by decide +kernel
theorem dR_haveGrams_4 : decode cX9_haveGrams 4 = .ok (.iload_n 3, 1) := by decide +kernel
theorem dR_haveGrams_5 : decode cX9_haveGrams 5 = .ok (.aload_n 0, 1) := by decide +kernel
theorem dR_haveGrams_6 : decode cX9_haveGrams 6 = .ok (.getfield 7, 3) := by decide +kernel
theorem dR_haveGrams_9 : decode cX9_haveGrams 9 = .ok (.iconst 0, 1) := by decide +kernel
theorem dR_haveGrams_10 : decode cX9_haveGrams 10 = .ok (.iaload, 1) := by decide +kernel
theorem dR_haveGrams_11 : decode cX9_haveGrams 11 = .ok (.if_icmp .ge 36, 3) := by decide +kernel
theorem dR_haveGrams_14 : decode cX9_haveGrams 14 = .ok (.iload_n 2, 1) := by decide +kernel
theorem dR_haveGrams_15 : decode cX9_haveGrams 15 = .ok (.ifCond .eq 24, 3) := by decide +kernel
theorem dR_haveGrams_18 : decode cX9_haveGrams 18 = .ok (.iload_n 1, 1) := by decide +kernel
theorem dR_haveGrams_19 : decode cX9_haveGrams 19 = .ok (.iload_n 3, 1) := by decide +kernel
theorem dR_haveGrams_20 : decode cX9_haveGrams 20 = .ok (.ishr, 1) := by decide +kernel
theorem dR_haveGrams_21 : decode cX9_haveGrams 21 = .ok (.iconst 1, 1) := by decide +kernel
theorem dR_haveGrams_22 : decode cX9_haveGrams 22 = .ok (.iand, 1) := by decide +kernel
theorem dR_haveGrams_23 : decode cX9_haveGrams 23 = .ok (.ifCond .eq 12, 3) := by decide +kernel
theorem dR_haveGrams_26 : decode cX9_haveGrams 26 = .ok (.aload_n 0, 1) := by decide +kernel
theorem dR_haveGrams_27 : decode cX9_haveGrams 27 = .ok (.iload_n 3, 1) := by decide +kernel
theorem dR_haveGrams_28 : decode cX9_haveGrams 28 = .ok (.iconst 2, 1) := by decide +kernel
theorem dR_haveGrams_29 : decode cX9_haveGrams 29 = .ok (.invokevirtual 73, 3) := by decide +kernel
theorem dR_haveGrams_32 : decode cX9_haveGrams 32 = .ok (.ifCond .le 7, 3) := by decide +kernel
theorem dR_haveGrams_35 : decode cX9_haveGrams 35 = .ok (.iconst 1, 1) := by decide +kernel
theorem dR_haveGrams_36 : decode cX9_haveGrams 36 = .ok (.goto 4, 3) := by decide +kernel
theorem dR_haveGrams_39 : decode cX9_haveGrams 39 = .ok (.iconst 0, 1) := by decide +kernel
theorem dR_haveGrams_40 : decode cX9_haveGrams 40 = .ok (.istore_n 2, 1) := by decide +kernel
theorem dR_haveGrams_41 : decode cX9_haveGrams 41 = .ok (.iinc 3 1, 3) := by decide +kernel
theorem dR_haveGrams_44 : decode cX9_haveGrams 44 = .ok (.goto (-40), 3) := by decide +kernel
theorem dR_haveGrams_47 : decode cX9_haveGrams 47 = .ok (.iload_n 2, 1) := by decide +kernel
theorem dR_haveGrams_48 : decode cX9_haveGrams 48 = .ok (.ireturn, 1) := by decide +kernel
theorem dR_most_0 : decode cX9_most 0 = .ok (.iload_n 1, 1) := by decide +kernel
theorem dR_most_1 : decode cX9_most 1 = .ok (.iconst 0, 1) := by decide +kernel
theorem dR_most_2 : decode cX9_most 2 = .ok (.iconst 3, 1) := by decide +kernel
theorem dR_most_3 : decode cX9_most 3 = .ok (.invokestatic 53, 3) := by decide +kernel
theorem dR_most_6 : decode cX9_most 6 = .ok (.ifCond .eq 21, 3) := by decide +kernel
theorem dR_most_9 : decode cX9_most 9 = .ok (.iload_n 2, 1) := by decide +kernel
theorem dR_most_10 : decode cX9_most 10 = .ok (.iconst 0, 1) := by decide +kernel
theorem dR_most_11 : decode cX9_most 11 = .ok (.iconst 3, 1) := by decide +kernel
theorem dR_most_12 : decode cX9_most 12 = .ok (.invokestatic 53, 3) := by decide +kernel
theorem dR_most_15 : decode cX9_most 15 = .ok (.ifCond .eq 12, 3) := by decide +kernel
theorem dR_most_18 : decode cX9_most 18 = .ok (.iload_n 3, 1) := by decide +kernel
theorem dR_most_19 : decode cX9_most 19 = .ok (.iconst 0, 1) := by decide +kernel
theorem dR_most_20 : decode cX9_most 20 = .ok (.iconst 1, 1) := by decide +kernel
theorem dR_most_21 : decode cX9_most 21 = .ok (.invokestatic 53, 3) := by decide +kernel
theorem dR_most_24 : decode cX9_most 24 = .ok (.ifCond .ne 9, 3) := by decide +kernel
theorem dR_most_27 : decode cX9_most 27 = .ok (.aload_n 0, 1) := by decide +kernel
theorem dR_most_28 : decode cX9_most 28 = .ok (.iconst 1, 1) := by decide +kernel
theorem dR_most_29 : decode cX9_most 29 = .ok (.invokevirtual 62, 3) := by decide +kernel
theorem dR_most_32 : decode cX9_most 32 = .ok (.ireturn, 1) := by decide +kernel
theorem dR_most_33 : decode cX9_most 33 = .ok (.iconst 0, 1) := by decide +kernel
theorem dR_most_34 : decode cX9_most 34 = .ok (.istore 4, 2) := by decide +kernel
theorem dR_most_36 : decode cX9_most 36 = .ok (.iconst 1, 1) := by decide +kernel
theorem dR_most_37 : decode cX9_most 37 = .ok (.istore 5, 2) := by decide +kernel
theorem dR_most_39 : decode cX9_most 39 = .ok (.iload 5, 2) := by decide +kernel
theorem dR_most_41 : decode cX9_most 41 = .ok (.iconst 1, 1) := by decide +kernel
theorem dR_most_42 : decode cX9_most 42 = .ok (.aload_n 0, 1) := by decide +kernel
theorem dR_most_43 : decode cX9_most 43 = .ok (.getfield 7, 3) := by decide +kernel
theorem dR_most_46 : decode cX9_most 46 = .ok (.iconst 0, 1) := by decide +kernel
theorem dR_most_47 : decode cX9_most 47 = .ok (.iaload, 1) := by decide +kernel
theorem dR_most_48 : decode cX9_most 48 = .ok (.ishl, 1) := by decide +kernel
theorem dR_most_49 : decode cX9_most 49 = .ok (.if_icmp .ge 76, 3) := by decide +kernel
theorem dR_most_52 : decode cX9_most 52 = .ok (.iload 5, 2) := by decide +kernel
theorem dR_most_54 : decode cX9_most 54 = .ok (.invokestatic 232, 3) := by decide +kernel
theorem dR_most_57 : decode cX9_most 57 = .ok (.iload_n 2, 1) := by decide +kernel
theorem dR_most_58 : decode cX9_most 58 = .ok (.if_icmp .gt 61, 3) := by decide +kernel
theorem dR_most_61 : decode cX9_most 61 = .ok (.aload_n 0, 1) := by decide +kernel
theorem dR_most_62 : decode cX9_most 62 = .ok (.iload 5, 2) := by decide +kernel
theorem dR_most_64 : decode cX9_most 64 = .ok (.invokevirtual 238, 3) := by decide +kernel
theorem dR_most_67 : decode cX9_most 67 = .ok (.ifCond .eq 52, 3) := by decide +kernel
theorem dR_most_70 : decode cX9_most 70 = .ok (.aload_n 0, 1) := by decide +kernel
theorem dR_most_71 : decode cX9_most 71 = .ok (.iload_n 1, 1) := by decide +kernel
theorem dR_most_72 : decode cX9_most 72 = .ok (.iload 5, 2) := by decide +kernel
theorem dR_most_74 : decode cX9_most 74 = .ok (.invokevirtual 241, 3) := by decide +kernel
theorem dR_most_77 : decode cX9_most 77 = .ok (.aload_n 0, 1) := by decide +kernel
theorem dR_most_78 : decode cX9_most 78 = .ok (.iload_n 1, 1) := by decide +kernel
theorem dR_most_79 : decode cX9_most 79 = .ok (.iload 4, 2) := by decide +kernel
theorem dR_most_81 : decode cX9_most 81 = .ok (.invokevirtual 241, 3) := by decide +kernel
theorem dR_most_84 : decode cX9_most 84 = .ok (.isub, 1) := by decide +kernel
theorem dR_most_85 : decode cX9_most 85 = .ok (.istore 6, 2) := by decide +kernel
theorem dR_most_87 : decode cX9_most 87 = .ok (.iload 6, 2) := by decide +kernel
theorem dR_most_89 : decode cX9_most 89 = .ok (.ifCond .gt 21, 3) := by decide +kernel
theorem dR_most_92 : decode cX9_most 92 = .ok (.iload 6, 2) := by decide +kernel
theorem dR_most_94 : decode cX9_most 94 = .ok (.ifCond .ne 21, 3) := by decide +kernel
theorem dR_most_97 : decode cX9_most 97 = .ok (.iload 5, 2) := by decide +kernel
theorem dR_most_99 : decode cX9_most 99 = .ok (.invokestatic 232, 3) := by decide +kernel
theorem dR_most_102 : decode cX9_most 102 = .ok (.iload 4, 2) := by decide +kernel
theorem dR_most_104 : decode cX9_most 104 = .ok (.invokestatic 232, 3) := by decide +kernel
theorem dR_most_107 : decode cX9_most 107 = .ok (.if_icmp .ge 8, 3) := by decide +kernel
theorem dR_most_110 : decode cX9_most 110 = .ok (.iload 5, 2) := by decide +kernel
theorem dR_most_112 : decode cX9_most 112 = .ok (.goto 5, 3) := by decide +kernel
theorem dR_most_115 : decode cX9_most 115 = .ok (.iload 4, 2) := by decide +kernel
theorem dR_most_117 : decode cX9_most 117 = .ok (.istore 4, 2) := by decide +kernel
theorem dR_most_119 : decode cX9_most 119 = .ok (.iinc 5 1, 3) := by decide +kernel
theorem dR_most_122 : decode cX9_most 122 = .ok (.goto (-83), 3) := by decide +kernel
theorem dR_most_125 : decode cX9_most 125 = .ok (.iload_n 3, 1) := by decide +kernel
theorem dR_most_126 : decode cX9_most 126 = .ok (.ifCond .ne 8, 3) := by decide +kernel
theorem dR_most_129 : decode cX9_most 129 = .ok (.iload 4, 2) := by decide +kernel
theorem dR_most_131 : decode cX9_most 131 = .ok (.goto 10, 3) := by decide +kernel
theorem dR_most_134 : decode cX9_most 134 = .ok (.aload_n 0, 1) := by decide +kernel
theorem dR_most_135 : decode cX9_most 135 = .ok (.iload_n 1, 1) := by decide +kernel
theorem dR_most_136 : decode cX9_most 136 = .ok (.iload 4, 2) := by decide +kernel
theorem dR_most_138 : decode cX9_most 138 = .ok (.invokevirtual 241, 3) := by decide +kernel
theorem dR_most_141 : decode cX9_most 141 = .ok (.ireturn, 1) := by decide +kernel
theorem dR_begins_0 : decode cX9_begins 0 = .ok (.aload_n 0, 1) := by decide +kernel
theorem dR_begins_1 : decode cX9_begins 1 = .ok (.getfield 244, 3) := by decide +kernel
theorem dR_begins_4 : decode cX9_begins 4 = .ok (.bipush 30, 2) := by decide +kernel
theorem dR_begins_6 : decode cX9_begins 6 = .ok (.if_icmp .ge 23, 3) := by decide +kernel
theorem dR_begins_9 : decode cX9_begins 9 = .ok (.aload_n 0, 1) := by decide +kernel
theorem dR_begins_10 : decode cX9_begins 10 = .ok (.getfield 37, 3) := by decide +kernel
theorem dR_begins_13 : decode cX9_begins 13 = .ok (.aload_n 0, 1) := by decide +kernel
theorem dR_begins_14 : decode cX9_begins 14 = .ok (.getfield 244, 3) := by decide +kernel
theorem dR_begins_17 : decode cX9_begins 17 = .ok (.iload_n 1, 1) := by decide +kernel
theorem dR_begins_18 : decode cX9_begins 18 = .ok (.iastore, 1) := by decide +kernel
theorem dR_begins_19 : decode cX9_begins 19 = .ok (.aload_n 0, 1) := by decide +kernel
theorem dR_begins_20 : decode cX9_begins 20 = .ok (.dup, 1) := by decide +kernel
theorem dR_begins_21 : decode cX9_begins 21 = .ok (.getfield 244, 3) := by decide +kernel
theorem dR_begins_24 : decode cX9_begins 24 = .ok (.iconst 1, 1) := by decide +kernel
theorem dR_begins_25 : decode cX9_begins 25 = .ok (.iadd, 1) := by decide +kernel
theorem dR_begins_26 : decode cX9_begins 26 = .ok (.putfield 244, 3) := by decide +kernel
theorem dR_begins_29 : decode cX9_begins 29 = .ok (.return_, 1) := by decide +kernel
theorem dR_above_0 : decode cX9_above 0 = .ok (.iload_n 0, 1) := by decide +kernel
theorem dR_above_1 : decode cX9_above 1 = .ok (.iconst 4, 1) := by decide +kernel
theorem dR_above_2 : decode cX9_above 2 = .ok (.if_icmp .ne 7, 3) := by decide +kernel
theorem dR_above_5 : decode cX9_above 5 = .ok (.iconst 1, 1) := by decide +kernel
theorem dR_above_6 : decode cX9_above 6 = .ok (.goto 23, 3) := by decide +kernel
theorem dR_above_9 : decode cX9_above 9 = .ok (.iload_n 0, 1) := by decide +kernel
theorem dR_above_10 : decode cX9_above 10 = .ok (.iconst 5, 1) := by decide +kernel
theorem dR_above_11 : decode cX9_above 11 = .ok (.if_icmp .ne 7, 3) := by decide +kernel
theorem dR_above_14 : decode cX9_above 14 = .ok (.iconst 2, 1) := by decide +kernel
theorem dR_above_15 : decode cX9_above 15 = .ok (.goto 14, 3) := by decide +kernel
theorem dR_above_18 : decode cX9_above 18 = .ok (.iload_n 0, 1) := by decide +kernel
theorem dR_above_19 : decode cX9_above 19 = .ok (.bipush 6, 2) := by decide +kernel
theorem dR_above_21 : decode cX9_above 21 = .ok (.if_icmp .ne 7, 3) := by decide +kernel
theorem dR_above_24 : decode cX9_above 24 = .ok (.iconst 3, 1) := by decide +kernel
theorem dR_above_25 : decode cX9_above 25 = .ok (.goto 4, 3) := by decide +kernel
theorem dR_above_28 : decode cX9_above 28 = .ok (.iconst 0, 1) := by decide +kernel
theorem dR_above_29 : decode cX9_above 29 = .ok (.ireturn, 1) := by decide +kernel
theorem dR_kindNow_0 : decode cX9_kindNow 0 = .ok (.aload_n 0, 1) := by decide +kernel
theorem dR_kindNow_1 : decode cX9_kindNow 1 = .ok (.aload_n 0, 1) := by decide +kernel
theorem dR_kindNow_2 : decode cX9_kindNow 2 = .ok (.getfield 247, 3) := by decide +kernel
theorem dR_kindNow_5 : decode cX9_kindNow 5 = .ok (.iconst 0, 1) := by decide +kernel
theorem dR_kindNow_6 : decode cX9_kindNow 6 = .ok (.invokevirtual 73, 3) := by decide +kernel
theorem dR_kindNow_9 : decode cX9_kindNow 9 = .ok (.ireturn, 1) := by decide +kernel
theorem dR_mNow_0 : decode cX9_mNow 0 = .ok (.aload_n 0, 1) := by decide +kernel
theorem dR_mNow_1 : decode cX9_mNow 1 = .ok (.aload_n 0, 1) := by decide +kernel
theorem dR_mNow_2 : decode cX9_mNow 2 = .ok (.getfield 247, 3) := by decide +kernel
theorem dR_mNow_5 : decode cX9_mNow 5 = .ok (.iconst 1, 1) := by decide +kernel
theorem dR_mNow_6 : decode cX9_mNow 6 = .ok (.invokevirtual 73, 3) := by decide +kernel
theorem dR_mNow_9 : decode cX9_mNow 9 = .ok (.ireturn, 1) := by decide +kernel
theorem dR_ringsBy_0 : decode cX9_ringsBy 0 = .ok (.iload_n 1, 1) := by decide +kernel
theorem dR_ringsBy_1 : decode cX9_ringsBy 1 = .ok (.tableswitch 101 0 6 #[43, 56, 101, 101, 74, 101, 92], 43) := by decide +kernel
end
section
-- decode rows of the reference
theorem dR_ringsBy_44 : decode cX9_ringsBy 44 = .ok (.aload_n 0, 1) := by decide +kernel
theorem dR_ringsBy_45 : decode cX9_ringsBy 45 = .ok (.bipush 10, 2) := by decide +kernel
theorem dR_ringsBy_47 : decode cX9_ringsBy 47 = .ok (.invokevirtual 250, 3) := by decide +kernel
theorem dR_ringsBy_50 : decode cX9_ringsBy 50 = .ok (.iload_n 2, 1) := by decide +kernel
theorem dR_ringsBy_51 : decode cX9_ringsBy 51 = .ok (.aload_n 0, 1) := by decide +kernel
theorem dR_ringsBy_52 : decode cX9_ringsBy 52 = .ok (.getfield 247, 3) := by decide +kernel
theorem dR_ringsBy_55 : decode cX9_ringsBy 55 = .ok (.iadd, 1) := by decide +kernel
theorem dR_ringsBy_56 : decode cX9_ringsBy 56 = .ok (.ireturn, 1) := by decide +kernel
theorem dR_ringsBy_57 : decode cX9_ringsBy 57 = .ok (.aload_n 0, 1) := by decide +kernel
theorem dR_ringsBy_58 : decode cX9_ringsBy 58 = .ok (.bipush 20, 2) := by decide +kernel
theorem dR_ringsBy_60 : decode cX9_ringsBy 60 = .ok (.invokevirtual 250, 3) := by decide +kernel
theorem dR_ringsBy_63 : decode cX9_ringsBy 63 = .ok (.aload_n 0, 1) := by decide +kernel
theorem dR_ringsBy_64 : decode cX9_ringsBy 64 = .ok (.iconst 1, 1) := by decide +kernel
theorem dR_ringsBy_65 : decode cX9_ringsBy 65 = .ok (.invokestatic 253, 3) := by decide +kernel
theorem dR_ringsBy_68 : decode cX9_ringsBy 68 = .ok (.iload_n 2, 1) := by decide +kernel
theorem dR_ringsBy_69 : decode cX9_ringsBy 69 = .ok (.invokevirtual 256, 3) := by decide +kernel
theorem dR_ringsBy_72 : decode cX9_ringsBy 72 = .ok (.iconst 4, 1) := by decide +kernel
theorem dR_ringsBy_73 : decode cX9_ringsBy 73 = .ok (.isub, 1) := by decide +kernel
theorem dR_ringsBy_74 : decode cX9_ringsBy 74 = .ok (.ireturn, 1) := by decide +kernel
theorem dR_ringsBy_75 : decode cX9_ringsBy 75 = .ok (.aload_n 0, 1) := by decide +kernel
theorem dR_ringsBy_76 : decode cX9_ringsBy 76 = .ok (.bipush 50, 2) := by decide +kernel
theorem dR_ringsBy_78 : decode cX9_ringsBy 78 = .ok (.invokevirtual 250, 3) := by decide +kernel
theorem dR_ringsBy_81 : decode cX9_ringsBy 81 = .ok (.aload_n 0, 1) := by decide +kernel
theorem dR_ringsBy_82 : decode cX9_ringsBy 82 = .ok (.iconst 4, 1) := by decide +kernel
theorem dR_ringsBy_83 : decode cX9_ringsBy 83 = .ok (.invokestatic 253, 3) := by decide +kernel
theorem dR_ringsBy_86 : decode cX9_ringsBy 86 = .ok (.iload_n 2, 1) := by decide +kernel
theorem dR_ringsBy_87 : decode cX9_ringsBy 87 = .ok (.invokevirtual 256, 3) := by decide +kernel
theorem dR_ringsBy_90 : decode cX9_ringsBy 90 = .ok (.iconst 3, 1) := by decide +kernel
theorem dR_ringsBy_91 : decode cX9_ringsBy 91 = .ok (.imul, 1) := by decide +kernel
theorem dR_ringsBy_92 : decode cX9_ringsBy 92 = .ok (.ireturn, 1) := by decide +kernel
theorem dR_ringsBy_93 : decode cX9_ringsBy 93 = .ok (.aload_n 0, 1) := by decide +kernel
theorem dR_ringsBy_94 : decode cX9_ringsBy 94 = .ok (.bipush 70, 2) := by decide +kernel
theorem dR_ringsBy_96 : decode cX9_ringsBy 96 = .ok (.invokevirtual 250, 3) := by decide +kernel
theorem dR_ringsBy_99 : decode cX9_ringsBy 99 = .ok (.bipush 6, 2) := by decide +kernel
theorem dR_ringsBy_101 : decode cX9_ringsBy 101 = .ok (.ireturn, 1) := by decide +kernel
theorem dR_ringsBy_102 : decode cX9_ringsBy 102 = .ok (.aload_n 0, 1) := by decide +kernel
theorem dR_ringsBy_103 : decode cX9_ringsBy 103 = .ok (.iload_n 1, 1) := by decide +kernel
theorem dR_ringsBy_104 : decode cX9_ringsBy 104 = .ok (.invokestatic 253, 3) := by decide +kernel
theorem dR_ringsBy_107 : decode cX9_ringsBy 107 = .ok (.iload_n 2, 1) := by decide +kernel
theorem dR_ringsBy_108 : decode cX9_ringsBy 108 = .ok (.invokevirtual 256, 3) := by decide +kernel
theorem dR_ringsBy_111 : decode cX9_ringsBy 111 = .ok (.ireturn, 1) := by decide +kernel
theorem dR_weighsBy_0 : decode cX9_weighsBy 0 = .ok (.iload_n 1, 1) := by decide +kernel
theorem dR_weighsBy_1 : decode cX9_weighsBy 1 = .ok (.tableswitch 119 0 6 #[43, 119, 61, 119, 119, 79, 97], 43) := by decide +kernel
theorem dR_weighsBy_44 : decode cX9_weighsBy 44 = .ok (.aload_n 0, 1) := by decide +kernel
theorem dR_weighsBy_45 : decode cX9_weighsBy 45 = .ok (.bipush 11, 2) := by decide +kernel
theorem dR_weighsBy_47 : decode cX9_weighsBy 47 = .ok (.invokevirtual 250, 3) := by decide +kernel
theorem dR_weighsBy_50 : decode cX9_weighsBy 50 = .ok (.aload_n 0, 1) := by decide +kernel
theorem dR_weighsBy_51 : decode cX9_weighsBy 51 = .ok (.aload_n 0, 1) := by decide +kernel
theorem dR_weighsBy_52 : decode cX9_weighsBy 52 = .ok (.invokevirtual 259, 3) := by decide +kernel
theorem dR_weighsBy_55 : decode cX9_weighsBy 55 = .ok (.iload_n 2, 1) := by decide +kernel
theorem dR_weighsBy_56 : decode cX9_weighsBy 56 = .ok (.invokevirtual 256, 3) := by decide +kernel
theorem dR_weighsBy_59 : decode cX9_weighsBy 59 = .ok (.iconst 2, 1) := by decide +kernel
theorem dR_weighsBy_60 : decode cX9_weighsBy 60 = .ok (.imul, 1) := by decide +kernel
theorem dR_weighsBy_61 : decode cX9_weighsBy 61 = .ok (.ireturn, 1) := by decide +kernel
theorem dR_weighsBy_62 : decode cX9_weighsBy 62 = .ok (.aload_n 0, 1) := by decide +kernel
theorem dR_weighsBy_63 : decode cX9_weighsBy 63 = .ok (.bipush 30, 2) := by decide +kernel
theorem dR_weighsBy_65 : decode cX9_weighsBy 65 = .ok (.invokevirtual 250, 3) := by decide +kernel
theorem dR_weighsBy_68 : decode cX9_weighsBy 68 = .ok (.iconst 0, 1) := by decide +kernel
theorem dR_weighsBy_69 : decode cX9_weighsBy 69 = .ok (.aload_n 0, 1) := by decide +kernel
theorem dR_weighsBy_70 : decode cX9_weighsBy 70 = .ok (.iconst 2, 1) := by decide +kernel
theorem dR_weighsBy_71 : decode cX9_weighsBy 71 = .ok (.invokestatic 253, 3) := by decide +kernel
theorem dR_weighsBy_74 : decode cX9_weighsBy 74 = .ok (.iload_n 2, 1) := by decide +kernel
theorem dR_weighsBy_75 : decode cX9_weighsBy 75 = .ok (.invokevirtual 262, 3) := by decide +kernel
theorem dR_weighsBy_78 : decode cX9_weighsBy 78 = .ok (.isub, 1) := by decide +kernel
theorem dR_weighsBy_79 : decode cX9_weighsBy 79 = .ok (.ireturn, 1) := by decide +kernel
theorem dR_weighsBy_80 : decode cX9_weighsBy 80 = .ok (.aload_n 0, 1) := by decide +kernel
theorem dR_weighsBy_81 : decode cX9_weighsBy 81 = .ok (.bipush 60, 2) := by decide +kernel
theorem dR_weighsBy_83 : decode cX9_weighsBy 83 = .ok (.invokevirtual 250, 3) := by decide +kernel
theorem dR_weighsBy_86 : decode cX9_weighsBy 86 = .ok (.aload_n 0, 1) := by decide +kernel
theorem dR_weighsBy_87 : decode cX9_weighsBy 87 = .ok (.iconst 5, 1) := by decide +kernel
theorem dR_weighsBy_88 : decode cX9_weighsBy 88 = .ok (.invokestatic 253, 3) := by decide +kernel
theorem dR_weighsBy_91 : decode cX9_weighsBy 91 = .ok (.iload_n 2, 1) := by decide +kernel
theorem dR_weighsBy_92 : decode cX9_weighsBy 92 = .ok (.iconst 1, 1) := by decide +kernel
theorem dR_weighsBy_93 : decode cX9_weighsBy 93 = .ok (.iadd, 1) := by decide +kernel
theorem dR_weighsBy_94 : decode cX9_weighsBy 94 = .ok (.invokevirtual 262, 3) := by decide +kernel
theorem dR_weighsBy_97 : decode cX9_weighsBy 97 = .ok (.ireturn, 1) := by decide +kernel
theorem dR_weighsBy_98 : decode cX9_weighsBy 98 = .ok (.aload_n 0, 1) := by decide +kernel
theorem dR_weighsBy_99 : decode cX9_weighsBy 99 = .ok (.bipush 71, 2) := by decide +kernel
theorem dR_weighsBy_101 : decode cX9_weighsBy 101 = .ok (.invokevirtual 250, 3) := by decide +kernel
theorem dR_weighsBy_104 : decode cX9_weighsBy 104 = .ok (.aload_n 0, 1) := by decide +kernel
theorem dR_weighsBy_105 : decode cX9_weighsBy 105 = .ok (.bipush 6, 2) := by decide +kernel
theorem dR_weighsBy_107 : decode cX9_weighsBy 107 = .ok (.invokestatic 253, 3) := by decide +kernel
theorem dR_weighsBy_110 : decode cX9_weighsBy 110 = .ok (.iload_n 2, 1) := by decide +kernel
theorem dR_weighsBy_111 : decode cX9_weighsBy 111 = .ok (.invokevirtual 262, 3) := by decide +kernel
theorem dR_weighsBy_114 : decode cX9_weighsBy 114 = .ok (.aload_n 0, 1) := by decide +kernel
theorem dR_weighsBy_115 : decode cX9_weighsBy 115 = .ok (.invokevirtual 265, 3) := by decide +kernel
theorem dR_weighsBy_118 : decode cX9_weighsBy 118 = .ok (.iadd, 1) := by decide +kernel
theorem dR_weighsBy_119 : decode cX9_weighsBy 119 = .ok (.ireturn, 1) := by decide +kernel
theorem dR_weighsBy_120 : decode cX9_weighsBy 120 = .ok (.aload_n 0, 1) := by decide +kernel
theorem dR_weighsBy_121 : decode cX9_weighsBy 121 = .ok (.iload_n 1, 1) := by decide +kernel
theorem dR_weighsBy_122 : decode cX9_weighsBy 122 = .ok (.invokestatic 253, 3) := by decide +kernel
theorem dR_weighsBy_125 : decode cX9_weighsBy 125 = .ok (.iload_n 2, 1) := by decide +kernel
theorem dR_weighsBy_126 : decode cX9_weighsBy 126 = .ok (.invokevirtual 262, 3) := by decide +kernel
theorem dR_weighsBy_129 : decode cX9_weighsBy 129 = .ok (.ireturn, 1) := by decide +kernel
theorem dR_meltsBy_0 : decode cX9_meltsBy 0 = .ok (.iload_n 1, 1) := by decide +kernel
theorem dR_meltsBy_1 : decode cX9_meltsBy 1 = .ok (.tableswitch 95 0 4 #[35, 95, 95, 56, 74], 35) := by decide +kernel
theorem dR_meltsBy_36 : decode cX9_meltsBy 36 = .ok (.aload_n 0, 1) := by decide +kernel
theorem dR_meltsBy_37 : decode cX9_meltsBy 37 = .ok (.bipush 12, 2) := by decide +kernel
theorem dR_meltsBy_39 : decode cX9_meltsBy 39 = .ok (.invokevirtual 250, 3) := by decide +kernel
theorem dR_meltsBy_42 : decode cX9_meltsBy 42 = .ok (.aload_n 0, 1) := by decide +kernel
theorem dR_meltsBy_43 : decode cX9_meltsBy 43 = .ok (.aload_n 0, 1) := by decide +kernel
theorem dR_meltsBy_44 : decode cX9_meltsBy 44 = .ok (.invokevirtual 259, 3) := by decide +kernel
theorem dR_meltsBy_47 : decode cX9_meltsBy 47 = .ok (.iload_n 2, 1) := by decide +kernel
theorem dR_meltsBy_48 : decode cX9_meltsBy 48 = .ok (.invokevirtual 262, 3) := by decide +kernel
theorem dR_meltsBy_51 : decode cX9_meltsBy 51 = .ok (.aload_n 0, 1) := by decide +kernel
theorem dR_meltsBy_52 : decode cX9_meltsBy 52 = .ok (.invokevirtual 265, 3) := by decide +kernel
theorem dR_meltsBy_55 : decode cX9_meltsBy 55 = .ok (.isub, 1) := by decide +kernel
theorem dR_meltsBy_56 : decode cX9_meltsBy 56 = .ok (.ireturn, 1) := by decide +kernel
theorem dR_meltsBy_57 : decode cX9_meltsBy 57 = .ok (.aload_n 0, 1) := by decide +kernel
theorem dR_meltsBy_58 : decode cX9_meltsBy 58 = .ok (.bipush 40, 2) := by decide +kernel
theorem dR_meltsBy_60 : decode cX9_meltsBy 60 = .ok (.invokevirtual 250, 3) := by decide +kernel
theorem dR_meltsBy_63 : decode cX9_meltsBy 63 = .ok (.aload_n 0, 1) := by decide +kernel
theorem dR_meltsBy_64 : decode cX9_meltsBy 64 = .ok (.iconst 3, 1) := by decide +kernel
theorem dR_meltsBy_65 : decode cX9_meltsBy 65 = .ok (.invokestatic 253, 3) := by decide +kernel
theorem dR_meltsBy_68 : decode cX9_meltsBy 68 = .ok (.iload_n 2, 1) := by decide +kernel
theorem dR_meltsBy_69 : decode cX9_meltsBy 69 = .ok (.iconst 2, 1) := by decide +kernel
theorem dR_meltsBy_70 : decode cX9_meltsBy 70 = .ok (.idiv, 1) := by decide +kernel
theorem dR_meltsBy_71 : decode cX9_meltsBy 71 = .ok (.invokevirtual 268, 3) := by decide +kernel
theorem dR_meltsBy_74 : decode cX9_meltsBy 74 = .ok (.ireturn, 1) := by decide +kernel
theorem dR_meltsBy_75 : decode cX9_meltsBy 75 = .ok (.aload_n 0, 1) := by decide +kernel
theorem dR_meltsBy_76 : decode cX9_meltsBy 76 = .ok (.bipush 51, 2) := by decide +kernel
theorem dR_meltsBy_78 : decode cX9_meltsBy 78 = .ok (.invokevirtual 250, 3) := by decide +kernel
theorem dR_meltsBy_81 : decode cX9_meltsBy 81 = .ok (.aload_n 0, 1) := by decide +kernel
theorem dR_meltsBy_82 : decode cX9_meltsBy 82 = .ok (.iconst 4, 1) := by decide +kernel
theorem dR_meltsBy_83 : decode cX9_meltsBy 83 = .ok (.invokestatic 253, 3) := by decide +kernel
theorem dR_meltsBy_86 : decode cX9_meltsBy 86 = .ok (.iload_n 2, 1) := by decide +kernel
theorem dR_meltsBy_87 : decode cX9_meltsBy 87 = .ok (.invokevirtual 268, 3) := by decide +kernel
theorem dR_meltsBy_90 : decode cX9_meltsBy 90 = .ok (.aload_n 0, 1) := by decide +kernel
theorem dR_meltsBy_91 : decode cX9_meltsBy 91 = .ok (.getfield 247, 3) := by decide +kernel
theorem dR_meltsBy_94 : decode cX9_meltsBy 94 = .ok (.ixor, 1) := by decide +kernel
theorem dR_meltsBy_95 : decode cX9_meltsBy 95 = .ok (.ireturn, 1) := by decide +kernel
theorem dR_meltsBy_96 : decode cX9_meltsBy 96 = .ok (.aload_n 0, 1) := by decide +kernel
theorem dR_meltsBy_97 : decode cX9_meltsBy 97 = .ok (.iload_n 1, 1) := by decide +kernel
theorem dR_meltsBy_98 : decode cX9_meltsBy 98 = .ok (.invokestatic 253, 3) := by decide +kernel
theorem dR_meltsBy_101 : decode cX9_meltsBy 101 = .ok (.iload_n 2, 1) := by decide +kernel
theorem dR_meltsBy_102 : decode cX9_meltsBy 102 = .ok (.invokevirtual 268, 3) := by decide +kernel
theorem dR_meltsBy_105 : decode cX9_meltsBy 105 = .ok (.ireturn, 1) := by decide +kernel
theorem dR_partsBy_0 : decode cX9_partsBy 0 = .ok (.iload_n 1, 1) := by decide +kernel
theorem dR_partsBy_1 : decode cX9_partsBy 1 = .ok (.lookupswitch 119 #[(0, 27), (1, 78)], 27) := by decide +kernel
theorem dR_partsBy_28 : decode cX9_partsBy 28 = .ok (.aload_n 0, 1) := by decide +kernel
theorem dR_partsBy_29 : decode cX9_partsBy 29 = .ok (.bipush 13, 2) := by decide +kernel
theorem dR_partsBy_31 : decode cX9_partsBy 31 = .ok (.invokevirtual 250, 3) := by decide +kernel
theorem dR_partsBy_34 : decode cX9_partsBy 34 = .ok (.aload_n 0, 1) := by decide +kernel
theorem dR_partsBy_35 : decode cX9_partsBy 35 = .ok (.invokevirtual 265, 3) := by decide +kernel
theorem dR_partsBy_38 : decode cX9_partsBy 38 = .ok (.aload_n 0, 1) := by decide +kernel
theorem dR_partsBy_39 : decode cX9_partsBy 39 = .ok (.getfield 247, 3) := by decide +kernel
theorem dR_partsBy_42 : decode cX9_partsBy 42 = .ok (.isub, 1) := by decide +kernel
theorem dR_partsBy_43 : decode cX9_partsBy 43 = .ok (.istore_n 3, 1) := by decide +kernel
theorem dR_partsBy_44 : decode cX9_partsBy 44 = .ok (.aload_n 0, 1) := by decide +kernel
theorem dR_partsBy_45 : decode cX9_partsBy 45 = .ok (.iload_n 3, 1) := by decide +kernel
theorem dR_partsBy_46 : decode cX9_partsBy 46 = .ok (.ifCond .ne 7, 3) := by decide +kernel
theorem dR_partsBy_49 : decode cX9_partsBy 49 = .ok (.iconst 1, 1) := by decide +kernel
theorem dR_partsBy_50 : decode cX9_partsBy 50 = .ok (.goto 4, 3) := by decide +kernel
theorem dR_partsBy_53 : decode cX9_partsBy 53 = .ok (.iconst 0, 1) := by decide +kernel
theorem dR_partsBy_54 : decode cX9_partsBy 54 = .ok (.putfield 271, 3) := by decide +kernel
theorem dR_partsBy_57 : decode cX9_partsBy 57 = .ok (.iload_n 3, 1) := by decide +kernel
theorem dR_partsBy_58 : decode cX9_partsBy 58 = .ok (.ifCond .ne 7, 3) := by decide +kernel
theorem dR_partsBy_61 : decode cX9_partsBy 61 = .ok (.iconst 0, 1) := by decide +kernel
theorem dR_partsBy_62 : decode cX9_partsBy 62 = .ok (.goto 16, 3) := by decide +kernel
theorem dR_partsBy_65 : decode cX9_partsBy 65 = .ok (.iload_n 3, 1) := by decide +kernel
theorem dR_partsBy_66 : decode cX9_partsBy 66 = .ok (.iconst (-1), 1) := by decide +kernel
theorem dR_partsBy_67 : decode cX9_partsBy 67 = .ok (.if_icmp .ne 8, 3) := by decide +kernel
theorem dR_partsBy_70 : decode cX9_partsBy 70 = .ok (.iload_n 2, 1) := by decide +kernel
theorem dR_partsBy_71 : decode cX9_partsBy 71 = .ok (.ineg, 1) := by decide +kernel
theorem dR_partsBy_72 : decode cX9_partsBy 72 = .ok (.goto 6, 3) := by decide +kernel
theorem dR_partsBy_75 : decode cX9_partsBy 75 = .ok (.iload_n 2, 1) := by decide +kernel
theorem dR_partsBy_76 : decode cX9_partsBy 76 = .ok (.iload_n 3, 1) := by decide +kernel
theorem dR_partsBy_77 : decode cX9_partsBy 77 = .ok (.idiv, 1) := by decide +kernel
theorem dR_partsBy_78 : decode cX9_partsBy 78 = .ok (.ireturn, 1) := by decide +kernel
theorem dR_partsBy_79 : decode cX9_partsBy 79 = .ok (.aload_n 0, 1) := by decide +kernel
theorem dR_partsBy_80 : decode cX9_partsBy 80 = .ok (.bipush 21, 2) := by decide +kernel
theorem dR_partsBy_82 : decode cX9_partsBy 82 = .ok (.invokevirtual 250, 3) := by decide +kernel
theorem dR_partsBy_85 : decode cX9_partsBy 85 = .ok (.aload_n 0, 1) := by decide +kernel
theorem dR_partsBy_86 : decode cX9_partsBy 86 = .ok (.iconst 1, 1) := by decide +kernel
theorem dR_partsBy_87 : decode cX9_partsBy 87 = .ok (.invokestatic 253, 3) := by decide +kernel
theorem dR_partsBy_90 : decode cX9_partsBy 90 = .ok (.iload_n 2, 1) := by decide +kernel
theorem dR_partsBy_91 : decode cX9_partsBy 91 = .ok (.invokevirtual 275, 3) := by decide +kernel
theorem dR_partsBy_94 : decode cX9_partsBy 94 = .ok (.istore 4, 2) := by decide +kernel
theorem dR_partsBy_96 : decode cX9_partsBy 96 = .ok (.aload_n 0, 1) := by decide +kernel
theorem dR_partsBy_97 : decode cX9_partsBy 97 = .ok (.getfield 271, 3) := by decide +kernel
theorem dR_partsBy_100 : decode cX9_partsBy 100 = .ok (.ifCond .eq 7, 3) := by decide +kernel
theorem dR_partsBy_103 : decode cX9_partsBy 103 = .ok (.iconst 0, 1) := by decide +kernel
theorem dR_partsBy_104 : decode cX9_partsBy 104 = .ok (.goto 15, 3) := by decide +kernel
theorem dR_partsBy_107 : decode cX9_partsBy 107 = .ok (.iload 4, 2) := by decide +kernel
theorem dR_partsBy_109 : decode cX9_partsBy 109 = .ok (.aload_n 0, 1) := by decide +kernel
theorem dR_partsBy_110 : decode cX9_partsBy 110 = .ok (.aload_n 0, 1) := by decide +kernel
theorem dR_partsBy_111 : decode cX9_partsBy 111 = .ok (.invokevirtual 259, 3) := by decide +kernel
theorem dR_partsBy_114 : decode cX9_partsBy 114 = .ok (.iconst 1, 1) := by decide +kernel
theorem dR_partsBy_115 : decode cX9_partsBy 115 = .ok (.invokevirtual 262, 3) := by decide +kernel
theorem dR_partsBy_118 : decode cX9_partsBy 118 = .ok (.iadd, 1) := by decide +kernel
theorem dR_partsBy_119 : decode cX9_partsBy 119 = .ok (.ireturn, 1) := by decide +kernel
theorem dR_partsBy_120 : decode cX9_partsBy 120 = .ok (.aload_n 0, 1) := by decide +kernel
theorem dR_partsBy_121 : decode cX9_partsBy 121 = .ok (.iload_n 1, 1) := by decide +kernel
theorem dR_partsBy_122 : decode cX9_partsBy 122 = .ok (.invokestatic 253, 3) := by decide +kernel
theorem dR_partsBy_125 : decode cX9_partsBy 125 = .ok (.iload_n 2, 1) := by decide +kernel
theorem dR_partsBy_126 : decode cX9_partsBy 126 = .ok (.invokevirtual 275, 3) := by decide +kernel
theorem dR_partsBy_129 : decode cX9_partsBy 129 = .ok (.ireturn, 1) := by decide +kernel
theorem dR_voice_0 : decode cX9_voice 0 = .ok (.aload_n 0, 1) := by decide +kernel
theorem dR_voice_1 : decode cX9_voice 1 = .ok (.iload_n 1, 1) := by decide +kernel
theorem dR_voice_2 : decode cX9_voice 2 = .ok (.invokevirtual 77, 3) := by decide +kernel
theorem dR_voice_5 : decode cX9_voice 5 = .ok (.ifCond .eq 12, 3) := by decide +kernel
theorem dR_voice_8 : decode cX9_voice 8 = .ok (.iload_n 2, 1) := by decide +kernel
theorem dR_voice_9 : decode cX9_voice 9 = .ok (.iconst 0, 1) := by decide +kernel
theorem dR_voice_10 : decode cX9_voice 10 = .ok (.iconst 3, 1) := by decide +kernel
theorem dR_voice_11 : decode cX9_voice 11 = .ok (.invokestatic 53, 3) := by decide +kernel
theorem dR_voice_14 : decode cX9_voice 14 = .ok (.ifCond .ne 9, 3) := by decide +kernel
theorem dR_voice_17 : decode cX9_voice 17 = .ok (.aload_n 0, 1) := by decide +kernel
theorem dR_voice_18 : decode cX9_voice 18 = .ok (.iconst 1, 1) := by decide +kernel
theorem dR_voice_19 : decode cX9_voice 19 = .ok (.invokevirtual 62, 3) := by decide +kernel
theorem dR_voice_22 : decode cX9_voice 22 = .ok (.ireturn, 1) := by decide +kernel
theorem dR_voice_23 : decode cX9_voice 23 = .ok (.aload_n 0, 1) := by decide +kernel
theorem dR_voice_24 : decode cX9_voice 24 = .ok (.iconst 0, 1) := by decide +kernel
theorem dR_voice_25 : decode cX9_voice 25 = .ok (.putfield 244, 3) := by decide +kernel
theorem dR_voice_28 : decode cX9_voice 28 = .ok (.aload_n 0, 1) := by decide +kernel
theorem dR_voice_29 : decode cX9_voice 29 = .ok (.iload_n 1, 1) := by decide +kernel
theorem dR_voice_30 : decode cX9_voice 30 = .ok (.putfield 247, 3) := by decide +kernel
theorem dR_voice_33 : decode cX9_voice 33 = .ok (.aload_n 0, 1) := by decide +kernel
theorem dR_voice_34 : decode cX9_voice 34 = .ok (.iconst 0, 1) := by decide +kernel
theorem dR_voice_35 : decode cX9_voice 35 = .ok (.putfield 271, 3) := by decide +kernel
theorem dR_voice_38 : decode cX9_voice 38 = .ok (.aload_n 0, 1) := by decide +kernel
theorem dR_voice_39 : decode cX9_voice 39 = .ok (.invokevirtual 259, 3) := by decide +kernel
theorem dR_voice_42 : decode cX9_voice 42 = .ok (.istore 4, 2) := by decide +kernel
theorem dR_voice_44 : decode cX9_voice 44 = .ok (.iload_n 2, 1) := by decide +kernel
theorem dR_voice_45 : decode cX9_voice 45 = .ok (.ifCond .ne 13, 3) := by decide +kernel
theorem dR_voice_48 : decode cX9_voice 48 = .ok (.aload_n 0, 1) := by decide +kernel
theorem dR_voice_49 : decode cX9_voice 49 = .ok (.iload 4, 2) := by decide +kernel
theorem dR_voice_51 : decode cX9_voice 51 = .ok (.iload_n 3, 1) := by decide +kernel
theorem dR_voice_52 : decode cX9_voice 52 = .ok (.invokevirtual 256, 3) := by decide +kernel
theorem dR_voice_55 : decode cX9_voice 55 = .ok (.goto 40, 3) := by decide +kernel
theorem dR_voice_58 : decode cX9_voice 58 = .ok (.iload_n 2, 1) := by decide +kernel
theorem dR_voice_59 : decode cX9_voice 59 = .ok (.iconst 1, 1) := by decide +kernel
theorem dR_voice_60 : decode cX9_voice 60 = .ok (.if_icmp .ne 13, 3) := by decide +kernel
theorem dR_voice_63 : decode cX9_voice 63 = .ok (.aload_n 0, 1) := by decide +kernel
theorem dR_voice_64 : decode cX9_voice 64 = .ok (.iload 4, 2) := by decide +kernel
theorem dR_voice_66 : decode cX9_voice 66 = .ok (.iload_n 3, 1) := by decide +kernel
theorem dR_voice_67 : decode cX9_voice 67 = .ok (.invokevirtual 262, 3) := by decide +kernel
theorem dR_voice_70 : decode cX9_voice 70 = .ok (.goto 25, 3) := by decide +kernel
theorem dR_voice_73 : decode cX9_voice 73 = .ok (.iload_n 2, 1) := by decide +kernel
theorem dR_voice_74 : decode cX9_voice 74 = .ok (.iconst 2, 1) := by decide +kernel
theorem dR_voice_75 : decode cX9_voice 75 = .ok (.if_icmp .ne 13, 3) := by decide +kernel
theorem dR_voice_78 : decode cX9_voice 78 = .ok (.aload_n 0, 1) := by decide +kernel
theorem dR_voice_79 : decode cX9_voice 79 = .ok (.iload 4, 2) := by decide +kernel
theorem dR_voice_81 : decode cX9_voice 81 = .ok (.iload_n 3, 1) := by decide +kernel
theorem dR_voice_82 : decode cX9_voice 82 = .ok (.invokevirtual 268, 3) := by decide +kernel
theorem dR_voice_85 : decode cX9_voice 85 = .ok (.goto 10, 3) := by decide +kernel
theorem dR_voice_88 : decode cX9_voice 88 = .ok (.aload_n 0, 1) := by decide +kernel
theorem dR_voice_89 : decode cX9_voice 89 = .ok (.iload 4, 2) := by decide +kernel
theorem dR_voice_91 : decode cX9_voice 91 = .ok (.iload_n 3, 1) := by decide +kernel
theorem dR_voice_92 : decode cX9_voice 92 = .ok (.invokevirtual 275, 3) := by decide +kernel
theorem dR_voice_95 : decode cX9_voice 95 = .ok (.istore 5, 2) := by decide +kernel
theorem dR_voice_97 : decode cX9_voice 97 = .ok (.aload_n 0, 1) := by decide +kernel
theorem dR_voice_98 : decode cX9_voice 98 = .ok (.getfield 271, 3) := by decide +kernel
theorem dR_voice_101 : decode cX9_voice 101 = .ok (.ifCond .eq 12, 3) := by decide +kernel
theorem dR_voice_104 : decode cX9_voice 104 = .ok (.aload_n 0, 1) := by decide +kernel
theorem dR_voice_105 : decode cX9_voice 105 = .ok (.bipush 6, 2) := by decide +kernel
theorem dR_voice_107 : decode cX9_voice 107 = .ok (.invokevirtual 62, 3) := by decide +kernel
theorem dR_voice_110 : decode cX9_voice 110 = .ok (.goto 5, 3) := by decide +kernel
theorem dR_voice_113 : decode cX9_voice 113 = .ok (.iload 5, 2) := by decide +kernel
theorem dR_voice_115 : decode cX9_voice 115 = .ok (.ireturn, 1) := by decide +kernel
theorem dR_body_0 : decode cX9_body 0 = .ok (.iload_n 1, 1) := by decide +kernel
theorem dR_body_1 : decode cX9_body 1 = .ok (.iconst 0, 1) := by decide +kernel
theorem dR_body_2 : decode cX9_body 2 = .ok (.aload_n 0, 1) := by decide +kernel
theorem dR_body_3 : decode cX9_body 3 = .ok (.getfield 244, 3) := by decide +kernel
theorem dR_body_6 : decode cX9_body 6 = .ok (.iconst 1, 1) := by decide +kernel
theorem dR_body_7 : decode cX9_body 7 = .ok (.isub, 1) := by decide +kernel
theorem dR_body_8 : decode cX9_body 8 = .ok (.invokestatic 53, 3) := by decide +kernel
theorem dR_body_11 : decode cX9_body 11 = .ok (.ifCond .eq 12, 3) := by decide +kernel
theorem dR_body_14 : decode cX9_body 14 = .ok (.aload_n 0, 1) := by decide +kernel
theorem dR_body_15 : decode cX9_body 15 = .ok (.getfield 37, 3) := by decide +kernel
theorem dR_body_18 : decode cX9_body 18 = .ok (.iload_n 1, 1) := by decide +kernel
theorem dR_body_19 : decode cX9_body 19 = .ok (.iaload, 1) := by decide +kernel
theorem dR_body_20 : decode cX9_body 20 = .ok (.goto 8, 3) := by decide +kernel
theorem dR_body_23 : decode cX9_body 23 = .ok (.aload_n 0, 1) := by decide +kernel
theorem dR_body_24 : decode cX9_body 24 = .ok (.iconst 2, 1) := by decide +kernel
theorem dR_body_25 : decode cX9_body 25 = .ok (.invokevirtual 62, 3) := by decide +kernel
theorem dR_body_28 : decode cX9_body 28 = .ok (.ireturn, 1) := by decide +kernel
theorem dR_isSheet_0 : decode cX9_isSheet 0 = .ok (.iload_n 0, 1) := by decide +kernel
theorem dR_isSheet_1 : decode cX9_isSheet 1 = .ok (.iconst 0, 1) := by decide +kernel
theorem dR_isSheet_2 : decode cX9_isSheet 2 = .ok (.iconst 3, 1) := by decide +kernel
theorem dR_isSheet_3 : decode cX9_isSheet 3 = .ok (.invokestatic 53, 3) := by decide +kernel
theorem dR_isSheet_6 : decode cX9_isSheet 6 = .ok (.ireturn, 1) := by decide +kernel
theorem dR_sheet_0 : decode cX9_sheet 0 = .ok (.iload_n 1, 1) := by decide +kernel
theorem dR_sheet_1 : decode cX9_sheet 1 = .ok (.invokestatic 278, 3) := by decide +kernel
theorem dR_sheet_4 : decode cX9_sheet 4 = .ok (.ifCond .eq 25, 3) := by decide +kernel
theorem dR_sheet_7 : decode cX9_sheet 7 = .ok (.iload_n 2, 1) := by decide +kernel
theorem dR_sheet_8 : decode cX9_sheet 8 = .ok (.ifCond .eq 27, 3) := by decide +kernel
theorem dR_sheet_11 : decode cX9_sheet 11 = .ok (.iload_n 2, 1) := by decide +kernel
theorem dR_sheet_12 : decode cX9_sheet 12 = .ok (.bipush 8, 2) := by decide +kernel
theorem dR_sheet_14 : decode cX9_sheet 14 = .ok (.if_icmp .eq 21, 3) := by decide +kernel
theorem dR_sheet_17 : decode cX9_sheet 17 = .ok (.iload_n 2, 1) := by decide +kernel
theorem dR_sheet_18 : decode cX9_sheet 18 = .ok (.bipush 16, 2) := by decide +kernel
theorem dR_sheet_20 : decode cX9_sheet 20 = .ok (.if_icmp .eq 15, 3) := by decide +kernel
theorem dR_sheet_23 : decode cX9_sheet 23 = .ok (.iload_n 2, 1) := by decide +kernel
theorem dR_sheet_24 : decode cX9_sheet 24 = .ok (.bipush 32, 2) := by decide +kernel
theorem dR_sheet_26 : decode cX9_sheet 26 = .ok (.if_icmp .eq 9, 3) := by decide +kernel
theorem dR_sheet_29 : decode cX9_sheet 29 = .ok (.aload_n 0, 1) := by decide +kernel
theorem dR_sheet_30 : decode cX9_sheet 30 = .ok (.iconst 1, 1) := by decide +kernel
theorem dR_sheet_31 : decode cX9_sheet 31 = .ok (.invokevirtual 62, 3) := by decide +kernel
theorem dR_sheet_34 : decode cX9_sheet 34 = .ok (.ireturn, 1) := by decide +kernel
theorem dR_sheet_35 : decode cX9_sheet 35 = .ok (.iload_n 2, 1) := by decide +kernel
theorem dR_sheet_36 : decode cX9_sheet 36 = .ok (.ifCond .eq 13, 3) := by decide +kernel
theorem dR_sheet_39 : decode cX9_sheet 39 = .ok (.iload_n 3, 1) := by decide +kernel
theorem dR_sheet_40 : decode cX9_sheet 40 = .ok (.ifCond .ge 9, 3) := by decide +kernel
theorem dR_sheet_43 : decode cX9_sheet 43 = .ok (.aload_n 0, 1) := by decide +kernel
theorem dR_sheet_44 : decode cX9_sheet 44 = .ok (.iconst 3, 1) := by decide +kernel
theorem dR_sheet_45 : decode cX9_sheet 45 = .ok (.invokevirtual 62, 3) := by decide +kernel
theorem dR_sheet_48 : decode cX9_sheet 48 = .ok (.ireturn, 1) := by decide +kernel
theorem dR_sheet_49 : decode cX9_sheet 49 = .ok (.iload_n 2, 1) := by decide +kernel
theorem dR_sheet_50 : decode cX9_sheet 50 = .ok (.ifCond .eq 15, 3) := by decide +kernel
theorem dR_sheet_53 : decode cX9_sheet 53 = .ok (.iload_n 3, 1) := by decide +kernel
theorem dR_sheet_54 : decode cX9_sheet 54 = .ok (.bipush 24, 2) := by decide +kernel
theorem dR_sheet_56 : decode cX9_sheet 56 = .ok (.if_icmp .le 9, 3) := by decide +kernel
theorem dR_sheet_59 : decode cX9_sheet 59 = .ok (.aload_n 0, 1) := by decide +kernel
theorem dR_sheet_60 : decode cX9_sheet 60 = .ok (.iconst 1, 1) := by decide +kernel
theorem dR_sheet_61 : decode cX9_sheet 61 = .ok (.invokevirtual 62, 3) := by decide +kernel
theorem dR_sheet_64 : decode cX9_sheet 64 = .ok (.ireturn, 1) := by decide +kernel
theorem dR_sheet_65 : decode cX9_sheet 65 = .ok (.aload_n 0, 1) := by decide +kernel
theorem dR_sheet_66 : decode cX9_sheet 66 = .ok (.getfield 40, 3) := by decide +kernel
theorem dR_sheet_69 : decode cX9_sheet 69 = .ok (.iload_n 1, 1) := by decide +kernel
theorem dR_sheet_70 : decode cX9_sheet 70 = .ok (.iload_n 2, 1) := by decide +kernel
theorem dR_sheet_71 : decode cX9_sheet 71 = .ok (.iastore, 1) := by decide +kernel
theorem dR_sheet_72 : decode cX9_sheet 72 = .ok (.aload_n 0, 1) := by decide +kernel
theorem dR_sheet_73 : decode cX9_sheet 73 = .ok (.getfield 43, 3) := by decide +kernel
theorem dR_sheet_76 : decode cX9_sheet 76 = .ok (.iload_n 1, 1) := by decide +kernel
theorem dR_sheet_77 : decode cX9_sheet 77 = .ok (.iload_n 2, 1) := by decide +kernel
theorem dR_sheet_78 : decode cX9_sheet 78 = .ok (.ifCond .ne 7, 3) := by decide +kernel
theorem dR_sheet_81 : decode cX9_sheet 81 = .ok (.iconst 0, 1) := by decide +kernel
theorem dR_sheet_82 : decode cX9_sheet 82 = .ok (.goto 4, 3) := by decide +kernel
theorem dR_sheet_85 : decode cX9_sheet 85 = .ok (.iload_n 3, 1) := by decide +kernel
theorem dR_sheet_86 : decode cX9_sheet 86 = .ok (.iastore, 1) := by decide +kernel
theorem dR_sheet_87 : decode cX9_sheet 87 = .ok (.iconst 0, 1) := by decide +kernel
theorem dR_sheet_88 : decode cX9_sheet 88 = .ok (.istore 4, 2) := by decide +kernel
theorem dR_sheet_90 : decode cX9_sheet 90 = .ok (.iload 4, 2) := by decide +kernel
theorem dR_sheet_92 : decode cX9_sheet 92 = .ok (.bipush 24, 2) := by decide +kernel
theorem dR_sheet_94 : decode cX9_sheet 94 = .ok (.if_icmp .ge 22, 3) := by decide +kernel
theorem dR_sheet_97 : decode cX9_sheet 97 = .ok (.aload_n 0, 1) := by decide +kernel
theorem dR_sheet_98 : decode cX9_sheet 98 = .ok (.getfield 46, 3) := by decide +kernel
theorem dR_sheet_101 : decode cX9_sheet 101 = .ok (.bipush 24, 2) := by decide +kernel
theorem dR_sheet_103 : decode cX9_sheet 103 = .ok (.iload_n 1, 1) := by decide +kernel
theorem dR_sheet_104 : decode cX9_sheet 104 = .ok (.imul, 1) := by decide +kernel
theorem dR_sheet_105 : decode cX9_sheet 105 = .ok (.iload 4, 2) := by decide +kernel
theorem dR_sheet_107 : decode cX9_sheet 107 = .ok (.iadd, 1) := by decide +kernel
theorem dR_sheet_108 : decode cX9_sheet 108 = .ok (.iconst 0, 1) := by decide +kernel
theorem dR_sheet_109 : decode cX9_sheet 109 = .ok (.iastore, 1) := by decide +kernel
theorem dR_sheet_110 : decode cX9_sheet 110 = .ok (.iinc 4 1, 3) := by decide +kernel
theorem dR_sheet_113 : decode cX9_sheet 113 = .ok (.goto (-23), 3) := by decide +kernel
theorem dR_sheet_116 : decode cX9_sheet 116 = .ok (.iconst 1, 1) := by decide +kernel
theorem dR_sheet_117 : decode cX9_sheet 117 = .ok (.ireturn, 1) := by decide +kernel
theorem dR_put_0 : decode cX9_put 0 = .ok (.iload_n 1, 1) := by decide +kernel
theorem dR_put_1 : decode cX9_put 1 = .ok (.invokestatic 278, 3) := by decide +kernel
theorem dR_put_4 : decode cX9_put 4 = .ok (.ifCond .ne 9, 3) := by decide +kernel
theorem dR_put_7 : decode cX9_put 7 = .ok (.aload_n 0, 1) := by decide +kernel
theorem dR_put_8 : decode cX9_put 8 = .ok (.iconst 1, 1) := by decide +kernel
theorem dR_put_9 : decode cX9_put 9 = .ok (.invokevirtual 62, 3) := by decide +kernel
theorem dR_put_12 : decode cX9_put 12 = .ok (.ireturn, 1) := by decide +kernel
theorem dR_put_13 : decode cX9_put 13 = .ok (.aload_n 0, 1) := by decide +kernel
theorem dR_put_14 : decode cX9_put 14 = .ok (.getfield 40, 3) := by decide +kernel
theorem dR_put_17 : decode cX9_put 17 = .ok (.iload_n 1, 1) := by decide +kernel
theorem dR_put_18 : decode cX9_put 18 = .ok (.iaload, 1) := by decide +kernel
theorem dR_put_19 : decode cX9_put 19 = .ok (.ifCond .ne 9, 3) := by decide +kernel
theorem dR_put_22 : decode cX9_put 22 = .ok (.aload_n 0, 1) := by decide +kernel
theorem dR_put_23 : decode cX9_put 23 = .ok (.iconst 2, 1) := by decide +kernel
theorem dR_put_24 : decode cX9_put 24 = .ok (.invokevirtual 62, 3) := by decide +kernel
theorem dR_put_27 : decode cX9_put 27 = .ok (.ireturn, 1) := by decide +kernel
theorem dR_put_28 : decode cX9_put 28 = .ok (.iload_n 2, 1) := by decide +kernel
theorem dR_put_29 : decode cX9_put 29 = .ok (.iconst 0, 1) := by decide +kernel
theorem dR_put_30 : decode cX9_put 30 = .ok (.aload_n 0, 1) := by decide +kernel
theorem dR_put_31 : decode cX9_put 31 = .ok (.getfield 43, 3) := by decide +kernel
theorem dR_put_34 : decode cX9_put 34 = .ok (.iload_n 1, 1) := by decide +kernel
theorem dR_put_35 : decode cX9_put 35 = .ok (.iaload, 1) := by decide +kernel
theorem dR_put_36 : decode cX9_put 36 = .ok (.iconst 1, 1) := by decide +kernel
theorem dR_put_37 : decode cX9_put 37 = .ok (.isub, 1) := by decide +kernel
theorem dR_put_38 : decode cX9_put 38 = .ok (.invokestatic 53, 3) := by decide +kernel
theorem dR_put_41 : decode cX9_put 41 = .ok (.ifCond .ne 9, 3) := by decide +kernel
theorem dR_put_44 : decode cX9_put 44 = .ok (.aload_n 0, 1) := by decide +kernel
theorem dR_put_45 : decode cX9_put 45 = .ok (.iconst 1, 1) := by decide +kernel
theorem dR_put_46 : decode cX9_put 46 = .ok (.invokevirtual 62, 3) := by decide +kernel
theorem dR_put_49 : decode cX9_put 49 = .ok (.ireturn, 1) := by decide +kernel
theorem dR_put_50 : decode cX9_put 50 = .ok (.bipush 32, 2) := by decide +kernel
theorem dR_put_52 : decode cX9_put 52 = .ok (.aload_n 0, 1) := by decide +kernel
theorem dR_put_53 : decode cX9_put 53 = .ok (.getfield 40, 3) := by decide +kernel
theorem dR_put_56 : decode cX9_put 56 = .ok (.iload_n 1, 1) := by decide +kernel
theorem dR_put_57 : decode cX9_put 57 = .ok (.iaload, 1) := by decide +kernel
theorem dR_put_58 : decode cX9_put 58 = .ok (.isub, 1) := by decide +kernel
theorem dR_put_59 : decode cX9_put 59 = .ok (.istore 4, 2) := by decide +kernel
theorem dR_put_61 : decode cX9_put 61 = .ok (.aload_n 0, 1) := by decide +kernel
theorem dR_put_62 : decode cX9_put 62 = .ok (.getfield 46, 3) := by decide +kernel
theorem dR_put_65 : decode cX9_put 65 = .ok (.bipush 24, 2) := by decide +kernel
theorem dR_put_67 : decode cX9_put 67 = .ok (.iload_n 1, 1) := by decide +kernel
theorem dR_put_68 : decode cX9_put 68 = .ok (.imul, 1) := by decide +kernel
theorem dR_put_69 : decode cX9_put 69 = .ok (.iload_n 2, 1) := by decide +kernel
theorem dR_put_70 : decode cX9_put 70 = .ok (.iadd, 1) := by decide +kernel
theorem dR_put_71 : decode cX9_put 71 = .ok (.iload_n 3, 1) := by decide +kernel
theorem dR_put_72 : decode cX9_put 72 = .ok (.iload 4, 2) := by decide +kernel
theorem dR_put_74 : decode cX9_put 74 = .ok (.ishl, 1) := by decide +kernel
theorem dR_put_75 : decode cX9_put 75 = .ok (.iload 4, 2) := by decide +kernel
theorem dR_put_77 : decode cX9_put 77 = .ok (.ishr, 1) := by decide +kernel
theorem dR_put_78 : decode cX9_put 78 = .ok (.iastore, 1) := by decide +kernel
theorem dR_put_79 : decode cX9_put 79 = .ok (.iconst 1, 1) := by decide +kernel
theorem dR_put_80 : decode cX9_put 80 = .ok (.ireturn, 1) := by decide +kernel
theorem dR_move_0 : decode cX9_move 0 = .ok (.iload_n 1, 1) := by decide +kernel
theorem dR_move_1 : decode cX9_move 1 = .ok (.invokestatic 278, 3) := by decide +kernel
theorem dR_move_4 : decode cX9_move 4 = .ok (.ifCond .eq 10, 3) := by decide +kernel
theorem dR_move_7 : decode cX9_move 7 = .ok (.iload_n 3, 1) := by decide +kernel
theorem dR_move_8 : decode cX9_move 8 = .ok (.invokestatic 278, 3) := by decide +kernel
theorem dR_move_11 : decode cX9_move 11 = .ok (.ifCond .ne 9, 3) := by decide +kernel
theorem dR_move_14 : decode cX9_move 14 = .ok (.aload_n 0, 1) := by decide +kernel
theorem dR_move_15 : decode cX9_move 15 = .ok (.iconst 1, 1) := by decide +kernel
theorem dR_move_16 : decode cX9_move 16 = .ok (.invokevirtual 62, 3) := by decide +kernel
theorem dR_move_19 : decode cX9_move 19 = .ok (.ireturn, 1) := by decide +kernel
theorem dR_move_20 : decode cX9_move 20 = .ok (.aload_n 0, 1) := by decide +kernel
theorem dR_move_21 : decode cX9_move 21 = .ok (.getfield 40, 3) := by decide +kernel
theorem dR_move_24 : decode cX9_move 24 = .ok (.iload_n 1, 1) := by decide +kernel
theorem dR_move_25 : decode cX9_move 25 = .ok (.iaload, 1) := by decide +kernel
theorem dR_move_26 : decode cX9_move 26 = .ok (.ifCond .eq 12, 3) := by decide +kernel
theorem dR_move_29 : decode cX9_move 29 = .ok (.aload_n 0, 1) := by decide +kernel
theorem dR_move_30 : decode cX9_move 30 = .ok (.getfield 40, 3) := by decide +kernel
theorem dR_move_33 : decode cX9_move 33 = .ok (.iload_n 3, 1) := by decide +kernel
theorem dR_move_34 : decode cX9_move 34 = .ok (.iaload, 1) := by decide +kernel
theorem dR_move_35 : decode cX9_move 35 = .ok (.ifCond .ne 9, 3) := by decide +kernel
theorem dR_move_38 : decode cX9_move 38 = .ok (.aload_n 0, 1) := by decide +kernel
theorem dR_move_39 : decode cX9_move 39 = .ok (.iconst 2, 1) := by decide +kernel
theorem dR_move_40 : decode cX9_move 40 = .ok (.invokevirtual 62, 3) := by decide +kernel
theorem dR_move_43 : decode cX9_move 43 = .ok (.ireturn, 1) := by decide +kernel
theorem dR_move_44 : decode cX9_move 44 = .ok (.aload_n 0, 1) := by decide +kernel
theorem dR_move_45 : decode cX9_move 45 = .ok (.getfield 40, 3) := by decide +kernel
theorem dR_move_48 : decode cX9_move 48 = .ok (.iload_n 1, 1) := by decide +kernel
theorem dR_move_49 : decode cX9_move 49 = .ok (.iaload, 1) := by decide +kernel
theorem dR_move_50 : decode cX9_move 50 = .ok (.aload_n 0, 1) := by decide +kernel
theorem dR_move_51 : decode cX9_move 51 = .ok (.getfield 40, 3) := by decide +kernel
theorem dR_move_54 : decode cX9_move 54 = .ok (.iload_n 3, 1) := by decide +kernel
theorem dR_move_55 : decode cX9_move 55 = .ok (.iaload, 1) := by decide +kernel
theorem dR_move_56 : decode cX9_move 56 = .ok (.if_icmp .eq 9, 3) := by decide +kernel
theorem dR_move_59 : decode cX9_move 59 = .ok (.aload_n 0, 1) := by decide +kernel
theorem dR_move_60 : decode cX9_move 60 = .ok (.iconst 5, 1) := by decide +kernel
theorem dR_move_61 : decode cX9_move 61 = .ok (.invokevirtual 62, 3) := by decide +kernel
theorem dR_move_64 : decode cX9_move 64 = .ok (.ireturn, 1) := by decide +kernel
theorem dR_move_65 : decode cX9_move 65 = .ok (.iload 5, 2) := by decide +kernel
theorem dR_move_67 : decode cX9_move 67 = .ok (.ifCond .lt 39, 3) := by decide +kernel
theorem dR_move_70 : decode cX9_move 70 = .ok (.iload_n 2, 1) := by decide +kernel
theorem dR_move_71 : decode cX9_move 71 = .ok (.ifCond .lt 35, 3) := by decide +kernel
theorem dR_move_74 : decode cX9_move 74 = .ok (.iload 4, 2) := by decide +kernel
theorem dR_move_76 : decode cX9_move 76 = .ok (.ifCond .lt 30, 3) := by decide +kernel
theorem dR_move_79 : decode cX9_move 79 = .ok (.iload_n 2, 1) := by decide +kernel
theorem dR_move_80 : decode cX9_move 80 = .ok (.aload_n 0, 1) := by decide +kernel
theorem dR_move_81 : decode cX9_move 81 = .ok (.getfield 43, 3) := by decide +kernel
theorem dR_move_84 : decode cX9_move 84 = .ok (.iload_n 1, 1) := by decide +kernel
theorem dR_move_85 : decode cX9_move 85 = .ok (.iaload, 1) := by decide +kernel
theorem dR_move_86 : decode cX9_move 86 = .ok (.iload 5, 2) := by decide +kernel
theorem dR_move_88 : decode cX9_move 88 = .ok (.isub, 1) := by decide +kernel
theorem dR_move_89 : decode cX9_move 89 = .ok (.if_icmp .gt 17, 3) := by decide +kernel
theorem dR_move_92 : decode cX9_move 92 = .ok (.iload 4, 2) := by decide +kernel
theorem dR_move_94 : decode cX9_move 94 = .ok (.aload_n 0, 1) := by decide +kernel
theorem dR_move_95 : decode cX9_move 95 = .ok (.getfield 43, 3) := by decide +kernel
theorem dR_move_98 : decode cX9_move 98 = .ok (.iload_n 3, 1) := by decide +kernel
theorem dR_move_99 : decode cX9_move 99 = .ok (.iaload, 1) := by decide +kernel
theorem dR_move_100 : decode cX9_move 100 = .ok (.iload 5, 2) := by decide +kernel
theorem dR_move_102 : decode cX9_move 102 = .ok (.isub, 1) := by decide +kernel
theorem dR_move_103 : decode cX9_move 103 = .ok (.if_icmp .le 9, 3) := by decide +kernel
theorem dR_move_106 : decode cX9_move 106 = .ok (.aload_n 0, 1) := by decide +kernel
theorem dR_move_107 : decode cX9_move 107 = .ok (.iconst 1, 1) := by decide +kernel
theorem dR_move_108 : decode cX9_move 108 = .ok (.invokevirtual 62, 3) := by decide +kernel
theorem dR_move_111 : decode cX9_move 111 = .ok (.ireturn, 1) := by decide +kernel
theorem dR_move_112 : decode cX9_move 112 = .ok (.iconst 0, 1) := by decide +kernel
theorem dR_move_113 : decode cX9_move 113 = .ok (.istore 6, 2) := by decide +kernel
theorem dR_move_115 : decode cX9_move 115 = .ok (.iload 6, 2) := by decide +kernel
theorem dR_move_117 : decode cX9_move 117 = .ok (.iload 5, 2) := by decide +kernel
theorem dR_move_119 : decode cX9_move 119 = .ok (.if_icmp .ge 30, 3) := by decide +kernel
theorem dR_move_122 : decode cX9_move 122 = .ok (.aload_n 0, 1) := by decide +kernel
theorem dR_move_123 : decode cX9_move 123 = .ok (.getfield 49, 3) := by decide +kernel
theorem dR_move_126 : decode cX9_move 126 = .ok (.iload 6, 2) := by decide +kernel
theorem dR_move_128 : decode cX9_move 128 = .ok (.aload_n 0, 1) := by decide +kernel
theorem dR_move_129 : decode cX9_move 129 = .ok (.getfield 46, 3) := by decide +kernel
theorem dR_move_132 : decode cX9_move 132 = .ok (.bipush 24, 2) := by decide +kernel
theorem dR_move_134 : decode cX9_move 134 = .ok (.iload_n 1, 1) := by decide +kernel
theorem dR_move_135 : decode cX9_move 135 = .ok (.imul, 1) := by decide +kernel
theorem dR_move_136 : decode cX9_move 136 = .ok (.iload_n 2, 1) := by decide +kernel
theorem dR_move_137 : decode cX9_move 137 = .ok (.iadd, 1) := by decide +kernel
theorem dR_move_138 : decode cX9_move 138 = .ok (.iload 6, 2) := by decide +kernel
theorem dR_move_140 : decode cX9_move 140 = .ok (.iadd, 1) := by decide +kernel
theorem dR_move_141 : decode cX9_move 141 = .ok (.iaload, 1) := by decide +kernel
theorem dR_move_142 : decode cX9_move 142 = .ok (.iastore, 1) := by decide +kernel
theorem dR_move_143 : decode cX9_move 143 = .ok (.iinc 6 1, 3) := by decide +kernel
theorem dR_move_146 : decode cX9_move 146 = .ok (.goto (-31), 3) := by decide +kernel
theorem dR_move_149 : decode cX9_move 149 = .ok (.iconst 0, 1) := by decide +kernel
theorem dR_move_150 : decode cX9_move 150 = .ok (.istore 6, 2) := by decide +kernel
theorem dR_move_152 : decode cX9_move 152 = .ok (.iload 6, 2) := by decide +kernel
theorem dR_move_154 : decode cX9_move 154 = .ok (.iload 5, 2) := by decide +kernel
theorem dR_move_156 : decode cX9_move 156 = .ok (.if_icmp .ge 31, 3) := by decide +kernel
theorem dR_move_159 : decode cX9_move 159 = .ok (.aload_n 0, 1) := by decide +kernel
theorem dR_move_160 : decode cX9_move 160 = .ok (.getfield 46, 3) := by decide +kernel
theorem dR_move_163 : decode cX9_move 163 = .ok (.bipush 24, 2) := by decide +kernel
theorem dR_move_165 : decode cX9_move 165 = .ok (.iload_n 3, 1) := by decide +kernel
theorem dR_move_166 : decode cX9_move 166 = .ok (.imul, 1) := by decide +kernel
theorem dR_move_167 : decode cX9_move 167 = .ok (.iload 4, 2) := by decide +kernel
theorem dR_move_169 : decode cX9_move 169 = .ok (.iadd, 1) := by decide +kernel
theorem dR_move_170 : decode cX9_move 170 = .ok (.iload 6, 2) := by decide +kernel
theorem dR_move_172 : decode cX9_move 172 = .ok (.iadd, 1) := by decide +kernel
theorem dR_move_173 : decode cX9_move 173 = .ok (.aload_n 0, 1) := by decide +kernel
theorem dR_move_174 : decode cX9_move 174 = .ok (.getfield 49, 3) := by decide +kernel
theorem dR_move_177 : decode cX9_move 177 = .ok (.iload 6, 2) := by decide +kernel
theorem dR_move_179 : decode cX9_move 179 = .ok (.iaload, 1) := by decide +kernel
theorem dR_move_180 : decode cX9_move 180 = .ok (.iastore, 1) := by decide +kernel
theorem dR_move_181 : decode cX9_move 181 = .ok (.iinc 6 1, 3) := by decide +kernel
theorem dR_move_184 : decode cX9_move 184 = .ok (.goto (-32), 3) := by decide +kernel
theorem dR_move_187 : decode cX9_move 187 = .ok (.iload 5, 2) := by decide +kernel
theorem dR_move_189 : decode cX9_move 189 = .ok (.ireturn, 1) := by decide +kernel
theorem dR_lacks_0 : decode cX9_lacks 0 = .ok (.iload_n 1, 1) := by decide +kernel
theorem dR_lacks_1 : decode cX9_lacks 1 = .ok (.invokestatic 278, 3) := by decide +kernel
theorem dR_lacks_4 : decode cX9_lacks 4 = .ok (.ifCond .ne 7, 3) := by decide +kernel
theorem dR_lacks_7 : decode cX9_lacks 7 = .ok (.iconst 1, 1) := by decide +kernel
theorem dR_lacks_8 : decode cX9_lacks 8 = .ok (.goto 17, 3) := by decide +kernel
theorem dR_lacks_11 : decode cX9_lacks 11 = .ok (.aload_n 0, 1) := by decide +kernel
theorem dR_lacks_12 : decode cX9_lacks 12 = .ok (.getfield 40, 3) := by decide +kernel
theorem dR_lacks_15 : decode cX9_lacks 15 = .ok (.iload_n 1, 1) := by decide +kernel
theorem dR_lacks_16 : decode cX9_lacks 16 = .ok (.iaload, 1) := by decide +kernel
theorem dR_lacks_17 : decode cX9_lacks 17 = .ok (.ifCond .ne 7, 3) := by decide +kernel
theorem dR_lacks_20 : decode cX9_lacks 20 = .ok (.iconst 2, 1) := by decide +kernel
theorem dR_lacks_21 : decode cX9_lacks 21 = .ok (.goto 4, 3) := by decide +kernel
theorem dR_lacks_24 : decode cX9_lacks 24 = .ok (.iconst 0, 1) := by decide +kernel
theorem dR_lacks_25 : decode cX9_lacks 25 = .ok (.ireturn, 1) := by decide +kernel
theorem dR_papers_0 : decode cX9_papers 0 = .ok (.aload_n 0, 1) := by decide +kernel
theorem dR_papers_1 : decode cX9_papers 1 = .ok (.iload_n 1, 1) := by decide +kernel
theorem dR_papers_2 : decode cX9_papers 2 = .ok (.invokevirtual 281, 3) := by decide +kernel
theorem dR_papers_5 : decode cX9_papers 5 = .ok (.istore_n 2, 1) := by decide +kernel
theorem dR_papers_6 : decode cX9_papers 6 = .ok (.iload_n 2, 1) := by decide +kernel
theorem dR_papers_7 : decode cX9_papers 7 = .ok (.ifCond .le 9, 3) := by decide +kernel
theorem dR_papers_10 : decode cX9_papers 10 = .ok (.aload_n 0, 1) := by decide +kernel
theorem dR_papers_11 : decode cX9_papers 11 = .ok (.iload_n 2, 1) := by decide +kernel
theorem dR_papers_12 : decode cX9_papers 12 = .ok (.invokevirtual 62, 3) := by decide +kernel
theorem dR_papers_15 : decode cX9_papers 15 = .ok (.ireturn, 1) := by decide +kernel
theorem dR_papers_16 : decode cX9_papers 16 = .ok (.iconst 0, 1) := by decide +kernel
theorem dR_papers_17 : decode cX9_papers 17 = .ok (.istore_n 3, 1) := by decide +kernel
theorem dR_papers_18 : decode cX9_papers 18 = .ok (.bipush 24, 2) := by decide +kernel
theorem dR_papers_20 : decode cX9_papers 20 = .ok (.iload_n 1, 1) := by decide +kernel
theorem dR_papers_21 : decode cX9_papers 21 = .ok (.imul, 1) := by decide +kernel
theorem dR_papers_22 : decode cX9_papers 22 = .ok (.istore 4, 2) := by decide +kernel
theorem dR_papers_24 : decode cX9_papers 24 = .ok (.iconst 3, 1) := by decide +kernel
theorem dR_papers_25 : decode cX9_papers 25 = .ok (.iload_n 3, 1) := by decide +kernel
theorem dR_papers_26 : decode cX9_papers 26 = .ok (.imul, 1) := by decide +kernel
theorem dR_papers_27 : decode cX9_papers 27 = .ok (.iconst 2, 1) := by decide +kernel
theorem dR_papers_28 : decode cX9_papers 28 = .ok (.iadd, 1) := by decide +kernel
theorem dR_papers_29 : decode cX9_papers 29 = .ok (.aload_n 0, 1) := by decide +kernel
theorem dR_papers_30 : decode cX9_papers 30 = .ok (.getfield 43, 3) := by decide +kernel
theorem dR_papers_33 : decode cX9_papers 33 = .ok (.iload_n 1, 1) := by decide +kernel
theorem dR_papers_34 : decode cX9_papers 34 = .ok (.iaload, 1) := by decide +kernel
theorem dR_papers_35 : decode cX9_papers 35 = .ok (.if_icmp .ge 105, 3) := by decide +kernel
theorem dR_papers_38 : decode cX9_papers 38 = .ok (.aload_n 0, 1) := by decide +kernel
theorem dR_papers_39 : decode cX9_papers 39 = .ok (.getfield 7, 3) := by decide +kernel
theorem dR_papers_42 : decode cX9_papers 42 = .ok (.iconst 3, 1) := by decide +kernel
theorem dR_papers_43 : decode cX9_papers 43 = .ok (.iaload, 1) := by decide +kernel
theorem dR_papers_44 : decode cX9_papers 44 = .ok (.bipush 6, 2) := by decide +kernel
theorem dR_papers_46 : decode cX9_papers 46 = .ok (.if_icmp .ge 94, 3) := by decide +kernel
theorem dR_papers_49 : decode cX9_papers 49 = .ok (.aload_n 0, 1) := by decide +kernel
theorem dR_papers_50 : decode cX9_papers 50 = .ok (.aload_n 0, 1) := by decide +kernel
theorem dR_papers_51 : decode cX9_papers 51 = .ok (.getfield 46, 3) := by decide +kernel
theorem dR_papers_54 : decode cX9_papers 54 = .ok (.iload 4, 2) := by decide +kernel
theorem dR_papers_56 : decode cX9_papers 56 = .ok (.iconst 3, 1) := by decide +kernel
theorem dR_papers_57 : decode cX9_papers 57 = .ok (.iload_n 3, 1) := by decide +kernel
theorem dR_papers_58 : decode cX9_papers 58 = .ok (.imul, 1) := by decide +kernel
theorem dR_papers_59 : decode cX9_papers 59 = .ok (.iadd, 1) := by decide +kernel
theorem dR_papers_60 : decode cX9_papers 60 = .ok (.iaload, 1) := by decide +kernel
theorem dR_papers_61 : decode cX9_papers 61 = .ok (.aload_n 0, 1) := by decide +kernel
theorem dR_papers_62 : decode cX9_papers 62 = .ok (.getfield 46, 3) := by decide +kernel
theorem dR_papers_65 : decode cX9_papers 65 = .ok (.iload 4, 2) := by decide +kernel
theorem dR_papers_67 : decode cX9_papers 67 = .ok (.iconst 3, 1) := by decide +kernel
theorem dR_papers_68 : decode cX9_papers 68 = .ok (.iload_n 3, 1) := by decide +kernel
theorem dR_papers_69 : decode cX9_papers 69 = .ok (.imul, 1) := by decide +kernel
theorem dR_papers_70 : decode cX9_papers 70 = .ok (.iadd, 1) := by decide +kernel
theorem dR_papers_71 : decode cX9_papers 71 = .ok (.iconst 1, 1) := by decide +kernel
theorem dR_papers_72 : decode cX9_papers 72 = .ok (.iadd, 1) := by decide +kernel
theorem dR_papers_73 : decode cX9_papers 73 = .ok (.iaload, 1) := by decide +kernel
theorem dR_papers_74 : decode cX9_papers 74 = .ok (.aload_n 0, 1) := by decide +kernel
theorem dR_papers_75 : decode cX9_papers 75 = .ok (.getfield 46, 3) := by decide +kernel
theorem dR_papers_78 : decode cX9_papers 78 = .ok (.iload 4, 2) := by decide +kernel
theorem dR_papers_80 : decode cX9_papers 80 = .ok (.iconst 3, 1) := by decide +kernel
theorem dR_papers_81 : decode cX9_papers 81 = .ok (.iload_n 3, 1) := by decide +kernel
theorem dR_papers_82 : decode cX9_papers 82 = .ok (.imul, 1) := by decide +kernel
theorem dR_papers_83 : decode cX9_papers 83 = .ok (.iadd, 1) := by decide +kernel
theorem dR_papers_84 : decode cX9_papers 84 = .ok (.iconst 2, 1) := by decide +kernel
theorem dR_papers_85 : decode cX9_papers 85 = .ok (.iadd, 1) := by decide +kernel
theorem dR_papers_86 : decode cX9_papers 86 = .ok (.iaload, 1) := by decide +kernel
theorem dR_papers_87 : decode cX9_papers 87 = .ok (.invokevirtual 205, 3) := by decide +kernel
theorem dR_papers_90 : decode cX9_papers 90 = .ok (.ifCond .eq 50, 3) := by decide +kernel
theorem dR_papers_93 : decode cX9_papers 93 = .ok (.aload_n 0, 1) := by decide +kernel
theorem dR_papers_94 : decode cX9_papers 94 = .ok (.aload_n 0, 1) := by decide +kernel
theorem dR_papers_95 : decode cX9_papers 95 = .ok (.getfield 46, 3) := by decide +kernel
theorem dR_papers_98 : decode cX9_papers 98 = .ok (.iload 4, 2) := by decide +kernel
theorem dR_papers_100 : decode cX9_papers 100 = .ok (.iconst 3, 1) := by decide +kernel
theorem dR_papers_101 : decode cX9_papers 101 = .ok (.iload_n 3, 1) := by decide +kernel
theorem dR_papers_102 : decode cX9_papers 102 = .ok (.imul, 1) := by decide +kernel
theorem dR_papers_103 : decode cX9_papers 103 = .ok (.iadd, 1) := by decide +kernel
theorem dR_papers_104 : decode cX9_papers 104 = .ok (.iaload, 1) := by decide +kernel
theorem dR_papers_105 : decode cX9_papers 105 = .ok (.aload_n 0, 1) := by decide +kernel
theorem dR_papers_106 : decode cX9_papers 106 = .ok (.getfield 46, 3) := by decide +kernel
theorem dR_papers_109 : decode cX9_papers 109 = .ok (.iload 4, 2) := by decide +kernel
theorem dR_papers_111 : decode cX9_papers 111 = .ok (.iconst 3, 1) := by decide +kernel
theorem dR_papers_112 : decode cX9_papers 112 = .ok (.iload_n 3, 1) := by decide +kernel
theorem dR_papers_113 : decode cX9_papers 113 = .ok (.imul, 1) := by decide +kernel
theorem dR_papers_114 : decode cX9_papers 114 = .ok (.iadd, 1) := by decide +kernel
theorem dR_papers_115 : decode cX9_papers 115 = .ok (.iconst 1, 1) := by decide +kernel
theorem dR_papers_116 : decode cX9_papers 116 = .ok (.iadd, 1) := by decide +kernel
theorem dR_papers_117 : decode cX9_papers 117 = .ok (.iaload, 1) := by decide +kernel
theorem dR_papers_118 : decode cX9_papers 118 = .ok (.aload_n 0, 1) := by decide +kernel
theorem dR_papers_119 : decode cX9_papers 119 = .ok (.getfield 46, 3) := by decide +kernel
theorem dR_papers_122 : decode cX9_papers 122 = .ok (.iload 4, 2) := by decide +kernel
theorem dR_papers_124 : decode cX9_papers 124 = .ok (.iconst 3, 1) := by decide +kernel
theorem dR_papers_125 : decode cX9_papers 125 = .ok (.iload_n 3, 1) := by decide +kernel
theorem dR_papers_126 : decode cX9_papers 126 = .ok (.imul, 1) := by decide +kernel
theorem dR_papers_127 : decode cX9_papers 127 = .ok (.iadd, 1) := by decide +kernel
theorem dR_papers_128 : decode cX9_papers 128 = .ok (.iconst 2, 1) := by decide +kernel
theorem dR_papers_129 : decode cX9_papers 129 = .ok (.iadd, 1) := by decide +kernel
theorem dR_papers_130 : decode cX9_papers 130 = .ok (.iaload, 1) := by decide +kernel
theorem dR_papers_131 : decode cX9_papers 131 = .ok (.invokevirtual 208, 3) := by decide +kernel
theorem dR_papers_134 : decode cX9_papers 134 = .ok (.iinc 3 1, 3) := by decide +kernel
theorem dR_papers_137 : decode cX9_papers 137 = .ok (.goto (-113), 3) := by decide +kernel
theorem dR_papers_140 : decode cX9_papers 140 = .ok (.iload_n 3, 1) := by decide +kernel
theorem dR_papers_141 : decode cX9_papers 141 = .ok (.ireturn, 1) := by decide +kernel
theorem dR_judge_0 : decode cX9_judge 0 = .ok (.aload_n 0, 1) := by decide +kernel
theorem dR_judge_1 : decode cX9_judge 1 = .ok (.iload_n 2, 1) := by decide +kernel
theorem dR_judge_2 : decode cX9_judge 2 = .ok (.invokevirtual 217, 3) := by decide +kernel
theorem dR_judge_5 : decode cX9_judge 5 = .ok (.ifCond .eq 11, 3) := by decide +kernel
theorem dR_judge_8 : decode cX9_judge 8 = .ok (.aload_n 0, 1) := by decide +kernel
theorem dR_judge_9 : decode cX9_judge 9 = .ok (.iload_n 1, 1) := by decide +kernel
theorem dR_judge_10 : decode cX9_judge 10 = .ok (.invokevirtual 281, 3) := by decide +kernel
theorem dR_judge_13 : decode cX9_judge 13 = .ok (.goto 4, 3) := by decide +kernel
theorem dR_judge_16 : decode cX9_judge 16 = .ok (.iconst 1, 1) := by decide +kernel
theorem dR_judge_17 : decode cX9_judge 17 = .ok (.istore_n 3, 1) := by decide +kernel
theorem dR_judge_18 : decode cX9_judge 18 = .ok (.iload_n 3, 1) := by decide +kernel
theorem dR_judge_19 : decode cX9_judge 19 = .ok (.ifCond .le 9, 3) := by decide +kernel
theorem dR_judge_22 : decode cX9_judge 22 = .ok (.aload_n 0, 1) := by decide +kernel
theorem dR_judge_23 : decode cX9_judge 23 = .ok (.iload_n 3, 1) := by decide +kernel
theorem dR_judge_24 : decode cX9_judge 24 = .ok (.invokevirtual 62, 3) := by decide +kernel
theorem dR_judge_27 : decode cX9_judge 27 = .ok (.ireturn, 1) := by decide +kernel
theorem dR_judge_28 : decode cX9_judge 28 = .ok (.aload_n 0, 1) := by decide +kernel
theorem dR_judge_29 : decode cX9_judge 29 = .ok (.getfield 7, 3) := by decide +kernel
theorem dR_judge_32 : decode cX9_judge 32 = .ok (.aload_n 0, 1) := by decide +kernel
theorem dR_judge_33 : decode cX9_judge 33 = .ok (.getfield 16, 3) := by decide +kernel
theorem dR_judge_36 : decode cX9_judge 36 = .ok (.invokestatic 117, 3) := by decide +kernel
theorem dR_judge_39 : decode cX9_judge 39 = .ok (.aload_n 0, 1) := by decide +kernel
theorem dR_judge_40 : decode cX9_judge 40 = .ok (.iload_n 2, 1) := by decide +kernel
theorem dR_judge_41 : decode cX9_judge 41 = .ok (.invokevirtual 214, 3) := by decide +kernel
theorem dR_judge_44 : decode cX9_judge 44 = .ok (.iconst 0, 1) := by decide +kernel
theorem dR_judge_45 : decode cX9_judge 45 = .ok (.istore 4, 2) := by decide +kernel
theorem dR_judge_47 : decode cX9_judge 47 = .ok (.iload 4, 2) := by decide +kernel
theorem dR_judge_49 : decode cX9_judge 49 = .ok (.aload_n 0, 1) := by decide +kernel
theorem dR_judge_50 : decode cX9_judge 50 = .ok (.getfield 7, 3) := by decide +kernel
theorem dR_judge_53 : decode cX9_judge 53 = .ok (.iconst 0, 1) := by decide +kernel
theorem dR_judge_54 : decode cX9_judge 54 = .ok (.iaload, 1) := by decide +kernel
theorem dR_judge_55 : decode cX9_judge 55 = .ok (.if_icmp .ge 42, 3) := by decide +kernel
theorem dR_judge_58 : decode cX9_judge 58 = .ok (.iload 4, 2) := by decide +kernel
theorem dR_judge_60 : decode cX9_judge 60 = .ok (.aload_n 0, 1) := by decide +kernel
theorem dR_judge_61 : decode cX9_judge 61 = .ok (.getfield 43, 3) := by decide +kernel
theorem dR_judge_64 : decode cX9_judge 64 = .ok (.iload_n 1, 1) := by decide +kernel
theorem dR_judge_65 : decode cX9_judge 65 = .ok (.iaload, 1) := by decide +kernel
theorem dR_judge_66 : decode cX9_judge 66 = .ok (.if_icmp .ge 31, 3) := by decide +kernel
theorem dR_judge_69 : decode cX9_judge 69 = .ok (.aload_n 0, 1) := by decide +kernel
theorem dR_judge_70 : decode cX9_judge 70 = .ok (.getfield 46, 3) := by decide +kernel
theorem dR_judge_73 : decode cX9_judge 73 = .ok (.bipush 24, 2) := by decide +kernel
theorem dR_judge_75 : decode cX9_judge 75 = .ok (.iload_n 1, 1) := by decide +kernel
theorem dR_judge_76 : decode cX9_judge 76 = .ok (.imul, 1) := by decide +kernel
theorem dR_judge_77 : decode cX9_judge 77 = .ok (.iload 4, 2) := by decide +kernel
theorem dR_judge_79 : decode cX9_judge 79 = .ok (.iadd, 1) := by decide +kernel
theorem dR_judge_80 : decode cX9_judge 80 = .ok (.iaload, 1) := by decide +kernel
theorem dR_judge_81 : decode cX9_judge 81 = .ok (.aload_n 0, 1) := by decide +kernel
theorem dR_judge_82 : decode cX9_judge 82 = .ok (.iload 4, 2) := by decide +kernel
theorem dR_judge_84 : decode cX9_judge 84 = .ok (.iconst 2, 1) := by decide +kernel
theorem dR_judge_85 : decode cX9_judge 85 = .ok (.invokevirtual 73, 3) := by decide +kernel
theorem dR_judge_88 : decode cX9_judge 88 = .ok (.if_icmp .ne 9, 3) := by decide +kernel
theorem dR_judge_91 : decode cX9_judge 91 = .ok (.iinc 4 1, 3) := by decide +kernel
theorem dR_judge_94 : decode cX9_judge 94 = .ok (.goto (-47), 3) := by decide +kernel
theorem dR_judge_97 : decode cX9_judge 97 = .ok (.aload_n 0, 1) := by decide +kernel
theorem dR_judge_98 : decode cX9_judge 98 = .ok (.getfield 16, 3) := by decide +kernel
theorem dR_judge_101 : decode cX9_judge 101 = .ok (.aload_n 0, 1) := by decide +kernel
theorem dR_judge_102 : decode cX9_judge 102 = .ok (.getfield 7, 3) := by decide +kernel
theorem dR_judge_105 : decode cX9_judge 105 = .ok (.invokestatic 117, 3) := by decide +kernel
theorem dR_judge_108 : decode cX9_judge 108 = .ok (.iload 4, 2) := by decide +kernel
theorem dR_judge_110 : decode cX9_judge 110 = .ok (.ireturn, 1) := by decide +kernel
theorem dR_image_0 : decode cX9_image 0 = .ok (.aload_n 0, 1) := by decide +kernel
theorem dR_image_1 : decode cX9_image 1 = .ok (.getfield 7, 3) := by decide +kernel
theorem dR_image_4 : decode cX9_image 4 = .ok (.aload_n 0, 1) := by decide +kernel
theorem dR_image_5 : decode cX9_image 5 = .ok (.getfield 13, 3) := by decide +kernel
theorem dR_image_8 : decode cX9_image 8 = .ok (.invokestatic 117, 3) := by decide +kernel
theorem dR_image_11 : decode cX9_image 11 = .ok (.aload_n 0, 1) := by decide +kernel
theorem dR_image_12 : decode cX9_image 12 = .ok (.dup, 1) := by decide +kernel
theorem dR_image_13 : decode cX9_image 13 = .ok (.getfield 284, 3) := by decide +kernel
theorem dR_image_16 : decode cX9_image 16 = .ok (.iconst 1, 1) := by decide +kernel
theorem dR_image_17 : decode cX9_image 17 = .ok (.iadd, 1) := by decide +kernel
theorem dR_image_18 : decode cX9_image 18 = .ok (.putfield 284, 3) := by decide +kernel
theorem dR_image_21 : decode cX9_image 21 = .ok (.aload_n 0, 1) := by decide +kernel
theorem dR_image_22 : decode cX9_image 22 = .ok (.getfield 284, 3) := by decide +kernel
theorem dR_image_25 : decode cX9_image 25 = .ok (.ireturn, 1) := by decide +kernel
theorem dR_restore_0 : decode cX9_restore 0 = .ok (.aload_n 0, 1) := by decide +kernel
theorem dR_restore_1 : decode cX9_restore 1 = .ok (.getfield 284, 3) := by decide +kernel
theorem dR_restore_4 : decode cX9_restore 4 = .ok (.ifCond .ne 9, 3) := by decide +kernel
theorem dR_restore_7 : decode cX9_restore 7 = .ok (.aload_n 0, 1) := by decide +kernel
theorem dR_restore_8 : decode cX9_restore 8 = .ok (.iconst 2, 1) := by decide +kernel
theorem dR_restore_9 : decode cX9_restore 9 = .ok (.invokevirtual 62, 3) := by decide +kernel
theorem dR_restore_12 : decode cX9_restore 12 = .ok (.ireturn, 1) := by decide +kernel
theorem dR_restore_13 : decode cX9_restore 13 = .ok (.aload_n 0, 1) := by decide +kernel
theorem dR_restore_14 : decode cX9_restore 14 = .ok (.getfield 13, 3) := by decide +kernel
theorem dR_restore_17 : decode cX9_restore 17 = .ok (.aload_n 0, 1) := by decide +kernel
theorem dR_restore_18 : decode cX9_restore 18 = .ok (.getfield 7, 3) := by decide +kernel
theorem dR_restore_21 : decode cX9_restore 21 = .ok (.invokestatic 117, 3) := by decide +kernel
theorem dR_restore_24 : decode cX9_restore 24 = .ok (.aload_n 0, 1) := by decide +kernel
theorem dR_restore_25 : decode cX9_restore 25 = .ok (.getfield 7, 3) := by decide +kernel
theorem dR_restore_28 : decode cX9_restore 28 = .ok (.iconst 5, 1) := by decide +kernel
theorem dR_restore_29 : decode cX9_restore 29 = .ok (.iaload, 1) := by decide +kernel
theorem dR_restore_30 : decode cX9_restore 30 = .ok (.ireturn, 1) := by decide +kernel
theorem dR_tell_0 : decode cX9_tell 0 = .ok (.aload_n 0, 1) := by decide +kernel
theorem dR_tell_1 : decode cX9_tell 1 = .ok (.getfield 7, 3) := by decide +kernel
theorem dR_tell_4 : decode cX9_tell 4 = .ok (.bipush 7, 2) := by decide +kernel
theorem dR_tell_6 : decode cX9_tell 6 = .ok (.iaload, 1) := by decide +kernel
theorem dR_tell_7 : decode cX9_tell 7 = .ok (.bipush 24, 2) := by decide +kernel
theorem dR_tell_9 : decode cX9_tell 9 = .ok (.if_icmp .ne 9, 3) := by decide +kernel
theorem dR_tell_12 : decode cX9_tell 12 = .ok (.aload_n 0, 1) := by decide +kernel
theorem dR_tell_13 : decode cX9_tell 13 = .ok (.iconst 4, 1) := by decide +kernel
theorem dR_tell_14 : decode cX9_tell 14 = .ok (.invokevirtual 62, 3) := by decide +kernel
theorem dR_tell_17 : decode cX9_tell 17 = .ok (.ireturn, 1) := by decide +kernel
theorem dR_tell_18 : decode cX9_tell 18 = .ok (.aload_n 0, 1) := by decide +kernel
theorem dR_tell_19 : decode cX9_tell 19 = .ok (.getfield 7, 3) := by decide +kernel
theorem dR_tell_22 : decode cX9_tell 22 = .ok (.sipush 512, 3) := by decide +kernel
theorem dR_tell_25 : decode cX9_tell 25 = .ok (.aload_n 0, 1) := by decide +kernel
theorem dR_tell_26 : decode cX9_tell 26 = .ok (.getfield 7, 3) := by decide +kernel
theorem dR_tell_29 : decode cX9_tell 29 = .ok (.bipush 7, 2) := by decide +kernel
theorem dR_tell_31 : decode cX9_tell 31 = .ok (.iaload, 1) := by decide +kernel
theorem dR_tell_32 : decode cX9_tell 32 = .ok (.iadd, 1) := by decide +kernel
theorem dR_tell_33 : decode cX9_tell 33 = .ok (.iload_n 1, 1) := by decide +kernel
theorem dR_tell_34 : decode cX9_tell 34 = .ok (.iastore, 1) := by decide +kernel
theorem dR_tell_35 : decode cX9_tell 35 = .ok (.aload_n 0, 1) := by decide +kernel
theorem dR_tell_36 : decode cX9_tell 36 = .ok (.getfield 7, 3) := by decide +kernel
theorem dR_tell_39 : decode cX9_tell 39 = .ok (.bipush 7, 2) := by decide +kernel
theorem dR_tell_41 : decode cX9_tell 41 = .ok (.dup2, 1) := by decide +kernel
theorem dR_tell_42 : decode cX9_tell 42 = .ok (.iaload, 1) := by decide +kernel
theorem dR_tell_43 : decode cX9_tell 43 = .ok (.iconst 1, 1) := by decide +kernel
theorem dR_tell_44 : decode cX9_tell 44 = .ok (.iadd, 1) := by decide +kernel
theorem dR_tell_45 : decode cX9_tell 45 = .ok (.iastore, 1) := by decide +kernel
theorem dR_tell_46 : decode cX9_tell 46 = .ok (.aload_n 0, 1) := by decide +kernel
theorem dR_tell_47 : decode cX9_tell 47 = .ok (.getfield 7, 3) := by decide +kernel
theorem dR_tell_50 : decode cX9_tell 50 = .ok (.bipush 7, 2) := by decide +kernel
theorem dR_tell_52 : decode cX9_tell 52 = .ok (.iaload, 1) := by decide +kernel
theorem dR_tell_53 : decode cX9_tell 53 = .ok (.ireturn, 1) := by decide +kernel
theorem dR_check_0 : decode cX9_check 0 = .ok (.aload_n 0, 1) := by decide +kernel
theorem dR_check_1 : decode cX9_check 1 = .ok (.getfield 7, 3) := by decide +kernel
theorem dR_check_4 : decode cX9_check 4 = .ok (.bipush 7, 2) := by decide +kernel
theorem dR_check_6 : decode cX9_check 6 = .ok (.iaload, 1) := by decide +kernel
theorem dR_check_7 : decode cX9_check 7 = .ok (.istore_n 1, 1) := by decide +kernel
theorem dR_check_8 : decode cX9_check 8 = .ok (.aload_n 0, 1) := by decide +kernel
theorem dR_check_9 : decode cX9_check 9 = .ok (.getfield 7, 3) := by decide +kernel
theorem dR_check_12 : decode cX9_check 12 = .ok (.bipush 7, 2) := by decide +kernel
theorem dR_check_14 : decode cX9_check 14 = .ok (.iconst 0, 1) := by decide +kernel
theorem dR_check_15 : decode cX9_check 15 = .ok (.iastore, 1) := by decide +kernel
theorem dR_check_16 : decode cX9_check 16 = .ok (.aload_n 0, 1) := by decide +kernel
theorem dR_check_17 : decode cX9_check 17 = .ok (.invokevirtual 229, 3) := by decide +kernel
theorem dR_check_20 : decode cX9_check 20 = .ok (.iconst 0, 1) := by decide +kernel
theorem dR_check_21 : decode cX9_check 21 = .ok (.istore_n 2, 1) := by decide +kernel
theorem dR_check_22 : decode cX9_check 22 = .ok (.iload_n 2, 1) := by decide +kernel
theorem dR_check_23 : decode cX9_check 23 = .ok (.iload_n 1, 1) := by decide +kernel
theorem dR_check_24 : decode cX9_check 24 = .ok (.if_icmp .ge 36, 3) := by decide +kernel
theorem dR_check_27 : decode cX9_check 27 = .ok (.iload_n 2, 1) := by decide +kernel
theorem dR_check_28 : decode cX9_check 28 = .ok (.aload_n 0, 1) := by decide +kernel
theorem dR_check_29 : decode cX9_check 29 = .ok (.getfield 223, 3) := by decide +kernel
theorem dR_check_32 : decode cX9_check 32 = .ok (.if_icmp .ge 28, 3) := by decide +kernel
theorem dR_check_35 : decode cX9_check 35 = .ok (.aload_n 0, 1) := by decide +kernel
theorem dR_check_36 : decode cX9_check 36 = .ok (.getfield 7, 3) := by decide +kernel
theorem dR_check_39 : decode cX9_check 39 = .ok (.sipush 512, 3) := by decide +kernel
theorem dR_check_42 : decode cX9_check 42 = .ok (.iload_n 2, 1) := by decide +kernel
theorem dR_check_43 : decode cX9_check 43 = .ok (.iadd, 1) := by decide +kernel
theorem dR_check_44 : decode cX9_check 44 = .ok (.iaload, 1) := by decide +kernel
theorem dR_check_45 : decode cX9_check 45 = .ok (.aload_n 0, 1) := by decide +kernel
theorem dR_check_46 : decode cX9_check 46 = .ok (.getfield 31, 3) := by decide +kernel
theorem dR_check_49 : decode cX9_check 49 = .ok (.iload_n 2, 1) := by decide +kernel
theorem dR_check_50 : decode cX9_check 50 = .ok (.iaload, 1) := by decide +kernel
theorem dR_check_51 : decode cX9_check 51 = .ok (.if_icmp .ne 9, 3) := by decide +kernel
theorem dR_check_54 : decode cX9_check 54 = .ok (.iinc 2 1, 3) := by decide +kernel
theorem dR_check_57 : decode cX9_check 57 = .ok (.goto (-35), 3) := by decide +kernel
theorem dR_check_60 : decode cX9_check 60 = .ok (.iload_n 2, 1) := by decide +kernel
theorem dR_check_61 : decode cX9_check 61 = .ok (.iload_n 1, 1) := by decide +kernel
theorem dR_check_62 : decode cX9_check 62 = .ok (.if_icmp .ne 15, 3) := by decide +kernel
theorem dR_check_65 : decode cX9_check 65 = .ok (.iload_n 2, 1) := by decide +kernel
theorem dR_check_66 : decode cX9_check 66 = .ok (.aload_n 0, 1) := by decide +kernel
theorem dR_check_67 : decode cX9_check 67 = .ok (.getfield 223, 3) := by decide +kernel
theorem dR_check_70 : decode cX9_check 70 = .ok (.if_icmp .ne 7, 3) := by decide +kernel
theorem dR_check_73 : decode cX9_check 73 = .ok (.iconst 0, 1) := by decide +kernel
theorem dR_check_74 : decode cX9_check 74 = .ok (.goto 6, 3) := by decide +kernel
theorem dR_check_77 : decode cX9_check 77 = .ok (.iconst 1, 1) := by decide +kernel
theorem dR_check_78 : decode cX9_check 78 = .ok (.iload_n 2, 1) := by decide +kernel
theorem dR_check_79 : decode cX9_check 79 = .ok (.iadd, 1) := by decide +kernel
theorem dR_check_80 : decode cX9_check 80 = .ok (.ireturn, 1) := by decide +kernel
theorem dR_count_0 : decode cX9_count 0 = .ok (.iload_n 1, 1) := by decide +kernel
theorem dR_count_1 : decode cX9_count 1 = .ok (.tableswitch 135 0 10 #[59, 66, 73, 80, 87, 94, 99, 106, 114, 122, 127], 59) := by decide +kernel
theorem dR_count_60 : decode cX9_count 60 = .ok (.aload_n 0, 1) := by decide +kernel
theorem dR_count_61 : decode cX9_count 61 = .ok (.getfield 7, 3) := by decide +kernel
theorem dR_count_64 : decode cX9_count 64 = .ok (.iconst 0, 1) := by decide +kernel
theorem dR_count_65 : decode cX9_count 65 = .ok (.iaload, 1) := by decide +kernel
theorem dR_count_66 : decode cX9_count 66 = .ok (.ireturn, 1) := by decide +kernel
theorem dR_count_67 : decode cX9_count 67 = .ok (.aload_n 0, 1) := by decide +kernel
theorem dR_count_68 : decode cX9_count 68 = .ok (.getfield 7, 3) := by decide +kernel
theorem dR_count_71 : decode cX9_count 71 = .ok (.iconst 1, 1) := by decide +kernel
theorem dR_count_72 : decode cX9_count 72 = .ok (.iaload, 1) := by decide +kernel
theorem dR_count_73 : decode cX9_count 73 = .ok (.ireturn, 1) := by decide +kernel
theorem dR_count_74 : decode cX9_count 74 = .ok (.aload_n 0, 1) := by decide +kernel
theorem dR_count_75 : decode cX9_count 75 = .ok (.getfield 7, 3) := by decide +kernel
theorem dR_count_78 : decode cX9_count 78 = .ok (.iconst 2, 1) := by decide +kernel
theorem dR_count_79 : decode cX9_count 79 = .ok (.iaload, 1) := by decide +kernel
theorem dR_count_80 : decode cX9_count 80 = .ok (.ireturn, 1) := by decide +kernel
theorem dR_count_81 : decode cX9_count 81 = .ok (.aload_n 0, 1) := by decide +kernel
theorem dR_count_82 : decode cX9_count 82 = .ok (.getfield 7, 3) := by decide +kernel
theorem dR_count_85 : decode cX9_count 85 = .ok (.iconst 3, 1) := by decide +kernel
theorem dR_count_86 : decode cX9_count 86 = .ok (.iaload, 1) := by decide +kernel
theorem dR_count_87 : decode cX9_count 87 = .ok (.ireturn, 1) := by decide +kernel
theorem dR_count_88 : decode cX9_count 88 = .ok (.aload_n 0, 1) := by decide +kernel
theorem dR_count_89 : decode cX9_count 89 = .ok (.getfield 7, 3) := by decide +kernel
theorem dR_count_92 : decode cX9_count 92 = .ok (.iconst 4, 1) := by decide +kernel
theorem dR_count_93 : decode cX9_count 93 = .ok (.iaload, 1) := by decide +kernel
theorem dR_count_94 : decode cX9_count 94 = .ok (.ireturn, 1) := by decide +kernel
theorem dR_count_95 : decode cX9_count 95 = .ok (.aload_n 0, 1) := by decide +kernel
theorem dR_count_96 : decode cX9_count 96 = .ok (.invokevirtual 114, 3) := by decide +kernel
theorem dR_count_99 : decode cX9_count 99 = .ok (.ireturn, 1) := by decide +kernel
theorem dR_count_100 : decode cX9_count 100 = .ok (.aload_n 0, 1) := by decide +kernel
theorem dR_count_101 : decode cX9_count 101 = .ok (.getfield 7, 3) := by decide +kernel
theorem dR_count_104 : decode cX9_count 104 = .ok (.iconst 5, 1) := by decide +kernel
theorem dR_count_105 : decode cX9_count 105 = .ok (.iaload, 1) := by decide +kernel
theorem dR_count_106 : decode cX9_count 106 = .ok (.ireturn, 1) := by decide +kernel
theorem dR_count_107 : decode cX9_count 107 = .ok (.aload_n 0, 1) := by decide +kernel
theorem dR_count_108 : decode cX9_count 108 = .ok (.getfield 7, 3) := by decide +kernel
theorem dR_count_111 : decode cX9_count 111 = .ok (.bipush 6, 2) := by decide +kernel
theorem dR_count_113 : decode cX9_count 113 = .ok (.iaload, 1) := by decide +kernel
theorem dR_count_114 : decode cX9_count 114 = .ok (.ireturn, 1) := by decide +kernel
theorem dR_count_115 : decode cX9_count 115 = .ok (.aload_n 0, 1) := by decide +kernel
theorem dR_count_116 : decode cX9_count 116 = .ok (.getfield 7, 3) := by decide +kernel
theorem dR_count_119 : decode cX9_count 119 = .ok (.bipush 7, 2) := by decide +kernel
theorem dR_count_121 : decode cX9_count 121 = .ok (.iaload, 1) := by decide +kernel
theorem dR_count_122 : decode cX9_count 122 = .ok (.ireturn, 1) := by decide +kernel
theorem dR_count_123 : decode cX9_count 123 = .ok (.aload_n 0, 1) := by decide +kernel
theorem dR_count_124 : decode cX9_count 124 = .ok (.getfield 244, 3) := by decide +kernel
theorem dR_count_127 : decode cX9_count 127 = .ok (.ireturn, 1) := by decide +kernel
theorem dR_count_128 : decode cX9_count 128 = .ok (.aload_n 0, 1) := by decide +kernel
theorem dR_count_129 : decode cX9_count 129 = .ok (.getfield 7, 3) := by decide +kernel
theorem dR_count_132 : decode cX9_count 132 = .ok (.bipush 8, 2) := by decide +kernel
theorem dR_count_134 : decode cX9_count 134 = .ok (.iaload, 1) := by decide +kernel
theorem dR_count_135 : decode cX9_count 135 = .ok (.ireturn, 1) := by decide +kernel
theorem dR_count_136 : decode cX9_count 136 = .ok (.aload_n 0, 1) := by decide +kernel
theorem dR_count_137 : decode cX9_count 137 = .ok (.iconst 1, 1) := by decide +kernel
theorem dR_count_138 : decode cX9_count 138 = .ok (.invokevirtual 62, 3) := by decide +kernel
theorem dR_count_141 : decode cX9_count 141 = .ok (.ireturn, 1) := by decide +kernel
theorem dR_told_0 : decode cX9_told 0 = .ok (.iload_n 1, 1) := by decide +kernel
theorem dR_told_1 : decode cX9_told 1 = .ok (.iconst 1, 1) := by decide +kernel
theorem dR_told_2 : decode cX9_told 2 = .ok (.bipush 6, 2) := by decide +kernel
theorem dR_told_4 : decode cX9_told 4 = .ok (.invokestatic 53, 3) := by decide +kernel
theorem dR_told_7 : decode cX9_told 7 = .ok (.ifCond .eq 12, 3) := by decide +kernel
theorem dR_told_10 : decode cX9_told 10 = .ok (.aload_n 0, 1) := by decide +kernel
theorem dR_told_11 : decode cX9_told 11 = .ok (.getfield 19, 3) := by decide +kernel
theorem dR_told_14 : decode cX9_told 14 = .ok (.iload_n 1, 1) := by decide +kernel
theorem dR_told_15 : decode cX9_told 15 = .ok (.iaload, 1) := by decide +kernel
theorem dR_told_16 : decode cX9_told 16 = .ok (.goto 8, 3) := by decide +kernel
theorem dR_told_19 : decode cX9_told 19 = .ok (.aload_n 0, 1) := by decide +kernel
theorem dR_told_20 : decode cX9_told 20 = .ok (.iconst 1, 1) := by decide +kernel
theorem dR_told_21 : decode cX9_told 21 = .ok (.invokevirtual 62, 3) := by decide +kernel
theorem dR_told_24 : decode cX9_told 24 = .ok (.ireturn, 1) := by decide +kernel
end
section
-- WHAT EACH METHOD OF THE REFERENCE COMES TO (w_R..), and that its call comes to it (m_R..): written by wip/whole/walk.py out of the decode rows
abbrev rmR (f q : Nat) : Room := { frames := f, cells := 0, slots := 0, locals := q }
def isA (a : Nat) : Prop := 1 ≤ a ∧ a ≤ 14
def lenR (a : Nat) : Nat := match layR 0 a with
  | .inl n => n
  | _ => 0
theorem arrR {a ci : Nat} (h : isA a) : layR ci a = .inl (lenR a) ∧ a < 15 ∧ lenR a < 2147483648 := by
  obtain ⟨h1, h2⟩ := h
  rcases (show a = 1 ∨ a = 2 ∨ a = 3 ∨ a = 4 ∨ a = 5 ∨ a = 6 ∨ a = 7 ∨ a = 8 ∨ a = 9 ∨ a = 10 ∨ a = 11 ∨ a = 12 ∨ a = 13 ∨ a = 14 by omega) with rfl | rfl | rfl | rfl | rfl | rfl | rfl | rfl | rfl | rfl | rfl | rfl | rfl | rfl <;> exact ⟨rfl, by decide, by decide⟩
theorem zn_bool {x : Int} (h : x = 0 ∨ x = 1) : narrow .boolean (iv x) = iv x ∧ fits .boolean (iv x) = true := by
  rcases h with rfl | rfl <;> exact ⟨rfl, rfl⟩
section GW
variable {p : Program} {l : Launch} {e : Env} {R : Room} {s : State} {m : MethodId} {args : Array Value} {below : List Frame} {meth : Method} {c : Code} {Q : State → Prop}
variable {D : va_G} {cl : List vw_C} {A : Nat → Prop} {wl : gSt → va_W} {nL pc : Nat} {lv : List (Nat × Value)} {st : List Value} {M : gSt}
theorem g_memname (k : ∀ M' : gSt, M' = M → gG p l e R s m args below meth c Q D cl A wl nL pc lv st M') : gG p l e R s m args below meth c Q D cl A wl nL pc lv st M := k M rfl
end GW
def w_Rerror (a1 : Int) (M : gSt) (k : Int → gSt → Prop) : Prop :=
(0 ≤ a1 ∧ a1 < 7) ∧ ((0 ≤ a1 ∧ a1 < 7) ∧ (∀ M9 : gSt, M9 = wr M 4 a1 ((M 4 a1) + 1) → (k ((-1000000000) - a1) M9)))
set_option maxHeartbeats 4000000 in
set_option maxRecDepth 100000 in
theorem m_Rerror {l : Launch} {D : va_G} {cl : List vw_C} {tys : List (ClassId × FieldType)} {ad : Nat → Nat} {cI : ClassId} {ci : Nat} (hci : cl[ci]? = some (RX9, TX9, 23)) {a1 : Int} {M : gSt} {k : Int → gSt → Prop} (h : w_Rerror a1 M k) : MOi l yX9_error cX9_error 2 .int (rmR 0 0) D cl ((cI, .int) :: tys) (wR ad cI ci) tR [.ref (ad 0), iv a1] M k := by
  refine moi_intro (by decide +kernel) (Nat.le_of_ble_eq_true rfl) wi_20 ?_
  intro p e s m args below meth c A Q C hR
  refine g_locals (lv' := [(0, .ref (ad 0)), (1, iv a1)]) rfl ?_
  unfold w_Rerror at h
  refine g_aload_n C dR_error_0 rfl ?_
  refine rf_errors C hci dR_error_1 ?_
  refine g_iload_n C dR_error_4 rfl ?_
  refine g_dup2 C dR_error_5 rfl rfl ?_
  refine g_iald C (n := 7) dR_error_6 rfl (by decide) h.1 ?_
  replace h := h.2
  refine g_iconst C dR_error_7 ?_
  refine g_iadd C dR_error_8 ?_
  refine g_iast C (n := 7) dR_error_9 rfl (by decide) h.1 ?_
  replace h := h.2
  refine g_memname (fun M9 hM9 => ?_)
  replace h := h M9 hM9
  refine g_ldc C (-1000000000) wi_19 rfl dR_error_10 ?_
  refine g_iload_n C dR_error_12 rfl ?_
  refine g_isub C dR_error_13 ?_
  exact hR _ _ _ _ dR_error_14 rfl h
def w_Rin (a1 : Int) (a2 : Int) (a3 : Int) (M : gSt) (k : Int → gSt → Prop) : Prop :=

  (wrap a1 < wrap a2 →
    k 0 M) ∧
  (wrap a2 ≤ wrap a1 →

    (wrap a3 < wrap a1 →
      k 0 M) ∧
    (wrap a1 ≤ wrap a3 →
      k 1 M))
set_option maxHeartbeats 4000000 in
set_option maxRecDepth 100000 in
theorem m_Rin {l : Launch} {D : va_G} {cl : List vw_C} {tys : List (ClassId × FieldType)} {ad : Nat → Nat} {cI : ClassId} {ci : Nat} (hci : cl[ci]? = some (RX9, TX9, 23)) {a1 : Int} {a2 : Int} {a3 : Int} {M : gSt} {k : Int → gSt → Prop} (h : w_Rin a1 a2 a3 M k) : MOi l yX9_in cX9_in 3 .boolean (rmR 0 0) D cl ((cI, .int) :: tys) (wR ad cI ci) tR [iv a1, iv a2, iv a3] M k := by
  refine moi_intro (by decide +kernel) (Nat.le_of_ble_eq_true rfl) wi_21 ?_
  intro p e s m args below meth c A Q C hR
  refine g_locals (lv' := [(0, iv a1), (1, iv a2), (2, iv a3)]) rfl ?_
  unfold w_Rin at h
  refine g_iload_n C dR_in_0 rfl ?_
  refine g_iload_n C dR_in_1 rfl ?_
  refine g_icmp_lt C 14 dR_in_2 (by decide) (fun hc => ?_) (fun hc => ?_)
  · replace h := h.1 hc
    refine g_iconst C dR_in_14 ?_
    exact hR _ _ _ _ dR_in_15 rfl h
  · replace h := h.2 hc
    refine g_iload_n C dR_in_5 rfl ?_
    refine g_iload_n C dR_in_6 rfl ?_
    refine g_icmp_gt C 14 dR_in_7 (by decide) (fun hc => ?_) (fun hc => ?_)
    · replace h := h.1 hc
      refine g_iconst C dR_in_14 ?_
      exact hR _ _ _ _ dR_in_15 rfl h
    · replace h := h.2 hc
      refine g_iconst C dR_in_10 ?_
      refine g_goto C 15 dR_in_11 (by decide) ?_
      exact hR _ _ _ _ dR_in_15 rfl h
def w_Rheld (a1 : Int) (a2 : Int) (a3 : Int) (M : gSt) (k : Int → gSt → Prop) : Prop :=

  (wrap a2 ≤ wrap a1 →

    (wrap a1 ≤ wrap a3 →
      k a1 M) ∧
    (wrap a3 < wrap a1 →
      k a3 M)) ∧
  (wrap a1 < wrap a2 →
    k a2 M)
set_option maxHeartbeats 4000000 in
set_option maxRecDepth 100000 in
theorem m_Rheld {l : Launch} {D : va_G} {cl : List vw_C} {tys : List (ClassId × FieldType)} {ad : Nat → Nat} {cI : ClassId} {ci : Nat} (hci : cl[ci]? = some (RX9, TX9, 23)) {a1 : Int} {a2 : Int} {a3 : Int} {M : gSt} {k : Int → gSt → Prop} (h : w_Rheld a1 a2 a3 M k) : MOi l yX9_held cX9_held 3 .int (rmR 0 0) D cl ((cI, .int) :: tys) (wR ad cI ci) tR [iv a1, iv a2, iv a3] M k := by
  refine moi_intro (by decide +kernel) (Nat.le_of_ble_eq_true rfl) wi_22 ?_
  intro p e s m args below meth c A Q C hR
  refine g_locals (lv' := [(0, iv a1), (1, iv a2), (2, iv a3)]) rfl ?_
  unfold w_Rheld at h
  refine g_iload_n C dR_held_0 rfl ?_
  refine g_iload_n C dR_held_1 rfl ?_
  refine g_icmp_ge C 9 dR_held_2 (by decide) (fun hc => ?_) (fun hc => ?_)
  · replace h := h.1 hc
    refine g_iload_n C dR_held_9 rfl ?_
    refine g_iload_n C dR_held_10 rfl ?_
    refine g_icmp_le C 18 dR_held_11 (by decide) (fun hc => ?_) (fun hc => ?_)
    · replace h := h.1 hc
      refine g_iload_n C dR_held_18 rfl ?_
      exact hR _ _ _ _ dR_held_19 rfl h
    · replace h := h.2 hc
      refine g_iload_n C dR_held_14 rfl ?_
      refine g_goto C 19 dR_held_15 (by decide) ?_
      exact hR _ _ _ _ dR_held_19 rfl h
  · replace h := h.2 hc
    refine g_iload_n C dR_held_5 rfl ?_
    refine g_goto C 19 dR_held_6 (by decide) ?_
    exact hR _ _ _ _ dR_held_19 rfl h
def wC_Rcarry_2 (a1 : Nat) (a2 : Nat) (k : gSt → Prop) (r2 : Int → gSt → Prop) (X2_21 : gSt → Prop) (v2 : Int) (M : gSt) : Prop :=

  (536 ≤ wrap v2 →
    X2_21  M) ∧
  (wrap v2 < 536 →
    (isA a1 ∧ 0 ≤ v2 ∧ v2 < lenR a1) ∧ ((isA a2 ∧ 0 ≤ v2 ∧ v2 < lenR a2) ∧ (∀ M14 : gSt, M14 = wr M a2 v2 (M a1 v2) → (r2 (v2 + 1) M14))))
def wL_Rcarry_2 (a1 : Nat) (a2 : Nat) (k : gSt → Prop)  (X2_21 : gSt → Prop) : Nat → Int → gSt → Prop
  | 0 => fun _ _ => False
  | n + 1 => fun v2 M => wC_Rcarry_2 a1 a2 k  (wL_Rcarry_2 a1 a2 k  X2_21 n) X2_21 v2 M
def w_Rcarry (a1 : Nat) (a2 : Nat) (M : gSt) (k : gSt → Prop) : Prop :=
∃ n, wL_Rcarry_2 a1 a2 k  (fun  M2 =>
    k M2) n 0 M
set_option maxHeartbeats 4000000 in
set_option maxRecDepth 100000 in
theorem m_Rcarry {l : Launch} {D : va_G} {cl : List vw_C} {tys : List (ClassId × FieldType)} {ad : Nat → Nat} {cI : ClassId} {ci : Nat} (hci : cl[ci]? = some (RX9, TX9, 23)) {a1 : Nat} {a2 : Nat} {M : gSt} {k : gSt → Prop} (h : w_Rcarry a1 a2 M k) : MOv l yX9_carry cX9_carry 3 (rmR 0 0) D cl ((cI, .int) :: tys) (wR ad cI ci) tR [.ref (ad a1), .ref (ad a2)] M k := by
  refine mov_intro (by decide +kernel) (Nat.le_of_ble_eq_true rfl) wi_23 ?_
  intro p e s m args below meth c A Q C hR
  have pC2 : ∀ (r2 : Int → gSt → Prop) (X2_21 : gSt → Prop) (hr2 : ∀ (v2 : Int) (M : gSt), r2 v2 M → gG p l e (rmR 0 0) s m args below meth c Q D cl A (wR ad cI ci) 3 2 [(0, .ref (ad a1)), (1, .ref (ad a2)), (2, iv v2)] [] M) (hX2_21 : ∀  (M : gSt), X2_21  M → gG p l e (rmR 0 0) s m args below meth c Q D cl A (wR ad cI ci) 3 21 [] [] M) (v2 : Int) (M : gSt), wC_Rcarry_2 a1 a2 k r2 X2_21 v2 M → gG p l e (rmR 0 0) s m args below meth c Q D cl A (wR ad cI ci) 3 2 [(0, .ref (ad a1)), (1, .ref (ad a2)), (2, iv v2)] [] M := by
    intro r2 X2_21 hr2 hX2_21 v2 M h
    unfold wC_Rcarry_2 at h
    refine g_iload_n C dR_carry_2 rfl ?_
    refine g_sipush C dR_carry_3 rfl ?_
    refine g_icmp_ge C 21 dR_carry_6 (by decide) (fun hc => ?_) (fun hc => ?_)
    · replace h := h.1 hc
      refine g_locals (lv' := []) rfl ?_
      exact hX2_21  _ h
    · replace h := h.2 hc
      refine g_aload_n C dR_carry_9 rfl ?_
      refine g_iload_n C dR_carry_10 rfl ?_
      refine g_aload_n C dR_carry_11 rfl ?_
      refine g_iload_n C dR_carry_12 rfl ?_
      refine g_iald C dR_carry_13 (arrR h.1.1).1 (arrR (ci := ci) h.1.1).2 h.1.2 ?_
      replace h := h.2
      refine g_iast C dR_carry_14 (arrR h.1.1).1 (arrR (ci := ci) h.1.1).2 h.1.2 ?_
      replace h := h.2
      refine g_memname (fun M14 hM14 => ?_)
      replace h := h M14 hM14
      refine g_iinc C dR_carry_15 rfl (by decide) rfl ?_
      refine g_locals (lv' := [(0, .ref (ad a1)), (1, .ref (ad a2)), (2, iv (v2 + 1))]) rfl ?_
      refine g_goto C 2 dR_carry_18 (by decide) ?_
      refine g_locals (lv' := [(0, .ref (ad a1)), (1, .ref (ad a2)), (2, iv (v2 + 1))]) rfl ?_
      exact hr2 _  _ h
  have pL2 : ∀  (X2_21 : gSt → Prop) (hX2_21 : ∀  (M : gSt), X2_21  M → gG p l e (rmR 0 0) s m args below meth c Q D cl A (wR ad cI ci) 3 21 [] [] M) (n : Nat) (v2 : Int) (M : gSt), wL_Rcarry_2 a1 a2 k  X2_21 n v2 M → gG p l e (rmR 0 0) s m args below meth c Q D cl A (wR ad cI ci) 3 2 [(0, .ref (ad a1)), (1, .ref (ad a2)), (2, iv v2)] [] M := by
    intro  X2_21 hX2_21 n
    induction n with
    | zero => intro v2 M h; exact h.elim
    | succ n ih =>
      intro v2 M h
      exact pC2  (wL_Rcarry_2 a1 a2 k  X2_21 n) X2_21 ih hX2_21 v2 M h
  refine g_locals (lv' := [(0, .ref (ad a1)), (1, .ref (ad a2))]) rfl ?_
  unfold w_Rcarry at h
  refine g_iconst C dR_carry_0 ?_
  refine g_istore_n C dR_carry_1 (by decide) rfl ?_
  refine g_locals (lv' := [(0, .ref (ad a1)), (1, .ref (ad a2)), (2, iv 0)]) rfl ?_
  refine g_locals (lv' := [(0, .ref (ad a1)), (1, .ref (ad a2)), (2, iv 0)]) rfl ?_
  obtain ⟨n, h⟩ := h
  refine pL2 _ ?_ n _ _ h
  · intro  M2 h
    exact hR _ _ _ dR_carry_21 h
def w_RisThing (a1 : Int) (M : gSt) (k : Int → gSt → Prop) : Prop :=
w_Rin a1 0 ((M 1 0) - 1) M (fun r10c M10 => (r10c = 0 ∨ r10c = 1) ∧ (k r10c M10))
set_option maxHeartbeats 4000000 in
set_option maxRecDepth 100000 in
theorem m_RisThing {l : Launch} {D : va_G} {cl : List vw_C} {tys : List (ClassId × FieldType)} {ad : Nat → Nat} {cI : ClassId} {ci : Nat} (hci : cl[ci]? = some (RX9, TX9, 23)) {a1 : Int} {M : gSt} {k : Int → gSt → Prop} (h : w_RisThing a1 M k) : MOi l yX9_isThing cX9_isThing 2 .boolean (rmR 1 22) D cl ((cI, .int) :: tys) (wR ad cI ci) tR [.ref (ad 0), iv a1] M k := by
  refine moi_intro (by decide +kernel) (Nat.le_of_ble_eq_true rfl) wi_27 ?_
  intro p e s m args below meth c A Q C hR
  refine g_locals (lv' := [(0, .ref (ad 0)), (1, iv a1)]) rfl ?_
  unfold w_RisThing at h
  refine g_iload_n C dR_isThing_0 rfl ?_
  refine g_iconst C dR_isThing_1 ?_
  refine g_aload_n C dR_isThing_2 rfl ?_
  refine rf_s C hci dR_isThing_3 ?_
  refine g_iconst C dR_isThing_6 ?_
  refine g_iald C (n := 536) dR_isThing_7 rfl (by decide) ⟨by decide, by decide⟩ ?_
  refine g_iconst C dR_isThing_8 ?_
  refine g_isub C dR_isThing_9 ?_
  refine g_callSi C (nargs := 3) (st := []) (m_Rin hci h) gd_in (by decide +kernel) ⟨rfl, rfl⟩ dR_isThing_10 ⟨by decide, by decide⟩ rfl rfl (Nat.le_of_ble_eq_true rfl) ?_
  intro r10c M10 h
  exact hR _ _ _ _ dR_isThing_13 (zn_bool h.1).1 h.2
def w_Rits (a1 : Int) (a2 : Int) (M : gSt) (k : Int → gSt → Prop) : Prop :=
(0 ≤ (10 + (10 * a1)) + a2 ∧ (10 + (10 * a1)) + a2 < 536) ∧ (k (M 1 ((10 + (10 * a1)) + a2)) M)
set_option maxHeartbeats 4000000 in
set_option maxRecDepth 100000 in
theorem m_Rits {l : Launch} {D : va_G} {cl : List vw_C} {tys : List (ClassId × FieldType)} {ad : Nat → Nat} {cI : ClassId} {ci : Nat} (hci : cl[ci]? = some (RX9, TX9, 23)) {a1 : Int} {a2 : Int} {M : gSt} {k : Int → gSt → Prop} (h : w_Rits a1 a2 M k) : MOi l yX9_its cX9_its 3 .int (rmR 0 0) D cl ((cI, .int) :: tys) (wR ad cI ci) tR [.ref (ad 0), iv a1, iv a2] M k := by
  refine moi_intro (by decide +kernel) (Nat.le_of_ble_eq_true rfl) wi_28 ?_
  intro p e s m args below meth c A Q C hR
  refine g_locals (lv' := [(0, .ref (ad 0)), (1, iv a1), (2, iv a2)]) rfl ?_
  unfold w_Rits at h
  refine g_aload_n C dR_its_0 rfl ?_
  refine rf_s C hci dR_its_1 ?_
  refine g_bipush C dR_its_4 rfl ?_
  refine g_bipush C dR_its_6 rfl ?_
  refine g_iload_n C dR_its_8 rfl ?_
  refine g_imul C dR_its_9 ?_
  refine g_iadd C dR_its_10 ?_
  refine g_iload_n C dR_its_11 rfl ?_
  refine g_iadd C dR_its_12 ?_
  refine g_iald C (n := 536) dR_its_13 rfl (by decide) h.1 ?_
  replace h := h.2
  exact hR _ _ _ _ dR_its_14 rfl h
def w_Rlays1 (a1 : Int) (a2 : Int) (a3 : Int) (M : gSt) (k : gSt → Prop) : Prop :=
(0 ≤ (10 + (10 * a1)) + a2 ∧ (10 + (10 * a1)) + a2 < 536) ∧ (∀ M14 : gSt, M14 = wr M 1 ((10 + (10 * a1)) + a2) a3 → (k M14))
set_option maxHeartbeats 4000000 in
set_option maxRecDepth 100000 in
theorem m_Rlays1 {l : Launch} {D : va_G} {cl : List vw_C} {tys : List (ClassId × FieldType)} {ad : Nat → Nat} {cI : ClassId} {ci : Nat} (hci : cl[ci]? = some (RX9, TX9, 23)) {a1 : Int} {a2 : Int} {a3 : Int} {M : gSt} {k : gSt → Prop} (h : w_Rlays1 a1 a2 a3 M k) : MOv l yX9_lays1 cX9_lays1 4 (rmR 0 0) D cl ((cI, .int) :: tys) (wR ad cI ci) tR [.ref (ad 0), iv a1, iv a2, iv a3] M k := by
  refine mov_intro (by decide +kernel) (Nat.le_of_ble_eq_true rfl) wi_29 ?_
  intro p e s m args below meth c A Q C hR
  refine g_locals (lv' := [(0, .ref (ad 0)), (1, iv a1), (2, iv a2), (3, iv a3)]) rfl ?_
  unfold w_Rlays1 at h
  refine g_aload_n C dR_lays1_0 rfl ?_
  refine rf_s C hci dR_lays1_1 ?_
  refine g_bipush C dR_lays1_4 rfl ?_
  refine g_bipush C dR_lays1_6 rfl ?_
  refine g_iload_n C dR_lays1_8 rfl ?_
  refine g_imul C dR_lays1_9 ?_
  refine g_iadd C dR_lays1_10 ?_
  refine g_iload_n C dR_lays1_11 rfl ?_
  refine g_iadd C dR_lays1_12 ?_
  refine g_iload_n C dR_lays1_13 rfl ?_
  refine g_iast C (n := 536) dR_lays1_14 rfl (by decide) h.1 ?_
  replace h := h.2
  refine g_memname (fun M14 hM14 => ?_)
  replace h := h M14 hM14
  exact hR _ _ _ dR_lays1_15 h
def wC_RaddThing_9 (a1 : Int) (k : Int → gSt → Prop) (r9 : Int → Int → gSt → Prop) (X9_28 : Int → gSt → Prop) (v2 : Int) (v3 : Int) (M : gSt) : Prop :=

  (10 ≤ wrap v3 →
    X9_28 v2 M) ∧
  (wrap v3 < 10 →
    w_Rlays1 v2 v3 0 M (fun M19 => r9 v2 (v3 + 1) M19))
def wL_RaddThing_9 (a1 : Int) (k : Int → gSt → Prop)  (X9_28 : Int → gSt → Prop) : Nat → Int → Int → gSt → Prop
  | 0 => fun _ _ _ => False
  | n + 1 => fun v2 v3 M => wC_RaddThing_9 a1 k  (wL_RaddThing_9 a1 k  X9_28 n) X9_28 v2 v3 M
def w_RaddThing (a1 : Int) (M : gSt) (k : Int → gSt → Prop) : Prop :=
∀ x2_6 : Int, x2_6 = M 1 0 → (∃ n, wL_RaddThing_9 a1 k  (fun u2_9 M9 =>
    w_Rlays1 u2_9 0 (Int.tdiv (wrap a1) 100) M9 (fun M35 => w_Rlays1 u2_9 1 (Int.tmod (wrap a1) 100) M35 (fun M45 => ∀ M57 : gSt, M57 = wr M45 1 0 ((M45 1 0) + 1) → (k u2_9 M57)))) n x2_6 0 M)
set_option maxHeartbeats 4000000 in
set_option maxRecDepth 100000 in
theorem m_RaddThing {l : Launch} {D : va_G} {cl : List vw_C} {tys : List (ClassId × FieldType)} {ad : Nat → Nat} {cI : ClassId} {ci : Nat} (hci : cl[ci]? = some (RX9, TX9, 23)) {a1 : Int} {M : gSt} {k : Int → gSt → Prop} (h : w_RaddThing a1 M k) : MOi l yX9_addThing cX9_addThing 4 .int (rmR 1 23) D cl ((cI, .int) :: tys) (wR ad cI ci) tR [.ref (ad 0), iv a1] M k := by
  refine moi_intro (by decide +kernel) (Nat.le_of_ble_eq_true rfl) wi_33 ?_
  intro p e s m args below meth c A Q C hR
  have pC9 : ∀ (r9 : Int → Int → gSt → Prop) (X9_28 : Int → gSt → Prop) (hr9 : ∀ (v2 : Int) (v3 : Int) (M : gSt), r9 v2 v3 M → gG p l e (rmR 1 23) s m args below meth c Q D cl A (wR ad cI ci) 4 9 [(0, .ref (ad 0)), (1, iv a1), (2, iv v2), (3, iv v3)] [] M) (hX9_28 : ∀ (v2 : Int) (M : gSt), X9_28 v2 M → gG p l e (rmR 1 23) s m args below meth c Q D cl A (wR ad cI ci) 4 28 [(0, .ref (ad 0)), (1, iv a1), (2, iv v2)] [] M) (v2 : Int) (v3 : Int) (M : gSt), wC_RaddThing_9 a1 k r9 X9_28 v2 v3 M → gG p l e (rmR 1 23) s m args below meth c Q D cl A (wR ad cI ci) 4 9 [(0, .ref (ad 0)), (1, iv a1), (2, iv v2), (3, iv v3)] [] M := by
    intro r9 X9_28 hr9 hX9_28 v2 v3 M h
    unfold wC_RaddThing_9 at h
    refine g_iload_n C dR_addThing_9 rfl ?_
    refine g_bipush C dR_addThing_10 rfl ?_
    refine g_icmp_ge C 28 dR_addThing_12 (by decide) (fun hc => ?_) (fun hc => ?_)
    · replace h := h.1 hc
      refine g_locals (lv' := [(0, .ref (ad 0)), (1, iv a1), (2, iv v2)]) rfl ?_
      exact hX9_28 _  _ h
    · replace h := h.2 hc
      refine g_aload_n C dR_addThing_15 rfl ?_
      refine g_iload_n C dR_addThing_16 rfl ?_
      refine g_iload_n C dR_addThing_17 rfl ?_
      refine g_iconst C dR_addThing_18 ?_
      refine g_callVv C (nargs := 3) (o := 0) (st := []) (m_Rlays1 hci h) rfl (by decide) hci rfl gd_lays1 (by decide +kernel) ⟨rfl, rfl⟩ dR_addThing_19 ⟨by decide, by decide⟩ rfl rfl (Nat.le_of_ble_eq_true rfl) ?_
      intro M19 h
      refine g_iinc C dR_addThing_22 rfl (by decide) rfl ?_
      refine g_locals (lv' := [(0, .ref (ad 0)), (1, iv a1), (2, iv v2), (3, iv (v3 + 1))]) rfl ?_
      refine g_goto C 9 dR_addThing_25 (by decide) ?_
      refine g_locals (lv' := [(0, .ref (ad 0)), (1, iv a1), (2, iv v2), (3, iv (v3 + 1))]) rfl ?_
      exact hr9 _ _  _ h
  have pL9 : ∀  (X9_28 : Int → gSt → Prop) (hX9_28 : ∀ (v2 : Int) (M : gSt), X9_28 v2 M → gG p l e (rmR 1 23) s m args below meth c Q D cl A (wR ad cI ci) 4 28 [(0, .ref (ad 0)), (1, iv a1), (2, iv v2)] [] M) (n : Nat) (v2 : Int) (v3 : Int) (M : gSt), wL_RaddThing_9 a1 k  X9_28 n v2 v3 M → gG p l e (rmR 1 23) s m args below meth c Q D cl A (wR ad cI ci) 4 9 [(0, .ref (ad 0)), (1, iv a1), (2, iv v2), (3, iv v3)] [] M := by
    intro  X9_28 hX9_28 n
    induction n with
    | zero => intro v2 v3 M h; exact h.elim
    | succ n ih =>
      intro v2 v3 M h
      exact pC9  (wL_RaddThing_9 a1 k  X9_28 n) X9_28 ih hX9_28 v2 v3 M h
  refine g_locals (lv' := [(0, .ref (ad 0)), (1, iv a1)]) rfl ?_
  unfold w_RaddThing at h
  refine g_aload_n C dR_addThing_0 rfl ?_
  refine rf_s C hci dR_addThing_1 ?_
  refine g_iconst C dR_addThing_4 ?_
  refine g_iald C (n := 536) dR_addThing_5 rfl (by decide) ⟨by decide, by decide⟩ ?_
  refine g_name (fun x2_6 hx2_6 => ?_)
  replace h := h x2_6 hx2_6
  refine g_istore_n C dR_addThing_6 (by decide) rfl ?_
  refine g_locals (lv' := [(0, .ref (ad 0)), (1, iv a1), (2, iv x2_6)]) rfl ?_
  refine g_iconst C dR_addThing_7 ?_
  refine g_istore_n C dR_addThing_8 (by decide) rfl ?_
  refine g_locals (lv' := [(0, .ref (ad 0)), (1, iv a1), (2, iv x2_6), (3, iv 0)]) rfl ?_
  refine g_locals (lv' := [(0, .ref (ad 0)), (1, iv a1), (2, iv x2_6), (3, iv 0)]) rfl ?_
  obtain ⟨n, h⟩ := h
  refine pL9 _ ?_ n _ _ _ h
  · intro u2_9 M9 h
    refine g_aload_n C dR_addThing_28 rfl ?_
    refine g_iload_n C dR_addThing_29 rfl ?_
    refine g_iconst C dR_addThing_30 ?_
    refine g_iload_n C dR_addThing_31 rfl ?_
    refine g_bipush C dR_addThing_32 rfl ?_
    refine g_idiv C dR_addThing_34 (by decide) ?_
    refine g_top (y := Int.tdiv (wrap a1) 100) rfl ?_
    refine g_callVv C (nargs := 3) (o := 0) (st := []) (m_Rlays1 hci h) rfl (by decide) hci rfl gd_lays1 (by decide +kernel) ⟨rfl, rfl⟩ dR_addThing_35 ⟨by decide, by decide⟩ rfl rfl (Nat.le_of_ble_eq_true rfl) ?_
    intro M35 h
    refine g_aload_n C dR_addThing_38 rfl ?_
    refine g_iload_n C dR_addThing_39 rfl ?_
    refine g_iconst C dR_addThing_40 ?_
    refine g_iload_n C dR_addThing_41 rfl ?_
    refine g_bipush C dR_addThing_42 rfl ?_
    refine g_irem C dR_addThing_44 (by decide) ?_
    refine g_top (y := Int.tmod (wrap a1) 100) rfl ?_
    refine g_callVv C (nargs := 3) (o := 0) (st := []) (m_Rlays1 hci h) rfl (by decide) hci rfl gd_lays1 (by decide +kernel) ⟨rfl, rfl⟩ dR_addThing_45 ⟨by decide, by decide⟩ rfl rfl (Nat.le_of_ble_eq_true rfl) ?_
    intro M45 h
    refine g_aload_n C dR_addThing_48 rfl ?_
    refine rf_s C hci dR_addThing_49 ?_
    refine g_iconst C dR_addThing_52 ?_
    refine g_dup2 C dR_addThing_53 rfl rfl ?_
    refine g_iald C (n := 536) dR_addThing_54 rfl (by decide) ⟨by decide, by decide⟩ ?_
    refine g_iconst C dR_addThing_55 ?_
    refine g_iadd C dR_addThing_56 ?_
    refine g_iast C (n := 536) dR_addThing_57 rfl (by decide) ⟨by decide, by decide⟩ ?_
    refine g_memname (fun M57 hM57 => ?_)
    replace h := h M57 hM57
    refine g_iload_n C dR_addThing_58 rfl ?_
    exact hR _ _ _ _ dR_addThing_59 rfl h
def wB_Rthing_21 (a1 : Int) (a2 : Int) (k : Int → gSt → Prop)   (M : gSt) : Prop :=
w_Rerror 1 M (fun r23c M23 => k r23c M23)
def w_Rthing (a1 : Int) (a2 : Int) (M : gSt) (k : Int → gSt → Prop) : Prop :=
w_Rin a1 0 699 M (fun r5c M5 => 
  (wrap r5c = 0 →
    wB_Rthing_21 a1 a2 k   M5) ∧
  (¬ wrap r5c = 0 →
    w_Rin a2 0 9999999 M5 (fun r15c M15 => 
    (¬ wrap r15c = 0 →

      (¬ wrap (M15 1 0) = 12 →
        w_RaddThing a1 M15 (fun r46c M46 => w_Rlays1 r46c 2 a2 M46 (fun M54 => 
        (4 ≤ wrap (M54 1 1) →
          k r46c M54) ∧
        (wrap (M54 1 1) < 4 →
          w_Rlays1 r46c (6 + (M54 1 1)) 1000000 M54 (fun M80 => ∀ M92 : gSt, M92 = wr M80 1 1 ((M80 1 1) + 1) → (k r46c M92)))))) ∧
      (wrap (M15 1 0) = 12 →
        w_Rerror 4 M15 (fun r40c M40 => k r40c M40))) ∧
    (wrap r15c = 0 →
      wB_Rthing_21 a1 a2 k   M15))))
set_option maxHeartbeats 4000000 in
set_option maxRecDepth 100000 in
theorem m_Rthing {l : Launch} {D : va_G} {cl : List vw_C} {tys : List (ClassId × FieldType)} {ad : Nat → Nat} {cI : ClassId} {ci : Nat} (hci : cl[ci]? = some (RX9, TX9, 23)) {a1 : Int} {a2 : Int} {M : gSt} {k : Int → gSt → Prop} (h : w_Rthing a1 a2 M k) : MOi l yX9_thing cX9_thing 4 .int (rmR 2 46) D cl ((cI, .int) :: tys) (wR ad cI ci) tR [.ref (ad 0), iv a1, iv a2] M k := by
  refine moi_intro (by decide +kernel) (Nat.le_of_ble_eq_true rfl) wi_42 ?_
  intro p e s m args below meth c A Q C hR
  have pB21 : ∀    (M : gSt), wB_Rthing_21 a1 a2 k   M → gG p l e (rmR 2 46) s m args below meth c Q D cl A (wR ad cI ci) 4 21 [(0, .ref (ad 0))] [] M := by
    intro    M h
    unfold wB_Rthing_21 at h
    refine g_aload_n C dR_thing_21 rfl ?_
    refine g_iconst C dR_thing_22 ?_
    refine g_callVi C (nargs := 1) (o := 0) (st := []) (m_Rerror hci h) rfl (by decide) hci rfl gd_error (by decide +kernel) ⟨rfl, rfl⟩ dR_thing_23 ⟨by decide, by decide⟩ rfl rfl (Nat.le_of_ble_eq_true rfl) ?_
    intro r23c M23 h
    exact hR _ _ _ _ dR_thing_26 rfl h
  refine g_locals (lv' := [(0, .ref (ad 0)), (1, iv a1), (2, iv a2)]) rfl ?_
  unfold w_Rthing at h
  refine g_iload_n C dR_thing_0 rfl ?_
  refine g_iconst C dR_thing_1 ?_
  refine g_sipush C dR_thing_2 rfl ?_
  refine g_callSi C (nargs := 3) (st := []) (m_Rin hci h) gd_in (by decide +kernel) ⟨rfl, rfl⟩ dR_thing_5 ⟨by decide, by decide⟩ rfl rfl (Nat.le_of_ble_eq_true rfl) ?_
  intro r5c M5 h
  refine g_if_eq C 21 dR_thing_8 (by decide) (fun hc => ?_) (fun hc => ?_)
  · replace h := h.1 hc
    refine g_locals (lv' := [(0, .ref (ad 0))]) rfl ?_
    exact pB21  _ h
  · replace h := h.2 hc
    refine g_iload_n C dR_thing_11 rfl ?_
    refine g_iconst C dR_thing_12 ?_
    refine g_ldc C 9999999 wi_34 rfl dR_thing_13 ?_
    refine g_callSi C (nargs := 3) (st := []) (m_Rin hci h) gd_in (by decide +kernel) ⟨rfl, rfl⟩ dR_thing_15 ⟨by decide, by decide⟩ rfl rfl (Nat.le_of_ble_eq_true rfl) ?_
    intro r15c M15 h
    refine g_if_ne C 27 dR_thing_18 (by decide) (fun hc => ?_) (fun hc => ?_)
    · replace h := h.1 hc
      refine g_aload_n C dR_thing_27 rfl ?_
      refine rf_s C hci dR_thing_28 ?_
      refine g_iconst C dR_thing_31 ?_
      refine g_iald C (n := 536) dR_thing_32 rfl (by decide) ⟨by decide, by decide⟩ ?_
      refine g_bipush C dR_thing_33 rfl ?_
      refine g_icmp_ne C 44 dR_thing_35 (by decide) (fun hc => ?_) (fun hc => ?_)
      · replace h := h.1 hc
        refine g_aload_n C dR_thing_44 rfl ?_
        refine g_iload_n C dR_thing_45 rfl ?_
        refine g_callVi C (nargs := 1) (o := 0) (st := []) (m_RaddThing hci h) rfl (by decide) hci rfl gd_addThing (by decide +kernel) ⟨rfl, rfl⟩ dR_thing_46 ⟨by decide, by decide⟩ rfl rfl (Nat.le_of_ble_eq_true rfl) ?_
        intro r46c M46 h
        refine g_istore_n C dR_thing_49 (by decide) rfl ?_
        refine g_locals (lv' := [(0, .ref (ad 0)), (1, iv a1), (2, iv a2), (3, iv r46c)]) rfl ?_
        refine g_aload_n C dR_thing_50 rfl ?_
        refine g_iload_n C dR_thing_51 rfl ?_
        refine g_iconst C dR_thing_52 ?_
        refine g_iload_n C dR_thing_53 rfl ?_
        refine g_callVv C (nargs := 3) (o := 0) (st := []) (m_Rlays1 hci h) rfl (by decide) hci rfl gd_lays1 (by decide +kernel) ⟨rfl, rfl⟩ dR_thing_54 ⟨by decide, by decide⟩ rfl rfl (Nat.le_of_ble_eq_true rfl) ?_
        intro M54 h
        refine g_aload_n C dR_thing_57 rfl ?_
        refine rf_s C hci dR_thing_58 ?_
        refine g_iconst C dR_thing_61 ?_
        refine g_iald C (n := 536) dR_thing_62 rfl (by decide) ⟨by decide, by decide⟩ ?_
        refine g_iconst C dR_thing_63 ?_
        refine g_icmp_ge C 93 dR_thing_64 (by decide) (fun hc => ?_) (fun hc => ?_)
        · replace h := h.1 hc
          refine g_iload_n C dR_thing_93 rfl ?_
          exact hR _ _ _ _ dR_thing_94 rfl h
        · replace h := h.2 hc
          refine g_aload_n C dR_thing_67 rfl ?_
          refine g_iload_n C dR_thing_68 rfl ?_
          refine g_bipush C dR_thing_69 rfl ?_
          refine g_aload_n C dR_thing_71 rfl ?_
          refine rf_s C hci dR_thing_72 ?_
          refine g_iconst C dR_thing_75 ?_
          refine g_iald C (n := 536) dR_thing_76 rfl (by decide) ⟨by decide, by decide⟩ ?_
          refine g_iadd C dR_thing_77 ?_
          refine g_ldc C 1000000 wi_35 rfl dR_thing_78 ?_
          refine g_callVv C (nargs := 3) (o := 0) (st := []) (m_Rlays1 hci h) rfl (by decide) hci rfl gd_lays1 (by decide +kernel) ⟨rfl, rfl⟩ dR_thing_80 ⟨by decide, by decide⟩ rfl rfl (Nat.le_of_ble_eq_true rfl) ?_
          intro M80 h
          refine g_aload_n C dR_thing_83 rfl ?_
          refine rf_s C hci dR_thing_84 ?_
          refine g_iconst C dR_thing_87 ?_
          refine g_dup2 C dR_thing_88 rfl rfl ?_
          refine g_iald C (n := 536) dR_thing_89 rfl (by decide) ⟨by decide, by decide⟩ ?_
          refine g_iconst C dR_thing_90 ?_
          refine g_iadd C dR_thing_91 ?_
          refine g_iast C (n := 536) dR_thing_92 rfl (by decide) ⟨by decide, by decide⟩ ?_
          refine g_memname (fun M92 hM92 => ?_)
          replace h := h M92 hM92
          refine g_iload_n C dR_thing_93 rfl ?_
          exact hR _ _ _ _ dR_thing_94 rfl h
      · replace h := h.2 hc
        refine g_aload_n C dR_thing_38 rfl ?_
        refine g_iconst C dR_thing_39 ?_
        refine g_callVi C (nargs := 1) (o := 0) (st := []) (m_Rerror hci h) rfl (by decide) hci rfl gd_error (by decide +kernel) ⟨rfl, rfl⟩ dR_thing_40 ⟨by decide, by decide⟩ rfl rfl (Nat.le_of_ble_eq_true rfl) ?_
        intro r40c M40 h
        exact hR _ _ _ _ dR_thing_43 rfl h
    · replace h := h.2 hc
      refine g_locals (lv' := [(0, .ref (ad 0))]) rfl ?_
      exact pB21  _ h
def w_RpartOf (a1 : Int) (a2 : Int) (a3 : Int) (M : gSt) (k : Int → gSt → Prop) : Prop :=
(wrapL (wrap a3) ≠ 0) ∧ (k (Int.tdiv (wrapL ((wrap a1) * (wrap a2))) (wrapL (wrap a3))) M)
set_option maxHeartbeats 4000000 in
set_option maxRecDepth 100000 in
theorem m_RpartOf {l : Launch} {D : va_G} {cl : List vw_C} {tys : List (ClassId × FieldType)} {ad : Nat → Nat} {cI : ClassId} {ci : Nat} (hci : cl[ci]? = some (RX9, TX9, 23)) {a1 : Int} {a2 : Int} {a3 : Int} {M : gSt} {k : Int → gSt → Prop} (h : w_RpartOf a1 a2 a3 M k) : MOi l yX9_partOf cX9_partOf 3 .int (rmR 0 0) D cl ((cI, .int) :: tys) (wR ad cI ci) tR [iv a1, iv a2, iv a3] M k := by
  refine moi_intro (by decide +kernel) (Nat.le_of_ble_eq_true rfl) wi_43 ?_
  intro p e s m args below meth c A Q C hR
  refine g_locals (lv' := [(0, iv a1), (1, iv a2), (2, iv a3)]) rfl ?_
  unfold w_RpartOf at h
  refine g_iload_n C dR_partOf_0 rfl ?_
  refine g_i2l C dR_partOf_1 ?_
  refine g_iload_n C dR_partOf_2 rfl ?_
  refine g_i2l C dR_partOf_3 ?_
  refine g_lmul C dR_partOf_4 ?_
  refine g_iload_n C dR_partOf_5 rfl ?_
  refine g_i2l C dR_partOf_6 ?_
  refine g_ldiv C dR_partOf_7 h.1 ?_
  replace h := h.2
  refine g_topL (y := Int.tdiv (wrapL ((wrap a1) * (wrap a2))) (wrapL (wrap a3))) rfl ?_
  refine g_l2i C dR_partOf_8 ?_
  exact hR _ _ _ _ dR_partOf_9 rfl h
def w_Rthousandths (a1 : Int) (M : gSt) (k : Int → gSt → Prop) : Prop :=
w_Rits a1 2 M (fun r3c M3 => 
  (¬ wrap r3c = 0 →
    w_Rits a1 3 M3 (fun r16c M16 => w_Rits a1 2 M16 (fun r25c M25 => w_RpartOf r16c 1000 r25c M25 (fun r28c M28 => k r28c M28)))) ∧
  (wrap r3c = 0 →
    k 0 M3))
set_option maxHeartbeats 4000000 in
set_option maxRecDepth 100000 in
theorem m_Rthousandths {l : Launch} {D : va_G} {cl : List vw_C} {tys : List (ClassId × FieldType)} {ad : Nat → Nat} {cI : ClassId} {ci : Nat} (hci : cl[ci]? = some (RX9, TX9, 23)) {a1 : Int} {M : gSt} {k : Int → gSt → Prop} (h : w_Rthousandths a1 M k) : MOi l yX9_thousandths cX9_thousandths 2 .int (rmR 1 22) D cl ((cI, .int) :: tys) (wR ad cI ci) tR [.ref (ad 0), iv a1] M k := by
  refine moi_intro (by decide +kernel) (Nat.le_of_ble_eq_true rfl) wi_49 ?_
  intro p e s m args below meth c A Q C hR
  refine g_locals (lv' := [(0, .ref (ad 0)), (1, iv a1)]) rfl ?_
  unfold w_Rthousandths at h
  refine g_aload_n C dR_thousandths_0 rfl ?_
  refine g_iload_n C dR_thousandths_1 rfl ?_
  refine g_iconst C dR_thousandths_2 ?_
  refine g_callVi C (nargs := 2) (o := 0) (st := []) (m_Rits hci h) rfl (by decide) hci rfl gd_its (by decide +kernel) ⟨rfl, rfl⟩ dR_thousandths_3 ⟨by decide, by decide⟩ rfl rfl (Nat.le_of_ble_eq_true rfl) ?_
  intro r3c M3 h
  refine g_if_ne C 13 dR_thousandths_6 (by decide) (fun hc => ?_) (fun hc => ?_)
  · replace h := h.1 hc
    refine g_aload_n C dR_thousandths_13 rfl ?_
    refine g_iload_n C dR_thousandths_14 rfl ?_
    refine g_iconst C dR_thousandths_15 ?_
    refine g_callVi C (nargs := 2) (o := 0) (st := []) (m_Rits hci h) rfl (by decide) hci rfl gd_its (by decide +kernel) ⟨rfl, rfl⟩ dR_thousandths_16 ⟨by decide, by decide⟩ rfl rfl (Nat.le_of_ble_eq_true rfl) ?_
    intro r16c M16 h
    refine g_sipush C dR_thousandths_19 rfl ?_
    refine g_aload_n C dR_thousandths_22 rfl ?_
    refine g_iload_n C dR_thousandths_23 rfl ?_
    refine g_iconst C dR_thousandths_24 ?_
    refine g_callVi C (nargs := 2) (o := 0) (st := [iv 1000, iv r16c]) (m_Rits hci h) rfl (by decide) hci rfl gd_its (by decide +kernel) ⟨rfl, rfl⟩ dR_thousandths_25 ⟨by decide, by decide⟩ rfl rfl (Nat.le_of_ble_eq_true rfl) ?_
    intro r25c M25 h
    refine g_callSi C (nargs := 3) (st := []) (m_RpartOf hci h) gd_partOf (by decide +kernel) ⟨rfl, rfl⟩ dR_thousandths_28 ⟨by decide, by decide⟩ rfl rfl (Nat.le_of_ble_eq_true rfl) ?_
    intro r28c M28 h
    exact hR _ _ _ _ dR_thousandths_31 rfl h
  · replace h := h.2 hc
    refine g_iconst C dR_thousandths_9 ?_
    refine g_goto C 31 dR_thousandths_10 (by decide) ?_
    exact hR _ _ _ _ dR_thousandths_31 rfl h
def w_RhasText (a1 : Int) (M : gSt) (k : Int → gSt → Prop) : Prop :=
(0 ≤ 202 + (125 * a1) ∧ 202 + (125 * a1) < 536) ∧ (
  (wrap (M 1 (202 + (125 * a1))) ≤ 0 →
    k 0 M) ∧
  (0 < wrap (M 1 (202 + (125 * a1))) →
    k 1 M))
set_option maxHeartbeats 4000000 in
set_option maxRecDepth 100000 in
theorem m_RhasText {l : Launch} {D : va_G} {cl : List vw_C} {tys : List (ClassId × FieldType)} {ad : Nat → Nat} {cI : ClassId} {ci : Nat} (hci : cl[ci]? = some (RX9, TX9, 23)) {a1 : Int} {M : gSt} {k : Int → gSt → Prop} (h : w_RhasText a1 M k) : MOi l yX9_hasText cX9_hasText 2 .boolean (rmR 0 0) D cl ((cI, .int) :: tys) (wR ad cI ci) tR [.ref (ad 0), iv a1] M k := by
  refine moi_intro (by decide +kernel) (Nat.le_of_ble_eq_true rfl) wi_50 ?_
  intro p e s m args below meth c A Q C hR
  refine g_locals (lv' := [(0, .ref (ad 0)), (1, iv a1)]) rfl ?_
  unfold w_RhasText at h
  refine g_aload_n C dR_hasText_0 rfl ?_
  refine rf_s C hci dR_hasText_1 ?_
  refine g_sipush C dR_hasText_4 rfl ?_
  refine g_bipush C dR_hasText_7 rfl ?_
  refine g_iload_n C dR_hasText_9 rfl ?_
  refine g_imul C dR_hasText_10 ?_
  refine g_iadd C dR_hasText_11 ?_
  refine g_iald C (n := 536) dR_hasText_12 rfl (by decide) h.1 ?_
  replace h := h.2
  refine g_if_le C 20 dR_hasText_13 (by decide) (fun hc => ?_) (fun hc => ?_)
  · replace h := h.1 hc
    refine g_iconst C dR_hasText_20 ?_
    exact hR _ _ _ _ dR_hasText_21 rfl h
  · replace h := h.2 hc
    refine g_iconst C dR_hasText_16 ?_
    refine g_goto C 21 dR_hasText_17 (by decide) ?_
    exact hR _ _ _ _ dR_hasText_21 rfl h
def w_Rjoined (a1 : Int) (a2 : Int) (a3 : Int) (M : gSt) (k : Int → gSt → Prop) : Prop :=

  (wrap a1 = 37 →

    (wrap a3 = 0 →
      k 0 M) ∧
    (¬ wrap a3 = 0 →

      (¬ wrap a3 = (-1) →
        (wrap a3 ≠ 0) ∧ (k (Int.tmod (wrap a2) (wrap a3)) M)) ∧
      (wrap a3 = (-1) →
        k 0 M))) ∧
  (wrap a1 = 38 →

    (wrap a2 = 0 →
      k 0 M) ∧
    (¬ wrap a2 = 0 →

      (wrap a3 = 0 →
        k 0 M) ∧
      (¬ wrap a3 = 0 →
        k 1 M))) ∧
  (wrap a1 = 42 →
    k (a2 * a3) M) ∧
  (wrap a1 = 43 →
    k (a2 + a3) M) ∧
  (wrap a1 = 45 →
    k (a2 - a3) M) ∧
  (wrap a1 = 47 →

    (¬ wrap a3 = 0 →

      (¬ wrap a3 = (-1) →
        (wrap a3 ≠ 0) ∧ (k (Int.tdiv (wrap a2) (wrap a3)) M)) ∧
      (wrap a3 = (-1) →
        k (-a2) M)) ∧
    (wrap a3 = 0 →
      k 0 M)) ∧
  (wrap a1 = 60 →

    (wrap a3 ≤ wrap a2 →
      k 0 M) ∧
    (wrap a2 < wrap a3 →
      k 1 M)) ∧
  (wrap a1 = 61 →

    (¬ wrap a2 = wrap a3 →
      k 0 M) ∧
    (wrap a2 = wrap a3 →
      k 1 M)) ∧
  (wrap a1 = 62 →

    (wrap a2 ≤ wrap a3 →
      k 0 M) ∧
    (wrap a3 < wrap a2 →
      k 1 M)) ∧
  (¬ wrap a1 = 37 ∧ ¬ wrap a1 = 38 ∧ ¬ wrap a1 = 42 ∧ ¬ wrap a1 = 43 ∧ ¬ wrap a1 = 45 ∧ ¬ wrap a1 = 47 ∧ ¬ wrap a1 = 60 ∧ ¬ wrap a1 = 61 ∧ ¬ wrap a1 = 62 →

    (¬ wrap a2 = 0 →
      k 1 M) ∧
    (wrap a2 = 0 →

      (wrap a3 = 0 →
        k 0 M) ∧
      (¬ wrap a3 = 0 →
        k 1 M)))
set_option maxHeartbeats 4000000 in
set_option maxRecDepth 100000 in
theorem m_Rjoined {l : Launch} {D : va_G} {cl : List vw_C} {tys : List (ClassId × FieldType)} {ad : Nat → Nat} {cI : ClassId} {ci : Nat} (hci : cl[ci]? = some (RX9, TX9, 23)) {a1 : Int} {a2 : Int} {a3 : Int} {M : gSt} {k : Int → gSt → Prop} (h : w_Rjoined a1 a2 a3 M k) : MOi l yX9_joined cX9_joined 3 .int (rmR 0 0) D cl ((cI, .int) :: tys) (wR ad cI ci) tR [iv a1, iv a2, iv a3] M k := by
  refine moi_intro (by decide +kernel) (Nat.le_of_ble_eq_true rfl) wi_51 ?_
  intro p e s m args below meth c A Q C hR
  refine g_locals (lv' := [(0, iv a1), (1, iv a2), (2, iv a3)]) rfl ?_
  unfold w_Rjoined at h
  refine g_iload_n C dR_joined_0 rfl ?_
  by_cases hc37 : wrap a1 = 37
  · refine g_tableIn C 154 dR_joined_1 (by omega) (by omega) (by rw [hc37]; rfl) (by decide) ?_
    replace h := h.1 hc37
    refine g_iload_n C dR_joined_154 rfl ?_
    refine g_if_eq C 163 dR_joined_155 (by decide) (fun hc => ?_) (fun hc => ?_)
    · replace h := h.1 hc
      refine g_iconst C dR_joined_163 ?_
      refine g_goto C 170 dR_joined_164 (by decide) ?_
      exact hR _ _ _ _ dR_joined_170 rfl h
    · replace h := h.2 hc
      refine g_iload_n C dR_joined_158 rfl ?_
      refine g_iconst C dR_joined_159 ?_
      refine g_icmp_ne C 167 dR_joined_160 (by decide) (fun hc => ?_) (fun hc => ?_)
      · replace h := h.1 hc
        refine g_iload_n C dR_joined_167 rfl ?_
        refine g_iload_n C dR_joined_168 rfl ?_
        refine g_irem C dR_joined_169 h.1 ?_
        replace h := h.2
        refine g_top (y := Int.tmod (wrap a2) (wrap a3)) rfl ?_
        exact hR _ _ _ _ dR_joined_170 rfl h
      · replace h := h.2 hc
        refine g_iconst C dR_joined_163 ?_
        refine g_goto C 170 dR_joined_164 (by decide) ?_
        exact hR _ _ _ _ dR_joined_170 rfl h
  · by_cases hc38 : wrap a1 = 38
    · refine g_tableIn C 204 dR_joined_1 (by omega) (by omega) (by rw [hc38]; rfl) (by decide) ?_
      replace h := h.2.1 hc38
      refine g_iload_n C dR_joined_204 rfl ?_
      refine g_if_eq C 216 dR_joined_205 (by decide) (fun hc => ?_) (fun hc => ?_)
      · replace h := h.1 hc
        refine g_iconst C dR_joined_216 ?_
        exact hR _ _ _ _ dR_joined_217 rfl h
      · replace h := h.2 hc
        refine g_iload_n C dR_joined_208 rfl ?_
        refine g_if_eq C 216 dR_joined_209 (by decide) (fun hc => ?_) (fun hc => ?_)
        · replace h := h.1 hc
          refine g_iconst C dR_joined_216 ?_
          exact hR _ _ _ _ dR_joined_217 rfl h
        · replace h := h.2 hc
          refine g_iconst C dR_joined_212 ?_
          refine g_goto C 217 dR_joined_213 (by decide) ?_
          exact hR _ _ _ _ dR_joined_217 rfl h
    · by_cases hc42 : wrap a1 = 42
      · refine g_tableIn C 128 dR_joined_1 (by omega) (by omega) (by rw [hc42]; rfl) (by decide) ?_
        replace h := h.2.2.1 hc42
        refine g_iload_n C dR_joined_128 rfl ?_
        refine g_iload_n C dR_joined_129 rfl ?_
        refine g_imul C dR_joined_130 ?_
        exact hR _ _ _ _ dR_joined_131 rfl h
      · by_cases hc43 : wrap a1 = 43
        · refine g_tableIn C 120 dR_joined_1 (by omega) (by omega) (by rw [hc43]; rfl) (by decide) ?_
          replace h := h.2.2.2.1 hc43
          refine g_iload_n C dR_joined_120 rfl ?_
          refine g_iload_n C dR_joined_121 rfl ?_
          refine g_iadd C dR_joined_122 ?_
          exact hR _ _ _ _ dR_joined_123 rfl h
        · by_cases hc45 : wrap a1 = 45
          · refine g_tableIn C 124 dR_joined_1 (by omega) (by omega) (by rw [hc45]; rfl) (by decide) ?_
            replace h := h.2.2.2.2.1 hc45
            refine g_iload_n C dR_joined_124 rfl ?_
            refine g_iload_n C dR_joined_125 rfl ?_
            refine g_isub C dR_joined_126 ?_
            exact hR _ _ _ _ dR_joined_127 rfl h
          · by_cases hc47 : wrap a1 = 47
            · refine g_tableIn C 132 dR_joined_1 (by omega) (by omega) (by rw [hc47]; rfl) (by decide) ?_
              replace h := h.2.2.2.2.2.1 hc47
              refine g_iload_n C dR_joined_132 rfl ?_
              refine g_if_ne C 140 dR_joined_133 (by decide) (fun hc => ?_) (fun hc => ?_)
              · replace h := h.1 hc
                refine g_iload_n C dR_joined_140 rfl ?_
                refine g_iconst C dR_joined_141 ?_
                refine g_icmp_ne C 150 dR_joined_142 (by decide) (fun hc => ?_) (fun hc => ?_)
                · replace h := h.1 hc
                  refine g_iload_n C dR_joined_150 rfl ?_
                  refine g_iload_n C dR_joined_151 rfl ?_
                  refine g_idiv C dR_joined_152 h.1 ?_
                  replace h := h.2
                  refine g_top (y := Int.tdiv (wrap a2) (wrap a3)) rfl ?_
                  exact hR _ _ _ _ dR_joined_153 rfl h
                · replace h := h.2 hc
                  refine g_iload_n C dR_joined_145 rfl ?_
                  refine g_ineg C dR_joined_146 ?_
                  refine g_goto C 153 dR_joined_147 (by decide) ?_
                  exact hR _ _ _ _ dR_joined_153 rfl h
              · replace h := h.2 hc
                refine g_iconst C dR_joined_136 ?_
                refine g_goto C 153 dR_joined_137 (by decide) ?_
                exact hR _ _ _ _ dR_joined_153 rfl h
            · by_cases hc60 : wrap a1 = 60
              · refine g_tableIn C 171 dR_joined_1 (by omega) (by omega) (by rw [hc60]; rfl) (by decide) ?_
                replace h := h.2.2.2.2.2.2.1 hc60
                refine g_iload_n C dR_joined_171 rfl ?_
                refine g_iload_n C dR_joined_172 rfl ?_
                refine g_icmp_ge C 180 dR_joined_173 (by decide) (fun hc => ?_) (fun hc => ?_)
                · replace h := h.1 hc
                  refine g_iconst C dR_joined_180 ?_
                  exact hR _ _ _ _ dR_joined_181 rfl h
                · replace h := h.2 hc
                  refine g_iconst C dR_joined_176 ?_
                  refine g_goto C 181 dR_joined_177 (by decide) ?_
                  exact hR _ _ _ _ dR_joined_181 rfl h
              · by_cases hc61 : wrap a1 = 61
                · refine g_tableIn C 193 dR_joined_1 (by omega) (by omega) (by rw [hc61]; rfl) (by decide) ?_
                  replace h := h.2.2.2.2.2.2.2.1 hc61
                  refine g_iload_n C dR_joined_193 rfl ?_
                  refine g_iload_n C dR_joined_194 rfl ?_
                  refine g_icmp_ne C 202 dR_joined_195 (by decide) (fun hc => ?_) (fun hc => ?_)
                  · replace h := h.1 hc
                    refine g_iconst C dR_joined_202 ?_
                    exact hR _ _ _ _ dR_joined_203 rfl h
                  · replace h := h.2 hc
                    refine g_iconst C dR_joined_198 ?_
                    refine g_goto C 203 dR_joined_199 (by decide) ?_
                    exact hR _ _ _ _ dR_joined_203 rfl h
                · by_cases hc62 : wrap a1 = 62
                  · refine g_tableIn C 182 dR_joined_1 (by omega) (by omega) (by rw [hc62]; rfl) (by decide) ?_
                    replace h := h.2.2.2.2.2.2.2.2.1 hc62
                    refine g_iload_n C dR_joined_182 rfl ?_
                    refine g_iload_n C dR_joined_183 rfl ?_
                    refine g_icmp_le C 191 dR_joined_184 (by decide) (fun hc => ?_) (fun hc => ?_)
                    · replace h := h.1 hc
                      refine g_iconst C dR_joined_191 ?_
                      exact hR _ _ _ _ dR_joined_192 rfl h
                    · replace h := h.2 hc
                      refine g_iconst C dR_joined_187 ?_
                      refine g_goto C 192 dR_joined_188 (by decide) ?_
                      exact hR _ _ _ _ dR_joined_192 rfl h
                  · by_cases hin : 37 ≤ wrap a1 ∧ wrap a1 ≤ 62
                    · refine g_tableIn C (off := 217) 218 dR_joined_1 hin.1 hin.2 ?_ (by decide) ?_
                      · have hj : (wrap a1 - 37).toNat < 26 := by omega
                        have hq37 : ¬ (wrap a1 - 37).toNat = 0 := by omega
                        have hq38 : ¬ (wrap a1 - 37).toNat = 1 := by omega
                        have hq42 : ¬ (wrap a1 - 37).toNat = 5 := by omega
                        have hq43 : ¬ (wrap a1 - 37).toNat = 6 := by omega
                        have hq45 : ¬ (wrap a1 - 37).toNat = 8 := by omega
                        have hq47 : ¬ (wrap a1 - 37).toNat = 10 := by omega
                        have hq60 : ¬ (wrap a1 - 37).toNat = 23 := by omega
                        have hq61 : ¬ (wrap a1 - 37).toNat = 24 := by omega
                        have hq62 : ¬ (wrap a1 - 37).toNat = 25 := by omega
                        generalize (wrap a1 - 37).toNat = j at *
                        have key : ∀ j : Nat, j < 26 → (¬ j = 0 ∧ ¬ j = 1 ∧ ¬ j = 5 ∧ ¬ j = 6 ∧ ¬ j = 8 ∧ ¬ j = 10 ∧ ¬ j = 23 ∧ ¬ j = 24 ∧ ¬ j = 25) → (#[153, 203, 217, 217, 217, 127, 119, 217, 123, 217, 131, 217, 217, 217, 217, 217, 217, 217, 217, 217, 217, 217, 217, 170, 192, 181] : Array Int)[j]? = some 217 := by decide
                        exact key j hj ⟨hq37, hq38, hq42, hq43, hq45, hq47, hq60, hq61, hq62⟩
                      · replace h := h.2.2.2.2.2.2.2.2.2 ⟨hc37, hc38, hc42, hc43, hc45, hc47, hc60, hc61, hc62⟩
                        refine g_iload_n C dR_joined_218 rfl ?_
                        refine g_if_ne C 226 dR_joined_219 (by decide) (fun hc => ?_) (fun hc => ?_)
                        · replace h := h.1 hc
                          refine g_iconst C dR_joined_226 ?_
                          refine g_goto C 231 dR_joined_227 (by decide) ?_
                          exact hR _ _ _ _ dR_joined_231 rfl h
                        · replace h := h.2 hc
                          refine g_iload_n C dR_joined_222 rfl ?_
                          refine g_if_eq C 230 dR_joined_223 (by decide) (fun hc => ?_) (fun hc => ?_)
                          · replace h := h.1 hc
                            refine g_iconst C dR_joined_230 ?_
                            exact hR _ _ _ _ dR_joined_231 rfl h
                          · replace h := h.2 hc
                            refine g_iconst C dR_joined_226 ?_
                            refine g_goto C 231 dR_joined_227 (by decide) ?_
                            exact hR _ _ _ _ dR_joined_231 rfl h
                    · refine g_tableOut C 218 dR_joined_1 (by omega) (by decide) ?_
                      replace h := h.2.2.2.2.2.2.2.2.2 ⟨hc37, hc38, hc42, hc43, hc45, hc47, hc60, hc61, hc62⟩
                      refine g_iload_n C dR_joined_218 rfl ?_
                      refine g_if_ne C 226 dR_joined_219 (by decide) (fun hc => ?_) (fun hc => ?_)
                      · replace h := h.1 hc
                        refine g_iconst C dR_joined_226 ?_
                        refine g_goto C 231 dR_joined_227 (by decide) ?_
                        exact hR _ _ _ _ dR_joined_231 rfl h
                      · replace h := h.2 hc
                        refine g_iload_n C dR_joined_222 rfl ?_
                        refine g_if_eq C 230 dR_joined_223 (by decide) (fun hc => ?_) (fun hc => ?_)
                        · replace h := h.1 hc
                          refine g_iconst C dR_joined_230 ?_
                          exact hR _ _ _ _ dR_joined_231 rfl h
                        · replace h := h.2 hc
                          refine g_iconst C dR_joined_226 ?_
                          refine g_goto C 231 dR_joined_227 (by decide) ?_
                          exact hR _ _ _ _ dR_joined_231 rfl h
def wB_Rworked_158 (a1 : Int) (k : Int → gSt → Prop) (r14 : Int → Int → Int → gSt → Prop) (X14_164 : gSt → Prop) (v2 : Int) (v3 : Int) (v4 : Int) (M : gSt) : Prop :=
r14 v2 v3 (v4 + 1) M
def wB_Rworked_88 (a1 : Int) (k : Int → gSt → Prop) (r14 : Int → Int → Int → gSt → Prop) (X14_164 : gSt → Prop) (v2 : Int) (v3 : Int) (v4 : Int) (s0 : Int) (s1 : Int) (M : gSt) : Prop :=
(0 ≤ s1 ∧ s1 < 64) ∧ (∀ M88 : gSt, M88 = wr M 7 s1 s0 → (wB_Rworked_158 a1 k r14 X14_164 v2 (v3 + 1) v4 M88))
def wB_Rworked_66 (a1 : Int) (k : Int → gSt → Prop) (r14 : Int → Int → Int → gSt → Prop) (X14_164 : gSt → Prop) (v2 : Int) (v3 : Int) (v4 : Int) (v5 : Int) (v6 : Int) (M : gSt) : Prop :=

  (¬ wrap v5 = 0 →
    (0 ≤ v6 ∧ v6 < 128) ∧ (wB_Rworked_88 a1 k r14 X14_164 v2 v3 v4 (M 6 v6) v3 M)) ∧
  (wrap v5 = 0 →
    wB_Rworked_88 a1 k r14 X14_164 v2 v3 v4 v6 v3 M)
def wB_Rworked_124 (a1 : Int) (k : Int → gSt → Prop) (r14 : Int → Int → Int → gSt → Prop) (X14_164 : gSt → Prop) (v2 : Int) (v3 : Int) (v4 : Int) (s0 : Int) (s1 : Int) (M : gSt) : Prop :=
(0 ≤ s1 ∧ s1 < 64) ∧ (∀ M124 : gSt, M124 = wr M 7 s1 s0 → (wB_Rworked_158 a1 k r14 X14_164 v2 v3 v4 M124))
def wC_Rworked_14 (a1 : Int) (k : Int → gSt → Prop) (r14 : Int → Int → Int → gSt → Prop) (X14_164 : gSt → Prop) (v2 : Int) (v3 : Int) (v4 : Int) (M : gSt) : Prop :=
(0 ≤ v2 ∧ v2 < 536) ∧ (
  (wrap (M 1 v2) ≤ wrap v4 →
    X14_164  M) ∧
  (wrap v4 < wrap (M 1 v2) →
    (0 ≤ (v2 + 1) + (2 * v4) ∧ (v2 + 1) + (2 * v4) < 536) ∧ (∀ x5_38 : Int, x5_38 = M 1 ((v2 + 1) + (2 * v4)) → ((0 ≤ (v2 + 2) + (2 * v4) ∧ (v2 + 2) + (2 * v4) < 536) ∧ (∀ x6_53 : Int, x6_53 = M 1 ((v2 + 2) + (2 * v4)) → (
    (wrap x5_38 = 0 →
      wB_Rworked_66 a1 k r14 X14_164 v2 v3 v4 x5_38 x6_53 M) ∧
    (¬ wrap x5_38 = 0 →

      (¬ wrap x5_38 = 1 →

        (¬ wrap x5_38 = 2 →
          (0 ≤ (v3 + (-1)) - 1 ∧ (v3 + (-1)) - 1 < 64) ∧ ((0 ≤ v3 + (-1) ∧ v3 + (-1) < 64) ∧ (w_Rjoined x6_53 (M 7 ((v3 + (-1)) - 1)) (M 7 (v3 + (-1))) M (fun r154c M154 => (0 ≤ (v3 + (-1)) - 1 ∧ (v3 + (-1)) - 1 < 64) ∧ (∀ M157 : gSt, M157 = wr M154 7 ((v3 + (-1)) - 1) r154c → (wB_Rworked_158 a1 k r14 X14_164 v2 (v3 + (-1)) v4 M157)))))) ∧
        (wrap x5_38 = 2 →
          (0 ≤ v3 - 1 ∧ v3 - 1 < 64) ∧ (
          (¬ wrap (M 7 (v3 - 1)) = 0 →
            wB_Rworked_124 a1 k r14 X14_164 v2 v3 v4 0 (v3 - 1) M) ∧
          (wrap (M 7 (v3 - 1)) = 0 →
            wB_Rworked_124 a1 k r14 X14_164 v2 v3 v4 1 (v3 - 1) M)))) ∧
      (wrap x5_38 = 1 →
        wB_Rworked_66 a1 k r14 X14_164 v2 v3 v4 x5_38 x6_53 M))))))))
def wL_Rworked_14 (a1 : Int) (k : Int → gSt → Prop)  (X14_164 : gSt → Prop) : Nat → Int → Int → Int → gSt → Prop
  | 0 => fun _ _ _ _ => False
  | n + 1 => fun v2 v3 v4 M => wC_Rworked_14 a1 k  (wL_Rworked_14 a1 k  X14_164 n) X14_164 v2 v3 v4 M
def w_Rworked (a1 : Int) (M : gSt) (k : Int → gSt → Prop) : Prop :=
∀ x2_8 : Int, x2_8 = 202 + (125 * a1) → (∃ n, wL_Rworked_14 a1 k  (fun  M14 =>
    k (M14 7 0) M14) n x2_8 0 0 M)
set_option maxHeartbeats 4000000 in
set_option maxRecDepth 100000 in
theorem m_Rworked {l : Launch} {D : va_G} {cl : List vw_C} {tys : List (ClassId × FieldType)} {ad : Nat → Nat} {cI : ClassId} {ci : Nat} (hci : cl[ci]? = some (RX9, TX9, 23)) {a1 : Int} {M : gSt} {k : Int → gSt → Prop} (h : w_Rworked a1 M k) : MOi l yX9_worked cX9_worked 7 .int (rmR 1 22) D cl ((cI, .int) :: tys) (wR ad cI ci) tR [.ref (ad 0), iv a1] M k := by
  refine moi_intro (by decide +kernel) (Nat.le_of_ble_eq_true rfl) wi_54 ?_
  intro p e s m args below meth c A Q C hR
  have pB158 : ∀ (r14 : Int → Int → Int → gSt → Prop) (X14_164 : gSt → Prop) (hr14 : ∀ (v2 : Int) (v3 : Int) (v4 : Int) (M : gSt), r14 v2 v3 v4 M → gG p l e (rmR 1 22) s m args below meth c Q D cl A (wR ad cI ci) 7 14 [(0, .ref (ad 0)), (2, iv v2), (3, iv v3), (4, iv v4)] [] M) (hX14_164 : ∀  (M : gSt), X14_164  M → gG p l e (rmR 1 22) s m args below meth c Q D cl A (wR ad cI ci) 7 164 [(0, .ref (ad 0))] [] M) (v2 : Int) (v3 : Int) (v4 : Int) (M : gSt), wB_Rworked_158 a1 k r14 X14_164 v2 v3 v4 M → gG p l e (rmR 1 22) s m args below meth c Q D cl A (wR ad cI ci) 7 158 [(0, .ref (ad 0)), (2, iv v2), (3, iv v3), (4, iv v4)] [] M := by
    intro r14 X14_164 hr14 hX14_164 v2 v3 v4 M h
    unfold wB_Rworked_158 at h
    refine g_iinc C dR_worked_158 rfl (by decide) rfl ?_
    refine g_locals (lv' := [(0, .ref (ad 0)), (2, iv v2), (3, iv v3), (4, iv (v4 + 1))]) rfl ?_
    refine g_goto C 14 dR_worked_161 (by decide) ?_
    refine g_locals (lv' := [(0, .ref (ad 0)), (2, iv v2), (3, iv v3), (4, iv (v4 + 1))]) rfl ?_
    exact hr14 _ _ _  _ h
  have pB88 : ∀ (r14 : Int → Int → Int → gSt → Prop) (X14_164 : gSt → Prop) (hr14 : ∀ (v2 : Int) (v3 : Int) (v4 : Int) (M : gSt), r14 v2 v3 v4 M → gG p l e (rmR 1 22) s m args below meth c Q D cl A (wR ad cI ci) 7 14 [(0, .ref (ad 0)), (2, iv v2), (3, iv v3), (4, iv v4)] [] M) (hX14_164 : ∀  (M : gSt), X14_164  M → gG p l e (rmR 1 22) s m args below meth c Q D cl A (wR ad cI ci) 7 164 [(0, .ref (ad 0))] [] M) (v2 : Int) (v3 : Int) (v4 : Int) (s0 : Int) (s1 : Int) (M : gSt), wB_Rworked_88 a1 k r14 X14_164 v2 v3 v4 s0 s1 M → gG p l e (rmR 1 22) s m args below meth c Q D cl A (wR ad cI ci) 7 88 [(0, .ref (ad 0)), (2, iv v2), (3, iv v3), (4, iv v4)] [iv s0, iv s1, .ref (ad 7)] M := by
    intro r14 X14_164 hr14 hX14_164 v2 v3 v4 s0 s1 M h
    unfold wB_Rworked_88 at h
    refine g_iast C (n := 64) dR_worked_88 rfl (by decide) h.1 ?_
    replace h := h.2
    refine g_memname (fun M88 hM88 => ?_)
    replace h := h M88 hM88
    refine g_iinc C dR_worked_89 rfl (by decide) rfl ?_
    refine g_locals (lv' := [(0, .ref (ad 0)), (2, iv v2), (3, iv (v3 + 1)), (4, iv v4)]) rfl ?_
    refine g_goto C 158 dR_worked_92 (by decide) ?_
    refine g_locals (lv' := [(0, .ref (ad 0)), (2, iv v2), (3, iv (v3 + 1)), (4, iv v4)]) rfl ?_
    exact pB158 r14 X14_164 hr14 hX14_164 _ _ _ _ h
  have pB66 : ∀ (r14 : Int → Int → Int → gSt → Prop) (X14_164 : gSt → Prop) (hr14 : ∀ (v2 : Int) (v3 : Int) (v4 : Int) (M : gSt), r14 v2 v3 v4 M → gG p l e (rmR 1 22) s m args below meth c Q D cl A (wR ad cI ci) 7 14 [(0, .ref (ad 0)), (2, iv v2), (3, iv v3), (4, iv v4)] [] M) (hX14_164 : ∀  (M : gSt), X14_164  M → gG p l e (rmR 1 22) s m args below meth c Q D cl A (wR ad cI ci) 7 164 [(0, .ref (ad 0))] [] M) (v2 : Int) (v3 : Int) (v4 : Int) (v5 : Int) (v6 : Int) (M : gSt), wB_Rworked_66 a1 k r14 X14_164 v2 v3 v4 v5 v6 M → gG p l e (rmR 1 22) s m args below meth c Q D cl A (wR ad cI ci) 7 66 [(0, .ref (ad 0)), (2, iv v2), (3, iv v3), (4, iv v4), (5, iv v5), (6, iv v6)] [] M := by
    intro r14 X14_164 hr14 hX14_164 v2 v3 v4 v5 v6 M h
    unfold wB_Rworked_66 at h
    refine g_aload_n C dR_worked_66 rfl ?_
    refine rf_pile C hci dR_worked_67 ?_
    refine g_iload_n C dR_worked_70 rfl ?_
    refine g_iload C dR_worked_71 rfl ?_
    refine g_if_ne C 81 dR_worked_73 (by decide) (fun hc => ?_) (fun hc => ?_)
    · replace h := h.1 hc
      refine g_aload_n C dR_worked_81 rfl ?_
      refine rf_named C hci dR_worked_82 ?_
      refine g_iload C dR_worked_85 rfl ?_
      refine g_iald C (n := 128) dR_worked_87 rfl (by decide) h.1 ?_
      replace h := h.2
      refine g_locals (lv' := [(0, .ref (ad 0)), (2, iv v2), (3, iv v3), (4, iv v4)]) rfl ?_
      exact pB88 r14 X14_164 hr14 hX14_164 _ _ _ _ _ _ h
    · replace h := h.2 hc
      refine g_iload C dR_worked_76 rfl ?_
      refine g_goto C 88 dR_worked_78 (by decide) ?_
      refine g_locals (lv' := [(0, .ref (ad 0)), (2, iv v2), (3, iv v3), (4, iv v4)]) rfl ?_
      exact pB88 r14 X14_164 hr14 hX14_164 _ _ _ _ _ _ h
  have pB124 : ∀ (r14 : Int → Int → Int → gSt → Prop) (X14_164 : gSt → Prop) (hr14 : ∀ (v2 : Int) (v3 : Int) (v4 : Int) (M : gSt), r14 v2 v3 v4 M → gG p l e (rmR 1 22) s m args below meth c Q D cl A (wR ad cI ci) 7 14 [(0, .ref (ad 0)), (2, iv v2), (3, iv v3), (4, iv v4)] [] M) (hX14_164 : ∀  (M : gSt), X14_164  M → gG p l e (rmR 1 22) s m args below meth c Q D cl A (wR ad cI ci) 7 164 [(0, .ref (ad 0))] [] M) (v2 : Int) (v3 : Int) (v4 : Int) (s0 : Int) (s1 : Int) (M : gSt), wB_Rworked_124 a1 k r14 X14_164 v2 v3 v4 s0 s1 M → gG p l e (rmR 1 22) s m args below meth c Q D cl A (wR ad cI ci) 7 124 [(0, .ref (ad 0)), (2, iv v2), (3, iv v3), (4, iv v4)] [iv s0, iv s1, .ref (ad 7)] M := by
    intro r14 X14_164 hr14 hX14_164 v2 v3 v4 s0 s1 M h
    unfold wB_Rworked_124 at h
    refine g_iast C (n := 64) dR_worked_124 rfl (by decide) h.1 ?_
    replace h := h.2
    refine g_memname (fun M124 hM124 => ?_)
    replace h := h M124 hM124
    refine g_goto C 158 dR_worked_125 (by decide) ?_
    refine g_locals (lv' := [(0, .ref (ad 0)), (2, iv v2), (3, iv v3), (4, iv v4)]) rfl ?_
    exact pB158 r14 X14_164 hr14 hX14_164 _ _ _ _ h
  have pC14 : ∀ (r14 : Int → Int → Int → gSt → Prop) (X14_164 : gSt → Prop) (hr14 : ∀ (v2 : Int) (v3 : Int) (v4 : Int) (M : gSt), r14 v2 v3 v4 M → gG p l e (rmR 1 22) s m args below meth c Q D cl A (wR ad cI ci) 7 14 [(0, .ref (ad 0)), (2, iv v2), (3, iv v3), (4, iv v4)] [] M) (hX14_164 : ∀  (M : gSt), X14_164  M → gG p l e (rmR 1 22) s m args below meth c Q D cl A (wR ad cI ci) 7 164 [(0, .ref (ad 0))] [] M) (v2 : Int) (v3 : Int) (v4 : Int) (M : gSt), wC_Rworked_14 a1 k r14 X14_164 v2 v3 v4 M → gG p l e (rmR 1 22) s m args below meth c Q D cl A (wR ad cI ci) 7 14 [(0, .ref (ad 0)), (2, iv v2), (3, iv v3), (4, iv v4)] [] M := by
    intro r14 X14_164 hr14 hX14_164 v2 v3 v4 M h
    unfold wC_Rworked_14 at h
    refine g_iload C dR_worked_14 rfl ?_
    refine g_aload_n C dR_worked_16 rfl ?_
    refine rf_s C hci dR_worked_17 ?_
    refine g_iload_n C dR_worked_20 rfl ?_
    refine g_iald C (n := 536) dR_worked_21 rfl (by decide) h.1 ?_
    replace h := h.2
    refine g_icmp_ge C 164 dR_worked_22 (by decide) (fun hc => ?_) (fun hc => ?_)
    · replace h := h.1 hc
      refine g_locals (lv' := [(0, .ref (ad 0))]) rfl ?_
      exact hX14_164  _ h
    · replace h := h.2 hc
      refine g_aload_n C dR_worked_25 rfl ?_
      refine rf_s C hci dR_worked_26 ?_
      refine g_iload_n C dR_worked_29 rfl ?_
      refine g_iconst C dR_worked_30 ?_
      refine g_iadd C dR_worked_31 ?_
      refine g_iconst C dR_worked_32 ?_
      refine g_iload C dR_worked_33 rfl ?_
      refine g_imul C dR_worked_35 ?_
      refine g_iadd C dR_worked_36 ?_
      refine g_iald C (n := 536) dR_worked_37 rfl (by decide) h.1 ?_
      replace h := h.2
      refine g_name (fun x5_38 hx5_38 => ?_)
      replace h := h x5_38 hx5_38
      refine g_istore C dR_worked_38 (by decide) rfl ?_
      refine g_locals (lv' := [(0, .ref (ad 0)), (2, iv v2), (3, iv v3), (4, iv v4), (5, iv x5_38)]) rfl ?_
      refine g_aload_n C dR_worked_40 rfl ?_
      refine rf_s C hci dR_worked_41 ?_
      refine g_iload_n C dR_worked_44 rfl ?_
      refine g_iconst C dR_worked_45 ?_
      refine g_iadd C dR_worked_46 ?_
      refine g_iconst C dR_worked_47 ?_
      refine g_iload C dR_worked_48 rfl ?_
      refine g_imul C dR_worked_50 ?_
      refine g_iadd C dR_worked_51 ?_
      refine g_iald C (n := 536) dR_worked_52 rfl (by decide) h.1 ?_
      replace h := h.2
      refine g_name (fun x6_53 hx6_53 => ?_)
      replace h := h x6_53 hx6_53
      refine g_istore C dR_worked_53 (by decide) rfl ?_
      refine g_locals (lv' := [(0, .ref (ad 0)), (2, iv v2), (3, iv v3), (4, iv v4), (5, iv x5_38), (6, iv x6_53)]) rfl ?_
      refine g_iload C dR_worked_55 rfl ?_
      refine g_if_eq C 66 dR_worked_57 (by decide) (fun hc => ?_) (fun hc => ?_)
      · replace h := h.1 hc
        refine g_locals (lv' := [(0, .ref (ad 0)), (2, iv v2), (3, iv v3), (4, iv v4), (5, iv x5_38), (6, iv x6_53)]) rfl ?_
        exact pB66 r14 X14_164 hr14 hX14_164 _ _ _ _ _ _ h
      · replace h := h.2 hc
        refine g_iload C dR_worked_60 rfl ?_
        refine g_iconst C dR_worked_62 ?_
        refine g_icmp_ne C 95 dR_worked_63 (by decide) (fun hc => ?_) (fun hc => ?_)
        · replace h := h.1 hc
          refine g_iload C dR_worked_95 rfl ?_
          refine g_iconst C dR_worked_97 ?_
          refine g_icmp_ne C 128 dR_worked_98 (by decide) (fun hc => ?_) (fun hc => ?_)
          · replace h := h.1 hc
            refine g_iinc C dR_worked_128 rfl (by decide) rfl ?_
            refine g_locals (lv' := [(0, .ref (ad 0)), (2, iv v2), (3, iv (v3 + (-1))), (4, iv v4), (5, iv x5_38), (6, iv x6_53)]) rfl ?_
            refine g_aload_n C dR_worked_131 rfl ?_
            refine rf_pile C hci dR_worked_132 ?_
            refine g_iload_n C dR_worked_135 rfl ?_
            refine g_iconst C dR_worked_136 ?_
            refine g_isub C dR_worked_137 ?_
            refine g_iload C dR_worked_138 rfl ?_
            refine g_aload_n C dR_worked_140 rfl ?_
            refine rf_pile C hci dR_worked_141 ?_
            refine g_iload_n C dR_worked_144 rfl ?_
            refine g_iconst C dR_worked_145 ?_
            refine g_isub C dR_worked_146 ?_
            refine g_iald C (n := 64) dR_worked_147 rfl (by decide) h.1 ?_
            replace h := h.2
            refine g_aload_n C dR_worked_148 rfl ?_
            refine rf_pile C hci dR_worked_149 ?_
            refine g_iload_n C dR_worked_152 rfl ?_
            refine g_iald C (n := 64) dR_worked_153 rfl (by decide) h.1 ?_
            replace h := h.2
            refine g_callSi C (nargs := 3) (st := [iv ((v3 + (-1)) - 1), .ref (ad 7)]) (m_Rjoined hci h) gd_joined (by decide +kernel) ⟨rfl, rfl⟩ dR_worked_154 ⟨by decide, by decide⟩ rfl rfl (Nat.le_of_ble_eq_true rfl) ?_
            intro r154c M154 h
            refine g_iast C (n := 64) dR_worked_157 rfl (by decide) h.1 ?_
            replace h := h.2
            refine g_memname (fun M157 hM157 => ?_)
            replace h := h M157 hM157
            refine g_locals (lv' := [(0, .ref (ad 0)), (2, iv v2), (3, iv (v3 + (-1))), (4, iv v4)]) rfl ?_
            exact pB158 r14 X14_164 hr14 hX14_164 _ _ _ _ h
          · replace h := h.2 hc
            refine g_aload_n C dR_worked_101 rfl ?_
            refine rf_pile C hci dR_worked_102 ?_
            refine g_iload_n C dR_worked_105 rfl ?_
            refine g_iconst C dR_worked_106 ?_
            refine g_isub C dR_worked_107 ?_
            refine g_aload_n C dR_worked_108 rfl ?_
            refine rf_pile C hci dR_worked_109 ?_
            refine g_iload_n C dR_worked_112 rfl ?_
            refine g_iconst C dR_worked_113 ?_
            refine g_isub C dR_worked_114 ?_
            refine g_iald C (n := 64) dR_worked_115 rfl (by decide) h.1 ?_
            replace h := h.2
            refine g_if_ne C 123 dR_worked_116 (by decide) (fun hc => ?_) (fun hc => ?_)
            · replace h := h.1 hc
              refine g_iconst C dR_worked_123 ?_
              refine g_locals (lv' := [(0, .ref (ad 0)), (2, iv v2), (3, iv v3), (4, iv v4)]) rfl ?_
              exact pB124 r14 X14_164 hr14 hX14_164 _ _ _ _ _ _ h
            · replace h := h.2 hc
              refine g_iconst C dR_worked_119 ?_
              refine g_goto C 124 dR_worked_120 (by decide) ?_
              refine g_locals (lv' := [(0, .ref (ad 0)), (2, iv v2), (3, iv v3), (4, iv v4)]) rfl ?_
              exact pB124 r14 X14_164 hr14 hX14_164 _ _ _ _ _ _ h
        · replace h := h.2 hc
          refine g_locals (lv' := [(0, .ref (ad 0)), (2, iv v2), (3, iv v3), (4, iv v4), (5, iv x5_38), (6, iv x6_53)]) rfl ?_
          exact pB66 r14 X14_164 hr14 hX14_164 _ _ _ _ _ _ h
  have pL14 : ∀  (X14_164 : gSt → Prop) (hX14_164 : ∀  (M : gSt), X14_164  M → gG p l e (rmR 1 22) s m args below meth c Q D cl A (wR ad cI ci) 7 164 [(0, .ref (ad 0))] [] M) (n : Nat) (v2 : Int) (v3 : Int) (v4 : Int) (M : gSt), wL_Rworked_14 a1 k  X14_164 n v2 v3 v4 M → gG p l e (rmR 1 22) s m args below meth c Q D cl A (wR ad cI ci) 7 14 [(0, .ref (ad 0)), (2, iv v2), (3, iv v3), (4, iv v4)] [] M := by
    intro  X14_164 hX14_164 n
    induction n with
    | zero => intro v2 v3 v4 M h; exact h.elim
    | succ n ih =>
      intro v2 v3 v4 M h
      exact pC14  (wL_Rworked_14 a1 k  X14_164 n) X14_164 ih hX14_164 v2 v3 v4 M h
  refine g_locals (lv' := [(0, .ref (ad 0)), (1, iv a1)]) rfl ?_
  unfold w_Rworked at h
  refine g_sipush C dR_worked_0 rfl ?_
  refine g_bipush C dR_worked_3 rfl ?_
  refine g_iload_n C dR_worked_5 rfl ?_
  refine g_imul C dR_worked_6 ?_
  refine g_iadd C dR_worked_7 ?_
  refine g_name (fun x2_8 hx2_8 => ?_)
  replace h := h x2_8 hx2_8
  refine g_istore_n C dR_worked_8 (by decide) rfl ?_
  refine g_locals (lv' := [(0, .ref (ad 0)), (1, iv a1), (2, iv x2_8)]) rfl ?_
  refine g_iconst C dR_worked_9 ?_
  refine g_istore_n C dR_worked_10 (by decide) rfl ?_
  refine g_locals (lv' := [(0, .ref (ad 0)), (1, iv a1), (2, iv x2_8), (3, iv 0)]) rfl ?_
  refine g_iconst C dR_worked_11 ?_
  refine g_istore C dR_worked_12 (by decide) rfl ?_
  refine g_locals (lv' := [(0, .ref (ad 0)), (1, iv a1), (2, iv x2_8), (3, iv 0), (4, iv 0)]) rfl ?_
  refine g_locals (lv' := [(0, .ref (ad 0)), (2, iv x2_8), (3, iv 0), (4, iv 0)]) rfl ?_
  obtain ⟨n, h⟩ := h
  refine pL14 _ ?_ n _ _ _ _ h
  · intro  M14 h
    refine g_aload_n C dR_worked_164 rfl ?_
    refine rf_pile C hci dR_worked_165 ?_
    refine g_iconst C dR_worked_168 ?_
    refine g_iald C (n := 64) dR_worked_169 rfl (by decide) ⟨by decide, by decide⟩ ?_
    exact hR _ _ _ _ dR_worked_170 rfl h
end
section
def w_Rrings (a1 : Int) (M : gSt) (k : Int → gSt → Prop) : Prop :=
w_Rthousandths a1 M (fun r2c M2 => w_RhasText 0 M2 (fun r8c M8 => 
  (¬ wrap r8c = 0 →
    w_Rits a1 2 M8 (fun r43c M43 => ∀ M46 : gSt, M46 = wr M43 6 103 r43c → (∀ M54 : gSt, M54 = wr M46 6 115 r2c → (w_Rits a1 1 M54 (fun r64c M64 => ∀ M67 : gSt, M67 = wr M64 6 109 r64c → (w_Rworked 0 M67 (fun r70c M70 => w_Rheld r70c 0 9999 M70 (fun r77c M77 => k r77c M77)))))))) ∧
  (wrap r8c = 0 →
    w_Rits a1 1 M8 (fun r22c M22 => w_Rheld ((1000 - r2c) + r22c) 0 9999 M22 (fun r30c M30 => k r30c M30)))))
set_option maxHeartbeats 4000000 in
set_option maxRecDepth 100000 in
theorem m_Rrings {l : Launch} {D : va_G} {cl : List vw_C} {tys : List (ClassId × FieldType)} {ad : Nat → Nat} {cI : ClassId} {ci : Nat} (hci : cl[ci]? = some (RX9, TX9, 23)) {a1 : Int} {M : gSt} {k : Int → gSt → Prop} (h : w_Rrings a1 M k) : MOi l yX9_rings cX9_rings 3 .int (rmR 2 48) D cl ((cI, .int) :: tys) (wR ad cI ci) tR [.ref (ad 0), iv a1] M k := by
  refine moi_intro (by decide +kernel) (Nat.le_of_ble_eq_true rfl) wi_66 ?_
  intro p e s m args below meth c A Q C hR
  refine g_locals (lv' := [(0, .ref (ad 0)), (1, iv a1)]) rfl ?_
  unfold w_Rrings at h
  refine g_aload_n C dR_rings_0 rfl ?_
  refine g_iload_n C dR_rings_1 rfl ?_
  refine g_callVi C (nargs := 1) (o := 0) (st := []) (m_Rthousandths hci h) rfl (by decide) hci rfl gd_thousandths (by decide +kernel) ⟨rfl, rfl⟩ dR_rings_2 ⟨by decide, by decide⟩ rfl rfl (Nat.le_of_ble_eq_true rfl) ?_
  intro r2c M2 h
  refine g_istore_n C dR_rings_5 (by decide) rfl ?_
  refine g_locals (lv' := [(0, .ref (ad 0)), (1, iv a1), (2, iv r2c)]) rfl ?_
  refine g_aload_n C dR_rings_6 rfl ?_
  refine g_iconst C dR_rings_7 ?_
  refine g_callVi C (nargs := 1) (o := 0) (st := []) (m_RhasText hci h) rfl (by decide) hci rfl gd_hasText (by decide +kernel) ⟨rfl, rfl⟩ dR_rings_8 ⟨by decide, by decide⟩ rfl rfl (Nat.le_of_ble_eq_true rfl) ?_
  intro r8c M8 h
  refine g_if_ne C 34 dR_rings_11 (by decide) (fun hc => ?_) (fun hc => ?_)
  · replace h := h.1 hc
    refine g_aload_n C dR_rings_34 rfl ?_
    refine rf_named C hci dR_rings_35 ?_
    refine g_bipush C dR_rings_38 rfl ?_
    refine g_aload_n C dR_rings_40 rfl ?_
    refine g_iload_n C dR_rings_41 rfl ?_
    refine g_iconst C dR_rings_42 ?_
    refine g_callVi C (nargs := 2) (o := 0) (st := [iv 103, .ref (ad 6)]) (m_Rits hci h) rfl (by decide) hci rfl gd_its (by decide +kernel) ⟨rfl, rfl⟩ dR_rings_43 ⟨by decide, by decide⟩ rfl rfl (Nat.le_of_ble_eq_true rfl) ?_
    intro r43c M43 h
    refine g_iast C (n := 128) dR_rings_46 rfl (by decide) ⟨by decide, by decide⟩ ?_
    refine g_memname (fun M46 hM46 => ?_)
    replace h := h M46 hM46
    refine g_aload_n C dR_rings_47 rfl ?_
    refine rf_named C hci dR_rings_48 ?_
    refine g_bipush C dR_rings_51 rfl ?_
    refine g_iload_n C dR_rings_53 rfl ?_
    refine g_iast C (n := 128) dR_rings_54 rfl (by decide) ⟨by decide, by decide⟩ ?_
    refine g_memname (fun M54 hM54 => ?_)
    replace h := h M54 hM54
    refine g_aload_n C dR_rings_55 rfl ?_
    refine rf_named C hci dR_rings_56 ?_
    refine g_bipush C dR_rings_59 rfl ?_
    refine g_aload_n C dR_rings_61 rfl ?_
    refine g_iload_n C dR_rings_62 rfl ?_
    refine g_iconst C dR_rings_63 ?_
    refine g_callVi C (nargs := 2) (o := 0) (st := [iv 109, .ref (ad 6)]) (m_Rits hci h) rfl (by decide) hci rfl gd_its (by decide +kernel) ⟨rfl, rfl⟩ dR_rings_64 ⟨by decide, by decide⟩ rfl rfl (Nat.le_of_ble_eq_true rfl) ?_
    intro r64c M64 h
    refine g_iast C (n := 128) dR_rings_67 rfl (by decide) ⟨by decide, by decide⟩ ?_
    refine g_memname (fun M67 hM67 => ?_)
    replace h := h M67 hM67
    refine g_aload_n C dR_rings_68 rfl ?_
    refine g_iconst C dR_rings_69 ?_
    refine g_callVi C (nargs := 1) (o := 0) (st := []) (m_Rworked hci h) rfl (by decide) hci rfl gd_worked (by decide +kernel) ⟨rfl, rfl⟩ dR_rings_70 ⟨by decide, by decide⟩ rfl rfl (Nat.le_of_ble_eq_true rfl) ?_
    intro r70c M70 h
    refine g_iconst C dR_rings_73 ?_
    refine g_sipush C dR_rings_74 rfl ?_
    refine g_callSi C (nargs := 3) (st := []) (m_Rheld hci h) gd_held (by decide +kernel) ⟨rfl, rfl⟩ dR_rings_77 ⟨by decide, by decide⟩ rfl rfl (Nat.le_of_ble_eq_true rfl) ?_
    intro r77c M77 h
    exact hR _ _ _ _ dR_rings_80 rfl h
  · replace h := h.2 hc
    refine g_sipush C dR_rings_14 rfl ?_
    refine g_iload_n C dR_rings_17 rfl ?_
    refine g_isub C dR_rings_18 ?_
    refine g_aload_n C dR_rings_19 rfl ?_
    refine g_iload_n C dR_rings_20 rfl ?_
    refine g_iconst C dR_rings_21 ?_
    refine g_callVi C (nargs := 2) (o := 0) (st := [iv (1000 - r2c)]) (m_Rits hci h) rfl (by decide) hci rfl gd_its (by decide +kernel) ⟨rfl, rfl⟩ dR_rings_22 ⟨by decide, by decide⟩ rfl rfl (Nat.le_of_ble_eq_true rfl) ?_
    intro r22c M22 h
    refine g_iadd C dR_rings_25 ?_
    refine g_iconst C dR_rings_26 ?_
    refine g_sipush C dR_rings_27 rfl ?_
    refine g_callSi C (nargs := 3) (st := []) (m_Rheld hci h) gd_held (by decide +kernel) ⟨rfl, rfl⟩ dR_rings_30 ⟨by decide, by decide⟩ rfl rfl (Nat.le_of_ble_eq_true rfl) ?_
    intro r30c M30 h
    exact hR _ _ _ _ dR_rings_33 rfl h
def w_Rtone (a1 : Int) (M : gSt) (k : Int → gSt → Prop) : Prop :=
w_Rthousandths a1 M (fun r5c M5 => ∀ x2_9 : Int, x2_9 = 1000 - r5c → (w_Rits a1 1 M5 (fun r13c M13 => w_Rits a1 0 M13 (fun r20c M20 => 
  (wrap r20c = 1 →
    w_Rrings a1 M20 (fun r62c M62 => k r62c M62)) ∧
  (wrap r20c = 2 →
    k ((Int.tdiv (wrap x2_9) 2) + r13c) M20) ∧
  (wrap r20c = 3 →
    k (x2_9 - (2 * r13c)) M20) ∧
  (wrap r20c = 4 →
    w_Rrings a1 M20 (fun r80c M80 => k (r80c + (2 * r13c)) M80)) ∧
  (wrap r20c = 5 →
    w_Rits a1 2 M20 (fun r96c M96 => k (((Int.tdiv (wrap x2_9) 2) + r13c) + (Int.tdiv (wrap r96c) 1000)) M96)) ∧
  (wrap r20c = 6 →
    k (0 - (x2_9 - (2 * r13c))) M20) ∧
  (¬ wrap r20c = 1 ∧ ¬ wrap r20c = 2 ∧ ¬ wrap r20c = 3 ∧ ¬ wrap r20c = 4 ∧ ¬ wrap r20c = 5 ∧ ¬ wrap r20c = 6 →
    k x2_9 M20)))))
set_option maxHeartbeats 4000000 in
set_option maxRecDepth 100000 in
theorem m_Rtone {l : Launch} {D : va_G} {cl : List vw_C} {tys : List (ClassId × FieldType)} {ad : Nat → Nat} {cI : ClassId} {ci : Nat} (hci : cl[ci]? = some (RX9, TX9, 23)) {a1 : Int} {M : gSt} {k : Int → gSt → Prop} (h : w_Rtone a1 M k) : MOi l yX9_tone cX9_tone 4 .int (rmR 3 70) D cl ((cI, .int) :: tys) (wR ad cI ci) tR [.ref (ad 0), iv a1] M k := by
  refine moi_intro (by decide +kernel) (Nat.le_of_ble_eq_true rfl) wi_70 ?_
  intro p e s m args below meth c A Q C hR
  refine g_locals (lv' := [(0, .ref (ad 0)), (1, iv a1)]) rfl ?_
  unfold w_Rtone at h
  refine g_sipush C dR_tone_0 rfl ?_
  refine g_aload_n C dR_tone_3 rfl ?_
  refine g_iload_n C dR_tone_4 rfl ?_
  refine g_callVi C (nargs := 1) (o := 0) (st := [iv 1000]) (m_Rthousandths hci h) rfl (by decide) hci rfl gd_thousandths (by decide +kernel) ⟨rfl, rfl⟩ dR_tone_5 ⟨by decide, by decide⟩ rfl rfl (Nat.le_of_ble_eq_true rfl) ?_
  intro r5c M5 h
  refine g_isub C dR_tone_8 ?_
  refine g_name (fun x2_9 hx2_9 => ?_)
  replace h := h x2_9 hx2_9
  refine g_istore_n C dR_tone_9 (by decide) rfl ?_
  refine g_locals (lv' := [(0, .ref (ad 0)), (1, iv a1), (2, iv x2_9)]) rfl ?_
  refine g_aload_n C dR_tone_10 rfl ?_
  refine g_iload_n C dR_tone_11 rfl ?_
  refine g_iconst C dR_tone_12 ?_
  refine g_callVi C (nargs := 2) (o := 0) (st := []) (m_Rits hci h) rfl (by decide) hci rfl gd_its (by decide +kernel) ⟨rfl, rfl⟩ dR_tone_13 ⟨by decide, by decide⟩ rfl rfl (Nat.le_of_ble_eq_true rfl) ?_
  intro r13c M13 h
  refine g_istore_n C dR_tone_16 (by decide) rfl ?_
  refine g_locals (lv' := [(0, .ref (ad 0)), (1, iv a1), (2, iv x2_9), (3, iv r13c)]) rfl ?_
  refine g_aload_n C dR_tone_17 rfl ?_
  refine g_iload_n C dR_tone_18 rfl ?_
  refine g_iconst C dR_tone_19 ?_
  refine g_callVi C (nargs := 2) (o := 0) (st := []) (m_Rits hci h) rfl (by decide) hci rfl gd_its (by decide +kernel) ⟨rfl, rfl⟩ dR_tone_20 ⟨by decide, by decide⟩ rfl rfl (Nat.le_of_ble_eq_true rfl) ?_
  intro r20c M20 h
  by_cases hc1 : wrap r20c = 1
  · refine g_tableIn C 60 dR_tone_23 (by omega) (by omega) (by rw [hc1]; rfl) (by decide) ?_
    replace h := h.1 hc1
    refine g_aload_n C dR_tone_60 rfl ?_
    refine g_iload_n C dR_tone_61 rfl ?_
    refine g_callVi C (nargs := 1) (o := 0) (st := []) (m_Rrings hci h) rfl (by decide) hci rfl gd_rings (by decide +kernel) ⟨rfl, rfl⟩ dR_tone_62 ⟨by decide, by decide⟩ rfl rfl (Nat.le_of_ble_eq_true rfl) ?_
    intro r62c M62 h
    exact hR _ _ _ _ dR_tone_65 rfl h
  · by_cases hc2 : wrap r20c = 2
    · refine g_tableIn C 66 dR_tone_23 (by omega) (by omega) (by rw [hc2]; rfl) (by decide) ?_
      replace h := h.2.1 hc2
      refine g_iload_n C dR_tone_66 rfl ?_
      refine g_iconst C dR_tone_67 ?_
      refine g_idiv C dR_tone_68 (by decide) ?_
      refine g_top (y := Int.tdiv (wrap x2_9) 2) rfl ?_
      refine g_iload_n C dR_tone_69 rfl ?_
      refine g_iadd C dR_tone_70 ?_
      exact hR _ _ _ _ dR_tone_71 rfl h
    · by_cases hc3 : wrap r20c = 3
      · refine g_tableIn C 72 dR_tone_23 (by omega) (by omega) (by rw [hc3]; rfl) (by decide) ?_
        replace h := h.2.2.1 hc3
        refine g_iload_n C dR_tone_72 rfl ?_
        refine g_iconst C dR_tone_73 ?_
        refine g_iload_n C dR_tone_74 rfl ?_
        refine g_imul C dR_tone_75 ?_
        refine g_isub C dR_tone_76 ?_
        exact hR _ _ _ _ dR_tone_77 rfl h
      · by_cases hc4 : wrap r20c = 4
        · refine g_tableIn C 78 dR_tone_23 (by omega) (by omega) (by rw [hc4]; rfl) (by decide) ?_
          replace h := h.2.2.2.1 hc4
          refine g_aload_n C dR_tone_78 rfl ?_
          refine g_iload_n C dR_tone_79 rfl ?_
          refine g_callVi C (nargs := 1) (o := 0) (st := []) (m_Rrings hci h) rfl (by decide) hci rfl gd_rings (by decide +kernel) ⟨rfl, rfl⟩ dR_tone_80 ⟨by decide, by decide⟩ rfl rfl (Nat.le_of_ble_eq_true rfl) ?_
          intro r80c M80 h
          refine g_iconst C dR_tone_83 ?_
          refine g_iload_n C dR_tone_84 rfl ?_
          refine g_imul C dR_tone_85 ?_
          refine g_iadd C dR_tone_86 ?_
          exact hR _ _ _ _ dR_tone_87 rfl h
        · by_cases hc5 : wrap r20c = 5
          · refine g_tableIn C 88 dR_tone_23 (by omega) (by omega) (by rw [hc5]; rfl) (by decide) ?_
            replace h := h.2.2.2.2.1 hc5
            refine g_iload_n C dR_tone_88 rfl ?_
            refine g_iconst C dR_tone_89 ?_
            refine g_idiv C dR_tone_90 (by decide) ?_
            refine g_top (y := Int.tdiv (wrap x2_9) 2) rfl ?_
            refine g_iload_n C dR_tone_91 rfl ?_
            refine g_iadd C dR_tone_92 ?_
            refine g_aload_n C dR_tone_93 rfl ?_
            refine g_iload_n C dR_tone_94 rfl ?_
            refine g_iconst C dR_tone_95 ?_
            refine g_callVi C (nargs := 2) (o := 0) (st := [iv ((Int.tdiv (wrap x2_9) 2) + r13c)]) (m_Rits hci h) rfl (by decide) hci rfl gd_its (by decide +kernel) ⟨rfl, rfl⟩ dR_tone_96 ⟨by decide, by decide⟩ rfl rfl (Nat.le_of_ble_eq_true rfl) ?_
            intro r96c M96 h
            refine g_sipush C dR_tone_99 rfl ?_
            refine g_idiv C dR_tone_102 (by decide) ?_
            refine g_top (y := Int.tdiv (wrap r96c) 1000) rfl ?_
            refine g_iadd C dR_tone_103 ?_
            exact hR _ _ _ _ dR_tone_104 rfl h
          · by_cases hc6 : wrap r20c = 6
            · refine g_tableIn C 105 dR_tone_23 (by omega) (by omega) (by rw [hc6]; rfl) (by decide) ?_
              replace h := h.2.2.2.2.2.1 hc6
              refine g_iconst C dR_tone_105 ?_
              refine g_iload_n C dR_tone_106 rfl ?_
              refine g_iconst C dR_tone_107 ?_
              refine g_iload_n C dR_tone_108 rfl ?_
              refine g_imul C dR_tone_109 ?_
              refine g_isub C dR_tone_110 ?_
              refine g_isub C dR_tone_111 ?_
              exact hR _ _ _ _ dR_tone_112 rfl h
            · refine g_tableOut C 113 dR_tone_23 (by omega) (by decide) ?_
              replace h := h.2.2.2.2.2.2 ⟨hc1, hc2, hc3, hc4, hc5, hc6⟩
              refine g_iload_n C dR_tone_113 rfl ?_
              exact hR _ _ _ _ dR_tone_114 rfl h
def w_Rtold1 (a1 : Int) (a2 : Int) (M : gSt) (k : Int → gSt → Prop) : Prop :=

  (¬ wrap a2 = 10 →
    w_Rits a1 a2 M (fun r17c M17 => k r17c M17)) ∧
  (wrap a2 = 10 →
    w_Rtone a1 M (fun r8c M8 => k r8c M8))
set_option maxHeartbeats 4000000 in
set_option maxRecDepth 100000 in
theorem m_Rtold1 {l : Launch} {D : va_G} {cl : List vw_C} {tys : List (ClassId × FieldType)} {ad : Nat → Nat} {cI : ClassId} {ci : Nat} (hci : cl[ci]? = some (RX9, TX9, 23)) {a1 : Int} {a2 : Int} {M : gSt} {k : Int → gSt → Prop} (h : w_Rtold1 a1 a2 M k) : MOi l yX9_told1 cX9_told1 3 .int (rmR 4 93) D cl ((cI, .int) :: tys) (wR ad cI ci) tR [.ref (ad 0), iv a1, iv a2] M k := by
  refine moi_intro (by decide +kernel) (Nat.le_of_ble_eq_true rfl) wi_74 ?_
  intro p e s m args below meth c A Q C hR
  refine g_locals (lv' := [(0, .ref (ad 0)), (1, iv a1), (2, iv a2)]) rfl ?_
  unfold w_Rtold1 at h
  refine g_iload_n C dR_told1_0 rfl ?_
  refine g_bipush C dR_told1_1 rfl ?_
  refine g_icmp_ne C 14 dR_told1_3 (by decide) (fun hc => ?_) (fun hc => ?_)
  · replace h := h.1 hc
    refine g_aload_n C dR_told1_14 rfl ?_
    refine g_iload_n C dR_told1_15 rfl ?_
    refine g_iload_n C dR_told1_16 rfl ?_
    refine g_callVi C (nargs := 2) (o := 0) (st := []) (m_Rits hci h) rfl (by decide) hci rfl gd_its (by decide +kernel) ⟨rfl, rfl⟩ dR_told1_17 ⟨by decide, by decide⟩ rfl rfl (Nat.le_of_ble_eq_true rfl) ?_
    intro r17c M17 h
    exact hR _ _ _ _ dR_told1_20 rfl h
  · replace h := h.2 hc
    refine g_aload_n C dR_told1_6 rfl ?_
    refine g_iload_n C dR_told1_7 rfl ?_
    refine g_callVi C (nargs := 1) (o := 0) (st := []) (m_Rtone hci h) rfl (by decide) hci rfl gd_tone (by decide +kernel) ⟨rfl, rfl⟩ dR_told1_8 ⟨by decide, by decide⟩ rfl rfl (Nat.le_of_ble_eq_true rfl) ?_
    intro r8c M8 h
    refine g_goto C 20 dR_told1_11 (by decide) ?_
    exact hR _ _ _ _ dR_told1_20 rfl h
def wB_RthingIs_27 (a1 : Int) (a2 : Int) (k : Int → gSt → Prop)   (M : gSt) : Prop :=
w_Rerror 1 M (fun r29c M29 => k r29c M29)
def w_RthingIs (a1 : Int) (a2 : Int) (M : gSt) (k : Int → gSt → Prop) : Prop :=
w_RisThing a1 M (fun r2c M2 => 
  (wrap r2c = 0 →
    wB_RthingIs_27 a1 a2 k   M2) ∧
  (¬ wrap r2c = 0 →
    w_Rin a2 0 10 M2 (fun r12c M12 => 
    (wrap r12c = 0 →
      wB_RthingIs_27 a1 a2 k   M12) ∧
    (¬ wrap r12c = 0 →
      w_Rtold1 a1 a2 M12 (fun r21c M21 => k r21c M21)))))
set_option maxHeartbeats 4000000 in
set_option maxRecDepth 100000 in
theorem m_RthingIs {l : Launch} {D : va_G} {cl : List vw_C} {tys : List (ClassId × FieldType)} {ad : Nat → Nat} {cI : ClassId} {ci : Nat} (hci : cl[ci]? = some (RX9, TX9, 23)) {a1 : Int} {a2 : Int} {M : gSt} {k : Int → gSt → Prop} (h : w_RthingIs a1 a2 M k) : MOi l yX9_thingIs cX9_thingIs 3 .int (rmR 5 115) D cl ((cI, .int) :: tys) (wR ad cI ci) tR [.ref (ad 0), iv a1, iv a2] M k := by
  refine moi_intro (by decide +kernel) (Nat.le_of_ble_eq_true rfl) wi_81 ?_
  intro p e s m args below meth c A Q C hR
  have pB27 : ∀    (M : gSt), wB_RthingIs_27 a1 a2 k   M → gG p l e (rmR 5 115) s m args below meth c Q D cl A (wR ad cI ci) 3 27 [(0, .ref (ad 0))] [] M := by
    intro    M h
    unfold wB_RthingIs_27 at h
    refine g_aload_n C dR_thingIs_27 rfl ?_
    refine g_iconst C dR_thingIs_28 ?_
    refine g_callVi C (nargs := 1) (o := 0) (st := []) (m_Rerror hci h) rfl (by decide) hci rfl gd_error (by decide +kernel) ⟨rfl, rfl⟩ dR_thingIs_29 ⟨by decide, by decide⟩ rfl rfl (Nat.le_of_ble_eq_true rfl) ?_
    intro r29c M29 h
    exact hR _ _ _ _ dR_thingIs_32 rfl h
  refine g_locals (lv' := [(0, .ref (ad 0)), (1, iv a1), (2, iv a2)]) rfl ?_
  unfold w_RthingIs at h
  refine g_aload_n C dR_thingIs_0 rfl ?_
  refine g_iload_n C dR_thingIs_1 rfl ?_
  refine g_callVi C (nargs := 1) (o := 0) (st := []) (m_RisThing hci h) rfl (by decide) hci rfl gd_isThing (by decide +kernel) ⟨rfl, rfl⟩ dR_thingIs_2 ⟨by decide, by decide⟩ rfl rfl (Nat.le_of_ble_eq_true rfl) ?_
  intro r2c M2 h
  refine g_if_eq C 27 dR_thingIs_5 (by decide) (fun hc => ?_) (fun hc => ?_)
  · replace h := h.1 hc
    refine g_locals (lv' := [(0, .ref (ad 0))]) rfl ?_
    exact pB27  _ h
  · replace h := h.2 hc
    refine g_iload_n C dR_thingIs_8 rfl ?_
    refine g_iconst C dR_thingIs_9 ?_
    refine g_bipush C dR_thingIs_10 rfl ?_
    refine g_callSi C (nargs := 3) (st := []) (m_Rin hci h) gd_in (by decide +kernel) ⟨rfl, rfl⟩ dR_thingIs_12 ⟨by decide, by decide⟩ rfl rfl (Nat.le_of_ble_eq_true rfl) ?_
    intro r12c M12 h
    refine g_if_eq C 27 dR_thingIs_15 (by decide) (fun hc => ?_) (fun hc => ?_)
    · replace h := h.1 hc
      refine g_locals (lv' := [(0, .ref (ad 0))]) rfl ?_
      exact pB27  _ h
    · replace h := h.2 hc
      refine g_aload_n C dR_thingIs_18 rfl ?_
      refine g_iload_n C dR_thingIs_19 rfl ?_
      refine g_iload_n C dR_thingIs_20 rfl ?_
      refine g_callVi C (nargs := 2) (o := 0) (st := []) (m_Rtold1 hci h) rfl (by decide) hci rfl gd_told1 (by decide +kernel) ⟨rfl, rfl⟩ dR_thingIs_21 ⟨by decide, by decide⟩ rfl rfl (Nat.le_of_ble_eq_true rfl) ?_
      intro r21c M21 h
      refine g_goto C 32 dR_thingIs_24 (by decide) ?_
      exact hR _ _ _ _ dR_thingIs_32 rfl h
def wB_RisUnder_29 (a1 : Int) (a2 : Int) (k : Int → gSt → Prop)   (M : gSt) : Prop :=

  (¬ wrap a2 = 3 →
    k 0 M) ∧
  (wrap a2 = 3 →

    (¬ wrap a1 = 6 →
      k 0 M) ∧
    (wrap a1 = 6 →
      k 1 M))
def wB_RisUnder_19 (a1 : Int) (a2 : Int) (k : Int → gSt → Prop)   (M : gSt) : Prop :=

  (¬ wrap a2 = 2 →
    wB_RisUnder_29 a1 a2 k   M) ∧
  (wrap a2 = 2 →

    (wrap a1 = 5 →
      k 1 M) ∧
    (¬ wrap a1 = 5 →
      wB_RisUnder_29 a1 a2 k   M))
def w_RisUnder (a1 : Int) (a2 : Int) (M : gSt) (k : Int → gSt → Prop) : Prop :=

  (wrap a2 = 0 →
    k 1 M) ∧
  (¬ wrap a2 = 0 →

    (wrap a1 = wrap a2 →
      k 1 M) ∧
    (¬ wrap a1 = wrap a2 →

      (¬ wrap a2 = 1 →
        wB_RisUnder_19 a1 a2 k   M) ∧
      (wrap a2 = 1 →

        (wrap a1 = 4 →
          k 1 M) ∧
        (¬ wrap a1 = 4 →
          wB_RisUnder_19 a1 a2 k   M))))
set_option maxHeartbeats 4000000 in
set_option maxRecDepth 100000 in
theorem m_RisUnder {l : Launch} {D : va_G} {cl : List vw_C} {tys : List (ClassId × FieldType)} {ad : Nat → Nat} {cI : ClassId} {ci : Nat} (hci : cl[ci]? = some (RX9, TX9, 23)) {a1 : Int} {a2 : Int} {M : gSt} {k : Int → gSt → Prop} (h : w_RisUnder a1 a2 M k) : MOi l yX9_isUnder cX9_isUnder 2 .boolean (rmR 0 0) D cl ((cI, .int) :: tys) (wR ad cI ci) tR [iv a1, iv a2] M k := by
  refine moi_intro (by decide +kernel) (Nat.le_of_ble_eq_true rfl) wi_82 ?_
  intro p e s m args below meth c A Q C hR
  have pB29 : ∀    (M : gSt), wB_RisUnder_29 a1 a2 k   M → gG p l e (rmR 0 0) s m args below meth c Q D cl A (wR ad cI ci) 2 29 [(0, iv a1), (1, iv a2)] [] M := by
    intro    M h
    unfold wB_RisUnder_29 at h
    refine g_iload_n C dR_isUnder_29 rfl ?_
    refine g_iconst C dR_isUnder_30 ?_
    refine g_icmp_ne C 44 dR_isUnder_31 (by decide) (fun hc => ?_) (fun hc => ?_)
    · replace h := h.1 hc
      refine g_iconst C dR_isUnder_44 ?_
      exact hR _ _ _ _ dR_isUnder_45 rfl h
    · replace h := h.2 hc
      refine g_iload_n C dR_isUnder_34 rfl ?_
      refine g_bipush C dR_isUnder_35 rfl ?_
      refine g_icmp_ne C 44 dR_isUnder_37 (by decide) (fun hc => ?_) (fun hc => ?_)
      · replace h := h.1 hc
        refine g_iconst C dR_isUnder_44 ?_
        exact hR _ _ _ _ dR_isUnder_45 rfl h
      · replace h := h.2 hc
        refine g_iconst C dR_isUnder_40 ?_
        refine g_goto C 45 dR_isUnder_41 (by decide) ?_
        exact hR _ _ _ _ dR_isUnder_45 rfl h
  have pB19 : ∀    (M : gSt), wB_RisUnder_19 a1 a2 k   M → gG p l e (rmR 0 0) s m args below meth c Q D cl A (wR ad cI ci) 2 19 [(0, iv a1), (1, iv a2)] [] M := by
    intro    M h
    unfold wB_RisUnder_19 at h
    refine g_iload_n C dR_isUnder_19 rfl ?_
    refine g_iconst C dR_isUnder_20 ?_
    refine g_icmp_ne C 29 dR_isUnder_21 (by decide) (fun hc => ?_) (fun hc => ?_)
    · replace h := h.1 hc
      refine g_locals (lv' := [(0, iv a1), (1, iv a2)]) rfl ?_
      exact pB29  _ h
    · replace h := h.2 hc
      refine g_iload_n C dR_isUnder_24 rfl ?_
      refine g_iconst C dR_isUnder_25 ?_
      refine g_icmp_eq C 40 dR_isUnder_26 (by decide) (fun hc => ?_) (fun hc => ?_)
      · replace h := h.1 hc
        refine g_iconst C dR_isUnder_40 ?_
        refine g_goto C 45 dR_isUnder_41 (by decide) ?_
        exact hR _ _ _ _ dR_isUnder_45 rfl h
      · replace h := h.2 hc
        refine g_locals (lv' := [(0, iv a1), (1, iv a2)]) rfl ?_
        exact pB29  _ h
  refine g_locals (lv' := [(0, iv a1), (1, iv a2)]) rfl ?_
  unfold w_RisUnder at h
  refine g_iload_n C dR_isUnder_0 rfl ?_
  refine g_if_eq C 40 dR_isUnder_1 (by decide) (fun hc => ?_) (fun hc => ?_)
  · replace h := h.1 hc
    refine g_iconst C dR_isUnder_40 ?_
    refine g_goto C 45 dR_isUnder_41 (by decide) ?_
    exact hR _ _ _ _ dR_isUnder_45 rfl h
  · replace h := h.2 hc
    refine g_iload_n C dR_isUnder_4 rfl ?_
    refine g_iload_n C dR_isUnder_5 rfl ?_
    refine g_icmp_eq C 40 dR_isUnder_6 (by decide) (fun hc => ?_) (fun hc => ?_)
    · replace h := h.1 hc
      refine g_iconst C dR_isUnder_40 ?_
      refine g_goto C 45 dR_isUnder_41 (by decide) ?_
      exact hR _ _ _ _ dR_isUnder_45 rfl h
    · replace h := h.2 hc
      refine g_iload_n C dR_isUnder_9 rfl ?_
      refine g_iconst C dR_isUnder_10 ?_
      refine g_icmp_ne C 19 dR_isUnder_11 (by decide) (fun hc => ?_) (fun hc => ?_)
      · replace h := h.1 hc
        refine g_locals (lv' := [(0, iv a1), (1, iv a2)]) rfl ?_
        exact pB19  _ h
      · replace h := h.2 hc
        refine g_iload_n C dR_isUnder_14 rfl ?_
        refine g_iconst C dR_isUnder_15 ?_
        refine g_icmp_eq C 40 dR_isUnder_16 (by decide) (fun hc => ?_) (fun hc => ?_)
        · replace h := h.1 hc
          refine g_iconst C dR_isUnder_40 ?_
          refine g_goto C 45 dR_isUnder_41 (by decide) ?_
          exact hR _ _ _ _ dR_isUnder_45 rfl h
        · replace h := h.2 hc
          refine g_locals (lv' := [(0, iv a1), (1, iv a2)]) rfl ?_
          exact pB19  _ h
def wB_Ras_18 (a1 : Int) (a2 : Int) (k : Int → gSt → Prop)   (M : gSt) : Prop :=
w_Rerror 1 M (fun r20c M20 => k r20c M20)
def w_Ras (a1 : Int) (a2 : Int) (M : gSt) (k : Int → gSt → Prop) : Prop :=
w_RisThing a1 M (fun r2c M2 => 
  (wrap r2c = 0 →
    wB_Ras_18 a1 a2 k   M2) ∧
  (¬ wrap r2c = 0 →
    w_Rin a2 0 6 M2 (fun r12c M12 => 
    (¬ wrap r12c = 0 →
      w_Rits a1 0 M12 (fun r27c M27 => w_RisUnder r27c a2 M27 (fun r31c M31 => 
      (wrap r31c = 0 →
        w_Rerror 5 M31 (fun r48c M48 => k r48c M48)) ∧
      (¬ wrap r31c = 0 →
        w_Rits a1 2 M31 (fun r40c M40 => k r40c M40))))) ∧
    (wrap r12c = 0 →
      wB_Ras_18 a1 a2 k   M12))))
set_option maxHeartbeats 4000000 in
set_option maxRecDepth 100000 in
theorem m_Ras {l : Launch} {D : va_G} {cl : List vw_C} {tys : List (ClassId × FieldType)} {ad : Nat → Nat} {cI : ClassId} {ci : Nat} (hci : cl[ci]? = some (RX9, TX9, 23)) {a1 : Int} {a2 : Int} {M : gSt} {k : Int → gSt → Prop} (h : w_Ras a1 a2 M k) : MOi l yX9_as cX9_as 3 .int (rmR 2 43) D cl ((cI, .int) :: tys) (wR ad cI ci) tR [.ref (ad 0), iv a1, iv a2] M k := by
  refine moi_intro (by decide +kernel) (Nat.le_of_ble_eq_true rfl) wi_85 ?_
  intro p e s m args below meth c A Q C hR
  have pB18 : ∀    (M : gSt), wB_Ras_18 a1 a2 k   M → gG p l e (rmR 2 43) s m args below meth c Q D cl A (wR ad cI ci) 3 18 [(0, .ref (ad 0))] [] M := by
    intro    M h
    unfold wB_Ras_18 at h
    refine g_aload_n C dR_as_18 rfl ?_
    refine g_iconst C dR_as_19 ?_
    refine g_callVi C (nargs := 1) (o := 0) (st := []) (m_Rerror hci h) rfl (by decide) hci rfl gd_error (by decide +kernel) ⟨rfl, rfl⟩ dR_as_20 ⟨by decide, by decide⟩ rfl rfl (Nat.le_of_ble_eq_true rfl) ?_
    intro r20c M20 h
    exact hR _ _ _ _ dR_as_23 rfl h
  refine g_locals (lv' := [(0, .ref (ad 0)), (1, iv a1), (2, iv a2)]) rfl ?_
  unfold w_Ras at h
  refine g_aload_n C dR_as_0 rfl ?_
  refine g_iload_n C dR_as_1 rfl ?_
  refine g_callVi C (nargs := 1) (o := 0) (st := []) (m_RisThing hci h) rfl (by decide) hci rfl gd_isThing (by decide +kernel) ⟨rfl, rfl⟩ dR_as_2 ⟨by decide, by decide⟩ rfl rfl (Nat.le_of_ble_eq_true rfl) ?_
  intro r2c M2 h
  refine g_if_eq C 18 dR_as_5 (by decide) (fun hc => ?_) (fun hc => ?_)
  · replace h := h.1 hc
    refine g_locals (lv' := [(0, .ref (ad 0))]) rfl ?_
    exact pB18  _ h
  · replace h := h.2 hc
    refine g_iload_n C dR_as_8 rfl ?_
    refine g_iconst C dR_as_9 ?_
    refine g_bipush C dR_as_10 rfl ?_
    refine g_callSi C (nargs := 3) (st := []) (m_Rin hci h) gd_in (by decide +kernel) ⟨rfl, rfl⟩ dR_as_12 ⟨by decide, by decide⟩ rfl rfl (Nat.le_of_ble_eq_true rfl) ?_
    intro r12c M12 h
    refine g_if_ne C 24 dR_as_15 (by decide) (fun hc => ?_) (fun hc => ?_)
    · replace h := h.1 hc
      refine g_aload_n C dR_as_24 rfl ?_
      refine g_iload_n C dR_as_25 rfl ?_
      refine g_iconst C dR_as_26 ?_
      refine g_callVi C (nargs := 2) (o := 0) (st := []) (m_Rits hci h) rfl (by decide) hci rfl gd_its (by decide +kernel) ⟨rfl, rfl⟩ dR_as_27 ⟨by decide, by decide⟩ rfl rfl (Nat.le_of_ble_eq_true rfl) ?_
      intro r27c M27 h
      refine g_iload_n C dR_as_30 rfl ?_
      refine g_callSi C (nargs := 2) (st := []) (m_RisUnder hci h) gd_isUnder (by decide +kernel) ⟨rfl, rfl⟩ dR_as_31 ⟨by decide, by decide⟩ rfl rfl (Nat.le_of_ble_eq_true rfl) ?_
      intro r31c M31 h
      refine g_if_eq C 46 dR_as_34 (by decide) (fun hc => ?_) (fun hc => ?_)
      · replace h := h.1 hc
        refine g_aload_n C dR_as_46 rfl ?_
        refine g_iconst C dR_as_47 ?_
        refine g_callVi C (nargs := 1) (o := 0) (st := []) (m_Rerror hci h) rfl (by decide) hci rfl gd_error (by decide +kernel) ⟨rfl, rfl⟩ dR_as_48 ⟨by decide, by decide⟩ rfl rfl (Nat.le_of_ble_eq_true rfl) ?_
        intro r48c M48 h
        exact hR _ _ _ _ dR_as_51 rfl h
      · replace h := h.2 hc
        refine g_aload_n C dR_as_37 rfl ?_
        refine g_iload_n C dR_as_38 rfl ?_
        refine g_iconst C dR_as_39 ?_
        refine g_callVi C (nargs := 2) (o := 0) (st := []) (m_Rits hci h) rfl (by decide) hci rfl gd_its (by decide +kernel) ⟨rfl, rfl⟩ dR_as_40 ⟨by decide, by decide⟩ rfl rfl (Nat.le_of_ble_eq_true rfl) ?_
        intro r40c M40 h
        refine g_goto C 51 dR_as_43 (by decide) ?_
        exact hR _ _ _ _ dR_as_51 rfl h
    · replace h := h.2 hc
      refine g_locals (lv' := [(0, .ref (ad 0))]) rfl ?_
      exact pB18  _ h
def wB_Rset_22 (a1 : Int) (a2 : Int) (a3 : Int) (k : Int → gSt → Prop)   (M : gSt) : Prop :=
w_Rerror 1 M (fun r24c M24 => k r24c M24)
def wB_Rset_55 (a1 : Int) (a2 : Int) (a3 : Int) (k : Int → gSt → Prop)  (s0 : Int) (s1 : Int) (s2 : Int) (M : gSt) : Prop :=
w_Rin s2 s1 s0 M (fun r55c M55 => 
  (¬ wrap r55c = 0 →
    w_Rits a1 a2 M55 (fun r70c M70 => w_Rlays1 a1 a2 a3 M70 (fun M79 => k r70c M79))) ∧
  (wrap r55c = 0 →
    w_Rerror 1 M55 (fun r63c M63 => k r63c M63)))
def w_Rset (a1 : Int) (a2 : Int) (a3 : Int) (M : gSt) (k : Int → gSt → Prop) : Prop :=
w_RisThing a1 M (fun r2c M2 => 
  (wrap r2c = 0 →
    wB_Rset_22 a1 a2 a3 k   M2) ∧
  (¬ wrap r2c = 0 →
    w_Rin a2 0 5 M2 (fun r11c M11 => 
    (wrap r11c = 0 →
      wB_Rset_22 a1 a2 a3 k   M11) ∧
    (¬ wrap r11c = 0 →

      (¬ wrap a2 = 2 →

        (¬ wrap a2 = 0 →

          (¬ wrap a2 = 1 →
            w_Rits a1 2 M11 (fun r52c M52 => wB_Rset_55 a1 a2 a3 k  r52c 0 a3 M52)) ∧
          (wrap a2 = 1 →
            wB_Rset_55 a1 a2 a3 k  99 0 a3 M11)) ∧
        (wrap a2 = 0 →
          wB_Rset_55 a1 a2 a3 k  6 0 a3 M11)) ∧
      (wrap a2 = 2 →
        wB_Rset_22 a1 a2 a3 k   M11)))))
set_option maxHeartbeats 4000000 in
set_option maxRecDepth 100000 in
theorem m_Rset {l : Launch} {D : va_G} {cl : List vw_C} {tys : List (ClassId × FieldType)} {ad : Nat → Nat} {cI : ClassId} {ci : Nat} (hci : cl[ci]? = some (RX9, TX9, 23)) {a1 : Int} {a2 : Int} {a3 : Int} {M : gSt} {k : Int → gSt → Prop} (h : w_Rset a1 a2 a3 M k) : MOi l yX9_set cX9_set 5 .int (rmR 2 43) D cl ((cI, .int) :: tys) (wR ad cI ci) tR [.ref (ad 0), iv a1, iv a2, iv a3] M k := by
  refine moi_intro (by decide +kernel) (Nat.le_of_ble_eq_true rfl) wi_86 ?_
  intro p e s m args below meth c A Q C hR
  have pB22 : ∀    (M : gSt), wB_Rset_22 a1 a2 a3 k   M → gG p l e (rmR 2 43) s m args below meth c Q D cl A (wR ad cI ci) 5 22 [(0, .ref (ad 0))] [] M := by
    intro    M h
    unfold wB_Rset_22 at h
    refine g_aload_n C dR_set_22 rfl ?_
    refine g_iconst C dR_set_23 ?_
    refine g_callVi C (nargs := 1) (o := 0) (st := []) (m_Rerror hci h) rfl (by decide) hci rfl gd_error (by decide +kernel) ⟨rfl, rfl⟩ dR_set_24 ⟨by decide, by decide⟩ rfl rfl (Nat.le_of_ble_eq_true rfl) ?_
    intro r24c M24 h
    exact hR _ _ _ _ dR_set_27 rfl h
  have pB55 : ∀   (s0 : Int) (s1 : Int) (s2 : Int) (M : gSt), wB_Rset_55 a1 a2 a3 k  s0 s1 s2 M → gG p l e (rmR 2 43) s m args below meth c Q D cl A (wR ad cI ci) 5 55 [(0, .ref (ad 0)), (1, iv a1), (2, iv a2), (3, iv a3)] [iv s0, iv s1, iv s2] M := by
    intro   s0 s1 s2 M h
    unfold wB_Rset_55 at h
    refine g_callSi C (nargs := 3) (st := []) (m_Rin hci h) gd_in (by decide +kernel) ⟨rfl, rfl⟩ dR_set_55 ⟨by decide, by decide⟩ rfl rfl (Nat.le_of_ble_eq_true rfl) ?_
    intro r55c M55 h
    refine g_if_ne C 67 dR_set_58 (by decide) (fun hc => ?_) (fun hc => ?_)
    · replace h := h.1 hc
      refine g_aload_n C dR_set_67 rfl ?_
      refine g_iload_n C dR_set_68 rfl ?_
      refine g_iload_n C dR_set_69 rfl ?_
      refine g_callVi C (nargs := 2) (o := 0) (st := []) (m_Rits hci h) rfl (by decide) hci rfl gd_its (by decide +kernel) ⟨rfl, rfl⟩ dR_set_70 ⟨by decide, by decide⟩ rfl rfl (Nat.le_of_ble_eq_true rfl) ?_
      intro r70c M70 h
      refine g_istore C dR_set_73 (by decide) rfl ?_
      refine g_locals (lv' := [(0, .ref (ad 0)), (1, iv a1), (2, iv a2), (3, iv a3), (4, iv r70c)]) rfl ?_
      refine g_aload_n C dR_set_75 rfl ?_
      refine g_iload_n C dR_set_76 rfl ?_
      refine g_iload_n C dR_set_77 rfl ?_
      refine g_iload_n C dR_set_78 rfl ?_
      refine g_callVv C (nargs := 3) (o := 0) (st := []) (m_Rlays1 hci h) rfl (by decide) hci rfl gd_lays1 (by decide +kernel) ⟨rfl, rfl⟩ dR_set_79 ⟨by decide, by decide⟩ rfl rfl (Nat.le_of_ble_eq_true rfl) ?_
      intro M79 h
      refine g_iload C dR_set_82 rfl ?_
      exact hR _ _ _ _ dR_set_84 rfl h
    · replace h := h.2 hc
      refine g_aload_n C dR_set_61 rfl ?_
      refine g_iconst C dR_set_62 ?_
      refine g_callVi C (nargs := 1) (o := 0) (st := []) (m_Rerror hci h) rfl (by decide) hci rfl gd_error (by decide +kernel) ⟨rfl, rfl⟩ dR_set_63 ⟨by decide, by decide⟩ rfl rfl (Nat.le_of_ble_eq_true rfl) ?_
      intro r63c M63 h
      exact hR _ _ _ _ dR_set_66 rfl h
  refine g_locals (lv' := [(0, .ref (ad 0)), (1, iv a1), (2, iv a2), (3, iv a3)]) rfl ?_
  unfold w_Rset at h
  refine g_aload_n C dR_set_0 rfl ?_
  refine g_iload_n C dR_set_1 rfl ?_
  refine g_callVi C (nargs := 1) (o := 0) (st := []) (m_RisThing hci h) rfl (by decide) hci rfl gd_isThing (by decide +kernel) ⟨rfl, rfl⟩ dR_set_2 ⟨by decide, by decide⟩ rfl rfl (Nat.le_of_ble_eq_true rfl) ?_
  intro r2c M2 h
  refine g_if_eq C 22 dR_set_5 (by decide) (fun hc => ?_) (fun hc => ?_)
  · replace h := h.1 hc
    refine g_locals (lv' := [(0, .ref (ad 0))]) rfl ?_
    exact pB22  _ h
  · replace h := h.2 hc
    refine g_iload_n C dR_set_8 rfl ?_
    refine g_iconst C dR_set_9 ?_
    refine g_iconst C dR_set_10 ?_
    refine g_callSi C (nargs := 3) (st := []) (m_Rin hci h) gd_in (by decide +kernel) ⟨rfl, rfl⟩ dR_set_11 ⟨by decide, by decide⟩ rfl rfl (Nat.le_of_ble_eq_true rfl) ?_
    intro r11c M11 h
    refine g_if_eq C 22 dR_set_14 (by decide) (fun hc => ?_) (fun hc => ?_)
    · replace h := h.1 hc
      refine g_locals (lv' := [(0, .ref (ad 0))]) rfl ?_
      exact pB22  _ h
    · replace h := h.2 hc
      refine g_iload_n C dR_set_17 rfl ?_
      refine g_iconst C dR_set_18 ?_
      refine g_icmp_ne C 28 dR_set_19 (by decide) (fun hc => ?_) (fun hc => ?_)
      · replace h := h.1 hc
        refine g_iload_n C dR_set_28 rfl ?_
        refine g_iconst C dR_set_29 ?_
        refine g_iload_n C dR_set_30 rfl ?_
        refine g_if_ne C 39 dR_set_31 (by decide) (fun hc => ?_) (fun hc => ?_)
        · replace h := h.1 hc
          refine g_iload_n C dR_set_39 rfl ?_
          refine g_iconst C dR_set_40 ?_
          refine g_icmp_ne C 49 dR_set_41 (by decide) (fun hc => ?_) (fun hc => ?_)
          · replace h := h.1 hc
            refine g_aload_n C dR_set_49 rfl ?_
            refine g_iload_n C dR_set_50 rfl ?_
            refine g_iconst C dR_set_51 ?_
            refine g_callVi C (nargs := 2) (o := 0) (st := [iv 0, iv a3]) (m_Rits hci h) rfl (by decide) hci rfl gd_its (by decide +kernel) ⟨rfl, rfl⟩ dR_set_52 ⟨by decide, by decide⟩ rfl rfl (Nat.le_of_ble_eq_true rfl) ?_
            intro r52c M52 h
            refine g_locals (lv' := [(0, .ref (ad 0)), (1, iv a1), (2, iv a2), (3, iv a3)]) rfl ?_
            exact pB55 _ _ _ _ h
          · replace h := h.2 hc
            refine g_bipush C dR_set_44 rfl ?_
            refine g_goto C 55 dR_set_46 (by decide) ?_
            refine g_locals (lv' := [(0, .ref (ad 0)), (1, iv a1), (2, iv a2), (3, iv a3)]) rfl ?_
            exact pB55 _ _ _ _ h
        · replace h := h.2 hc
          refine g_bipush C dR_set_34 rfl ?_
          refine g_goto C 55 dR_set_36 (by decide) ?_
          refine g_locals (lv' := [(0, .ref (ad 0)), (1, iv a1), (2, iv a2), (3, iv a3)]) rfl ?_
          exact pB55 _ _ _ _ h
      · replace h := h.2 hc
        refine g_locals (lv' := [(0, .ref (ad 0))]) rfl ?_
        exact pB22  _ h
def wB_Rmoves_88 (a1 : Int) (a2 : Int) (a3 : Int) (k : gSt → Prop) (r29 : Int → Int → Int → gSt → Prop) (X29_97 : Int → Int → gSt → Prop) (v4 : Int) (v6 : Int) (v8 : Int) (s0 : Int) (s1 : Int) (s2 : Int) (M : gSt) : Prop :=
w_Rlays1 s2 s1 s0 M (fun M88 => r29 v4 v6 (v8 + 1) M88)
def wC_Rmoves_29 (a1 : Int) (a2 : Int) (a3 : Int) (k : gSt → Prop) (r29 : Int → Int → Int → gSt → Prop) (X29_97 : Int → Int → gSt → Prop) (v4 : Int) (v6 : Int) (v8 : Int) (M : gSt) : Prop :=

  (10 ≤ wrap v8 →
    X29_97 v4 v6 M) ∧
  (wrap v8 < 10 →
    w_Rits a1 v8 M (fun r42c M42 => w_Rits a2 v8 M42 (fun r53c M53 => ∀ x9_59 : Int, x9_59 = (v4 * (wrap r42c)) + (v6 * (wrap r53c)) → (
    (¬ wrap (ycmp (v4 + v6) 0) = 0 →
      (wrapL (v4 + v6) ≠ 0) ∧ (wB_Rmoves_88 a1 a2 a3 k r29 X29_97 v4 v6 v8 (Int.tdiv (wrapL x9_59) (wrapL (v4 + v6))) v8 a2 M53)) ∧
    (wrap (ycmp (v4 + v6) 0) = 0 →
      wB_Rmoves_88 a1 a2 a3 k r29 X29_97 v4 v6 v8 0 v8 a2 M53)))))
def wL_Rmoves_29 (a1 : Int) (a2 : Int) (a3 : Int) (k : gSt → Prop)  (X29_97 : Int → Int → gSt → Prop) : Nat → Int → Int → Int → gSt → Prop
  | 0 => fun _ _ _ _ => False
  | n + 1 => fun v4 v6 v8 M => wC_Rmoves_29 a1 a2 a3 k  (wL_Rmoves_29 a1 a2 a3 k  X29_97 n) X29_97 v4 v6 v8 M
def wC_Rmoves_134 (a1 : Int) (a2 : Int) (a3 : Int) (k : gSt → Prop) (r134 : Int → Int → Int → gSt → Prop) (X134_204 : Int → gSt → Prop) (v4 : Int) (v8 : Int) (v9 : Int) (M : gSt) : Prop :=

  (5 < wrap v9 →
    X134_204 v4 M) ∧
  (wrap v9 ≤ 5 →
    w_Rits a1 v9 M (fun r144c M144 => ∀ x10_156 : Int, x10_156 = Int.tdiv (wrapL ((wrap r144c) * (wrap a3))) 8 → (w_Rits a1 v9 M144 (fun r166c M166 => w_Rlays1 a1 v9 (r166c - x10_156) M166 (fun M172 => w_Rits a2 v9 M172 (fun r183c M183 => w_Rheld (r183c + x10_156) 0 v8 M183 (fun r192c M192 => w_Rlays1 a2 v9 r192c M192 (fun M195 => r134 v4 v8 (v9 + 1) M195))))))))
def wL_Rmoves_134 (a1 : Int) (a2 : Int) (a3 : Int) (k : gSt → Prop)  (X134_204 : Int → gSt → Prop) : Nat → Int → Int → Int → gSt → Prop
  | 0 => fun _ _ _ _ => False
  | n + 1 => fun v4 v8 v9 M => wC_Rmoves_134 a1 a2 a3 k  (wL_Rmoves_134 a1 a2 a3 k  X134_204 n) X134_204 v4 v8 v9 M
def wB_Rmoves_120 (a1 : Int) (a2 : Int) (a3 : Int) (k : gSt → Prop)  (v4 : Int) (s0 : Int) (M : gSt) : Prop :=
w_Rlays1 a2 2 s0 M (fun M128 => ∃ n, wL_Rmoves_134 a1 a2 a3 k  (fun u4_134 M134 =>
    w_Rits a1 2 M134 (fun r210c M210 => w_Rlays1 a1 2 (r210c - u4_134) M210 (fun M217 => k M217))) n v4 s0 3 M128)
def w_Rmoves (a1 : Int) (a2 : Int) (a3 : Int) (M : gSt) (k : gSt → Prop) : Prop :=
w_Rits a1 2 M (fun r3c M3 => ∀ x4_14 : Int, x4_14 = Int.tdiv (wrapL ((wrap r3c) * (wrap a3))) 8 → (w_Rits a2 2 M3 (fun r19c M19 => ∀ x6_23 : Int, x6_23 = wrap r19c → (∃ n, wL_Rmoves_29 a1 a2 a3 k  (fun u4_29 u6_29 M29 =>

    (wrap (ycmp (u4_29 + u6_29) 9999999) ≤ 0 →
      wB_Rmoves_120 a1 a2 a3 k  u4_29 (u4_29 + u6_29) M29) ∧
    (0 < wrap (ycmp (u4_29 + u6_29) 9999999) →
      wB_Rmoves_120 a1 a2 a3 k  u4_29 9999999 M29)) n x4_14 x6_23 6 M19))))
set_option maxHeartbeats 4000000 in
set_option maxRecDepth 100000 in
theorem m_Rmoves {l : Launch} {D : va_G} {cl : List vw_C} {tys : List (ClassId × FieldType)} {ad : Nat → Nat} {cI : ClassId} {ci : Nat} (hci : cl[ci]? = some (RX9, TX9, 23)) {a1 : Int} {a2 : Int} {a3 : Int} {M : gSt} {k : gSt → Prop} (h : w_Rmoves a1 a2 a3 M k) : MOv l yX9_moves cX9_moves 11 (rmR 1 23) D cl ((cI, .int) :: tys) (wR ad cI ci) tR [.ref (ad 0), iv a1, iv a2, iv a3] M k := by
  refine mov_intro (by decide +kernel) (Nat.le_of_ble_eq_true rfl) wi_89 ?_
  intro p e s m args below meth c A Q C hR
  have pB88 : ∀ (r29 : Int → Int → Int → gSt → Prop) (X29_97 : Int → Int → gSt → Prop) (hr29 : ∀ (v4 : Int) (v6 : Int) (v8 : Int) (M : gSt), r29 v4 v6 v8 M → gG p l e (rmR 1 23) s m args below meth c Q D cl A (wR ad cI ci) 11 29 [(0, .ref (ad 0)), (1, iv a1), (2, iv a2), (3, iv a3), (4, jv v4), (6, jv v6), (8, iv v8)] [] M) (hX29_97 : ∀ (v4 : Int) (v6 : Int) (M : gSt), X29_97 v4 v6 M → gG p l e (rmR 1 23) s m args below meth c Q D cl A (wR ad cI ci) 11 97 [(0, .ref (ad 0)), (1, iv a1), (2, iv a2), (3, iv a3), (4, jv v4), (6, jv v6)] [] M) (v4 : Int) (v6 : Int) (v8 : Int) (s0 : Int) (s1 : Int) (s2 : Int) (M : gSt), wB_Rmoves_88 a1 a2 a3 k r29 X29_97 v4 v6 v8 s0 s1 s2 M → gG p l e (rmR 1 23) s m args below meth c Q D cl A (wR ad cI ci) 11 88 [(0, .ref (ad 0)), (1, iv a1), (2, iv a2), (3, iv a3), (4, jv v4), (6, jv v6), (8, iv v8)] [iv s0, iv s1, iv s2, .ref (ad 0)] M := by
    intro r29 X29_97 hr29 hX29_97 v4 v6 v8 s0 s1 s2 M h
    unfold wB_Rmoves_88 at h
    refine g_callVv C (nargs := 3) (o := 0) (st := []) (m_Rlays1 hci h) rfl (by decide) hci rfl gd_lays1 (by decide +kernel) ⟨rfl, rfl⟩ dR_moves_88 ⟨by decide, by decide⟩ rfl rfl (Nat.le_of_ble_eq_true rfl) ?_
    intro M88 h
    refine g_iinc C dR_moves_91 rfl (by decide) rfl ?_
    refine g_locals (lv' := [(0, .ref (ad 0)), (1, iv a1), (2, iv a2), (3, iv a3), (4, jv v4), (6, jv v6), (8, iv (v8 + 1))]) rfl ?_
    refine g_goto C 29 dR_moves_94 (by decide) ?_
    refine g_locals (lv' := [(0, .ref (ad 0)), (1, iv a1), (2, iv a2), (3, iv a3), (4, jv v4), (6, jv v6), (8, iv (v8 + 1))]) rfl ?_
    exact hr29 _ _ _  _ h
  have pC29 : ∀ (r29 : Int → Int → Int → gSt → Prop) (X29_97 : Int → Int → gSt → Prop) (hr29 : ∀ (v4 : Int) (v6 : Int) (v8 : Int) (M : gSt), r29 v4 v6 v8 M → gG p l e (rmR 1 23) s m args below meth c Q D cl A (wR ad cI ci) 11 29 [(0, .ref (ad 0)), (1, iv a1), (2, iv a2), (3, iv a3), (4, jv v4), (6, jv v6), (8, iv v8)] [] M) (hX29_97 : ∀ (v4 : Int) (v6 : Int) (M : gSt), X29_97 v4 v6 M → gG p l e (rmR 1 23) s m args below meth c Q D cl A (wR ad cI ci) 11 97 [(0, .ref (ad 0)), (1, iv a1), (2, iv a2), (3, iv a3), (4, jv v4), (6, jv v6)] [] M) (v4 : Int) (v6 : Int) (v8 : Int) (M : gSt), wC_Rmoves_29 a1 a2 a3 k r29 X29_97 v4 v6 v8 M → gG p l e (rmR 1 23) s m args below meth c Q D cl A (wR ad cI ci) 11 29 [(0, .ref (ad 0)), (1, iv a1), (2, iv a2), (3, iv a3), (4, jv v4), (6, jv v6), (8, iv v8)] [] M := by
    intro r29 X29_97 hr29 hX29_97 v4 v6 v8 M h
    unfold wC_Rmoves_29 at h
    refine g_iload C dR_moves_29 rfl ?_
    refine g_bipush C dR_moves_31 rfl ?_
    refine g_icmp_ge C 97 dR_moves_33 (by decide) (fun hc => ?_) (fun hc => ?_)
    · replace h := h.1 hc
      refine g_locals (lv' := [(0, .ref (ad 0)), (1, iv a1), (2, iv a2), (3, iv a3), (4, jv v4), (6, jv v6)]) rfl ?_
      exact hX29_97 _ _  _ h
    · replace h := h.2 hc
      refine g_lload C dR_moves_36 rfl ?_
      refine g_aload_n C dR_moves_38 rfl ?_
      refine g_iload_n C dR_moves_39 rfl ?_
      refine g_iload C dR_moves_40 rfl ?_
      refine g_callVi C (nargs := 2) (o := 0) (st := [jv v4]) (m_Rits hci h) rfl (by decide) hci rfl gd_its (by decide +kernel) ⟨rfl, rfl⟩ dR_moves_42 ⟨by decide, by decide⟩ rfl rfl (Nat.le_of_ble_eq_true rfl) ?_
      intro r42c M42 h
      refine g_i2l C dR_moves_45 ?_
      refine g_lmul C dR_moves_46 ?_
      refine g_lload C dR_moves_47 rfl ?_
      refine g_aload_n C dR_moves_49 rfl ?_
      refine g_iload_n C dR_moves_50 rfl ?_
      refine g_iload C dR_moves_51 rfl ?_
      refine g_callVi C (nargs := 2) (o := 0) (st := [jv v6, jv (v4 * (wrap r42c))]) (m_Rits hci h) rfl (by decide) hci rfl gd_its (by decide +kernel) ⟨rfl, rfl⟩ dR_moves_53 ⟨by decide, by decide⟩ rfl rfl (Nat.le_of_ble_eq_true rfl) ?_
      intro r53c M53 h
      refine g_i2l C dR_moves_56 ?_
      refine g_lmul C dR_moves_57 ?_
      refine g_ladd C dR_moves_58 ?_
      refine g_nameL (fun x9_59 hx9_59 => ?_)
      replace h := h x9_59 hx9_59
      refine g_lstore C dR_moves_59 (by decide) rfl ?_
      refine g_locals (lv' := [(0, .ref (ad 0)), (1, iv a1), (2, iv a2), (3, iv a3), (4, jv v4), (6, jv v6), (8, iv v8), (9, jv x9_59)]) rfl ?_
      refine g_aload_n C dR_moves_61 rfl ?_
      refine g_iload_n C dR_moves_62 rfl ?_
      refine g_iload C dR_moves_63 rfl ?_
      refine g_lload C dR_moves_65 rfl ?_
      refine g_lload C dR_moves_67 rfl ?_
      refine g_ladd C dR_moves_69 ?_
      refine g_lconst C 0 rfl dR_moves_70 ?_
      refine g_lcmp C dR_moves_71 ?_
      refine g_if_ne C 79 dR_moves_72 (by decide) (fun hc => ?_) (fun hc => ?_)
      · replace h := h.1 hc
        refine g_lload C dR_moves_79 rfl ?_
        refine g_lload C dR_moves_81 rfl ?_
        refine g_lload C dR_moves_83 rfl ?_
        refine g_ladd C dR_moves_85 ?_
        refine g_ldiv C dR_moves_86 h.1 ?_
        replace h := h.2
        refine g_topL (y := Int.tdiv (wrapL x9_59) (wrapL (v4 + v6))) rfl ?_
        refine g_l2i C dR_moves_87 ?_
        refine g_locals (lv' := [(0, .ref (ad 0)), (1, iv a1), (2, iv a2), (3, iv a3), (4, jv v4), (6, jv v6), (8, iv v8)]) rfl ?_
        exact pB88 r29 X29_97 hr29 hX29_97 _ _ _ _ _ _ _ h
      · replace h := h.2 hc
        refine g_iconst C dR_moves_75 ?_
        refine g_goto C 88 dR_moves_76 (by decide) ?_
        refine g_locals (lv' := [(0, .ref (ad 0)), (1, iv a1), (2, iv a2), (3, iv a3), (4, jv v4), (6, jv v6), (8, iv v8)]) rfl ?_
        exact pB88 r29 X29_97 hr29 hX29_97 _ _ _ _ _ _ _ h
  have pL29 : ∀  (X29_97 : Int → Int → gSt → Prop) (hX29_97 : ∀ (v4 : Int) (v6 : Int) (M : gSt), X29_97 v4 v6 M → gG p l e (rmR 1 23) s m args below meth c Q D cl A (wR ad cI ci) 11 97 [(0, .ref (ad 0)), (1, iv a1), (2, iv a2), (3, iv a3), (4, jv v4), (6, jv v6)] [] M) (n : Nat) (v4 : Int) (v6 : Int) (v8 : Int) (M : gSt), wL_Rmoves_29 a1 a2 a3 k  X29_97 n v4 v6 v8 M → gG p l e (rmR 1 23) s m args below meth c Q D cl A (wR ad cI ci) 11 29 [(0, .ref (ad 0)), (1, iv a1), (2, iv a2), (3, iv a3), (4, jv v4), (6, jv v6), (8, iv v8)] [] M := by
    intro  X29_97 hX29_97 n
    induction n with
    | zero => intro v4 v6 v8 M h; exact h.elim
    | succ n ih =>
      intro v4 v6 v8 M h
      exact pC29  (wL_Rmoves_29 a1 a2 a3 k  X29_97 n) X29_97 ih hX29_97 v4 v6 v8 M h
  have pC134 : ∀ (r134 : Int → Int → Int → gSt → Prop) (X134_204 : Int → gSt → Prop) (hr134 : ∀ (v4 : Int) (v8 : Int) (v9 : Int) (M : gSt), r134 v4 v8 v9 M → gG p l e (rmR 1 23) s m args below meth c Q D cl A (wR ad cI ci) 11 134 [(0, .ref (ad 0)), (1, iv a1), (2, iv a2), (3, iv a3), (4, jv v4), (8, iv v8), (9, iv v9)] [] M) (hX134_204 : ∀ (v4 : Int) (M : gSt), X134_204 v4 M → gG p l e (rmR 1 23) s m args below meth c Q D cl A (wR ad cI ci) 11 204 [(0, .ref (ad 0)), (1, iv a1), (4, jv v4)] [] M) (v4 : Int) (v8 : Int) (v9 : Int) (M : gSt), wC_Rmoves_134 a1 a2 a3 k r134 X134_204 v4 v8 v9 M → gG p l e (rmR 1 23) s m args below meth c Q D cl A (wR ad cI ci) 11 134 [(0, .ref (ad 0)), (1, iv a1), (2, iv a2), (3, iv a3), (4, jv v4), (8, iv v8), (9, iv v9)] [] M := by
    intro r134 X134_204 hr134 hX134_204 v4 v8 v9 M h
    unfold wC_Rmoves_134 at h
    refine g_iload C dR_moves_134 rfl ?_
    refine g_iconst C dR_moves_136 ?_
    refine g_icmp_gt C 204 dR_moves_137 (by decide) (fun hc => ?_) (fun hc => ?_)
    · replace h := h.1 hc
      refine g_locals (lv' := [(0, .ref (ad 0)), (1, iv a1), (4, jv v4)]) rfl ?_
      exact hX134_204 _  _ h
    · replace h := h.2 hc
      refine g_aload_n C dR_moves_140 rfl ?_
      refine g_iload_n C dR_moves_141 rfl ?_
      refine g_iload C dR_moves_142 rfl ?_
      refine g_callVi C (nargs := 2) (o := 0) (st := []) (m_Rits hci h) rfl (by decide) hci rfl gd_its (by decide +kernel) ⟨rfl, rfl⟩ dR_moves_144 ⟨by decide, by decide⟩ rfl rfl (Nat.le_of_ble_eq_true rfl) ?_
      intro r144c M144 h
      refine g_i2l C dR_moves_147 ?_
      refine g_iload_n C dR_moves_148 rfl ?_
      refine g_i2l C dR_moves_149 ?_
      refine g_lmul C dR_moves_150 ?_
      refine g_ldc2 C 8 wi_87 rfl dR_moves_151 ?_
      refine g_ldiv C dR_moves_154 (by decide) ?_
      refine g_topL (y := Int.tdiv (wrapL ((wrap r144c) * (wrap a3))) 8) rfl ?_
      refine g_l2i C dR_moves_155 ?_
      refine g_name (fun x10_156 hx10_156 => ?_)
      replace h := h x10_156 hx10_156
      refine g_istore C dR_moves_156 (by decide) rfl ?_
      refine g_locals (lv' := [(0, .ref (ad 0)), (1, iv a1), (2, iv a2), (3, iv a3), (4, jv v4), (8, iv v8), (9, iv v9), (10, iv x10_156)]) rfl ?_
      refine g_aload_n C dR_moves_158 rfl ?_
      refine g_iload_n C dR_moves_159 rfl ?_
      refine g_iload C dR_moves_160 rfl ?_
      refine g_aload_n C dR_moves_162 rfl ?_
      refine g_iload_n C dR_moves_163 rfl ?_
      refine g_iload C dR_moves_164 rfl ?_
      refine g_callVi C (nargs := 2) (o := 0) (st := [iv v9, iv a1, .ref (ad 0)]) (m_Rits hci h) rfl (by decide) hci rfl gd_its (by decide +kernel) ⟨rfl, rfl⟩ dR_moves_166 ⟨by decide, by decide⟩ rfl rfl (Nat.le_of_ble_eq_true rfl) ?_
      intro r166c M166 h
      refine g_iload C dR_moves_169 rfl ?_
      refine g_isub C dR_moves_171 ?_
      refine g_callVv C (nargs := 3) (o := 0) (st := []) (m_Rlays1 hci h) rfl (by decide) hci rfl gd_lays1 (by decide +kernel) ⟨rfl, rfl⟩ dR_moves_172 ⟨by decide, by decide⟩ rfl rfl (Nat.le_of_ble_eq_true rfl) ?_
      intro M172 h
      refine g_aload_n C dR_moves_175 rfl ?_
      refine g_iload_n C dR_moves_176 rfl ?_
      refine g_iload C dR_moves_177 rfl ?_
      refine g_aload_n C dR_moves_179 rfl ?_
      refine g_iload_n C dR_moves_180 rfl ?_
      refine g_iload C dR_moves_181 rfl ?_
      refine g_callVi C (nargs := 2) (o := 0) (st := [iv v9, iv a2, .ref (ad 0)]) (m_Rits hci h) rfl (by decide) hci rfl gd_its (by decide +kernel) ⟨rfl, rfl⟩ dR_moves_183 ⟨by decide, by decide⟩ rfl rfl (Nat.le_of_ble_eq_true rfl) ?_
      intro r183c M183 h
      refine g_iload C dR_moves_186 rfl ?_
      refine g_iadd C dR_moves_188 ?_
      refine g_iconst C dR_moves_189 ?_
      refine g_iload C dR_moves_190 rfl ?_
      refine g_callSi C (nargs := 3) (st := [iv v9, iv a2, .ref (ad 0)]) (m_Rheld hci h) gd_held (by decide +kernel) ⟨rfl, rfl⟩ dR_moves_192 ⟨by decide, by decide⟩ rfl rfl (Nat.le_of_ble_eq_true rfl) ?_
      intro r192c M192 h
      refine g_callVv C (nargs := 3) (o := 0) (st := []) (m_Rlays1 hci h) rfl (by decide) hci rfl gd_lays1 (by decide +kernel) ⟨rfl, rfl⟩ dR_moves_195 ⟨by decide, by decide⟩ rfl rfl (Nat.le_of_ble_eq_true rfl) ?_
      intro M195 h
      refine g_iinc C dR_moves_198 rfl (by decide) rfl ?_
      refine g_locals (lv' := [(0, .ref (ad 0)), (1, iv a1), (2, iv a2), (3, iv a3), (4, jv v4), (8, iv v8), (9, iv (v9 + 1)), (10, iv x10_156)]) rfl ?_
      refine g_goto C 134 dR_moves_201 (by decide) ?_
      refine g_locals (lv' := [(0, .ref (ad 0)), (1, iv a1), (2, iv a2), (3, iv a3), (4, jv v4), (8, iv v8), (9, iv (v9 + 1))]) rfl ?_
      exact hr134 _ _ _  _ h
  have pL134 : ∀  (X134_204 : Int → gSt → Prop) (hX134_204 : ∀ (v4 : Int) (M : gSt), X134_204 v4 M → gG p l e (rmR 1 23) s m args below meth c Q D cl A (wR ad cI ci) 11 204 [(0, .ref (ad 0)), (1, iv a1), (4, jv v4)] [] M) (n : Nat) (v4 : Int) (v8 : Int) (v9 : Int) (M : gSt), wL_Rmoves_134 a1 a2 a3 k  X134_204 n v4 v8 v9 M → gG p l e (rmR 1 23) s m args below meth c Q D cl A (wR ad cI ci) 11 134 [(0, .ref (ad 0)), (1, iv a1), (2, iv a2), (3, iv a3), (4, jv v4), (8, iv v8), (9, iv v9)] [] M := by
    intro  X134_204 hX134_204 n
    induction n with
    | zero => intro v4 v8 v9 M h; exact h.elim
    | succ n ih =>
      intro v4 v8 v9 M h
      exact pC134  (wL_Rmoves_134 a1 a2 a3 k  X134_204 n) X134_204 ih hX134_204 v4 v8 v9 M h
  have pB120 : ∀   (v4 : Int) (s0 : Int) (M : gSt), wB_Rmoves_120 a1 a2 a3 k  v4 s0 M → gG p l e (rmR 1 23) s m args below meth c Q D cl A (wR ad cI ci) 11 120 [(0, .ref (ad 0)), (1, iv a1), (2, iv a2), (3, iv a3), (4, jv v4)] [jv s0] M := by
    intro   v4 s0 M h
    unfold wB_Rmoves_120 at h
    refine g_l2i C dR_moves_120 ?_
    refine g_istore C dR_moves_121 (by decide) rfl ?_
    refine g_locals (lv' := [(0, .ref (ad 0)), (1, iv a1), (2, iv a2), (3, iv a3), (4, jv v4), (8, iv s0)]) rfl ?_
    refine g_aload_n C dR_moves_123 rfl ?_
    refine g_iload_n C dR_moves_124 rfl ?_
    refine g_iconst C dR_moves_125 ?_
    refine g_iload C dR_moves_126 rfl ?_
    refine g_callVv C (nargs := 3) (o := 0) (st := []) (m_Rlays1 hci h) rfl (by decide) hci rfl gd_lays1 (by decide +kernel) ⟨rfl, rfl⟩ dR_moves_128 ⟨by decide, by decide⟩ rfl rfl (Nat.le_of_ble_eq_true rfl) ?_
    intro M128 h
    refine g_iconst C dR_moves_131 ?_
    refine g_istore C dR_moves_132 (by decide) rfl ?_
    refine g_locals (lv' := [(0, .ref (ad 0)), (1, iv a1), (2, iv a2), (3, iv a3), (4, jv v4), (8, iv s0), (9, iv 3)]) rfl ?_
    refine g_locals (lv' := [(0, .ref (ad 0)), (1, iv a1), (2, iv a2), (3, iv a3), (4, jv v4), (8, iv s0), (9, iv 3)]) rfl ?_
    obtain ⟨n, h⟩ := h
    refine pL134 _ ?_ n _ _ _ _ h
    · intro u4_134 M134 h
      refine g_aload_n C dR_moves_204 rfl ?_
      refine g_iload_n C dR_moves_205 rfl ?_
      refine g_iconst C dR_moves_206 ?_
      refine g_aload_n C dR_moves_207 rfl ?_
      refine g_iload_n C dR_moves_208 rfl ?_
      refine g_iconst C dR_moves_209 ?_
      refine g_callVi C (nargs := 2) (o := 0) (st := [iv 2, iv a1, .ref (ad 0)]) (m_Rits hci h) rfl (by decide) hci rfl gd_its (by decide +kernel) ⟨rfl, rfl⟩ dR_moves_210 ⟨by decide, by decide⟩ rfl rfl (Nat.le_of_ble_eq_true rfl) ?_
      intro r210c M210 h
      refine g_lload C dR_moves_213 rfl ?_
      refine g_l2i C dR_moves_215 ?_
      refine g_isub C dR_moves_216 ?_
      refine g_callVv C (nargs := 3) (o := 0) (st := []) (m_Rlays1 hci h) rfl (by decide) hci rfl gd_lays1 (by decide +kernel) ⟨rfl, rfl⟩ dR_moves_217 ⟨by decide, by decide⟩ rfl rfl (Nat.le_of_ble_eq_true rfl) ?_
      intro M217 h
      exact hR _ _ _ dR_moves_220 h
  refine g_locals (lv' := [(0, .ref (ad 0)), (1, iv a1), (2, iv a2), (3, iv a3)]) rfl ?_
  unfold w_Rmoves at h
  refine g_aload_n C dR_moves_0 rfl ?_
  refine g_iload_n C dR_moves_1 rfl ?_
  refine g_iconst C dR_moves_2 ?_
  refine g_callVi C (nargs := 2) (o := 0) (st := []) (m_Rits hci h) rfl (by decide) hci rfl gd_its (by decide +kernel) ⟨rfl, rfl⟩ dR_moves_3 ⟨by decide, by decide⟩ rfl rfl (Nat.le_of_ble_eq_true rfl) ?_
  intro r3c M3 h
  refine g_i2l C dR_moves_6 ?_
  refine g_iload_n C dR_moves_7 rfl ?_
  refine g_i2l C dR_moves_8 ?_
  refine g_lmul C dR_moves_9 ?_
  refine g_ldc2 C 8 wi_87 rfl dR_moves_10 ?_
  refine g_ldiv C dR_moves_13 (by decide) ?_
  refine g_topL (y := Int.tdiv (wrapL ((wrap r3c) * (wrap a3))) 8) rfl ?_
  refine g_nameL (fun x4_14 hx4_14 => ?_)
  replace h := h x4_14 hx4_14
  refine g_lstore C dR_moves_14 (by decide) rfl ?_
  refine g_locals (lv' := [(0, .ref (ad 0)), (1, iv a1), (2, iv a2), (3, iv a3), (4, jv x4_14)]) rfl ?_
  refine g_aload_n C dR_moves_16 rfl ?_
  refine g_iload_n C dR_moves_17 rfl ?_
  refine g_iconst C dR_moves_18 ?_
  refine g_callVi C (nargs := 2) (o := 0) (st := []) (m_Rits hci h) rfl (by decide) hci rfl gd_its (by decide +kernel) ⟨rfl, rfl⟩ dR_moves_19 ⟨by decide, by decide⟩ rfl rfl (Nat.le_of_ble_eq_true rfl) ?_
  intro r19c M19 h
  refine g_i2l C dR_moves_22 ?_
  refine g_nameL (fun x6_23 hx6_23 => ?_)
  replace h := h x6_23 hx6_23
  refine g_lstore C dR_moves_23 (by decide) rfl ?_
  refine g_locals (lv' := [(0, .ref (ad 0)), (1, iv a1), (2, iv a2), (3, iv a3), (4, jv x4_14), (6, jv x6_23)]) rfl ?_
  refine g_bipush C dR_moves_25 rfl ?_
  refine g_istore C dR_moves_27 (by decide) rfl ?_
  refine g_locals (lv' := [(0, .ref (ad 0)), (1, iv a1), (2, iv a2), (3, iv a3), (4, jv x4_14), (6, jv x6_23), (8, iv 6)]) rfl ?_
  refine g_locals (lv' := [(0, .ref (ad 0)), (1, iv a1), (2, iv a2), (3, iv a3), (4, jv x4_14), (6, jv x6_23), (8, iv 6)]) rfl ?_
  obtain ⟨n, h⟩ := h
  refine pL29 _ ?_ n _ _ _ _ h
  · intro u4_29 u6_29 M29 h
    refine g_lload C dR_moves_97 rfl ?_
    refine g_lload C dR_moves_99 rfl ?_
    refine g_ladd C dR_moves_101 ?_
    refine g_ldc2 C 9999999 wi_88 rfl dR_moves_102 ?_
    refine g_lcmp C dR_moves_105 ?_
    refine g_if_le C 115 dR_moves_106 (by decide) (fun hc => ?_) (fun hc => ?_)
    · replace h := h.1 hc
      refine g_lload C dR_moves_115 rfl ?_
      refine g_lload C dR_moves_117 rfl ?_
      refine g_ladd C dR_moves_119 ?_
      refine g_locals (lv' := [(0, .ref (ad 0)), (1, iv a1), (2, iv a2), (3, iv a3), (4, jv u4_29)]) rfl ?_
      exact pB120 _ _ _ h
    · replace h := h.2 hc
      refine g_ldc2 C 9999999 wi_88 rfl dR_moves_109 ?_
      refine g_goto C 120 dR_moves_112 (by decide) ?_
      refine g_locals (lv' := [(0, .ref (ad 0)), (1, iv a1), (2, iv a2), (3, iv a3), (4, jv u4_29)]) rfl ?_
      exact pB120 _ _ _ h
def wB_Rmelt_18 (a1 : Int) (a2 : Int) (k : Int → gSt → Prop)   (M : gSt) : Prop :=
w_Rerror 1 M (fun r20c M20 => k r20c M20)
def w_Rmelt (a1 : Int) (a2 : Int) (M : gSt) (k : Int → gSt → Prop) : Prop :=
w_RisThing a1 M (fun r2c M2 => 
  (wrap r2c = 0 →
    wB_Rmelt_18 a1 a2 k   M2) ∧
  (¬ wrap r2c = 0 →
    w_Rin a2 1 8 M2 (fun r12c M12 => 
    (¬ wrap r12c = 0 →
      w_Rits a1 2 M12 (fun r27c M27 => 
      (¬ wrap r27c = 0 →
        w_Rmoves a1 12 a2 M27 (fun M44 => w_Rits 12 2 M44 (fun r51c M51 => k r51c M51))) ∧
      (wrap r27c = 0 →
        w_Rerror 3 M27 (fun r35c M35 => k r35c M35)))) ∧
    (wrap r12c = 0 →
      wB_Rmelt_18 a1 a2 k   M12))))
set_option maxHeartbeats 4000000 in
set_option maxRecDepth 100000 in
theorem m_Rmelt {l : Launch} {D : va_G} {cl : List vw_C} {tys : List (ClassId × FieldType)} {ad : Nat → Nat} {cI : ClassId} {ci : Nat} (hci : cl[ci]? = some (RX9, TX9, 23)) {a1 : Int} {a2 : Int} {M : gSt} {k : Int → gSt → Prop} (h : w_Rmelt a1 a2 M k) : MOi l yX9_melt cX9_melt 3 .int (rmR 2 53) D cl ((cI, .int) :: tys) (wR ad cI ci) tR [.ref (ad 0), iv a1, iv a2] M k := by
  refine moi_intro (by decide +kernel) (Nat.le_of_ble_eq_true rfl) wi_93 ?_
  intro p e s m args below meth c A Q C hR
  have pB18 : ∀    (M : gSt), wB_Rmelt_18 a1 a2 k   M → gG p l e (rmR 2 53) s m args below meth c Q D cl A (wR ad cI ci) 3 18 [(0, .ref (ad 0))] [] M := by
    intro    M h
    unfold wB_Rmelt_18 at h
    refine g_aload_n C dR_melt_18 rfl ?_
    refine g_iconst C dR_melt_19 ?_
    refine g_callVi C (nargs := 1) (o := 0) (st := []) (m_Rerror hci h) rfl (by decide) hci rfl gd_error (by decide +kernel) ⟨rfl, rfl⟩ dR_melt_20 ⟨by decide, by decide⟩ rfl rfl (Nat.le_of_ble_eq_true rfl) ?_
    intro r20c M20 h
    exact hR _ _ _ _ dR_melt_23 rfl h
  refine g_locals (lv' := [(0, .ref (ad 0)), (1, iv a1), (2, iv a2)]) rfl ?_
  unfold w_Rmelt at h
  refine g_aload_n C dR_melt_0 rfl ?_
  refine g_iload_n C dR_melt_1 rfl ?_
  refine g_callVi C (nargs := 1) (o := 0) (st := []) (m_RisThing hci h) rfl (by decide) hci rfl gd_isThing (by decide +kernel) ⟨rfl, rfl⟩ dR_melt_2 ⟨by decide, by decide⟩ rfl rfl (Nat.le_of_ble_eq_true rfl) ?_
  intro r2c M2 h
  refine g_if_eq C 18 dR_melt_5 (by decide) (fun hc => ?_) (fun hc => ?_)
  · replace h := h.1 hc
    refine g_locals (lv' := [(0, .ref (ad 0))]) rfl ?_
    exact pB18  _ h
  · replace h := h.2 hc
    refine g_iload_n C dR_melt_8 rfl ?_
    refine g_iconst C dR_melt_9 ?_
    refine g_bipush C dR_melt_10 rfl ?_
    refine g_callSi C (nargs := 3) (st := []) (m_Rin hci h) gd_in (by decide +kernel) ⟨rfl, rfl⟩ dR_melt_12 ⟨by decide, by decide⟩ rfl rfl (Nat.le_of_ble_eq_true rfl) ?_
    intro r12c M12 h
    refine g_if_ne C 24 dR_melt_15 (by decide) (fun hc => ?_) (fun hc => ?_)
    · replace h := h.1 hc
      refine g_aload_n C dR_melt_24 rfl ?_
      refine g_iload_n C dR_melt_25 rfl ?_
      refine g_iconst C dR_melt_26 ?_
      refine g_callVi C (nargs := 2) (o := 0) (st := []) (m_Rits hci h) rfl (by decide) hci rfl gd_its (by decide +kernel) ⟨rfl, rfl⟩ dR_melt_27 ⟨by decide, by decide⟩ rfl rfl (Nat.le_of_ble_eq_true rfl) ?_
      intro r27c M27 h
      refine g_if_ne C 39 dR_melt_30 (by decide) (fun hc => ?_) (fun hc => ?_)
      · replace h := h.1 hc
        refine g_aload_n C dR_melt_39 rfl ?_
        refine g_iload_n C dR_melt_40 rfl ?_
        refine g_bipush C dR_melt_41 rfl ?_
        refine g_iload_n C dR_melt_43 rfl ?_
        refine g_callVv C (nargs := 3) (o := 0) (st := []) (m_Rmoves hci h) rfl (by decide) hci rfl gd_moves (by decide +kernel) ⟨rfl, rfl⟩ dR_melt_44 ⟨by decide, by decide⟩ rfl rfl (Nat.le_of_ble_eq_true rfl) ?_
        intro M44 h
        refine g_aload_n C dR_melt_47 rfl ?_
        refine g_bipush C dR_melt_48 rfl ?_
        refine g_iconst C dR_melt_50 ?_
        refine g_callVi C (nargs := 2) (o := 0) (st := []) (m_Rits hci h) rfl (by decide) hci rfl gd_its (by decide +kernel) ⟨rfl, rfl⟩ dR_melt_51 ⟨by decide, by decide⟩ rfl rfl (Nat.le_of_ble_eq_true rfl) ?_
        intro r51c M51 h
        exact hR _ _ _ _ dR_melt_54 rfl h
      · replace h := h.2 hc
        refine g_aload_n C dR_melt_33 rfl ?_
        refine g_iconst C dR_melt_34 ?_
        refine g_callVi C (nargs := 1) (o := 0) (st := []) (m_Rerror hci h) rfl (by decide) hci rfl gd_error (by decide +kernel) ⟨rfl, rfl⟩ dR_melt_35 ⟨by decide, by decide⟩ rfl rfl (Nat.le_of_ble_eq_true rfl) ?_
        intro r35c M35 h
        exact hR _ _ _ _ dR_melt_38 rfl h
    · replace h := h.2 hc
      refine g_locals (lv' := [(0, .ref (ad 0))]) rfl ?_
      exact pB18  _ h
end
section
def w_Rcrucible (a1 : Int) (M : gSt) (k : Int → gSt → Prop) : Prop :=
w_Rin a1 2 9 M (fun r4c M4 => 
  (wrap r4c = 0 →
    w_Rerror 1 M4 (fun r22c M22 => k r22c M22)) ∧
  (¬ wrap r4c = 0 →
    w_Rits 12 a1 M4 (fun r14c M14 => k r14c M14)))
set_option maxHeartbeats 4000000 in
set_option maxRecDepth 100000 in
theorem m_Rcrucible {l : Launch} {D : va_G} {cl : List vw_C} {tys : List (ClassId × FieldType)} {ad : Nat → Nat} {cI : ClassId} {ci : Nat} (hci : cl[ci]? = some (RX9, TX9, 23)) {a1 : Int} {M : gSt} {k : Int → gSt → Prop} (h : w_Rcrucible a1 M k) : MOi l yX9_crucible cX9_crucible 2 .int (rmR 1 22) D cl ((cI, .int) :: tys) (wR ad cI ci) tR [.ref (ad 0), iv a1] M k := by
  refine moi_intro (by decide +kernel) (Nat.le_of_ble_eq_true rfl) wi_94 ?_
  intro p e s m args below meth c A Q C hR
  refine g_locals (lv' := [(0, .ref (ad 0)), (1, iv a1)]) rfl ?_
  unfold w_Rcrucible at h
  refine g_iload_n C dR_crucible_0 rfl ?_
  refine g_iconst C dR_crucible_1 ?_
  refine g_bipush C dR_crucible_2 rfl ?_
  refine g_callSi C (nargs := 3) (st := []) (m_Rin hci h) gd_in (by decide +kernel) ⟨rfl, rfl⟩ dR_crucible_4 ⟨by decide, by decide⟩ rfl rfl (Nat.le_of_ble_eq_true rfl) ?_
  intro r4c M4 h
  refine g_if_eq C 20 dR_crucible_7 (by decide) (fun hc => ?_) (fun hc => ?_)
  · replace h := h.1 hc
    refine g_aload_n C dR_crucible_20 rfl ?_
    refine g_iconst C dR_crucible_21 ?_
    refine g_callVi C (nargs := 1) (o := 0) (st := []) (m_Rerror hci h) rfl (by decide) hci rfl gd_error (by decide +kernel) ⟨rfl, rfl⟩ dR_crucible_22 ⟨by decide, by decide⟩ rfl rfl (Nat.le_of_ble_eq_true rfl) ?_
    intro r22c M22 h
    exact hR _ _ _ _ dR_crucible_25 rfl h
  · replace h := h.2 hc
    refine g_aload_n C dR_crucible_10 rfl ?_
    refine g_bipush C dR_crucible_11 rfl ?_
    refine g_iload_n C dR_crucible_13 rfl ?_
    refine g_callVi C (nargs := 2) (o := 0) (st := []) (m_Rits hci h) rfl (by decide) hci rfl gd_its (by decide +kernel) ⟨rfl, rfl⟩ dR_crucible_14 ⟨by decide, by decide⟩ rfl rfl (Nat.le_of_ble_eq_true rfl) ?_
    intro r14c M14 h
    refine g_goto C 25 dR_crucible_17 (by decide) ?_
    exact hR _ _ _ _ dR_crucible_25 rfl h
def wC_Rcast_168 (a1 : Int) (a2 : Int) (a3 : Int) (k : Int → gSt → Prop) (r168 : Int → Int → Int → Int → Int → gSt → Prop) (X168_204 : Int → Int → gSt → Prop) (v5 : Int) (v6 : Int) (v7 : Int) (v8 : Int) (v9 : Int) (M : gSt) : Prop :=

  (10 ≤ wrap v9 →
    X168_204 v5 v6 M) ∧
  (wrap v9 < 10 →
    w_Rits 12 v9 M (fun r185c M185 => w_RpartOf r185c v7 v8 M185 (fun r192c M192 => w_Rlays1 12 v9 r192c M192 (fun M195 => r168 v5 v6 v7 v8 (v9 + 1) M195))))
def wL_Rcast_168 (a1 : Int) (a2 : Int) (a3 : Int) (k : Int → gSt → Prop)  (X168_204 : Int → Int → gSt → Prop) : Nat → Int → Int → Int → Int → Int → gSt → Prop
  | 0 => fun _ _ _ _ _ _ => False
  | n + 1 => fun v5 v6 v7 v8 v9 M => wC_Rcast_168 a1 a2 a3 k  (wL_Rcast_168 a1 a2 a3 k  X168_204 n) X168_204 v5 v6 v7 v8 v9 M
def wB_Rcast_347 (a1 : Int) (a2 : Int) (a3 : Int) (k : Int → gSt → Prop) (r232 : Int → Int → Int → Int → Int → gSt → Prop) (X232_362 : Int → gSt → Prop) (v5 : Int) (v6 : Int) (v9 : Int) (v10 : Int) (v11 : Int) (M : gSt) : Prop :=
w_Rlays1 12 v11 0 M (fun M353 => r232 v5 v6 v9 v10 (v11 + 1) M353)
def wB_Rcast_328 (a1 : Int) (a2 : Int) (a3 : Int) (k : Int → gSt → Prop) (r232 : Int → Int → Int → Int → Int → gSt → Prop) (X232_362 : Int → gSt → Prop) (v5 : Int) (v6 : Int) (v9 : Int) (v10 : Int) (v11 : Int) (v15 : Int) (s0 : Int) (s1 : Int) (s2 : Int) (M : gSt) : Prop :=
w_Rlays1 s2 s1 s0 M (fun M328 => 
  (wrap v10 = (-1) →
    wB_Rcast_347 a1 a2 a3 k r232 X232_362 v5 v6 v9 v10 v11 M328) ∧
  (¬ wrap v10 = (-1) →
    w_Rlays1 v10 v11 v15 M328 (fun M344 => wB_Rcast_347 a1 a2 a3 k r232 X232_362 v5 v6 v9 v10 v11 M344)))
def wB_Rcast_306 (a1 : Int) (a2 : Int) (a3 : Int) (k : Int → gSt → Prop) (r232 : Int → Int → Int → Int → Int → gSt → Prop) (X232_362 : Int → gSt → Prop) (v5 : Int) (v6 : Int) (v9 : Int) (v10 : Int) (v11 : Int) (v12 : Int) (v13 : Int) (v14 : Int) (s0 : Int) (M : gSt) : Prop :=

  (wrap v13 = 0 →
    wB_Rcast_328 a1 a2 a3 k r232 X232_362 v5 v6 v9 v10 v11 s0 (v14 - s0) v11 v9 M) ∧
  (¬ wrap v13 = 0 →
    wB_Rcast_328 a1 a2 a3 k r232 X232_362 v5 v6 v9 v10 v11 s0 v12 v11 v9 M)
def wB_Rcast_285 (a1 : Int) (a2 : Int) (a3 : Int) (k : Int → gSt → Prop) (r232 : Int → Int → Int → Int → Int → gSt → Prop) (X232_362 : Int → gSt → Prop) (v5 : Int) (v6 : Int) (v9 : Int) (v10 : Int) (v11 : Int) (v12 : Int) (v13 : Int) (s0 : Int) (M : gSt) : Prop :=

  (wrap v13 = 0 →
    w_RpartOf s0 v6 10 M (fun r303c M303 => wB_Rcast_306 a1 a2 a3 k r232 X232_362 v5 v6 v9 v10 v11 v12 v13 s0 r303c M303)) ∧
  (¬ wrap v13 = 0 →
    wB_Rcast_306 a1 a2 a3 k r232 X232_362 v5 v6 v9 v10 v11 v12 v13 s0 v12 M)
def wB_Rcast_261 (a1 : Int) (a2 : Int) (a3 : Int) (k : Int → gSt → Prop) (r232 : Int → Int → Int → Int → Int → gSt → Prop) (X232_362 : Int → gSt → Prop) (v5 : Int) (v6 : Int) (v9 : Int) (v10 : Int) (v11 : Int) (v12 : Int) (s0 : Int) (M : gSt) : Prop :=

  (wrap s0 = 0 →
    w_RpartOf v12 v5 100 M (fun r281c M281 => wB_Rcast_285 a1 a2 a3 k r232 X232_362 v5 v6 v9 v10 v11 v12 s0 (v12 - r281c) M281)) ∧
  (¬ wrap s0 = 0 →
    wB_Rcast_285 a1 a2 a3 k r232 X232_362 v5 v6 v9 v10 v11 v12 s0 v12 M)
def wC_Rcast_232 (a1 : Int) (a2 : Int) (a3 : Int) (k : Int → gSt → Prop) (r232 : Int → Int → Int → Int → Int → gSt → Prop) (X232_362 : Int → gSt → Prop) (v5 : Int) (v6 : Int) (v9 : Int) (v10 : Int) (v11 : Int) (M : gSt) : Prop :=

  (10 ≤ wrap v11 →
    X232_362 v9 M) ∧
  (wrap v11 < 10 →
    w_Rits 12 v11 M (fun r244c M244 => 
    (wrap v11 < 6 →
      wB_Rcast_261 a1 a2 a3 k r232 X232_362 v5 v6 v9 v10 v11 r244c 0 M244) ∧
    (6 ≤ wrap v11 →
      wB_Rcast_261 a1 a2 a3 k r232 X232_362 v5 v6 v9 v10 v11 r244c 1 M244)))
def wL_Rcast_232 (a1 : Int) (a2 : Int) (a3 : Int) (k : Int → gSt → Prop)  (X232_362 : Int → gSt → Prop) : Nat → Int → Int → Int → Int → Int → gSt → Prop
  | 0 => fun _ _ _ _ _ _ => False
  | n + 1 => fun v5 v6 v9 v10 v11 M => wC_Rcast_232 a1 a2 a3 k  (wL_Rcast_232 a1 a2 a3 k  X232_362 n) X232_362 v5 v6 v9 v10 v11 M
def wB_Rcast_227 (a1 : Int) (a2 : Int) (a3 : Int) (k : Int → gSt → Prop)  (v5 : Int) (v6 : Int) (v9 : Int) (s0 : Int) (M : gSt) : Prop :=
∃ n, wL_Rcast_232 a1 a2 a3 k  (fun u9_232 M232 =>
    k u9_232 M232) n v5 v6 v9 s0 2 M
def wB_Rcast_109 (a1 : Int) (a2 : Int) (a3 : Int) (k : Int → gSt → Prop)  (v5 : Int) (v6 : Int) (v7 : Int) (s0 : Int) (s1 : Int) (M : gSt) : Prop :=

  (wrap (s1 + s0) ≤ 12 →
    w_Rheld (v7 + a2) 0 9999999 M (fun r128c M128 => w_Rlays1 12 2 r128c M128 (fun M139 => w_Rits 12 3 M139 (fun r150c M150 => w_Rheld (r150c + a2) 0 r128c M150 (fun r158c M158 => w_Rlays1 12 3 r158c M158 (fun M161 => ∃ n, wL_Rcast_168 a1 a2 a3 k  (fun u5_168 u6_168 M168 =>
      w_RaddThing a1 M168 (fun r206c M206 => 
      (wrap u6_168 ≤ 0 →
        wB_Rcast_227 a1 a2 a3 k  u5_168 u6_168 r206c (-1) M206) ∧
      (0 < wrap u6_168 →
        w_RaddThing 600 M206 (fun r220c M220 => wB_Rcast_227 a1 a2 a3 k  u5_168 u6_168 r206c r220c M220)))) n v5 v6 v7 r128c 6 M161)))))) ∧
  (12 < wrap (s1 + s0) →
    w_Rerror 4 M (fun r117c M117 => k r117c M117))
def wB_Rcast_45 (a1 : Int) (a2 : Int) (a3 : Int) (k : Int → gSt → Prop)  (s0 : Int) (M : gSt) : Prop :=

  (¬ wrap s0 = 0 →
    ∀ x5_62 : Int, x5_62 = Int.tdiv (wrap a3) 100 → (∀ x6_71 : Int, x6_71 = Int.tmod (wrap (Int.tdiv (wrap a3) 10)) 10 → (w_Rits 12 2 M (fun r77c M77 => 
    (¬ wrap r77c = 0 →

      (wrap x6_71 ≤ 0 →
        wB_Rcast_109 a1 a2 a3 k  x5_62 x6_71 r77c 1 (M77 1 0) M77) ∧
      (0 < wrap x6_71 →
        wB_Rcast_109 a1 a2 a3 k  x5_62 x6_71 r77c 2 (M77 1 0) M77)) ∧
    (wrap r77c = 0 →
      w_Rerror 3 M77 (fun r89c M89 => k r89c M89)))))) ∧
  (wrap s0 = 0 →
    w_Rerror 1 M (fun r54c M54 => k r54c M54))
def wB_Rcast_44 (a1 : Int) (a2 : Int) (a3 : Int) (k : Int → gSt → Prop)   (M : gSt) : Prop :=
wB_Rcast_45 a1 a2 a3 k  0 M
def w_Rcast (a1 : Int) (a2 : Int) (a3 : Int) (M : gSt) (k : Int → gSt → Prop) : Prop :=
w_Rin a1 0 699 M (fun r5c M5 => 
  (wrap r5c = 0 →
    wB_Rcast_44 a1 a2 a3 k   M5) ∧
  (¬ wrap r5c = 0 →
    w_Rin a2 0 9999 M5 (fun r16c M16 => 
    (wrap r16c = 0 →
      wB_Rcast_44 a1 a2 a3 k   M16) ∧
    (¬ wrap r16c = 0 →
      w_Rin a3 0 990 M16 (fun r27c M27 => 
      (wrap r27c = 0 →
        wB_Rcast_44 a1 a2 a3 k   M27) ∧
      (¬ wrap r27c = 0 →

        (¬ wrap (Int.tmod (wrap a3) 10) = 0 →
          wB_Rcast_44 a1 a2 a3 k   M27) ∧
        (wrap (Int.tmod (wrap a3) 10) = 0 →
          wB_Rcast_45 a1 a2 a3 k  1 M27)))))))
set_option maxHeartbeats 4000000 in
set_option maxRecDepth 100000 in
theorem m_Rcast {l : Launch} {D : va_G} {cl : List vw_C} {tys : List (ClassId × FieldType)} {ad : Nat → Nat} {cI : ClassId} {ci : Nat} (hci : cl[ci]? = some (RX9, TX9, 23)) {a1 : Int} {a2 : Int} {a3 : Int} {M : gSt} {k : Int → gSt → Prop} (h : w_Rcast a1 a2 a3 M k) : MOi l yX9_cast cX9_cast 16 .int (rmR 2 46) D cl ((cI, .int) :: tys) (wR ad cI ci) tR [.ref (ad 0), iv a1, iv a2, iv a3] M k := by
  refine moi_intro (by decide +kernel) (Nat.le_of_ble_eq_true rfl) wi_95 ?_
  intro p e s m args below meth c A Q C hR
  have pC168 : ∀ (r168 : Int → Int → Int → Int → Int → gSt → Prop) (X168_204 : Int → Int → gSt → Prop) (hr168 : ∀ (v5 : Int) (v6 : Int) (v7 : Int) (v8 : Int) (v9 : Int) (M : gSt), r168 v5 v6 v7 v8 v9 M → gG p l e (rmR 2 46) s m args below meth c Q D cl A (wR ad cI ci) 16 168 [(0, .ref (ad 0)), (1, iv a1), (5, iv v5), (6, iv v6), (7, iv v7), (8, iv v8), (9, iv v9)] [] M) (hX168_204 : ∀ (v5 : Int) (v6 : Int) (M : gSt), X168_204 v5 v6 M → gG p l e (rmR 2 46) s m args below meth c Q D cl A (wR ad cI ci) 16 204 [(0, .ref (ad 0)), (1, iv a1), (5, iv v5), (6, iv v6)] [] M) (v5 : Int) (v6 : Int) (v7 : Int) (v8 : Int) (v9 : Int) (M : gSt), wC_Rcast_168 a1 a2 a3 k r168 X168_204 v5 v6 v7 v8 v9 M → gG p l e (rmR 2 46) s m args below meth c Q D cl A (wR ad cI ci) 16 168 [(0, .ref (ad 0)), (1, iv a1), (5, iv v5), (6, iv v6), (7, iv v7), (8, iv v8), (9, iv v9)] [] M := by
    intro r168 X168_204 hr168 hX168_204 v5 v6 v7 v8 v9 M h
    unfold wC_Rcast_168 at h
    refine g_iload C dR_cast_168 rfl ?_
    refine g_bipush C dR_cast_170 rfl ?_
    refine g_icmp_ge C 204 dR_cast_172 (by decide) (fun hc => ?_) (fun hc => ?_)
    · replace h := h.1 hc
      refine g_locals (lv' := [(0, .ref (ad 0)), (1, iv a1), (5, iv v5), (6, iv v6)]) rfl ?_
      exact hX168_204 _ _  _ h
    · replace h := h.2 hc
      refine g_aload_n C dR_cast_175 rfl ?_
      refine g_bipush C dR_cast_176 rfl ?_
      refine g_iload C dR_cast_178 rfl ?_
      refine g_aload_n C dR_cast_180 rfl ?_
      refine g_bipush C dR_cast_181 rfl ?_
      refine g_iload C dR_cast_183 rfl ?_
      refine g_callVi C (nargs := 2) (o := 0) (st := [iv v9, iv 12, .ref (ad 0)]) (m_Rits hci h) rfl (by decide) hci rfl gd_its (by decide +kernel) ⟨rfl, rfl⟩ dR_cast_185 ⟨by decide, by decide⟩ rfl rfl (Nat.le_of_ble_eq_true rfl) ?_
      intro r185c M185 h
      refine g_iload C dR_cast_188 rfl ?_
      refine g_iload C dR_cast_190 rfl ?_
      refine g_callSi C (nargs := 3) (st := [iv v9, iv 12, .ref (ad 0)]) (m_RpartOf hci h) gd_partOf (by decide +kernel) ⟨rfl, rfl⟩ dR_cast_192 ⟨by decide, by decide⟩ rfl rfl (Nat.le_of_ble_eq_true rfl) ?_
      intro r192c M192 h
      refine g_callVv C (nargs := 3) (o := 0) (st := []) (m_Rlays1 hci h) rfl (by decide) hci rfl gd_lays1 (by decide +kernel) ⟨rfl, rfl⟩ dR_cast_195 ⟨by decide, by decide⟩ rfl rfl (Nat.le_of_ble_eq_true rfl) ?_
      intro M195 h
      refine g_iinc C dR_cast_198 rfl (by decide) rfl ?_
      refine g_locals (lv' := [(0, .ref (ad 0)), (1, iv a1), (5, iv v5), (6, iv v6), (7, iv v7), (8, iv v8), (9, iv (v9 + 1))]) rfl ?_
      refine g_goto C 168 dR_cast_201 (by decide) ?_
      refine g_locals (lv' := [(0, .ref (ad 0)), (1, iv a1), (5, iv v5), (6, iv v6), (7, iv v7), (8, iv v8), (9, iv (v9 + 1))]) rfl ?_
      exact hr168 _ _ _ _ _  _ h
  have pL168 : ∀  (X168_204 : Int → Int → gSt → Prop) (hX168_204 : ∀ (v5 : Int) (v6 : Int) (M : gSt), X168_204 v5 v6 M → gG p l e (rmR 2 46) s m args below meth c Q D cl A (wR ad cI ci) 16 204 [(0, .ref (ad 0)), (1, iv a1), (5, iv v5), (6, iv v6)] [] M) (n : Nat) (v5 : Int) (v6 : Int) (v7 : Int) (v8 : Int) (v9 : Int) (M : gSt), wL_Rcast_168 a1 a2 a3 k  X168_204 n v5 v6 v7 v8 v9 M → gG p l e (rmR 2 46) s m args below meth c Q D cl A (wR ad cI ci) 16 168 [(0, .ref (ad 0)), (1, iv a1), (5, iv v5), (6, iv v6), (7, iv v7), (8, iv v8), (9, iv v9)] [] M := by
    intro  X168_204 hX168_204 n
    induction n with
    | zero => intro v5 v6 v7 v8 v9 M h; exact h.elim
    | succ n ih =>
      intro v5 v6 v7 v8 v9 M h
      exact pC168  (wL_Rcast_168 a1 a2 a3 k  X168_204 n) X168_204 ih hX168_204 v5 v6 v7 v8 v9 M h
  have pB347 : ∀ (r232 : Int → Int → Int → Int → Int → gSt → Prop) (X232_362 : Int → gSt → Prop) (hr232 : ∀ (v5 : Int) (v6 : Int) (v9 : Int) (v10 : Int) (v11 : Int) (M : gSt), r232 v5 v6 v9 v10 v11 M → gG p l e (rmR 2 46) s m args below meth c Q D cl A (wR ad cI ci) 16 232 [(0, .ref (ad 0)), (5, iv v5), (6, iv v6), (9, iv v9), (10, iv v10), (11, iv v11)] [] M) (hX232_362 : ∀ (v9 : Int) (M : gSt), X232_362 v9 M → gG p l e (rmR 2 46) s m args below meth c Q D cl A (wR ad cI ci) 16 362 [(9, iv v9)] [] M) (v5 : Int) (v6 : Int) (v9 : Int) (v10 : Int) (v11 : Int) (M : gSt), wB_Rcast_347 a1 a2 a3 k r232 X232_362 v5 v6 v9 v10 v11 M → gG p l e (rmR 2 46) s m args below meth c Q D cl A (wR ad cI ci) 16 347 [(0, .ref (ad 0)), (5, iv v5), (6, iv v6), (9, iv v9), (10, iv v10), (11, iv v11)] [] M := by
    intro r232 X232_362 hr232 hX232_362 v5 v6 v9 v10 v11 M h
    unfold wB_Rcast_347 at h
    refine g_aload_n C dR_cast_347 rfl ?_
    refine g_bipush C dR_cast_348 rfl ?_
    refine g_iload C dR_cast_350 rfl ?_
    refine g_iconst C dR_cast_352 ?_
    refine g_callVv C (nargs := 3) (o := 0) (st := []) (m_Rlays1 hci h) rfl (by decide) hci rfl gd_lays1 (by decide +kernel) ⟨rfl, rfl⟩ dR_cast_353 ⟨by decide, by decide⟩ rfl rfl (Nat.le_of_ble_eq_true rfl) ?_
    intro M353 h
    refine g_iinc C dR_cast_356 rfl (by decide) rfl ?_
    refine g_locals (lv' := [(0, .ref (ad 0)), (5, iv v5), (6, iv v6), (9, iv v9), (10, iv v10), (11, iv (v11 + 1))]) rfl ?_
    refine g_goto C 232 dR_cast_359 (by decide) ?_
    refine g_locals (lv' := [(0, .ref (ad 0)), (5, iv v5), (6, iv v6), (9, iv v9), (10, iv v10), (11, iv (v11 + 1))]) rfl ?_
    exact hr232 _ _ _ _ _  _ h
  have pB328 : ∀ (r232 : Int → Int → Int → Int → Int → gSt → Prop) (X232_362 : Int → gSt → Prop) (hr232 : ∀ (v5 : Int) (v6 : Int) (v9 : Int) (v10 : Int) (v11 : Int) (M : gSt), r232 v5 v6 v9 v10 v11 M → gG p l e (rmR 2 46) s m args below meth c Q D cl A (wR ad cI ci) 16 232 [(0, .ref (ad 0)), (5, iv v5), (6, iv v6), (9, iv v9), (10, iv v10), (11, iv v11)] [] M) (hX232_362 : ∀ (v9 : Int) (M : gSt), X232_362 v9 M → gG p l e (rmR 2 46) s m args below meth c Q D cl A (wR ad cI ci) 16 362 [(9, iv v9)] [] M) (v5 : Int) (v6 : Int) (v9 : Int) (v10 : Int) (v11 : Int) (v15 : Int) (s0 : Int) (s1 : Int) (s2 : Int) (M : gSt), wB_Rcast_328 a1 a2 a3 k r232 X232_362 v5 v6 v9 v10 v11 v15 s0 s1 s2 M → gG p l e (rmR 2 46) s m args below meth c Q D cl A (wR ad cI ci) 16 328 [(0, .ref (ad 0)), (5, iv v5), (6, iv v6), (9, iv v9), (10, iv v10), (11, iv v11), (15, iv v15)] [iv s0, iv s1, iv s2, .ref (ad 0)] M := by
    intro r232 X232_362 hr232 hX232_362 v5 v6 v9 v10 v11 v15 s0 s1 s2 M h
    unfold wB_Rcast_328 at h
    refine g_callVv C (nargs := 3) (o := 0) (st := []) (m_Rlays1 hci h) rfl (by decide) hci rfl gd_lays1 (by decide +kernel) ⟨rfl, rfl⟩ dR_cast_328 ⟨by decide, by decide⟩ rfl rfl (Nat.le_of_ble_eq_true rfl) ?_
    intro M328 h
    refine g_iload C dR_cast_331 rfl ?_
    refine g_iconst C dR_cast_333 ?_
    refine g_icmp_eq C 347 dR_cast_334 (by decide) (fun hc => ?_) (fun hc => ?_)
    · replace h := h.1 hc
      refine g_locals (lv' := [(0, .ref (ad 0)), (5, iv v5), (6, iv v6), (9, iv v9), (10, iv v10), (11, iv v11)]) rfl ?_
      exact pB347 r232 X232_362 hr232 hX232_362 _ _ _ _ _ _ h
    · replace h := h.2 hc
      refine g_aload_n C dR_cast_337 rfl ?_
      refine g_iload C dR_cast_338 rfl ?_
      refine g_iload C dR_cast_340 rfl ?_
      refine g_iload C dR_cast_342 rfl ?_
      refine g_callVv C (nargs := 3) (o := 0) (st := []) (m_Rlays1 hci h) rfl (by decide) hci rfl gd_lays1 (by decide +kernel) ⟨rfl, rfl⟩ dR_cast_344 ⟨by decide, by decide⟩ rfl rfl (Nat.le_of_ble_eq_true rfl) ?_
      intro M344 h
      refine g_locals (lv' := [(0, .ref (ad 0)), (5, iv v5), (6, iv v6), (9, iv v9), (10, iv v10), (11, iv v11)]) rfl ?_
      exact pB347 r232 X232_362 hr232 hX232_362 _ _ _ _ _ _ h
  have pB306 : ∀ (r232 : Int → Int → Int → Int → Int → gSt → Prop) (X232_362 : Int → gSt → Prop) (hr232 : ∀ (v5 : Int) (v6 : Int) (v9 : Int) (v10 : Int) (v11 : Int) (M : gSt), r232 v5 v6 v9 v10 v11 M → gG p l e (rmR 2 46) s m args below meth c Q D cl A (wR ad cI ci) 16 232 [(0, .ref (ad 0)), (5, iv v5), (6, iv v6), (9, iv v9), (10, iv v10), (11, iv v11)] [] M) (hX232_362 : ∀ (v9 : Int) (M : gSt), X232_362 v9 M → gG p l e (rmR 2 46) s m args below meth c Q D cl A (wR ad cI ci) 16 362 [(9, iv v9)] [] M) (v5 : Int) (v6 : Int) (v9 : Int) (v10 : Int) (v11 : Int) (v12 : Int) (v13 : Int) (v14 : Int) (s0 : Int) (M : gSt), wB_Rcast_306 a1 a2 a3 k r232 X232_362 v5 v6 v9 v10 v11 v12 v13 v14 s0 M → gG p l e (rmR 2 46) s m args below meth c Q D cl A (wR ad cI ci) 16 306 [(0, .ref (ad 0)), (5, iv v5), (6, iv v6), (9, iv v9), (10, iv v10), (11, iv v11), (12, iv v12), (13, iv v13), (14, iv v14)] [iv s0] M := by
    intro r232 X232_362 hr232 hX232_362 v5 v6 v9 v10 v11 v12 v13 v14 s0 M h
    unfold wB_Rcast_306 at h
    refine g_istore C dR_cast_306 (by decide) rfl ?_
    refine g_locals (lv' := [(0, .ref (ad 0)), (5, iv v5), (6, iv v6), (9, iv v9), (10, iv v10), (11, iv v11), (12, iv v12), (13, iv v13), (14, iv v14), (15, iv s0)]) rfl ?_
    refine g_aload_n C dR_cast_308 rfl ?_
    refine g_iload C dR_cast_309 rfl ?_
    refine g_iload C dR_cast_311 rfl ?_
    refine g_iload C dR_cast_313 rfl ?_
    refine g_if_eq C 323 dR_cast_315 (by decide) (fun hc => ?_) (fun hc => ?_)
    · replace h := h.1 hc
      refine g_iload C dR_cast_323 rfl ?_
      refine g_iload C dR_cast_325 rfl ?_
      refine g_isub C dR_cast_327 ?_
      refine g_locals (lv' := [(0, .ref (ad 0)), (5, iv v5), (6, iv v6), (9, iv v9), (10, iv v10), (11, iv v11), (15, iv s0)]) rfl ?_
      exact pB328 r232 X232_362 hr232 hX232_362 _ _ _ _ _ _ _ _ _ _ h
    · replace h := h.2 hc
      refine g_iload C dR_cast_318 rfl ?_
      refine g_goto C 328 dR_cast_320 (by decide) ?_
      refine g_locals (lv' := [(0, .ref (ad 0)), (5, iv v5), (6, iv v6), (9, iv v9), (10, iv v10), (11, iv v11), (15, iv s0)]) rfl ?_
      exact pB328 r232 X232_362 hr232 hX232_362 _ _ _ _ _ _ _ _ _ _ h
  have pB285 : ∀ (r232 : Int → Int → Int → Int → Int → gSt → Prop) (X232_362 : Int → gSt → Prop) (hr232 : ∀ (v5 : Int) (v6 : Int) (v9 : Int) (v10 : Int) (v11 : Int) (M : gSt), r232 v5 v6 v9 v10 v11 M → gG p l e (rmR 2 46) s m args below meth c Q D cl A (wR ad cI ci) 16 232 [(0, .ref (ad 0)), (5, iv v5), (6, iv v6), (9, iv v9), (10, iv v10), (11, iv v11)] [] M) (hX232_362 : ∀ (v9 : Int) (M : gSt), X232_362 v9 M → gG p l e (rmR 2 46) s m args below meth c Q D cl A (wR ad cI ci) 16 362 [(9, iv v9)] [] M) (v5 : Int) (v6 : Int) (v9 : Int) (v10 : Int) (v11 : Int) (v12 : Int) (v13 : Int) (s0 : Int) (M : gSt), wB_Rcast_285 a1 a2 a3 k r232 X232_362 v5 v6 v9 v10 v11 v12 v13 s0 M → gG p l e (rmR 2 46) s m args below meth c Q D cl A (wR ad cI ci) 16 285 [(0, .ref (ad 0)), (5, iv v5), (6, iv v6), (9, iv v9), (10, iv v10), (11, iv v11), (12, iv v12), (13, iv v13)] [iv s0] M := by
    intro r232 X232_362 hr232 hX232_362 v5 v6 v9 v10 v11 v12 v13 s0 M h
    unfold wB_Rcast_285 at h
    refine g_istore C dR_cast_285 (by decide) rfl ?_
    refine g_locals (lv' := [(0, .ref (ad 0)), (5, iv v5), (6, iv v6), (9, iv v9), (10, iv v10), (11, iv v11), (12, iv v12), (13, iv v13), (14, iv s0)]) rfl ?_
    refine g_iload C dR_cast_287 rfl ?_
    refine g_if_eq C 297 dR_cast_289 (by decide) (fun hc => ?_) (fun hc => ?_)
    · replace h := h.1 hc
      refine g_iload C dR_cast_297 rfl ?_
      refine g_iload C dR_cast_299 rfl ?_
      refine g_bipush C dR_cast_301 rfl ?_
      refine g_callSi C (nargs := 3) (st := []) (m_RpartOf hci h) gd_partOf (by decide +kernel) ⟨rfl, rfl⟩ dR_cast_303 ⟨by decide, by decide⟩ rfl rfl (Nat.le_of_ble_eq_true rfl) ?_
      intro r303c M303 h
      refine g_locals (lv' := [(0, .ref (ad 0)), (5, iv v5), (6, iv v6), (9, iv v9), (10, iv v10), (11, iv v11), (12, iv v12), (13, iv v13), (14, iv s0)]) rfl ?_
      exact pB306 r232 X232_362 hr232 hX232_362 _ _ _ _ _ _ _ _ _ _ h
    · replace h := h.2 hc
      refine g_iload C dR_cast_292 rfl ?_
      refine g_goto C 306 dR_cast_294 (by decide) ?_
      refine g_locals (lv' := [(0, .ref (ad 0)), (5, iv v5), (6, iv v6), (9, iv v9), (10, iv v10), (11, iv v11), (12, iv v12), (13, iv v13), (14, iv s0)]) rfl ?_
      exact pB306 r232 X232_362 hr232 hX232_362 _ _ _ _ _ _ _ _ _ _ h
  have pB261 : ∀ (r232 : Int → Int → Int → Int → Int → gSt → Prop) (X232_362 : Int → gSt → Prop) (hr232 : ∀ (v5 : Int) (v6 : Int) (v9 : Int) (v10 : Int) (v11 : Int) (M : gSt), r232 v5 v6 v9 v10 v11 M → gG p l e (rmR 2 46) s m args below meth c Q D cl A (wR ad cI ci) 16 232 [(0, .ref (ad 0)), (5, iv v5), (6, iv v6), (9, iv v9), (10, iv v10), (11, iv v11)] [] M) (hX232_362 : ∀ (v9 : Int) (M : gSt), X232_362 v9 M → gG p l e (rmR 2 46) s m args below meth c Q D cl A (wR ad cI ci) 16 362 [(9, iv v9)] [] M) (v5 : Int) (v6 : Int) (v9 : Int) (v10 : Int) (v11 : Int) (v12 : Int) (s0 : Int) (M : gSt), wB_Rcast_261 a1 a2 a3 k r232 X232_362 v5 v6 v9 v10 v11 v12 s0 M → gG p l e (rmR 2 46) s m args below meth c Q D cl A (wR ad cI ci) 16 261 [(0, .ref (ad 0)), (5, iv v5), (6, iv v6), (9, iv v9), (10, iv v10), (11, iv v11), (12, iv v12)] [iv s0] M := by
    intro r232 X232_362 hr232 hX232_362 v5 v6 v9 v10 v11 v12 s0 M h
    unfold wB_Rcast_261 at h
    refine g_istore C dR_cast_261 (by decide) rfl ?_
    refine g_locals (lv' := [(0, .ref (ad 0)), (5, iv v5), (6, iv v6), (9, iv v9), (10, iv v10), (11, iv v11), (12, iv v12), (13, iv s0)]) rfl ?_
    refine g_iload C dR_cast_263 rfl ?_
    refine g_if_eq C 273 dR_cast_265 (by decide) (fun hc => ?_) (fun hc => ?_)
    · replace h := h.1 hc
      refine g_iload C dR_cast_273 rfl ?_
      refine g_iload C dR_cast_275 rfl ?_
      refine g_iload C dR_cast_277 rfl ?_
      refine g_bipush C dR_cast_279 rfl ?_
      refine g_callSi C (nargs := 3) (st := [iv v12]) (m_RpartOf hci h) gd_partOf (by decide +kernel) ⟨rfl, rfl⟩ dR_cast_281 ⟨by decide, by decide⟩ rfl rfl (Nat.le_of_ble_eq_true rfl) ?_
      intro r281c M281 h
      refine g_isub C dR_cast_284 ?_
      refine g_locals (lv' := [(0, .ref (ad 0)), (5, iv v5), (6, iv v6), (9, iv v9), (10, iv v10), (11, iv v11), (12, iv v12), (13, iv s0)]) rfl ?_
      exact pB285 r232 X232_362 hr232 hX232_362 _ _ _ _ _ _ _ _ _ h
    · replace h := h.2 hc
      refine g_iload C dR_cast_268 rfl ?_
      refine g_goto C 285 dR_cast_270 (by decide) ?_
      refine g_locals (lv' := [(0, .ref (ad 0)), (5, iv v5), (6, iv v6), (9, iv v9), (10, iv v10), (11, iv v11), (12, iv v12), (13, iv s0)]) rfl ?_
      exact pB285 r232 X232_362 hr232 hX232_362 _ _ _ _ _ _ _ _ _ h
  have pC232 : ∀ (r232 : Int → Int → Int → Int → Int → gSt → Prop) (X232_362 : Int → gSt → Prop) (hr232 : ∀ (v5 : Int) (v6 : Int) (v9 : Int) (v10 : Int) (v11 : Int) (M : gSt), r232 v5 v6 v9 v10 v11 M → gG p l e (rmR 2 46) s m args below meth c Q D cl A (wR ad cI ci) 16 232 [(0, .ref (ad 0)), (5, iv v5), (6, iv v6), (9, iv v9), (10, iv v10), (11, iv v11)] [] M) (hX232_362 : ∀ (v9 : Int) (M : gSt), X232_362 v9 M → gG p l e (rmR 2 46) s m args below meth c Q D cl A (wR ad cI ci) 16 362 [(9, iv v9)] [] M) (v5 : Int) (v6 : Int) (v9 : Int) (v10 : Int) (v11 : Int) (M : gSt), wC_Rcast_232 a1 a2 a3 k r232 X232_362 v5 v6 v9 v10 v11 M → gG p l e (rmR 2 46) s m args below meth c Q D cl A (wR ad cI ci) 16 232 [(0, .ref (ad 0)), (5, iv v5), (6, iv v6), (9, iv v9), (10, iv v10), (11, iv v11)] [] M := by
    intro r232 X232_362 hr232 hX232_362 v5 v6 v9 v10 v11 M h
    unfold wC_Rcast_232 at h
    refine g_iload C dR_cast_232 rfl ?_
    refine g_bipush C dR_cast_234 rfl ?_
    refine g_icmp_ge C 362 dR_cast_236 (by decide) (fun hc => ?_) (fun hc => ?_)
    · replace h := h.1 hc
      refine g_locals (lv' := [(9, iv v9)]) rfl ?_
      exact hX232_362 _  _ h
    · replace h := h.2 hc
      refine g_aload_n C dR_cast_239 rfl ?_
      refine g_bipush C dR_cast_240 rfl ?_
      refine g_iload C dR_cast_242 rfl ?_
      refine g_callVi C (nargs := 2) (o := 0) (st := []) (m_Rits hci h) rfl (by decide) hci rfl gd_its (by decide +kernel) ⟨rfl, rfl⟩ dR_cast_244 ⟨by decide, by decide⟩ rfl rfl (Nat.le_of_ble_eq_true rfl) ?_
      intro r244c M244 h
      refine g_istore C dR_cast_247 (by decide) rfl ?_
      refine g_locals (lv' := [(0, .ref (ad 0)), (5, iv v5), (6, iv v6), (9, iv v9), (10, iv v10), (11, iv v11), (12, iv r244c)]) rfl ?_
      refine g_iload C dR_cast_249 rfl ?_
      refine g_bipush C dR_cast_251 rfl ?_
      refine g_icmp_lt C 260 dR_cast_253 (by decide) (fun hc => ?_) (fun hc => ?_)
      · replace h := h.1 hc
        refine g_iconst C dR_cast_260 ?_
        refine g_locals (lv' := [(0, .ref (ad 0)), (5, iv v5), (6, iv v6), (9, iv v9), (10, iv v10), (11, iv v11), (12, iv r244c)]) rfl ?_
        exact pB261 r232 X232_362 hr232 hX232_362 _ _ _ _ _ _ _ _ h
      · replace h := h.2 hc
        refine g_iconst C dR_cast_256 ?_
        refine g_goto C 261 dR_cast_257 (by decide) ?_
        refine g_locals (lv' := [(0, .ref (ad 0)), (5, iv v5), (6, iv v6), (9, iv v9), (10, iv v10), (11, iv v11), (12, iv r244c)]) rfl ?_
        exact pB261 r232 X232_362 hr232 hX232_362 _ _ _ _ _ _ _ _ h
  have pL232 : ∀  (X232_362 : Int → gSt → Prop) (hX232_362 : ∀ (v9 : Int) (M : gSt), X232_362 v9 M → gG p l e (rmR 2 46) s m args below meth c Q D cl A (wR ad cI ci) 16 362 [(9, iv v9)] [] M) (n : Nat) (v5 : Int) (v6 : Int) (v9 : Int) (v10 : Int) (v11 : Int) (M : gSt), wL_Rcast_232 a1 a2 a3 k  X232_362 n v5 v6 v9 v10 v11 M → gG p l e (rmR 2 46) s m args below meth c Q D cl A (wR ad cI ci) 16 232 [(0, .ref (ad 0)), (5, iv v5), (6, iv v6), (9, iv v9), (10, iv v10), (11, iv v11)] [] M := by
    intro  X232_362 hX232_362 n
    induction n with
    | zero => intro v5 v6 v9 v10 v11 M h; exact h.elim
    | succ n ih =>
      intro v5 v6 v9 v10 v11 M h
      exact pC232  (wL_Rcast_232 a1 a2 a3 k  X232_362 n) X232_362 ih hX232_362 v5 v6 v9 v10 v11 M h
  have pB227 : ∀   (v5 : Int) (v6 : Int) (v9 : Int) (s0 : Int) (M : gSt), wB_Rcast_227 a1 a2 a3 k  v5 v6 v9 s0 M → gG p l e (rmR 2 46) s m args below meth c Q D cl A (wR ad cI ci) 16 227 [(0, .ref (ad 0)), (5, iv v5), (6, iv v6), (9, iv v9)] [iv s0] M := by
    intro   v5 v6 v9 s0 M h
    unfold wB_Rcast_227 at h
    refine g_istore C dR_cast_227 (by decide) rfl ?_
    refine g_locals (lv' := [(0, .ref (ad 0)), (5, iv v5), (6, iv v6), (9, iv v9), (10, iv s0)]) rfl ?_
    refine g_iconst C dR_cast_229 ?_
    refine g_istore C dR_cast_230 (by decide) rfl ?_
    refine g_locals (lv' := [(0, .ref (ad 0)), (5, iv v5), (6, iv v6), (9, iv v9), (10, iv s0), (11, iv 2)]) rfl ?_
    refine g_locals (lv' := [(0, .ref (ad 0)), (5, iv v5), (6, iv v6), (9, iv v9), (10, iv s0), (11, iv 2)]) rfl ?_
    obtain ⟨n, h⟩ := h
    refine pL232 _ ?_ n _ _ _ _ _ _ h
    · intro u9_232 M232 h
      refine g_iload C dR_cast_362 rfl ?_
      exact hR _ _ _ _ dR_cast_364 rfl h
  have pB109 : ∀   (v5 : Int) (v6 : Int) (v7 : Int) (s0 : Int) (s1 : Int) (M : gSt), wB_Rcast_109 a1 a2 a3 k  v5 v6 v7 s0 s1 M → gG p l e (rmR 2 46) s m args below meth c Q D cl A (wR ad cI ci) 16 109 [(0, .ref (ad 0)), (1, iv a1), (2, iv a2), (5, iv v5), (6, iv v6), (7, iv v7)] [iv s0, iv s1] M := by
    intro   v5 v6 v7 s0 s1 M h
    unfold wB_Rcast_109 at h
    refine g_iadd C dR_cast_109 ?_
    refine g_bipush C dR_cast_110 rfl ?_
    refine g_icmp_le C 121 dR_cast_112 (by decide) (fun hc => ?_) (fun hc => ?_)
    · replace h := h.1 hc
      refine g_iload C dR_cast_121 rfl ?_
      refine g_iload_n C dR_cast_123 rfl ?_
      refine g_iadd C dR_cast_124 ?_
      refine g_iconst C dR_cast_125 ?_
      refine g_ldc C 9999999 wi_34 rfl dR_cast_126 ?_
      refine g_callSi C (nargs := 3) (st := []) (m_Rheld hci h) gd_held (by decide +kernel) ⟨rfl, rfl⟩ dR_cast_128 ⟨by decide, by decide⟩ rfl rfl (Nat.le_of_ble_eq_true rfl) ?_
      intro r128c M128 h
      refine g_istore C dR_cast_131 (by decide) rfl ?_
      refine g_locals (lv' := [(0, .ref (ad 0)), (1, iv a1), (2, iv a2), (5, iv v5), (6, iv v6), (7, iv v7), (8, iv r128c)]) rfl ?_
      refine g_aload_n C dR_cast_133 rfl ?_
      refine g_bipush C dR_cast_134 rfl ?_
      refine g_iconst C dR_cast_136 ?_
      refine g_iload C dR_cast_137 rfl ?_
      refine g_callVv C (nargs := 3) (o := 0) (st := []) (m_Rlays1 hci h) rfl (by decide) hci rfl gd_lays1 (by decide +kernel) ⟨rfl, rfl⟩ dR_cast_139 ⟨by decide, by decide⟩ rfl rfl (Nat.le_of_ble_eq_true rfl) ?_
      intro M139 h
      refine g_aload_n C dR_cast_142 rfl ?_
      refine g_bipush C dR_cast_143 rfl ?_
      refine g_iconst C dR_cast_145 ?_
      refine g_aload_n C dR_cast_146 rfl ?_
      refine g_bipush C dR_cast_147 rfl ?_
      refine g_iconst C dR_cast_149 ?_
      refine g_callVi C (nargs := 2) (o := 0) (st := [iv 3, iv 12, .ref (ad 0)]) (m_Rits hci h) rfl (by decide) hci rfl gd_its (by decide +kernel) ⟨rfl, rfl⟩ dR_cast_150 ⟨by decide, by decide⟩ rfl rfl (Nat.le_of_ble_eq_true rfl) ?_
      intro r150c M150 h
      refine g_iload_n C dR_cast_153 rfl ?_
      refine g_iadd C dR_cast_154 ?_
      refine g_iconst C dR_cast_155 ?_
      refine g_iload C dR_cast_156 rfl ?_
      refine g_callSi C (nargs := 3) (st := [iv 3, iv 12, .ref (ad 0)]) (m_Rheld hci h) gd_held (by decide +kernel) ⟨rfl, rfl⟩ dR_cast_158 ⟨by decide, by decide⟩ rfl rfl (Nat.le_of_ble_eq_true rfl) ?_
      intro r158c M158 h
      refine g_callVv C (nargs := 3) (o := 0) (st := []) (m_Rlays1 hci h) rfl (by decide) hci rfl gd_lays1 (by decide +kernel) ⟨rfl, rfl⟩ dR_cast_161 ⟨by decide, by decide⟩ rfl rfl (Nat.le_of_ble_eq_true rfl) ?_
      intro M161 h
      refine g_bipush C dR_cast_164 rfl ?_
      refine g_istore C dR_cast_166 (by decide) rfl ?_
      refine g_locals (lv' := [(0, .ref (ad 0)), (1, iv a1), (2, iv a2), (5, iv v5), (6, iv v6), (7, iv v7), (8, iv r128c), (9, iv 6)]) rfl ?_
      refine g_locals (lv' := [(0, .ref (ad 0)), (1, iv a1), (5, iv v5), (6, iv v6), (7, iv v7), (8, iv r128c), (9, iv 6)]) rfl ?_
      obtain ⟨n, h⟩ := h
      refine pL168 _ ?_ n _ _ _ _ _ _ h
      · intro u5_168 u6_168 M168 h
        refine g_aload_n C dR_cast_204 rfl ?_
        refine g_iload_n C dR_cast_205 rfl ?_
        refine g_callVi C (nargs := 1) (o := 0) (st := []) (m_RaddThing hci h) rfl (by decide) hci rfl gd_addThing (by decide +kernel) ⟨rfl, rfl⟩ dR_cast_206 ⟨by decide, by decide⟩ rfl rfl (Nat.le_of_ble_eq_true rfl) ?_
        intro r206c M206 h
        refine g_istore C dR_cast_209 (by decide) rfl ?_
        refine g_locals (lv' := [(0, .ref (ad 0)), (1, iv a1), (5, iv u5_168), (6, iv u6_168), (9, iv r206c)]) rfl ?_
        refine g_iload C dR_cast_211 rfl ?_
        refine g_if_le C 226 dR_cast_213 (by decide) (fun hc => ?_) (fun hc => ?_)
        · replace h := h.1 hc
          refine g_iconst C dR_cast_226 ?_
          refine g_locals (lv' := [(0, .ref (ad 0)), (5, iv u5_168), (6, iv u6_168), (9, iv r206c)]) rfl ?_
          exact pB227 _ _ _ _ _ h
        · replace h := h.2 hc
          refine g_aload_n C dR_cast_216 rfl ?_
          refine g_sipush C dR_cast_217 rfl ?_
          refine g_callVi C (nargs := 1) (o := 0) (st := []) (m_RaddThing hci h) rfl (by decide) hci rfl gd_addThing (by decide +kernel) ⟨rfl, rfl⟩ dR_cast_220 ⟨by decide, by decide⟩ rfl rfl (Nat.le_of_ble_eq_true rfl) ?_
          intro r220c M220 h
          refine g_goto C 227 dR_cast_223 (by decide) ?_
          refine g_locals (lv' := [(0, .ref (ad 0)), (5, iv u5_168), (6, iv u6_168), (9, iv r206c)]) rfl ?_
          exact pB227 _ _ _ _ _ h
    · replace h := h.2 hc
      refine g_aload_n C dR_cast_115 rfl ?_
      refine g_iconst C dR_cast_116 ?_
      refine g_callVi C (nargs := 1) (o := 0) (st := []) (m_Rerror hci h) rfl (by decide) hci rfl gd_error (by decide +kernel) ⟨rfl, rfl⟩ dR_cast_117 ⟨by decide, by decide⟩ rfl rfl (Nat.le_of_ble_eq_true rfl) ?_
      intro r117c M117 h
      exact hR _ _ _ _ dR_cast_120 rfl h
  have pB45 : ∀   (s0 : Int) (M : gSt), wB_Rcast_45 a1 a2 a3 k  s0 M → gG p l e (rmR 2 46) s m args below meth c Q D cl A (wR ad cI ci) 16 45 [(0, .ref (ad 0)), (1, iv a1), (2, iv a2), (3, iv a3)] [iv s0] M := by
    intro   s0 M h
    unfold wB_Rcast_45 at h
    refine g_istore C dR_cast_45 (by decide) rfl ?_
    refine g_locals (lv' := [(0, .ref (ad 0)), (1, iv a1), (2, iv a2), (3, iv a3), (4, iv s0)]) rfl ?_
    refine g_iload C dR_cast_47 rfl ?_
    refine g_if_ne C 58 dR_cast_49 (by decide) (fun hc => ?_) (fun hc => ?_)
    · replace h := h.1 hc
      refine g_iload_n C dR_cast_58 rfl ?_
      refine g_bipush C dR_cast_59 rfl ?_
      refine g_idiv C dR_cast_61 (by decide) ?_
      refine g_top (y := Int.tdiv (wrap a3) 100) rfl ?_
      refine g_name (fun x5_62 hx5_62 => ?_)
      replace h := h x5_62 hx5_62
      refine g_istore C dR_cast_62 (by decide) rfl ?_
      refine g_locals (lv' := [(0, .ref (ad 0)), (1, iv a1), (2, iv a2), (3, iv a3), (4, iv s0), (5, iv x5_62)]) rfl ?_
      refine g_iload_n C dR_cast_64 rfl ?_
      refine g_bipush C dR_cast_65 rfl ?_
      refine g_idiv C dR_cast_67 (by decide) ?_
      refine g_top (y := Int.tdiv (wrap a3) 10) rfl ?_
      refine g_bipush C dR_cast_68 rfl ?_
      refine g_irem C dR_cast_70 (by decide) ?_
      refine g_top (y := Int.tmod (wrap (Int.tdiv (wrap a3) 10)) 10) rfl ?_
      refine g_name (fun x6_71 hx6_71 => ?_)
      replace h := h x6_71 hx6_71
      refine g_istore C dR_cast_71 (by decide) rfl ?_
      refine g_locals (lv' := [(0, .ref (ad 0)), (1, iv a1), (2, iv a2), (3, iv a3), (4, iv s0), (5, iv x5_62), (6, iv x6_71)]) rfl ?_
      refine g_aload_n C dR_cast_73 rfl ?_
      refine g_bipush C dR_cast_74 rfl ?_
      refine g_iconst C dR_cast_76 ?_
      refine g_callVi C (nargs := 2) (o := 0) (st := []) (m_Rits hci h) rfl (by decide) hci rfl gd_its (by decide +kernel) ⟨rfl, rfl⟩ dR_cast_77 ⟨by decide, by decide⟩ rfl rfl (Nat.le_of_ble_eq_true rfl) ?_
      intro r77c M77 h
      refine g_istore C dR_cast_80 (by decide) rfl ?_
      refine g_locals (lv' := [(0, .ref (ad 0)), (1, iv a1), (2, iv a2), (3, iv a3), (4, iv s0), (5, iv x5_62), (6, iv x6_71), (7, iv r77c)]) rfl ?_
      refine g_iload C dR_cast_82 rfl ?_
      refine g_if_ne C 93 dR_cast_84 (by decide) (fun hc => ?_) (fun hc => ?_)
      · replace h := h.1 hc
        refine g_aload_n C dR_cast_93 rfl ?_
        refine rf_s C hci dR_cast_94 ?_
        refine g_iconst C dR_cast_97 ?_
        refine g_iald C (n := 536) dR_cast_98 rfl (by decide) ⟨by decide, by decide⟩ ?_
        refine g_iload C dR_cast_99 rfl ?_
        refine g_if_le C 108 dR_cast_101 (by decide) (fun hc => ?_) (fun hc => ?_)
        · replace h := h.1 hc
          refine g_iconst C dR_cast_108 ?_
          refine g_locals (lv' := [(0, .ref (ad 0)), (1, iv a1), (2, iv a2), (5, iv x5_62), (6, iv x6_71), (7, iv r77c)]) rfl ?_
          exact pB109 _ _ _ _ _ _ h
        · replace h := h.2 hc
          refine g_iconst C dR_cast_104 ?_
          refine g_goto C 109 dR_cast_105 (by decide) ?_
          refine g_locals (lv' := [(0, .ref (ad 0)), (1, iv a1), (2, iv a2), (5, iv x5_62), (6, iv x6_71), (7, iv r77c)]) rfl ?_
          exact pB109 _ _ _ _ _ _ h
      · replace h := h.2 hc
        refine g_aload_n C dR_cast_87 rfl ?_
        refine g_iconst C dR_cast_88 ?_
        refine g_callVi C (nargs := 1) (o := 0) (st := []) (m_Rerror hci h) rfl (by decide) hci rfl gd_error (by decide +kernel) ⟨rfl, rfl⟩ dR_cast_89 ⟨by decide, by decide⟩ rfl rfl (Nat.le_of_ble_eq_true rfl) ?_
        intro r89c M89 h
        exact hR _ _ _ _ dR_cast_92 rfl h
    · replace h := h.2 hc
      refine g_aload_n C dR_cast_52 rfl ?_
      refine g_iconst C dR_cast_53 ?_
      refine g_callVi C (nargs := 1) (o := 0) (st := []) (m_Rerror hci h) rfl (by decide) hci rfl gd_error (by decide +kernel) ⟨rfl, rfl⟩ dR_cast_54 ⟨by decide, by decide⟩ rfl rfl (Nat.le_of_ble_eq_true rfl) ?_
      intro r54c M54 h
      exact hR _ _ _ _ dR_cast_57 rfl h
  have pB44 : ∀    (M : gSt), wB_Rcast_44 a1 a2 a3 k   M → gG p l e (rmR 2 46) s m args below meth c Q D cl A (wR ad cI ci) 16 44 [(0, .ref (ad 0)), (1, iv a1), (2, iv a2), (3, iv a3)] [] M := by
    intro    M h
    unfold wB_Rcast_44 at h
    refine g_iconst C dR_cast_44 ?_
    refine g_locals (lv' := [(0, .ref (ad 0)), (1, iv a1), (2, iv a2), (3, iv a3)]) rfl ?_
    exact pB45 _ _ h
  refine g_locals (lv' := [(0, .ref (ad 0)), (1, iv a1), (2, iv a2), (3, iv a3)]) rfl ?_
  unfold w_Rcast at h
  refine g_iload_n C dR_cast_0 rfl ?_
  refine g_iconst C dR_cast_1 ?_
  refine g_sipush C dR_cast_2 rfl ?_
  refine g_callSi C (nargs := 3) (st := []) (m_Rin hci h) gd_in (by decide +kernel) ⟨rfl, rfl⟩ dR_cast_5 ⟨by decide, by decide⟩ rfl rfl (Nat.le_of_ble_eq_true rfl) ?_
  intro r5c M5 h
  refine g_if_eq C 44 dR_cast_8 (by decide) (fun hc => ?_) (fun hc => ?_)
  · replace h := h.1 hc
    refine g_locals (lv' := [(0, .ref (ad 0)), (1, iv a1), (2, iv a2), (3, iv a3)]) rfl ?_
    exact pB44  _ h
  · replace h := h.2 hc
    refine g_iload_n C dR_cast_11 rfl ?_
    refine g_iconst C dR_cast_12 ?_
    refine g_sipush C dR_cast_13 rfl ?_
    refine g_callSi C (nargs := 3) (st := []) (m_Rin hci h) gd_in (by decide +kernel) ⟨rfl, rfl⟩ dR_cast_16 ⟨by decide, by decide⟩ rfl rfl (Nat.le_of_ble_eq_true rfl) ?_
    intro r16c M16 h
    refine g_if_eq C 44 dR_cast_19 (by decide) (fun hc => ?_) (fun hc => ?_)
    · replace h := h.1 hc
      refine g_locals (lv' := [(0, .ref (ad 0)), (1, iv a1), (2, iv a2), (3, iv a3)]) rfl ?_
      exact pB44  _ h
    · replace h := h.2 hc
      refine g_iload_n C dR_cast_22 rfl ?_
      refine g_iconst C dR_cast_23 ?_
      refine g_sipush C dR_cast_24 rfl ?_
      refine g_callSi C (nargs := 3) (st := []) (m_Rin hci h) gd_in (by decide +kernel) ⟨rfl, rfl⟩ dR_cast_27 ⟨by decide, by decide⟩ rfl rfl (Nat.le_of_ble_eq_true rfl) ?_
      intro r27c M27 h
      refine g_if_eq C 44 dR_cast_30 (by decide) (fun hc => ?_) (fun hc => ?_)
      · replace h := h.1 hc
        refine g_locals (lv' := [(0, .ref (ad 0)), (1, iv a1), (2, iv a2), (3, iv a3)]) rfl ?_
        exact pB44  _ h
      · replace h := h.2 hc
        refine g_iload_n C dR_cast_33 rfl ?_
        refine g_bipush C dR_cast_34 rfl ?_
        refine g_irem C dR_cast_36 (by decide) ?_
        refine g_top (y := Int.tmod (wrap a3) 10) rfl ?_
        refine g_if_ne C 44 dR_cast_37 (by decide) (fun hc => ?_) (fun hc => ?_)
        · replace h := h.1 hc
          refine g_locals (lv' := [(0, .ref (ad 0)), (1, iv a1), (2, iv a2), (3, iv a3)]) rfl ?_
          exact pB44  _ h
        · replace h := h.2 hc
          refine g_iconst C dR_cast_40 ?_
          refine g_goto C 45 dR_cast_41 (by decide) ?_
          refine g_locals (lv' := [(0, .ref (ad 0)), (1, iv a1), (2, iv a2), (3, iv a3)]) rfl ?_
          exact pB45 _ _ h
def w_Rdraw  (M : gSt) (k : Int → gSt → Prop) : Prop :=
∀ M20 : gSt, M20 = wr M 1 8 (((M 1 8) * 1103515245) + 12345) → (k (xushr (M20 1 8) 8) M20)
set_option maxHeartbeats 4000000 in
set_option maxRecDepth 100000 in
theorem m_Rdraw {l : Launch} {D : va_G} {cl : List vw_C} {tys : List (ClassId × FieldType)} {ad : Nat → Nat} {cI : ClassId} {ci : Nat} (hci : cl[ci]? = some (RX9, TX9, 23))  {M : gSt} {k : Int → gSt → Prop} (h : w_Rdraw  M k) : MOi l yX9_draw cX9_draw 1 .int (rmR 0 0) D cl ((cI, .int) :: tys) (wR ad cI ci) tR [.ref (ad 0)] M k := by
  refine moi_intro (by decide +kernel) (Nat.le_of_ble_eq_true rfl) wi_97 ?_
  intro p e s m args below meth c A Q C hR
  refine g_locals (lv' := [(0, .ref (ad 0))]) rfl ?_
  unfold w_Rdraw at h
  refine g_aload_n C dR_draw_0 rfl ?_
  refine rf_s C hci dR_draw_1 ?_
  refine g_bipush C dR_draw_4 rfl ?_
  refine g_aload_n C dR_draw_6 rfl ?_
  refine rf_s C hci dR_draw_7 ?_
  refine g_bipush C dR_draw_10 rfl ?_
  refine g_iald C (n := 536) dR_draw_12 rfl (by decide) ⟨by decide, by decide⟩ ?_
  refine g_ldc C 1103515245 wi_96 rfl dR_draw_13 ?_
  refine g_imul C dR_draw_15 ?_
  refine g_sipush C dR_draw_16 rfl ?_
  refine g_iadd C dR_draw_19 ?_
  refine g_iast C (n := 536) dR_draw_20 rfl (by decide) ⟨by decide, by decide⟩ ?_
  refine g_memname (fun M20 hM20 => ?_)
  replace h := h M20 hM20
  refine g_aload_n C dR_draw_21 rfl ?_
  refine rf_s C hci dR_draw_22 ?_
  refine g_bipush C dR_draw_25 rfl ?_
  refine g_iald C (n := 536) dR_draw_27 rfl (by decide) ⟨by decide, by decide⟩ ?_
  refine g_bipush C dR_draw_28 rfl ?_
  refine g_iushr C dR_draw_30 ?_
  exact hR _ _ _ _ dR_draw_31 rfl h
def wB_Ryear_63  (k : gSt → Prop) (r2 : Int → gSt → Prop) (X2_69 : gSt → Prop) (v1 : Int) (M : gSt) : Prop :=
r2 (v1 + 1) M
def wC_Ryear_30  (k : gSt → Prop) (r2 : Int → gSt → Prop) (X2_69 : gSt → Prop) (r30 : Int → Int → gSt → Prop) (X30_63 : Int → gSt → Prop) (v1 : Int) (v2 : Int) (M : gSt) : Prop :=

  (5 < wrap v2 →
    X30_63 v1 M) ∧
  (wrap v2 ≤ 5 →
    w_Rits v1 v2 M (fun r41c M41 => w_Rits v1 v2 M41 (fun r47c M47 => w_Rlays1 v1 v2 (r41c - (Int.tdiv (wrap r47c) 100)) M47 (fun M54 => r30 v1 (v2 + 1) M54))))
def wL_Ryear_30  (k : gSt → Prop) (r2 : Int → gSt → Prop) (X2_69 : gSt → Prop) (X30_63 : Int → gSt → Prop) : Nat → Int → Int → gSt → Prop
  | 0 => fun _ _ _ => False
  | n + 1 => fun v1 v2 M => wC_Ryear_30  k r2 X2_69 (wL_Ryear_30  k r2 X2_69 X30_63 n) X30_63 v1 v2 M
def wC_Ryear_2  (k : gSt → Prop) (r2 : Int → gSt → Prop) (X2_69 : gSt → Prop) (v1 : Int) (M : gSt) : Prop :=

  (wrap (M 1 0) ≤ wrap v1 →
    X2_69  M) ∧
  (wrap v1 < wrap (M 1 0) →
    w_Rdraw  M (fun r13c M13 => w_Rits v1 1 M13 (fun r22c M22 => 
    (wrap r22c ≤ wrap (Int.tmod (wrap r13c) 100) →
      wB_Ryear_63  k r2 X2_69 v1 M22) ∧
    (wrap (Int.tmod (wrap r13c) 100) < wrap r22c →
      ∃ n, wL_Ryear_30  k r2 X2_69 (fun u1_30 M30 =>
        wB_Ryear_63  k r2 X2_69 u1_30 M30) n v1 2 M22))))
def wL_Ryear_2  (k : gSt → Prop)  (X2_69 : gSt → Prop) : Nat → Int → gSt → Prop
  | 0 => fun _ _ => False
  | n + 1 => fun v1 M => wC_Ryear_2  k  (wL_Ryear_2  k  X2_69 n) X2_69 v1 M
def w_Ryear  (M : gSt) (k : gSt → Prop) : Prop :=
∃ n, wL_Ryear_2  k  (fun  M2 =>
    ∀ M78 : gSt, M78 = wr M2 1 5 ((M2 1 5) + 1) → (k M78)) n 0 M
set_option maxHeartbeats 4000000 in
set_option maxRecDepth 100000 in
theorem m_Ryear {l : Launch} {D : va_G} {cl : List vw_C} {tys : List (ClassId × FieldType)} {ad : Nat → Nat} {cI : ClassId} {ci : Nat} (hci : cl[ci]? = some (RX9, TX9, 23))  {M : gSt} {k : gSt → Prop} (h : w_Ryear  M k) : MOv l yX9_year cX9_year 3 (rmR 1 23) D cl ((cI, .int) :: tys) (wR ad cI ci) tR [.ref (ad 0)] M k := by
  refine mov_intro (by decide +kernel) (Nat.le_of_ble_eq_true rfl) wi_101 ?_
  intro p e s m args below meth c A Q C hR
  have pB63 : ∀ (r2 : Int → gSt → Prop) (X2_69 : gSt → Prop) (hr2 : ∀ (v1 : Int) (M : gSt), r2 v1 M → gG p l e (rmR 1 23) s m args below meth c Q D cl A (wR ad cI ci) 3 2 [(0, .ref (ad 0)), (1, iv v1)] [] M) (hX2_69 : ∀  (M : gSt), X2_69  M → gG p l e (rmR 1 23) s m args below meth c Q D cl A (wR ad cI ci) 3 69 [(0, .ref (ad 0))] [] M) (v1 : Int) (M : gSt), wB_Ryear_63  k r2 X2_69 v1 M → gG p l e (rmR 1 23) s m args below meth c Q D cl A (wR ad cI ci) 3 63 [(0, .ref (ad 0)), (1, iv v1)] [] M := by
    intro r2 X2_69 hr2 hX2_69 v1 M h
    unfold wB_Ryear_63 at h
    refine g_iinc C dR_year_63 rfl (by decide) rfl ?_
    refine g_locals (lv' := [(0, .ref (ad 0)), (1, iv (v1 + 1))]) rfl ?_
    refine g_goto C 2 dR_year_66 (by decide) ?_
    refine g_locals (lv' := [(0, .ref (ad 0)), (1, iv (v1 + 1))]) rfl ?_
    exact hr2 _  _ h
  have pC30 : ∀ (r2 : Int → gSt → Prop) (X2_69 : gSt → Prop) (r30 : Int → Int → gSt → Prop) (X30_63 : Int → gSt → Prop) (hr2 : ∀ (v1 : Int) (M : gSt), r2 v1 M → gG p l e (rmR 1 23) s m args below meth c Q D cl A (wR ad cI ci) 3 2 [(0, .ref (ad 0)), (1, iv v1)] [] M) (hX2_69 : ∀  (M : gSt), X2_69  M → gG p l e (rmR 1 23) s m args below meth c Q D cl A (wR ad cI ci) 3 69 [(0, .ref (ad 0))] [] M) (hr30 : ∀ (v1 : Int) (v2 : Int) (M : gSt), r30 v1 v2 M → gG p l e (rmR 1 23) s m args below meth c Q D cl A (wR ad cI ci) 3 30 [(0, .ref (ad 0)), (1, iv v1), (2, iv v2)] [] M) (hX30_63 : ∀ (v1 : Int) (M : gSt), X30_63 v1 M → gG p l e (rmR 1 23) s m args below meth c Q D cl A (wR ad cI ci) 3 63 [(0, .ref (ad 0)), (1, iv v1)] [] M) (v1 : Int) (v2 : Int) (M : gSt), wC_Ryear_30  k r2 X2_69 r30 X30_63 v1 v2 M → gG p l e (rmR 1 23) s m args below meth c Q D cl A (wR ad cI ci) 3 30 [(0, .ref (ad 0)), (1, iv v1), (2, iv v2)] [] M := by
    intro r2 X2_69 r30 X30_63 hr2 hX2_69 hr30 hX30_63 v1 v2 M h
    unfold wC_Ryear_30 at h
    refine g_iload_n C dR_year_30 rfl ?_
    refine g_iconst C dR_year_31 ?_
    refine g_icmp_gt C 63 dR_year_32 (by decide) (fun hc => ?_) (fun hc => ?_)
    · replace h := h.1 hc
      refine g_locals (lv' := [(0, .ref (ad 0)), (1, iv v1)]) rfl ?_
      exact hX30_63 _  _ h
    · replace h := h.2 hc
      refine g_aload_n C dR_year_35 rfl ?_
      refine g_iload_n C dR_year_36 rfl ?_
      refine g_iload_n C dR_year_37 rfl ?_
      refine g_aload_n C dR_year_38 rfl ?_
      refine g_iload_n C dR_year_39 rfl ?_
      refine g_iload_n C dR_year_40 rfl ?_
      refine g_callVi C (nargs := 2) (o := 0) (st := [iv v2, iv v1, .ref (ad 0)]) (m_Rits hci h) rfl (by decide) hci rfl gd_its (by decide +kernel) ⟨rfl, rfl⟩ dR_year_41 ⟨by decide, by decide⟩ rfl rfl (Nat.le_of_ble_eq_true rfl) ?_
      intro r41c M41 h
      refine g_aload_n C dR_year_44 rfl ?_
      refine g_iload_n C dR_year_45 rfl ?_
      refine g_iload_n C dR_year_46 rfl ?_
      refine g_callVi C (nargs := 2) (o := 0) (st := [iv r41c, iv v2, iv v1, .ref (ad 0)]) (m_Rits hci h) rfl (by decide) hci rfl gd_its (by decide +kernel) ⟨rfl, rfl⟩ dR_year_47 ⟨by decide, by decide⟩ rfl rfl (Nat.le_of_ble_eq_true rfl) ?_
      intro r47c M47 h
      refine g_bipush C dR_year_50 rfl ?_
      refine g_idiv C dR_year_52 (by decide) ?_
      refine g_top (y := Int.tdiv (wrap r47c) 100) rfl ?_
      refine g_isub C dR_year_53 ?_
      refine g_callVv C (nargs := 3) (o := 0) (st := []) (m_Rlays1 hci h) rfl (by decide) hci rfl gd_lays1 (by decide +kernel) ⟨rfl, rfl⟩ dR_year_54 ⟨by decide, by decide⟩ rfl rfl (Nat.le_of_ble_eq_true rfl) ?_
      intro M54 h
      refine g_iinc C dR_year_57 rfl (by decide) rfl ?_
      refine g_locals (lv' := [(0, .ref (ad 0)), (1, iv v1), (2, iv (v2 + 1))]) rfl ?_
      refine g_goto C 30 dR_year_60 (by decide) ?_
      refine g_locals (lv' := [(0, .ref (ad 0)), (1, iv v1), (2, iv (v2 + 1))]) rfl ?_
      exact hr30 _ _  _ h
  have pL30 : ∀ (r2 : Int → gSt → Prop) (X2_69 : gSt → Prop) (X30_63 : Int → gSt → Prop) (hr2 : ∀ (v1 : Int) (M : gSt), r2 v1 M → gG p l e (rmR 1 23) s m args below meth c Q D cl A (wR ad cI ci) 3 2 [(0, .ref (ad 0)), (1, iv v1)] [] M) (hX2_69 : ∀  (M : gSt), X2_69  M → gG p l e (rmR 1 23) s m args below meth c Q D cl A (wR ad cI ci) 3 69 [(0, .ref (ad 0))] [] M) (hX30_63 : ∀ (v1 : Int) (M : gSt), X30_63 v1 M → gG p l e (rmR 1 23) s m args below meth c Q D cl A (wR ad cI ci) 3 63 [(0, .ref (ad 0)), (1, iv v1)] [] M) (n : Nat) (v1 : Int) (v2 : Int) (M : gSt), wL_Ryear_30  k r2 X2_69 X30_63 n v1 v2 M → gG p l e (rmR 1 23) s m args below meth c Q D cl A (wR ad cI ci) 3 30 [(0, .ref (ad 0)), (1, iv v1), (2, iv v2)] [] M := by
    intro r2 X2_69 X30_63 hr2 hX2_69 hX30_63 n
    induction n with
    | zero => intro v1 v2 M h; exact h.elim
    | succ n ih =>
      intro v1 v2 M h
      exact pC30 r2 X2_69 (wL_Ryear_30  k r2 X2_69 X30_63 n) X30_63 hr2 hX2_69 ih hX30_63 v1 v2 M h
  have pC2 : ∀ (r2 : Int → gSt → Prop) (X2_69 : gSt → Prop) (hr2 : ∀ (v1 : Int) (M : gSt), r2 v1 M → gG p l e (rmR 1 23) s m args below meth c Q D cl A (wR ad cI ci) 3 2 [(0, .ref (ad 0)), (1, iv v1)] [] M) (hX2_69 : ∀  (M : gSt), X2_69  M → gG p l e (rmR 1 23) s m args below meth c Q D cl A (wR ad cI ci) 3 69 [(0, .ref (ad 0))] [] M) (v1 : Int) (M : gSt), wC_Ryear_2  k r2 X2_69 v1 M → gG p l e (rmR 1 23) s m args below meth c Q D cl A (wR ad cI ci) 3 2 [(0, .ref (ad 0)), (1, iv v1)] [] M := by
    intro r2 X2_69 hr2 hX2_69 v1 M h
    unfold wC_Ryear_2 at h
    refine g_iload_n C dR_year_2 rfl ?_
    refine g_aload_n C dR_year_3 rfl ?_
    refine rf_s C hci dR_year_4 ?_
    refine g_iconst C dR_year_7 ?_
    refine g_iald C (n := 536) dR_year_8 rfl (by decide) ⟨by decide, by decide⟩ ?_
    refine g_icmp_ge C 69 dR_year_9 (by decide) (fun hc => ?_) (fun hc => ?_)
    · replace h := h.1 hc
      refine g_locals (lv' := [(0, .ref (ad 0))]) rfl ?_
      exact hX2_69  _ h
    · replace h := h.2 hc
      refine g_aload_n C dR_year_12 rfl ?_
      refine g_callVi C (nargs := 0) (o := 0) (st := []) (m_Rdraw hci h) rfl (by decide) hci rfl gd_draw (by decide +kernel) ⟨rfl, rfl⟩ dR_year_13 ⟨by decide, by decide⟩ rfl rfl (Nat.le_of_ble_eq_true rfl) ?_
      intro r13c M13 h
      refine g_bipush C dR_year_16 rfl ?_
      refine g_irem C dR_year_18 (by decide) ?_
      refine g_top (y := Int.tmod (wrap r13c) 100) rfl ?_
      refine g_aload_n C dR_year_19 rfl ?_
      refine g_iload_n C dR_year_20 rfl ?_
      refine g_iconst C dR_year_21 ?_
      refine g_callVi C (nargs := 2) (o := 0) (st := [iv (Int.tmod (wrap r13c) 100)]) (m_Rits hci h) rfl (by decide) hci rfl gd_its (by decide +kernel) ⟨rfl, rfl⟩ dR_year_22 ⟨by decide, by decide⟩ rfl rfl (Nat.le_of_ble_eq_true rfl) ?_
      intro r22c M22 h
      refine g_icmp_ge C 63 dR_year_25 (by decide) (fun hc => ?_) (fun hc => ?_)
      · replace h := h.1 hc
        refine g_locals (lv' := [(0, .ref (ad 0)), (1, iv v1)]) rfl ?_
        exact pB63 r2 X2_69 hr2 hX2_69 _ _ h
      · replace h := h.2 hc
        refine g_iconst C dR_year_28 ?_
        refine g_istore_n C dR_year_29 (by decide) rfl ?_
        refine g_locals (lv' := [(0, .ref (ad 0)), (1, iv v1), (2, iv 2)]) rfl ?_
        refine g_locals (lv' := [(0, .ref (ad 0)), (1, iv v1), (2, iv 2)]) rfl ?_
        obtain ⟨n, h⟩ := h
        refine pL30 r2 X2_69 _ hr2 hX2_69 ?_ n _ _ _ h
        · intro u1_30 M30 h
          refine g_locals (lv' := [(0, .ref (ad 0)), (1, iv u1_30)]) rfl ?_
          exact pB63 r2 X2_69 hr2 hX2_69 _ _ h
  have pL2 : ∀  (X2_69 : gSt → Prop) (hX2_69 : ∀  (M : gSt), X2_69  M → gG p l e (rmR 1 23) s m args below meth c Q D cl A (wR ad cI ci) 3 69 [(0, .ref (ad 0))] [] M) (n : Nat) (v1 : Int) (M : gSt), wL_Ryear_2  k  X2_69 n v1 M → gG p l e (rmR 1 23) s m args below meth c Q D cl A (wR ad cI ci) 3 2 [(0, .ref (ad 0)), (1, iv v1)] [] M := by
    intro  X2_69 hX2_69 n
    induction n with
    | zero => intro v1 M h; exact h.elim
    | succ n ih =>
      intro v1 M h
      exact pC2  (wL_Ryear_2  k  X2_69 n) X2_69 ih hX2_69 v1 M h
  refine g_locals (lv' := [(0, .ref (ad 0))]) rfl ?_
  unfold w_Ryear at h
  refine g_iconst C dR_year_0 ?_
  refine g_istore_n C dR_year_1 (by decide) rfl ?_
  refine g_locals (lv' := [(0, .ref (ad 0)), (1, iv 0)]) rfl ?_
  refine g_locals (lv' := [(0, .ref (ad 0)), (1, iv 0)]) rfl ?_
  obtain ⟨n, h⟩ := h
  refine pL2 _ ?_ n _ _ h
  · intro  M2 h
    refine g_aload_n C dR_year_69 rfl ?_
    refine rf_s C hci dR_year_70 ?_
    refine g_iconst C dR_year_73 ?_
    refine g_dup2 C dR_year_74 rfl rfl ?_
    refine g_iald C (n := 536) dR_year_75 rfl (by decide) ⟨by decide, by decide⟩ ?_
    refine g_iconst C dR_year_76 ?_
    refine g_iadd C dR_year_77 ?_
    refine g_iast C (n := 536) dR_year_78 rfl (by decide) ⟨by decide, by decide⟩ ?_
    refine g_memname (fun M78 hM78 => ?_)
    replace h := h M78 hM78
    exact hR _ _ _ dR_year_79 h
def wC_Rgo_2 (a1 : Int) (k : gSt → Prop) (r2 : Int → gSt → Prop) (X2_17 : gSt → Prop) (v2 : Int) (M : gSt) : Prop :=

  (wrap a1 ≤ wrap v2 →
    X2_17  M) ∧
  (wrap v2 < wrap a1 →
    w_Ryear  M (fun M8 => r2 (v2 + 1) M8))
def wL_Rgo_2 (a1 : Int) (k : gSt → Prop)  (X2_17 : gSt → Prop) : Nat → Int → gSt → Prop
  | 0 => fun _ _ => False
  | n + 1 => fun v2 M => wC_Rgo_2 a1 k  (wL_Rgo_2 a1 k  X2_17 n) X2_17 v2 M
def w_Rgo (a1 : Int) (M : gSt) (k : gSt → Prop) : Prop :=
∃ n, wL_Rgo_2 a1 k  (fun  M2 =>
    k M2) n 0 M
set_option maxHeartbeats 4000000 in
set_option maxRecDepth 100000 in
theorem m_Rgo {l : Launch} {D : va_G} {cl : List vw_C} {tys : List (ClassId × FieldType)} {ad : Nat → Nat} {cI : ClassId} {ci : Nat} (hci : cl[ci]? = some (RX9, TX9, 23)) {a1 : Int} {M : gSt} {k : gSt → Prop} (h : w_Rgo a1 M k) : MOv l yX9_go cX9_go 3 (rmR 2 45) D cl ((cI, .int) :: tys) (wR ad cI ci) tR [.ref (ad 0), iv a1] M k := by
  refine mov_intro (by decide +kernel) (Nat.le_of_ble_eq_true rfl) wi_105 ?_
  intro p e s m args below meth c A Q C hR
  have pC2 : ∀ (r2 : Int → gSt → Prop) (X2_17 : gSt → Prop) (hr2 : ∀ (v2 : Int) (M : gSt), r2 v2 M → gG p l e (rmR 2 45) s m args below meth c Q D cl A (wR ad cI ci) 3 2 [(0, .ref (ad 0)), (1, iv a1), (2, iv v2)] [] M) (hX2_17 : ∀  (M : gSt), X2_17  M → gG p l e (rmR 2 45) s m args below meth c Q D cl A (wR ad cI ci) 3 17 [] [] M) (v2 : Int) (M : gSt), wC_Rgo_2 a1 k r2 X2_17 v2 M → gG p l e (rmR 2 45) s m args below meth c Q D cl A (wR ad cI ci) 3 2 [(0, .ref (ad 0)), (1, iv a1), (2, iv v2)] [] M := by
    intro r2 X2_17 hr2 hX2_17 v2 M h
    unfold wC_Rgo_2 at h
    refine g_iload_n C dR_go_2 rfl ?_
    refine g_iload_n C dR_go_3 rfl ?_
    refine g_icmp_ge C 17 dR_go_4 (by decide) (fun hc => ?_) (fun hc => ?_)
    · replace h := h.1 hc
      refine g_locals (lv' := []) rfl ?_
      exact hX2_17  _ h
    · replace h := h.2 hc
      refine g_aload_n C dR_go_7 rfl ?_
      refine g_callVv C (nargs := 0) (o := 0) (st := []) (m_Ryear hci h) rfl (by decide) hci rfl gd_year (by decide +kernel) ⟨rfl, rfl⟩ dR_go_8 ⟨by decide, by decide⟩ rfl rfl (Nat.le_of_ble_eq_true rfl) ?_
      intro M8 h
      refine g_iinc C dR_go_11 rfl (by decide) rfl ?_
      refine g_locals (lv' := [(0, .ref (ad 0)), (1, iv a1), (2, iv (v2 + 1))]) rfl ?_
      refine g_goto C 2 dR_go_14 (by decide) ?_
      refine g_locals (lv' := [(0, .ref (ad 0)), (1, iv a1), (2, iv (v2 + 1))]) rfl ?_
      exact hr2 _  _ h
  have pL2 : ∀  (X2_17 : gSt → Prop) (hX2_17 : ∀  (M : gSt), X2_17  M → gG p l e (rmR 2 45) s m args below meth c Q D cl A (wR ad cI ci) 3 17 [] [] M) (n : Nat) (v2 : Int) (M : gSt), wL_Rgo_2 a1 k  X2_17 n v2 M → gG p l e (rmR 2 45) s m args below meth c Q D cl A (wR ad cI ci) 3 2 [(0, .ref (ad 0)), (1, iv a1), (2, iv v2)] [] M := by
    intro  X2_17 hX2_17 n
    induction n with
    | zero => intro v2 M h; exact h.elim
    | succ n ih =>
      intro v2 M h
      exact pC2  (wL_Rgo_2 a1 k  X2_17 n) X2_17 ih hX2_17 v2 M h
  refine g_locals (lv' := [(0, .ref (ad 0)), (1, iv a1)]) rfl ?_
  unfold w_Rgo at h
  refine g_iconst C dR_go_0 ?_
  refine g_istore_n C dR_go_1 (by decide) rfl ?_
  refine g_locals (lv' := [(0, .ref (ad 0)), (1, iv a1), (2, iv 0)]) rfl ?_
  refine g_locals (lv' := [(0, .ref (ad 0)), (1, iv a1), (2, iv 0)]) rfl ?_
  obtain ⟨n, h⟩ := h
  refine pL2 _ ?_ n _ _ h
  · intro  M2 h
    exact hR _ _ _ dR_go_17 h
def wC_RallGrams_4  (k : Int → gSt → Prop) (r4 : Int → Int → gSt → Prop) (X4_29 : Int → gSt → Prop) (v1 : Int) (v2 : Int) (M : gSt) : Prop :=

  (wrap (M 1 0) ≤ wrap v2 →
    X4_29 v1 M) ∧
  (wrap v2 < wrap (M 1 0) →
    w_Rits v2 2 M (fun r18c M18 => ∀ x1_22 : Int, x1_22 = v1 + r18c → (r4 x1_22 (v2 + 1) M18)))
def wL_RallGrams_4  (k : Int → gSt → Prop)  (X4_29 : Int → gSt → Prop) : Nat → Int → Int → gSt → Prop
  | 0 => fun _ _ _ => False
  | n + 1 => fun v1 v2 M => wC_RallGrams_4  k  (wL_RallGrams_4  k  X4_29 n) X4_29 v1 v2 M
def w_RallGrams  (M : gSt) (k : Int → gSt → Prop) : Prop :=
∃ n, wL_RallGrams_4  k  (fun u1_4 M4 =>
    k u1_4 M4) n 0 0 M
set_option maxHeartbeats 4000000 in
set_option maxRecDepth 100000 in
theorem m_RallGrams {l : Launch} {D : va_G} {cl : List vw_C} {tys : List (ClassId × FieldType)} {ad : Nat → Nat} {cI : ClassId} {ci : Nat} (hci : cl[ci]? = some (RX9, TX9, 23))  {M : gSt} {k : Int → gSt → Prop} (h : w_RallGrams  M k) : MOi l yX9_allGrams cX9_allGrams 3 .int (rmR 1 22) D cl ((cI, .int) :: tys) (wR ad cI ci) tR [.ref (ad 0)] M k := by
  refine moi_intro (by decide +kernel) (Nat.le_of_ble_eq_true rfl) wi_106 ?_
  intro p e s m args below meth c A Q C hR
  have pC4 : ∀ (r4 : Int → Int → gSt → Prop) (X4_29 : Int → gSt → Prop) (hr4 : ∀ (v1 : Int) (v2 : Int) (M : gSt), r4 v1 v2 M → gG p l e (rmR 1 22) s m args below meth c Q D cl A (wR ad cI ci) 3 4 [(0, .ref (ad 0)), (1, iv v1), (2, iv v2)] [] M) (hX4_29 : ∀ (v1 : Int) (M : gSt), X4_29 v1 M → gG p l e (rmR 1 22) s m args below meth c Q D cl A (wR ad cI ci) 3 29 [(1, iv v1)] [] M) (v1 : Int) (v2 : Int) (M : gSt), wC_RallGrams_4  k r4 X4_29 v1 v2 M → gG p l e (rmR 1 22) s m args below meth c Q D cl A (wR ad cI ci) 3 4 [(0, .ref (ad 0)), (1, iv v1), (2, iv v2)] [] M := by
    intro r4 X4_29 hr4 hX4_29 v1 v2 M h
    unfold wC_RallGrams_4 at h
    refine g_iload_n C dR_allGrams_4 rfl ?_
    refine g_aload_n C dR_allGrams_5 rfl ?_
    refine rf_s C hci dR_allGrams_6 ?_
    refine g_iconst C dR_allGrams_9 ?_
    refine g_iald C (n := 536) dR_allGrams_10 rfl (by decide) ⟨by decide, by decide⟩ ?_
    refine g_icmp_ge C 29 dR_allGrams_11 (by decide) (fun hc => ?_) (fun hc => ?_)
    · replace h := h.1 hc
      refine g_locals (lv' := [(1, iv v1)]) rfl ?_
      exact hX4_29 _  _ h
    · replace h := h.2 hc
      refine g_iload_n C dR_allGrams_14 rfl ?_
      refine g_aload_n C dR_allGrams_15 rfl ?_
      refine g_iload_n C dR_allGrams_16 rfl ?_
      refine g_iconst C dR_allGrams_17 ?_
      refine g_callVi C (nargs := 2) (o := 0) (st := [iv v1]) (m_Rits hci h) rfl (by decide) hci rfl gd_its (by decide +kernel) ⟨rfl, rfl⟩ dR_allGrams_18 ⟨by decide, by decide⟩ rfl rfl (Nat.le_of_ble_eq_true rfl) ?_
      intro r18c M18 h
      refine g_iadd C dR_allGrams_21 ?_
      refine g_name (fun x1_22 hx1_22 => ?_)
      replace h := h x1_22 hx1_22
      refine g_istore_n C dR_allGrams_22 (by decide) rfl ?_
      refine g_locals (lv' := [(0, .ref (ad 0)), (1, iv x1_22), (2, iv v2)]) rfl ?_
      refine g_iinc C dR_allGrams_23 rfl (by decide) rfl ?_
      refine g_locals (lv' := [(0, .ref (ad 0)), (1, iv x1_22), (2, iv (v2 + 1))]) rfl ?_
      refine g_goto C 4 dR_allGrams_26 (by decide) ?_
      refine g_locals (lv' := [(0, .ref (ad 0)), (1, iv x1_22), (2, iv (v2 + 1))]) rfl ?_
      exact hr4 _ _  _ h
  have pL4 : ∀  (X4_29 : Int → gSt → Prop) (hX4_29 : ∀ (v1 : Int) (M : gSt), X4_29 v1 M → gG p l e (rmR 1 22) s m args below meth c Q D cl A (wR ad cI ci) 3 29 [(1, iv v1)] [] M) (n : Nat) (v1 : Int) (v2 : Int) (M : gSt), wL_RallGrams_4  k  X4_29 n v1 v2 M → gG p l e (rmR 1 22) s m args below meth c Q D cl A (wR ad cI ci) 3 4 [(0, .ref (ad 0)), (1, iv v1), (2, iv v2)] [] M := by
    intro  X4_29 hX4_29 n
    induction n with
    | zero => intro v1 v2 M h; exact h.elim
    | succ n ih =>
      intro v1 v2 M h
      exact pC4  (wL_RallGrams_4  k  X4_29 n) X4_29 ih hX4_29 v1 v2 M h
  refine g_locals (lv' := [(0, .ref (ad 0))]) rfl ?_
  unfold w_RallGrams at h
  refine g_iconst C dR_allGrams_0 ?_
  refine g_istore_n C dR_allGrams_1 (by decide) rfl ?_
  refine g_locals (lv' := [(0, .ref (ad 0)), (1, iv 0)]) rfl ?_
  refine g_iconst C dR_allGrams_2 ?_
  refine g_istore_n C dR_allGrams_3 (by decide) rfl ?_
  refine g_locals (lv' := [(0, .ref (ad 0)), (1, iv 0), (2, iv 0)]) rfl ?_
  refine g_locals (lv' := [(0, .ref (ad 0)), (1, iv 0), (2, iv 0)]) rfl ?_
  obtain ⟨n, h⟩ := h
  refine pL4 _ ?_ n _ _ _ h
  · intro u1_4 M4 h
    refine g_iload_n C dR_allGrams_29 rfl ?_
    exact hR _ _ _ _ dR_allGrams_30 rfl h
def w_Ryears (a1 : Int) (M : gSt) (k : Int → gSt → Prop) : Prop :=
w_Rin a1 1 60 M (fun r4c M4 => 
  (¬ wrap r4c = 0 →

    (wrap ((M4 1 5) + a1) ≤ 9999 →
      w_Rgo a1 M4 (fun M38 => w_RallGrams  M38 (fun r42c M42 => k r42c M42))) ∧
    (9999 < wrap ((M4 1 5) + a1) →
      w_Rerror 3 M4 (fun r32c M32 => k r32c M32))) ∧
  (wrap r4c = 0 →
    w_Rerror 1 M4 (fun r12c M12 => k r12c M12)))
set_option maxHeartbeats 4000000 in
set_option maxRecDepth 100000 in
theorem m_Ryears {l : Launch} {D : va_G} {cl : List vw_C} {tys : List (ClassId × FieldType)} {ad : Nat → Nat} {cI : ClassId} {ci : Nat} (hci : cl[ci]? = some (RX9, TX9, 23)) {a1 : Int} {M : gSt} {k : Int → gSt → Prop} (h : w_Ryears a1 M k) : MOi l yX9_years cX9_years 2 .int (rmR 3 67) D cl ((cI, .int) :: tys) (wR ad cI ci) tR [.ref (ad 0), iv a1] M k := by
  refine moi_intro (by decide +kernel) (Nat.le_of_ble_eq_true rfl) wi_113 ?_
  intro p e s m args below meth c A Q C hR
  refine g_locals (lv' := [(0, .ref (ad 0)), (1, iv a1)]) rfl ?_
  unfold w_Ryears at h
  refine g_iload_n C dR_years_0 rfl ?_
  refine g_iconst C dR_years_1 ?_
  refine g_bipush C dR_years_2 rfl ?_
  refine g_callSi C (nargs := 3) (st := []) (m_Rin hci h) gd_in (by decide +kernel) ⟨rfl, rfl⟩ dR_years_4 ⟨by decide, by decide⟩ rfl rfl (Nat.le_of_ble_eq_true rfl) ?_
  intro r4c M4 h
  refine g_if_ne C 16 dR_years_7 (by decide) (fun hc => ?_) (fun hc => ?_)
  · replace h := h.1 hc
    refine g_aload_n C dR_years_16 rfl ?_
    refine rf_s C hci dR_years_17 ?_
    refine g_iconst C dR_years_20 ?_
    refine g_iald C (n := 536) dR_years_21 rfl (by decide) ⟨by decide, by decide⟩ ?_
    refine g_iload_n C dR_years_22 rfl ?_
    refine g_iadd C dR_years_23 ?_
    refine g_sipush C dR_years_24 rfl ?_
    refine g_icmp_le C 36 dR_years_27 (by decide) (fun hc => ?_) (fun hc => ?_)
    · replace h := h.1 hc
      refine g_aload_n C dR_years_36 rfl ?_
      refine g_iload_n C dR_years_37 rfl ?_
      refine g_callVv C (nargs := 1) (o := 0) (st := []) (m_Rgo hci h) rfl (by decide) hci rfl gd_go (by decide +kernel) ⟨rfl, rfl⟩ dR_years_38 ⟨by decide, by decide⟩ rfl rfl (Nat.le_of_ble_eq_true rfl) ?_
      intro M38 h
      refine g_aload_n C dR_years_41 rfl ?_
      refine g_callVi C (nargs := 0) (o := 0) (st := []) (m_RallGrams hci h) rfl (by decide) hci rfl gd_allGrams (by decide +kernel) ⟨rfl, rfl⟩ dR_years_42 ⟨by decide, by decide⟩ rfl rfl (Nat.le_of_ble_eq_true rfl) ?_
      intro r42c M42 h
      exact hR _ _ _ _ dR_years_45 rfl h
    · replace h := h.2 hc
      refine g_aload_n C dR_years_30 rfl ?_
      refine g_iconst C dR_years_31 ?_
      refine g_callVi C (nargs := 1) (o := 0) (st := []) (m_Rerror hci h) rfl (by decide) hci rfl gd_error (by decide +kernel) ⟨rfl, rfl⟩ dR_years_32 ⟨by decide, by decide⟩ rfl rfl (Nat.le_of_ble_eq_true rfl) ?_
      intro r32c M32 h
      exact hR _ _ _ _ dR_years_35 rfl h
  · replace h := h.2 hc
    refine g_aload_n C dR_years_10 rfl ?_
    refine g_iconst C dR_years_11 ?_
    refine g_callVi C (nargs := 1) (o := 0) (st := []) (m_Rerror hci h) rfl (by decide) hci rfl gd_error (by decide +kernel) ⟨rfl, rfl⟩ dR_years_12 ⟨by decide, by decide⟩ rfl rfl (Nat.le_of_ble_eq_true rfl) ?_
    intro r12c M12 h
    exact hR _ _ _ _ dR_years_15 rfl h
def wB_Rthen_28 (a1 : Int) (a2 : Int) (a3 : Int) (k : Int → gSt → Prop)   (M : gSt) : Prop :=
w_Rerror 1 M (fun r30c M30 => k r30c M30)
def w_Rthen (a1 : Int) (a2 : Int) (a3 : Int) (M : gSt) (k : Int → gSt → Prop) : Prop :=
w_Rin a1 0 60 M (fun r4c M4 => 
  (wrap r4c = 0 →
    wB_Rthen_28 a1 a2 a3 k   M4) ∧
  (¬ wrap r4c = 0 →
    w_RisThing a2 M4 (fun r12c M12 => 
    (wrap r12c = 0 →
      wB_Rthen_28 a1 a2 a3 k   M12) ∧
    (¬ wrap r12c = 0 →
      w_Rin a3 0 10 M12 (fun r22c M22 => 
      (¬ wrap r22c = 0 →
        w_Rcarry 1 3 M22 (fun M42 => w_Rgo a1 M42 (fun M47 => w_Rtold1 a2 a3 M47 (fun r53c M53 => w_Rcarry 3 1 M53 (fun M66 => k r53c M66))))) ∧
      (wrap r22c = 0 →
        wB_Rthen_28 a1 a2 a3 k   M22))))))
set_option maxHeartbeats 4000000 in
set_option maxRecDepth 100000 in
theorem m_Rthen {l : Launch} {D : va_G} {cl : List vw_C} {tys : List (ClassId × FieldType)} {ad : Nat → Nat} {cI : ClassId} {ci : Nat} (hci : cl[ci]? = some (RX9, TX9, 23)) {a1 : Int} {a2 : Int} {a3 : Int} {M : gSt} {k : Int → gSt → Prop} (h : w_Rthen a1 a2 a3 M k) : MOi l yX9_then cX9_then 5 .int (rmR 5 115) D cl ((cI, .int) :: tys) (wR ad cI ci) tR [.ref (ad 0), iv a1, iv a2, iv a3] M k := by
  refine moi_intro (by decide +kernel) (Nat.le_of_ble_eq_true rfl) wi_116 ?_
  intro p e s m args below meth c A Q C hR
  have pB28 : ∀    (M : gSt), wB_Rthen_28 a1 a2 a3 k   M → gG p l e (rmR 5 115) s m args below meth c Q D cl A (wR ad cI ci) 5 28 [(0, .ref (ad 0))] [] M := by
    intro    M h
    unfold wB_Rthen_28 at h
    refine g_aload_n C dR_then_28 rfl ?_
    refine g_iconst C dR_then_29 ?_
    refine g_callVi C (nargs := 1) (o := 0) (st := []) (m_Rerror hci h) rfl (by decide) hci rfl gd_error (by decide +kernel) ⟨rfl, rfl⟩ dR_then_30 ⟨by decide, by decide⟩ rfl rfl (Nat.le_of_ble_eq_true rfl) ?_
    intro r30c M30 h
    exact hR _ _ _ _ dR_then_33 rfl h
  refine g_locals (lv' := [(0, .ref (ad 0)), (1, iv a1), (2, iv a2), (3, iv a3)]) rfl ?_
  unfold w_Rthen at h
  refine g_iload_n C dR_then_0 rfl ?_
  refine g_iconst C dR_then_1 ?_
  refine g_bipush C dR_then_2 rfl ?_
  refine g_callSi C (nargs := 3) (st := []) (m_Rin hci h) gd_in (by decide +kernel) ⟨rfl, rfl⟩ dR_then_4 ⟨by decide, by decide⟩ rfl rfl (Nat.le_of_ble_eq_true rfl) ?_
  intro r4c M4 h
  refine g_if_eq C 28 dR_then_7 (by decide) (fun hc => ?_) (fun hc => ?_)
  · replace h := h.1 hc
    refine g_locals (lv' := [(0, .ref (ad 0))]) rfl ?_
    exact pB28  _ h
  · replace h := h.2 hc
    refine g_aload_n C dR_then_10 rfl ?_
    refine g_iload_n C dR_then_11 rfl ?_
    refine g_callVi C (nargs := 1) (o := 0) (st := []) (m_RisThing hci h) rfl (by decide) hci rfl gd_isThing (by decide +kernel) ⟨rfl, rfl⟩ dR_then_12 ⟨by decide, by decide⟩ rfl rfl (Nat.le_of_ble_eq_true rfl) ?_
    intro r12c M12 h
    refine g_if_eq C 28 dR_then_15 (by decide) (fun hc => ?_) (fun hc => ?_)
    · replace h := h.1 hc
      refine g_locals (lv' := [(0, .ref (ad 0))]) rfl ?_
      exact pB28  _ h
    · replace h := h.2 hc
      refine g_iload_n C dR_then_18 rfl ?_
      refine g_iconst C dR_then_19 ?_
      refine g_bipush C dR_then_20 rfl ?_
      refine g_callSi C (nargs := 3) (st := []) (m_Rin hci h) gd_in (by decide +kernel) ⟨rfl, rfl⟩ dR_then_22 ⟨by decide, by decide⟩ rfl rfl (Nat.le_of_ble_eq_true rfl) ?_
      intro r22c M22 h
      refine g_if_ne C 34 dR_then_25 (by decide) (fun hc => ?_) (fun hc => ?_)
      · replace h := h.1 hc
        refine g_aload_n C dR_then_34 rfl ?_
        refine rf_s C hci dR_then_35 ?_
        refine g_aload_n C dR_then_38 rfl ?_
        refine rf_put C hci dR_then_39 ?_
        refine g_callSv C (nargs := 2) (st := []) (m_Rcarry hci h) gd_carry (by decide +kernel) ⟨rfl, rfl⟩ dR_then_42 ⟨by decide, by decide⟩ rfl rfl (Nat.le_of_ble_eq_true rfl) ?_
        intro M42 h
        refine g_aload_n C dR_then_45 rfl ?_
        refine g_iload_n C dR_then_46 rfl ?_
        refine g_callVv C (nargs := 1) (o := 0) (st := []) (m_Rgo hci h) rfl (by decide) hci rfl gd_go (by decide +kernel) ⟨rfl, rfl⟩ dR_then_47 ⟨by decide, by decide⟩ rfl rfl (Nat.le_of_ble_eq_true rfl) ?_
        intro M47 h
        refine g_aload_n C dR_then_50 rfl ?_
        refine g_iload_n C dR_then_51 rfl ?_
        refine g_iload_n C dR_then_52 rfl ?_
        refine g_callVi C (nargs := 2) (o := 0) (st := []) (m_Rtold1 hci h) rfl (by decide) hci rfl gd_told1 (by decide +kernel) ⟨rfl, rfl⟩ dR_then_53 ⟨by decide, by decide⟩ rfl rfl (Nat.le_of_ble_eq_true rfl) ?_
        intro r53c M53 h
        refine g_istore C dR_then_56 (by decide) rfl ?_
        refine g_locals (lv' := [(0, .ref (ad 0)), (1, iv a1), (2, iv a2), (3, iv a3), (4, iv r53c)]) rfl ?_
        refine g_aload_n C dR_then_58 rfl ?_
        refine rf_put C hci dR_then_59 ?_
        refine g_aload_n C dR_then_62 rfl ?_
        refine rf_s C hci dR_then_63 ?_
        refine g_callSv C (nargs := 2) (st := []) (m_Rcarry hci h) gd_carry (by decide +kernel) ⟨rfl, rfl⟩ dR_then_66 ⟨by decide, by decide⟩ rfl rfl (Nat.le_of_ble_eq_true rfl) ?_
        intro M66 h
        refine g_iload C dR_then_69 rfl ?_
        exact hR _ _ _ _ dR_then_71 rfl h
      · replace h := h.2 hc
        refine g_locals (lv' := [(0, .ref (ad 0))]) rfl ?_
        exact pB28  _ h
end
section
def w_Rseed (a1 : Int) (M : gSt) (k : Int → gSt → Prop) : Prop :=
∀ x2_7 : Int, x2_7 = M 1 8 → (∀ M15 : gSt, M15 = wr M 1 8 a1 → (k x2_7 M15))
set_option maxHeartbeats 4000000 in
set_option maxRecDepth 100000 in
theorem m_Rseed {l : Launch} {D : va_G} {cl : List vw_C} {tys : List (ClassId × FieldType)} {ad : Nat → Nat} {cI : ClassId} {ci : Nat} (hci : cl[ci]? = some (RX9, TX9, 23)) {a1 : Int} {M : gSt} {k : Int → gSt → Prop} (h : w_Rseed a1 M k) : MOi l yX9_seed cX9_seed 3 .int (rmR 0 0) D cl ((cI, .int) :: tys) (wR ad cI ci) tR [.ref (ad 0), iv a1] M k := by
  refine moi_intro (by decide +kernel) (Nat.le_of_ble_eq_true rfl) wi_117 ?_
  intro p e s m args below meth c A Q C hR
  refine g_locals (lv' := [(0, .ref (ad 0)), (1, iv a1)]) rfl ?_
  unfold w_Rseed at h
  refine g_aload_n C dR_seed_0 rfl ?_
  refine rf_s C hci dR_seed_1 ?_
  refine g_bipush C dR_seed_4 rfl ?_
  refine g_iald C (n := 536) dR_seed_6 rfl (by decide) ⟨by decide, by decide⟩ ?_
  refine g_name (fun x2_7 hx2_7 => ?_)
  replace h := h x2_7 hx2_7
  refine g_istore_n C dR_seed_7 (by decide) rfl ?_
  refine g_locals (lv' := [(0, .ref (ad 0)), (1, iv a1), (2, iv x2_7)]) rfl ?_
  refine g_aload_n C dR_seed_8 rfl ?_
  refine rf_s C hci dR_seed_9 ?_
  refine g_bipush C dR_seed_12 rfl ?_
  refine g_iload_n C dR_seed_14 rfl ?_
  refine g_iast C (n := 536) dR_seed_15 rfl (by decide) ⟨by decide, by decide⟩ ?_
  refine g_memname (fun M15 hM15 => ?_)
  replace h := h M15 hM15
  refine g_iload_n C dR_seed_16 rfl ?_
  exact hR _ _ _ _ dR_seed_17 rfl h
def wC_Rfeed_39 (a1 : Int) (a2 : Int) (k : Int → gSt → Prop) (r39 : Int → gSt → Prop) (X39_90 : gSt → Prop) (v4 : Int) (M : gSt) : Prop :=

  (wrap a2 ≤ wrap v4 →
    X39_90  M) ∧
  (wrap v4 < wrap a2 →
    (0 ≤ 452 + (M 1 6) ∧ 452 + (M 1 6) < 536) ∧ (∀ M72 : gSt, M72 = wr M 1 (452 + (M 1 6)) (yand (yshr a1 (8 * v4)) 255) → (∀ M83 : gSt, M83 = wr M72 1 6 ((M72 1 6) + 1) → (r39 (v4 + 1) M83))))
def wL_Rfeed_39 (a1 : Int) (a2 : Int) (k : Int → gSt → Prop)  (X39_90 : gSt → Prop) : Nat → Int → gSt → Prop
  | 0 => fun _ _ => False
  | n + 1 => fun v4 M => wC_Rfeed_39 a1 a2 k  (wL_Rfeed_39 a1 a2 k  X39_90 n) X39_90 v4 M
def w_Rfeed (a1 : Int) (a2 : Int) (M : gSt) (k : Int → gSt → Prop) : Prop :=
w_Rin a2 1 8 M (fun r4c M4 => 
  (¬ wrap r4c = 0 →

    (wrap ((M4 1 6) + a2) ≤ 60 →
      ∃ n, wL_Rfeed_39 a1 a2 k  (fun  M39 =>
        k (M39 1 6) M39) n 0 M4) ∧
    (60 < wrap ((M4 1 6) + a2) →
      w_Rerror 4 M4 (fun r32c M32 => k r32c M32))) ∧
  (wrap r4c = 0 →
    w_Rerror 1 M4 (fun r12c M12 => k r12c M12)))
set_option maxHeartbeats 4000000 in
set_option maxRecDepth 100000 in
theorem m_Rfeed {l : Launch} {D : va_G} {cl : List vw_C} {tys : List (ClassId × FieldType)} {ad : Nat → Nat} {cI : ClassId} {ci : Nat} (hci : cl[ci]? = some (RX9, TX9, 23)) {a1 : Int} {a2 : Int} {M : gSt} {k : Int → gSt → Prop} (h : w_Rfeed a1 a2 M k) : MOi l yX9_feed cX9_feed 5 .int (rmR 1 22) D cl ((cI, .int) :: tys) (wR ad cI ci) tR [.ref (ad 0), jv a1, iv a2] M k := by
  refine moi_intro (by decide +kernel) (Nat.le_of_ble_eq_true rfl) wi_119 ?_
  intro p e s m args below meth c A Q C hR
  have pC39 : ∀ (r39 : Int → gSt → Prop) (X39_90 : gSt → Prop) (hr39 : ∀ (v4 : Int) (M : gSt), r39 v4 M → gG p l e (rmR 1 22) s m args below meth c Q D cl A (wR ad cI ci) 5 39 [(0, .ref (ad 0)), (1, jv a1), (3, iv a2), (4, iv v4)] [] M) (hX39_90 : ∀  (M : gSt), X39_90  M → gG p l e (rmR 1 22) s m args below meth c Q D cl A (wR ad cI ci) 5 90 [(0, .ref (ad 0))] [] M) (v4 : Int) (M : gSt), wC_Rfeed_39 a1 a2 k r39 X39_90 v4 M → gG p l e (rmR 1 22) s m args below meth c Q D cl A (wR ad cI ci) 5 39 [(0, .ref (ad 0)), (1, jv a1), (3, iv a2), (4, iv v4)] [] M := by
    intro r39 X39_90 hr39 hX39_90 v4 M h
    unfold wC_Rfeed_39 at h
    refine g_iload C dR_feed_39 rfl ?_
    refine g_iload_n C dR_feed_41 rfl ?_
    refine g_icmp_ge C 90 dR_feed_42 (by decide) (fun hc => ?_) (fun hc => ?_)
    · replace h := h.1 hc
      refine g_locals (lv' := [(0, .ref (ad 0))]) rfl ?_
      exact hX39_90  _ h
    · replace h := h.2 hc
      refine g_aload_n C dR_feed_45 rfl ?_
      refine rf_s C hci dR_feed_46 ?_
      refine g_sipush C dR_feed_49 rfl ?_
      refine g_aload_n C dR_feed_52 rfl ?_
      refine rf_s C hci dR_feed_53 ?_
      refine g_bipush C dR_feed_56 rfl ?_
      refine g_iald C (n := 536) dR_feed_58 rfl (by decide) ⟨by decide, by decide⟩ ?_
      refine g_iadd C dR_feed_59 ?_
      refine g_lload_n C dR_feed_60 rfl ?_
      refine g_bipush C dR_feed_61 rfl ?_
      refine g_iload C dR_feed_63 rfl ?_
      refine g_imul C dR_feed_65 ?_
      refine g_lshr C dR_feed_66 ?_
      refine g_ldc2 C 255 wi_118 rfl dR_feed_67 ?_
      refine g_land C dR_feed_70 ?_
      refine g_l2i C dR_feed_71 ?_
      refine g_iast C (n := 536) dR_feed_72 rfl (by decide) h.1 ?_
      replace h := h.2
      refine g_memname (fun M72 hM72 => ?_)
      replace h := h M72 hM72
      refine g_aload_n C dR_feed_73 rfl ?_
      refine rf_s C hci dR_feed_74 ?_
      refine g_bipush C dR_feed_77 rfl ?_
      refine g_dup2 C dR_feed_79 rfl rfl ?_
      refine g_iald C (n := 536) dR_feed_80 rfl (by decide) ⟨by decide, by decide⟩ ?_
      refine g_iconst C dR_feed_81 ?_
      refine g_iadd C dR_feed_82 ?_
      refine g_iast C (n := 536) dR_feed_83 rfl (by decide) ⟨by decide, by decide⟩ ?_
      refine g_memname (fun M83 hM83 => ?_)
      replace h := h M83 hM83
      refine g_iinc C dR_feed_84 rfl (by decide) rfl ?_
      refine g_locals (lv' := [(0, .ref (ad 0)), (1, jv a1), (3, iv a2), (4, iv (v4 + 1))]) rfl ?_
      refine g_goto C 39 dR_feed_87 (by decide) ?_
      refine g_locals (lv' := [(0, .ref (ad 0)), (1, jv a1), (3, iv a2), (4, iv (v4 + 1))]) rfl ?_
      exact hr39 _  _ h
  have pL39 : ∀  (X39_90 : gSt → Prop) (hX39_90 : ∀  (M : gSt), X39_90  M → gG p l e (rmR 1 22) s m args below meth c Q D cl A (wR ad cI ci) 5 90 [(0, .ref (ad 0))] [] M) (n : Nat) (v4 : Int) (M : gSt), wL_Rfeed_39 a1 a2 k  X39_90 n v4 M → gG p l e (rmR 1 22) s m args below meth c Q D cl A (wR ad cI ci) 5 39 [(0, .ref (ad 0)), (1, jv a1), (3, iv a2), (4, iv v4)] [] M := by
    intro  X39_90 hX39_90 n
    induction n with
    | zero => intro v4 M h; exact h.elim
    | succ n ih =>
      intro v4 M h
      exact pC39  (wL_Rfeed_39 a1 a2 k  X39_90 n) X39_90 ih hX39_90 v4 M h
  refine g_locals (lv' := [(0, .ref (ad 0)), (1, jv a1), (3, iv a2)]) rfl ?_
  unfold w_Rfeed at h
  refine g_iload_n C dR_feed_0 rfl ?_
  refine g_iconst C dR_feed_1 ?_
  refine g_bipush C dR_feed_2 rfl ?_
  refine g_callSi C (nargs := 3) (st := []) (m_Rin hci h) gd_in (by decide +kernel) ⟨rfl, rfl⟩ dR_feed_4 ⟨by decide, by decide⟩ rfl rfl (Nat.le_of_ble_eq_true rfl) ?_
  intro r4c M4 h
  refine g_if_ne C 16 dR_feed_7 (by decide) (fun hc => ?_) (fun hc => ?_)
  · replace h := h.1 hc
    refine g_aload_n C dR_feed_16 rfl ?_
    refine rf_s C hci dR_feed_17 ?_
    refine g_bipush C dR_feed_20 rfl ?_
    refine g_iald C (n := 536) dR_feed_22 rfl (by decide) ⟨by decide, by decide⟩ ?_
    refine g_iload_n C dR_feed_23 rfl ?_
    refine g_iadd C dR_feed_24 ?_
    refine g_bipush C dR_feed_25 rfl ?_
    refine g_icmp_le C 36 dR_feed_27 (by decide) (fun hc => ?_) (fun hc => ?_)
    · replace h := h.1 hc
      refine g_iconst C dR_feed_36 ?_
      refine g_istore C dR_feed_37 (by decide) rfl ?_
      refine g_locals (lv' := [(0, .ref (ad 0)), (1, jv a1), (3, iv a2), (4, iv 0)]) rfl ?_
      refine g_locals (lv' := [(0, .ref (ad 0)), (1, jv a1), (3, iv a2), (4, iv 0)]) rfl ?_
      obtain ⟨n, h⟩ := h
      refine pL39 _ ?_ n _ _ h
      · intro  M39 h
        refine g_aload_n C dR_feed_90 rfl ?_
        refine rf_s C hci dR_feed_91 ?_
        refine g_bipush C dR_feed_94 rfl ?_
        refine g_iald C (n := 536) dR_feed_96 rfl (by decide) ⟨by decide, by decide⟩ ?_
        exact hR _ _ _ _ dR_feed_97 rfl h
    · replace h := h.2 hc
      refine g_aload_n C dR_feed_30 rfl ?_
      refine g_iconst C dR_feed_31 ?_
      refine g_callVi C (nargs := 1) (o := 0) (st := []) (m_Rerror hci h) rfl (by decide) hci rfl gd_error (by decide +kernel) ⟨rfl, rfl⟩ dR_feed_32 ⟨by decide, by decide⟩ rfl rfl (Nat.le_of_ble_eq_true rfl) ?_
      intro r32c M32 h
      exact hR _ _ _ _ dR_feed_35 rfl h
  · replace h := h.2 hc
    refine g_aload_n C dR_feed_10 rfl ?_
    refine g_iconst C dR_feed_11 ?_
    refine g_callVi C (nargs := 1) (o := 0) (st := []) (m_Rerror hci h) rfl (by decide) hci rfl gd_error (by decide +kernel) ⟨rfl, rfl⟩ dR_feed_12 ⟨by decide, by decide⟩ rfl rfl (Nat.le_of_ble_eq_true rfl) ?_
    intro r12c M12 h
    exact hR _ _ _ _ dR_feed_15 rfl h
def w_Rlook  (M : gSt) (k : Int → gSt → Prop) : Prop :=

  (wrap (M 1 6) ≤ wrap (M 0 5) →
    k (-1) M) ∧
  (wrap (M 0 5) < wrap (M 1 6) →
    (0 ≤ 452 + (M 0 5) ∧ 452 + (M 0 5) < 536) ∧ (k (M 1 (452 + (M 0 5))) M))
set_option maxHeartbeats 4000000 in
set_option maxRecDepth 100000 in
theorem m_Rlook {l : Launch} {D : va_G} {cl : List vw_C} {tys : List (ClassId × FieldType)} {ad : Nat → Nat} {cI : ClassId} {ci : Nat} (hci : cl[ci]? = some (RX9, TX9, 23))  {M : gSt} {k : Int → gSt → Prop} (h : w_Rlook  M k) : MOi l yX9_look cX9_look 1 .int (rmR 0 0) D cl ((cI, .int) :: tys) (wR ad cI ci) tR [.ref (ad 0)] M k := by
  refine moi_intro (by decide +kernel) (Nat.le_of_ble_eq_true rfl) wi_121 ?_
  intro p e s m args below meth c A Q C hR
  refine g_locals (lv' := [(0, .ref (ad 0))]) rfl ?_
  unfold w_Rlook at h
  refine g_aload_n C dR_look_0 rfl ?_
  refine rf_at C hci dR_look_1 ?_
  refine g_aload_n C dR_look_4 rfl ?_
  refine rf_s C hci dR_look_5 ?_
  refine g_bipush C dR_look_8 rfl ?_
  refine g_iald C (n := 536) dR_look_10 rfl (by decide) ⟨by decide, by decide⟩ ?_
  refine g_icmp_ge C 30 dR_look_11 (by decide) (fun hc => ?_) (fun hc => ?_)
  · replace h := h.1 hc
    refine g_iconst C dR_look_30 ?_
    exact hR _ _ _ _ dR_look_31 rfl h
  · replace h := h.2 hc
    refine g_aload_n C dR_look_14 rfl ?_
    refine rf_s C hci dR_look_15 ?_
    refine g_sipush C dR_look_18 rfl ?_
    refine g_aload_n C dR_look_21 rfl ?_
    refine rf_at C hci dR_look_22 ?_
    refine g_iadd C dR_look_25 ?_
    refine g_iald C (n := 536) dR_look_26 rfl (by decide) h.1 ?_
    replace h := h.2
    refine g_goto C 31 dR_look_27 (by decide) ?_
    exact hR _ _ _ _ dR_look_31 rfl h
def w_RisName (a1 : Int) (M : gSt) (k : Int → gSt → Prop) : Prop :=

  (¬ wrap a1 = 103 →

    (¬ wrap (M 0 8) = 0 →

      (wrap a1 = 99 →
        k 1 M) ∧
      (¬ wrap a1 = 99 →

        (¬ wrap a1 = 110 →
          k 0 M) ∧
        (wrap a1 = 110 →
          k 1 M))) ∧
    (wrap (M 0 8) = 0 →

      (wrap a1 = 115 →
        k 1 M) ∧
      (¬ wrap a1 = 115 →

        (¬ wrap a1 = 109 →
          k 0 M) ∧
        (wrap a1 = 109 →
          k 1 M)))) ∧
  (wrap a1 = 103 →
    k 1 M)
set_option maxHeartbeats 4000000 in
set_option maxRecDepth 100000 in
theorem m_RisName {l : Launch} {D : va_G} {cl : List vw_C} {tys : List (ClassId × FieldType)} {ad : Nat → Nat} {cI : ClassId} {ci : Nat} (hci : cl[ci]? = some (RX9, TX9, 23)) {a1 : Int} {M : gSt} {k : Int → gSt → Prop} (h : w_RisName a1 M k) : MOi l yX9_isName cX9_isName 2 .boolean (rmR 0 0) D cl ((cI, .int) :: tys) (wR ad cI ci) tR [.ref (ad 0), iv a1] M k := by
  refine moi_intro (by decide +kernel) (Nat.le_of_ble_eq_true rfl) wi_123 ?_
  intro p e s m args below meth c A Q C hR
  refine g_locals (lv' := [(0, .ref (ad 0)), (1, iv a1)]) rfl ?_
  unfold w_RisName at h
  refine g_iload_n C dR_isName_0 rfl ?_
  refine g_bipush C dR_isName_1 rfl ?_
  refine g_icmp_ne C 8 dR_isName_3 (by decide) (fun hc => ?_) (fun hc => ?_)
  · replace h := h.1 hc
    refine g_aload_n C dR_isName_8 rfl ?_
    refine rf_use C hci dR_isName_9 ?_
    refine g_if_ne C 35 dR_isName_12 (by decide) (fun hc => ?_) (fun hc => ?_)
    · replace h := h.1 hc
      refine g_iload_n C dR_isName_35 rfl ?_
      refine g_bipush C dR_isName_36 rfl ?_
      refine g_icmp_eq C 47 dR_isName_38 (by decide) (fun hc => ?_) (fun hc => ?_)
      · replace h := h.1 hc
        refine g_iconst C dR_isName_47 ?_
        refine g_goto C 52 dR_isName_48 (by decide) ?_
        exact hR _ _ _ _ dR_isName_52 rfl h
      · replace h := h.2 hc
        refine g_iload_n C dR_isName_41 rfl ?_
        refine g_bipush C dR_isName_42 rfl ?_
        refine g_icmp_ne C 51 dR_isName_44 (by decide) (fun hc => ?_) (fun hc => ?_)
        · replace h := h.1 hc
          refine g_iconst C dR_isName_51 ?_
          exact hR _ _ _ _ dR_isName_52 rfl h
        · replace h := h.2 hc
          refine g_iconst C dR_isName_47 ?_
          refine g_goto C 52 dR_isName_48 (by decide) ?_
          exact hR _ _ _ _ dR_isName_52 rfl h
    · replace h := h.2 hc
      refine g_iload_n C dR_isName_15 rfl ?_
      refine g_bipush C dR_isName_16 rfl ?_
      refine g_icmp_eq C 27 dR_isName_18 (by decide) (fun hc => ?_) (fun hc => ?_)
      · replace h := h.1 hc
        refine g_iconst C dR_isName_27 ?_
        refine g_goto C 52 dR_isName_28 (by decide) ?_
        exact hR _ _ _ _ dR_isName_52 rfl h
      · replace h := h.2 hc
        refine g_iload_n C dR_isName_21 rfl ?_
        refine g_bipush C dR_isName_22 rfl ?_
        refine g_icmp_ne C 31 dR_isName_24 (by decide) (fun hc => ?_) (fun hc => ?_)
        · replace h := h.1 hc
          refine g_iconst C dR_isName_31 ?_
          refine g_goto C 52 dR_isName_32 (by decide) ?_
          exact hR _ _ _ _ dR_isName_52 rfl h
        · replace h := h.2 hc
          refine g_iconst C dR_isName_27 ?_
          refine g_goto C 52 dR_isName_28 (by decide) ?_
          exact hR _ _ _ _ dR_isName_52 rfl h
  · replace h := h.2 hc
    refine g_iconst C dR_isName_6 ?_
    exact hR _ _ _ _ dR_isName_7 rfl h
def w_Rlays (a1 : Int) (a2 : Int) (M : gSt) (k : gSt → Prop) : Prop :=
(0 ≤ 2 * (M 0 7) ∧ 2 * (M 0 7) < 124) ∧ (∀ M11 : gSt, M11 = wr M 5 (2 * (M 0 7)) a1 → ((0 ≤ (2 * (M11 0 7)) + 1 ∧ (2 * (M11 0 7)) + 1 < 124) ∧ (∀ M25 : gSt, M25 = wr M11 5 ((2 * (M11 0 7)) + 1) a2 → (∀ M33 : gSt, M33 = wr M25 0 7 ((M25 0 7) + 1) → (k M33)))))
set_option maxHeartbeats 4000000 in
set_option maxRecDepth 100000 in
theorem m_Rlays {l : Launch} {D : va_G} {cl : List vw_C} {tys : List (ClassId × FieldType)} {ad : Nat → Nat} {cI : ClassId} {ci : Nat} (hci : cl[ci]? = some (RX9, TX9, 23)) {a1 : Int} {a2 : Int} {M : gSt} {k : gSt → Prop} (h : w_Rlays a1 a2 M k) : MOv l yX9_lays cX9_lays 3 (rmR 0 0) D cl ((cI, .int) :: tys) (wR ad cI ci) tR [.ref (ad 0), iv a1, iv a2] M k := by
  refine mov_intro (by decide +kernel) (Nat.le_of_ble_eq_true rfl) wi_125 ?_
  intro p e s m args below meth c A Q C hR
  refine g_locals (lv' := [(0, .ref (ad 0)), (1, iv a1), (2, iv a2)]) rfl ?_
  unfold w_Rlays at h
  refine g_aload_n C dR_lays_0 rfl ?_
  refine rf_step C hci dR_lays_1 ?_
  refine g_iconst C dR_lays_4 ?_
  refine g_aload_n C dR_lays_5 rfl ?_
  refine rf_steps C hci dR_lays_6 ?_
  refine g_imul C dR_lays_9 ?_
  refine g_iload_n C dR_lays_10 rfl ?_
  refine g_iast C (n := 124) dR_lays_11 rfl (by decide) h.1 ?_
  replace h := h.2
  refine g_memname (fun M11 hM11 => ?_)
  replace h := h M11 hM11
  refine g_aload_n C dR_lays_12 rfl ?_
  refine rf_step C hci dR_lays_13 ?_
  refine g_iconst C dR_lays_16 ?_
  refine g_aload_n C dR_lays_17 rfl ?_
  refine rf_steps C hci dR_lays_18 ?_
  refine g_imul C dR_lays_21 ?_
  refine g_iconst C dR_lays_22 ?_
  refine g_iadd C dR_lays_23 ?_
  refine g_iload_n C dR_lays_24 rfl ?_
  refine g_iast C (n := 124) dR_lays_25 rfl (by decide) h.1 ?_
  replace h := h.2
  refine g_memname (fun M25 hM25 => ?_)
  replace h := h M25 hM25
  refine g_aload_n C dR_lays_26 rfl ?_
  refine g_dup C dR_lays_27 rfl ?_
  refine rf_steps C hci dR_lays_28 ?_
  refine g_iconst C dR_lays_31 ?_
  refine g_iadd C dR_lays_32 ?_
  refine rp_steps C hci dR_lays_33 ?_
  refine g_memname (fun M33 hM33 => ?_)
  replace h := h M33 hM33
  exact hR _ _ _ dR_lays_36 h
def w_Ropens  (M : gSt) (k : Int → gSt → Prop) : Prop :=

  (¬ wrap (M 0 6) = 5 →
    ∀ M17 : gSt, M17 = wr M 0 6 ((M 0 6) + 1) → (∀ M27 : gSt, M27 = wr M17 0 5 ((M17 0 5) + 1) → (k 1 M27))) ∧
  (wrap (M 0 6) = 5 →
    k 0 M)
set_option maxHeartbeats 4000000 in
set_option maxRecDepth 100000 in
theorem m_Ropens {l : Launch} {D : va_G} {cl : List vw_C} {tys : List (ClassId × FieldType)} {ad : Nat → Nat} {cI : ClassId} {ci : Nat} (hci : cl[ci]? = some (RX9, TX9, 23))  {M : gSt} {k : Int → gSt → Prop} (h : w_Ropens  M k) : MOi l yX9_opens cX9_opens 1 .boolean (rmR 0 0) D cl ((cI, .int) :: tys) (wR ad cI ci) tR [.ref (ad 0)] M k := by
  refine moi_intro (by decide +kernel) (Nat.le_of_ble_eq_true rfl) wi_127 ?_
  intro p e s m args below meth c A Q C hR
  refine g_locals (lv' := [(0, .ref (ad 0))]) rfl ?_
  unfold w_Ropens at h
  refine g_aload_n C dR_opens_0 rfl ?_
  refine rf_open C hci dR_opens_1 ?_
  refine g_iconst C dR_opens_4 ?_
  refine g_icmp_ne C 10 dR_opens_5 (by decide) (fun hc => ?_) (fun hc => ?_)
  · replace h := h.1 hc
    refine g_aload_n C dR_opens_10 rfl ?_
    refine g_dup C dR_opens_11 rfl ?_
    refine rf_open C hci dR_opens_12 ?_
    refine g_iconst C dR_opens_15 ?_
    refine g_iadd C dR_opens_16 ?_
    refine rp_open C hci dR_opens_17 ?_
    refine g_memname (fun M17 hM17 => ?_)
    replace h := h M17 hM17
    refine g_aload_n C dR_opens_20 rfl ?_
    refine g_dup C dR_opens_21 rfl ?_
    refine rf_at C hci dR_opens_22 ?_
    refine g_iconst C dR_opens_25 ?_
    refine g_iadd C dR_opens_26 ?_
    refine rp_at C hci dR_opens_27 ?_
    refine g_memname (fun M27 hM27 => ?_)
    replace h := h M27 hM27
    refine g_iconst C dR_opens_30 ?_
    exact hR _ _ _ _ dR_opens_31 rfl h
  · replace h := h.2 hc
    refine g_iconst C dR_opens_8 ?_
    exact hR _ _ _ _ dR_opens_9 rfl h
def wB_Runtell_28 (a1 : Int) (k : Int → gSt → Prop)  (s0 : Int) (M : gSt) : Prop :=
(0 ≤ 202 + (125 * a1) ∧ 202 + (125 * a1) < 536) ∧ (∀ M42 : gSt, M42 = wr M 1 (202 + (125 * a1)) 0 → (k s0 M42))
def w_Runtell (a1 : Int) (M : gSt) (k : Int → gSt → Prop) : Prop :=
w_Rin a1 0 1 M (fun r3c M3 => 
  (¬ wrap r3c = 0 →
    w_RhasText a1 M3 (fun r17c M17 => 
    (wrap r17c = 0 →
      wB_Runtell_28 a1 k  0 M17) ∧
    (¬ wrap r17c = 0 →
      wB_Runtell_28 a1 k  1 M17))) ∧
  (wrap r3c = 0 →
    w_Rerror 1 M3 (fun r11c M11 => k r11c M11)))
set_option maxHeartbeats 4000000 in
set_option maxRecDepth 100000 in
theorem m_Runtell {l : Launch} {D : va_G} {cl : List vw_C} {tys : List (ClassId × FieldType)} {ad : Nat → Nat} {cI : ClassId} {ci : Nat} (hci : cl[ci]? = some (RX9, TX9, 23)) {a1 : Int} {M : gSt} {k : Int → gSt → Prop} (h : w_Runtell a1 M k) : MOi l yX9_untell cX9_untell 3 .int (rmR 1 22) D cl ((cI, .int) :: tys) (wR ad cI ci) tR [.ref (ad 0), iv a1] M k := by
  refine moi_intro (by decide +kernel) (Nat.le_of_ble_eq_true rfl) wi_165 ?_
  intro p e s m args below meth c A Q C hR
  have pB28 : ∀   (s0 : Int) (M : gSt), wB_Runtell_28 a1 k  s0 M → gG p l e (rmR 1 22) s m args below meth c Q D cl A (wR ad cI ci) 3 28 [(0, .ref (ad 0)), (1, iv a1)] [iv s0] M := by
    intro   s0 M h
    unfold wB_Runtell_28 at h
    refine g_istore_n C dR_untell_28 (by decide) rfl ?_
    refine g_locals (lv' := [(0, .ref (ad 0)), (1, iv a1), (2, iv s0)]) rfl ?_
    refine g_aload_n C dR_untell_29 rfl ?_
    refine rf_s C hci dR_untell_30 ?_
    refine g_sipush C dR_untell_33 rfl ?_
    refine g_bipush C dR_untell_36 rfl ?_
    refine g_iload_n C dR_untell_38 rfl ?_
    refine g_imul C dR_untell_39 ?_
    refine g_iadd C dR_untell_40 ?_
    refine g_iconst C dR_untell_41 ?_
    refine g_iast C (n := 536) dR_untell_42 rfl (by decide) h.1 ?_
    replace h := h.2
    refine g_memname (fun M42 hM42 => ?_)
    replace h := h M42 hM42
    refine g_iload_n C dR_untell_43 rfl ?_
    exact hR _ _ _ _ dR_untell_44 rfl h
  refine g_locals (lv' := [(0, .ref (ad 0)), (1, iv a1)]) rfl ?_
  unfold w_Runtell at h
  refine g_iload_n C dR_untell_0 rfl ?_
  refine g_iconst C dR_untell_1 ?_
  refine g_iconst C dR_untell_2 ?_
  refine g_callSi C (nargs := 3) (st := []) (m_Rin hci h) gd_in (by decide +kernel) ⟨rfl, rfl⟩ dR_untell_3 ⟨by decide, by decide⟩ rfl rfl (Nat.le_of_ble_eq_true rfl) ?_
  intro r3c M3 h
  refine g_if_ne C 15 dR_untell_6 (by decide) (fun hc => ?_) (fun hc => ?_)
  · replace h := h.1 hc
    refine g_aload_n C dR_untell_15 rfl ?_
    refine g_iload_n C dR_untell_16 rfl ?_
    refine g_callVi C (nargs := 1) (o := 0) (st := []) (m_RhasText hci h) rfl (by decide) hci rfl gd_hasText (by decide +kernel) ⟨rfl, rfl⟩ dR_untell_17 ⟨by decide, by decide⟩ rfl rfl (Nat.le_of_ble_eq_true rfl) ?_
    intro r17c M17 h
    refine g_if_eq C 27 dR_untell_20 (by decide) (fun hc => ?_) (fun hc => ?_)
    · replace h := h.1 hc
      refine g_iconst C dR_untell_27 ?_
      refine g_locals (lv' := [(0, .ref (ad 0)), (1, iv a1)]) rfl ?_
      exact pB28 _ _ h
    · replace h := h.2 hc
      refine g_iconst C dR_untell_23 ?_
      refine g_goto C 28 dR_untell_24 (by decide) ?_
      refine g_locals (lv' := [(0, .ref (ad 0)), (1, iv a1)]) rfl ?_
      exact pB28 _ _ h
  · replace h := h.2 hc
    refine g_aload_n C dR_untell_9 rfl ?_
    refine g_iconst C dR_untell_10 ?_
    refine g_callVi C (nargs := 1) (o := 0) (st := []) (m_Rerror hci h) rfl (by decide) hci rfl gd_error (by decide +kernel) ⟨rfl, rfl⟩ dR_untell_11 ⟨by decide, by decide⟩ rfl rfl (Nat.le_of_ble_eq_true rfl) ?_
    intro r11c M11 h
    exact hR _ _ _ _ dR_untell_14 rfl h
def w_RisClaim (a1 : Int) (M : gSt) (k : Int → gSt → Prop) : Prop :=
w_Rin a1 0 ((M 1 2) - 1) M (fun r10c M10 => (r10c = 0 ∨ r10c = 1) ∧ (k r10c M10))
set_option maxHeartbeats 4000000 in
set_option maxRecDepth 100000 in
theorem m_RisClaim {l : Launch} {D : va_G} {cl : List vw_C} {tys : List (ClassId × FieldType)} {ad : Nat → Nat} {cI : ClassId} {ci : Nat} (hci : cl[ci]? = some (RX9, TX9, 23)) {a1 : Int} {M : gSt} {k : Int → gSt → Prop} (h : w_RisClaim a1 M k) : MOi l yX9_isClaim cX9_isClaim 2 .boolean (rmR 1 22) D cl ((cI, .int) :: tys) (wR ad cI ci) tR [.ref (ad 0), iv a1] M k := by
  refine moi_intro (by decide +kernel) (Nat.le_of_ble_eq_true rfl) wi_166 ?_
  intro p e s m args below meth c A Q C hR
  refine g_locals (lv' := [(0, .ref (ad 0)), (1, iv a1)]) rfl ?_
  unfold w_RisClaim at h
  refine g_iload_n C dR_isClaim_0 rfl ?_
  refine g_iconst C dR_isClaim_1 ?_
  refine g_aload_n C dR_isClaim_2 rfl ?_
  refine rf_s C hci dR_isClaim_3 ?_
  refine g_iconst C dR_isClaim_6 ?_
  refine g_iald C (n := 536) dR_isClaim_7 rfl (by decide) ⟨by decide, by decide⟩ ?_
  refine g_iconst C dR_isClaim_8 ?_
  refine g_isub C dR_isClaim_9 ?_
  refine g_callSi C (nargs := 3) (st := []) (m_Rin hci h) gd_in (by decide +kernel) ⟨rfl, rfl⟩ dR_isClaim_10 ⟨by decide, by decide⟩ rfl rfl (Nat.le_of_ble_eq_true rfl) ?_
  intro r10c M10 h
  exact hR _ _ _ _ dR_isClaim_13 (zn_bool h.1).1 h.2
def w_Rof (a1 : Int) (a2 : Int) (M : gSt) (k : Int → gSt → Prop) : Prop :=
(0 ≤ (140 + (2 * a1)) + a2 ∧ (140 + (2 * a1)) + a2 < 536) ∧ (k (M 1 ((140 + (2 * a1)) + a2)) M)
set_option maxHeartbeats 4000000 in
set_option maxRecDepth 100000 in
theorem m_Rof {l : Launch} {D : va_G} {cl : List vw_C} {tys : List (ClassId × FieldType)} {ad : Nat → Nat} {cI : ClassId} {ci : Nat} (hci : cl[ci]? = some (RX9, TX9, 23)) {a1 : Int} {a2 : Int} {M : gSt} {k : Int → gSt → Prop} (h : w_Rof a1 a2 M k) : MOi l yX9_of cX9_of 3 .int (rmR 0 0) D cl ((cI, .int) :: tys) (wR ad cI ci) tR [.ref (ad 0), iv a1, iv a2] M k := by
  refine moi_intro (by decide +kernel) (Nat.le_of_ble_eq_true rfl) wi_167 ?_
  intro p e s m args below meth c A Q C hR
  refine g_locals (lv' := [(0, .ref (ad 0)), (1, iv a1), (2, iv a2)]) rfl ?_
  unfold w_Rof at h
  refine g_aload_n C dR_of_0 rfl ?_
  refine rf_s C hci dR_of_1 ?_
  refine g_sipush C dR_of_4 rfl ?_
  refine g_iconst C dR_of_7 ?_
  refine g_iload_n C dR_of_8 rfl ?_
  refine g_imul C dR_of_9 ?_
  refine g_iadd C dR_of_10 ?_
  refine g_iload_n C dR_of_11 rfl ?_
  refine g_iadd C dR_of_12 ?_
  refine g_iald C (n := 536) dR_of_13 rfl (by decide) h.1 ?_
  replace h := h.2
  exact hR _ _ _ _ dR_of_14 rfl h
def wB_RmanyOn_30 (a1 : Int) (k : Int → gSt → Prop) (r4 : Int → Int → gSt → Prop) (X4_38 : Int → gSt → Prop) (v3 : Int) (s0 : Int) (s1 : Int) (M : gSt) : Prop :=
∀ x2_31 : Int, x2_31 = s1 + s0 → (r4 x2_31 (v3 + 1) M)
def wC_RmanyOn_4 (a1 : Int) (k : Int → gSt → Prop) (r4 : Int → Int → gSt → Prop) (X4_38 : Int → gSt → Prop) (v2 : Int) (v3 : Int) (M : gSt) : Prop :=

  (wrap (M 1 2) ≤ wrap v3 →
    X4_38 v2 M) ∧
  (wrap v3 < wrap (M 1 2) →
    w_Rof v3 0 M (fun r18c M18 => 
    (¬ wrap r18c = wrap a1 →
      wB_RmanyOn_30 a1 k r4 X4_38 v3 0 v2 M18) ∧
    (wrap r18c = wrap a1 →
      wB_RmanyOn_30 a1 k r4 X4_38 v3 1 v2 M18)))
def wL_RmanyOn_4 (a1 : Int) (k : Int → gSt → Prop)  (X4_38 : Int → gSt → Prop) : Nat → Int → Int → gSt → Prop
  | 0 => fun _ _ _ => False
  | n + 1 => fun v2 v3 M => wC_RmanyOn_4 a1 k  (wL_RmanyOn_4 a1 k  X4_38 n) X4_38 v2 v3 M
def w_RmanyOn (a1 : Int) (M : gSt) (k : Int → gSt → Prop) : Prop :=
∃ n, wL_RmanyOn_4 a1 k  (fun u2_4 M4 =>
    k u2_4 M4) n 0 0 M
set_option maxHeartbeats 4000000 in
set_option maxRecDepth 100000 in
theorem m_RmanyOn {l : Launch} {D : va_G} {cl : List vw_C} {tys : List (ClassId × FieldType)} {ad : Nat → Nat} {cI : ClassId} {ci : Nat} (hci : cl[ci]? = some (RX9, TX9, 23)) {a1 : Int} {M : gSt} {k : Int → gSt → Prop} (h : w_RmanyOn a1 M k) : MOi l yX9_manyOn cX9_manyOn 4 .int (rmR 1 22) D cl ((cI, .int) :: tys) (wR ad cI ci) tR [.ref (ad 0), iv a1] M k := by
  refine moi_intro (by decide +kernel) (Nat.le_of_ble_eq_true rfl) wi_171 ?_
  intro p e s m args below meth c A Q C hR
  have pB30 : ∀ (r4 : Int → Int → gSt → Prop) (X4_38 : Int → gSt → Prop) (hr4 : ∀ (v2 : Int) (v3 : Int) (M : gSt), r4 v2 v3 M → gG p l e (rmR 1 22) s m args below meth c Q D cl A (wR ad cI ci) 4 4 [(0, .ref (ad 0)), (1, iv a1), (2, iv v2), (3, iv v3)] [] M) (hX4_38 : ∀ (v2 : Int) (M : gSt), X4_38 v2 M → gG p l e (rmR 1 22) s m args below meth c Q D cl A (wR ad cI ci) 4 38 [(2, iv v2)] [] M) (v3 : Int) (s0 : Int) (s1 : Int) (M : gSt), wB_RmanyOn_30 a1 k r4 X4_38 v3 s0 s1 M → gG p l e (rmR 1 22) s m args below meth c Q D cl A (wR ad cI ci) 4 30 [(0, .ref (ad 0)), (1, iv a1), (3, iv v3)] [iv s0, iv s1] M := by
    intro r4 X4_38 hr4 hX4_38 v3 s0 s1 M h
    unfold wB_RmanyOn_30 at h
    refine g_iadd C dR_manyOn_30 ?_
    refine g_name (fun x2_31 hx2_31 => ?_)
    replace h := h x2_31 hx2_31
    refine g_istore_n C dR_manyOn_31 (by decide) rfl ?_
    refine g_locals (lv' := [(0, .ref (ad 0)), (1, iv a1), (2, iv x2_31), (3, iv v3)]) rfl ?_
    refine g_iinc C dR_manyOn_32 rfl (by decide) rfl ?_
    refine g_locals (lv' := [(0, .ref (ad 0)), (1, iv a1), (2, iv x2_31), (3, iv (v3 + 1))]) rfl ?_
    refine g_goto C 4 dR_manyOn_35 (by decide) ?_
    refine g_locals (lv' := [(0, .ref (ad 0)), (1, iv a1), (2, iv x2_31), (3, iv (v3 + 1))]) rfl ?_
    exact hr4 _ _  _ h
  have pC4 : ∀ (r4 : Int → Int → gSt → Prop) (X4_38 : Int → gSt → Prop) (hr4 : ∀ (v2 : Int) (v3 : Int) (M : gSt), r4 v2 v3 M → gG p l e (rmR 1 22) s m args below meth c Q D cl A (wR ad cI ci) 4 4 [(0, .ref (ad 0)), (1, iv a1), (2, iv v2), (3, iv v3)] [] M) (hX4_38 : ∀ (v2 : Int) (M : gSt), X4_38 v2 M → gG p l e (rmR 1 22) s m args below meth c Q D cl A (wR ad cI ci) 4 38 [(2, iv v2)] [] M) (v2 : Int) (v3 : Int) (M : gSt), wC_RmanyOn_4 a1 k r4 X4_38 v2 v3 M → gG p l e (rmR 1 22) s m args below meth c Q D cl A (wR ad cI ci) 4 4 [(0, .ref (ad 0)), (1, iv a1), (2, iv v2), (3, iv v3)] [] M := by
    intro r4 X4_38 hr4 hX4_38 v2 v3 M h
    unfold wC_RmanyOn_4 at h
    refine g_iload_n C dR_manyOn_4 rfl ?_
    refine g_aload_n C dR_manyOn_5 rfl ?_
    refine rf_s C hci dR_manyOn_6 ?_
    refine g_iconst C dR_manyOn_9 ?_
    refine g_iald C (n := 536) dR_manyOn_10 rfl (by decide) ⟨by decide, by decide⟩ ?_
    refine g_icmp_ge C 38 dR_manyOn_11 (by decide) (fun hc => ?_) (fun hc => ?_)
    · replace h := h.1 hc
      refine g_locals (lv' := [(2, iv v2)]) rfl ?_
      exact hX4_38 _  _ h
    · replace h := h.2 hc
      refine g_iload_n C dR_manyOn_14 rfl ?_
      refine g_aload_n C dR_manyOn_15 rfl ?_
      refine g_iload_n C dR_manyOn_16 rfl ?_
      refine g_iconst C dR_manyOn_17 ?_
      refine g_callVi C (nargs := 2) (o := 0) (st := [iv v2]) (m_Rof hci h) rfl (by decide) hci rfl gd_of (by decide +kernel) ⟨rfl, rfl⟩ dR_manyOn_18 ⟨by decide, by decide⟩ rfl rfl (Nat.le_of_ble_eq_true rfl) ?_
      intro r18c M18 h
      refine g_iload_n C dR_manyOn_21 rfl ?_
      refine g_icmp_ne C 29 dR_manyOn_22 (by decide) (fun hc => ?_) (fun hc => ?_)
      · replace h := h.1 hc
        refine g_iconst C dR_manyOn_29 ?_
        refine g_locals (lv' := [(0, .ref (ad 0)), (1, iv a1), (3, iv v3)]) rfl ?_
        exact pB30 r4 X4_38 hr4 hX4_38 _ _ _ _ h
      · replace h := h.2 hc
        refine g_iconst C dR_manyOn_25 ?_
        refine g_goto C 30 dR_manyOn_26 (by decide) ?_
        refine g_locals (lv' := [(0, .ref (ad 0)), (1, iv a1), (3, iv v3)]) rfl ?_
        exact pB30 r4 X4_38 hr4 hX4_38 _ _ _ _ h
  have pL4 : ∀  (X4_38 : Int → gSt → Prop) (hX4_38 : ∀ (v2 : Int) (M : gSt), X4_38 v2 M → gG p l e (rmR 1 22) s m args below meth c Q D cl A (wR ad cI ci) 4 38 [(2, iv v2)] [] M) (n : Nat) (v2 : Int) (v3 : Int) (M : gSt), wL_RmanyOn_4 a1 k  X4_38 n v2 v3 M → gG p l e (rmR 1 22) s m args below meth c Q D cl A (wR ad cI ci) 4 4 [(0, .ref (ad 0)), (1, iv a1), (2, iv v2), (3, iv v3)] [] M := by
    intro  X4_38 hX4_38 n
    induction n with
    | zero => intro v2 v3 M h; exact h.elim
    | succ n ih =>
      intro v2 v3 M h
      exact pC4  (wL_RmanyOn_4 a1 k  X4_38 n) X4_38 ih hX4_38 v2 v3 M h
  refine g_locals (lv' := [(0, .ref (ad 0)), (1, iv a1)]) rfl ?_
  unfold w_RmanyOn at h
  refine g_iconst C dR_manyOn_0 ?_
  refine g_istore_n C dR_manyOn_1 (by decide) rfl ?_
  refine g_locals (lv' := [(0, .ref (ad 0)), (1, iv a1), (2, iv 0)]) rfl ?_
  refine g_iconst C dR_manyOn_2 ?_
  refine g_istore_n C dR_manyOn_3 (by decide) rfl ?_
  refine g_locals (lv' := [(0, .ref (ad 0)), (1, iv a1), (2, iv 0), (3, iv 0)]) rfl ?_
  refine g_locals (lv' := [(0, .ref (ad 0)), (1, iv a1), (2, iv 0), (3, iv 0)]) rfl ?_
  obtain ⟨n, h⟩ := h
  refine pL4 _ ?_ n _ _ _ h
  · intro u2_4 M4 h
    refine g_iload_n C dR_manyOn_38 rfl ?_
    exact hR _ _ _ _ dR_manyOn_39 rfl h
def w_Rcounts (a1 : Int) (M : gSt) (k : Int → gSt → Prop) : Prop :=
w_Rof a1 1 M (fun r3c M3 => w_RhasText 1 M3 (fun r9c M9 => 
  (¬ wrap r9c = 0 →
    ∀ M24 : gSt, M24 = wr M9 6 99 r3c → (w_Rof a1 0 M24 (fun r35c M35 => w_Rits r35c 2 M35 (fun r39c M39 => ∀ M42 : gSt, M42 = wr M39 6 103 r39c → (w_Rof a1 0 M42 (fun r53c M53 => w_RmanyOn r53c M53 (fun r56c M56 => ∀ M59 : gSt, M59 = wr M56 6 110 r56c → (w_Rworked 1 M59 (fun r62c M62 => w_Rheld r62c 0 r3c M62 (fun r67c M67 => k r67c M67)))))))))) ∧
  (wrap r9c = 0 →
    k r3c M9)))
set_option maxHeartbeats 4000000 in
set_option maxRecDepth 100000 in
theorem m_Rcounts {l : Launch} {D : va_G} {cl : List vw_C} {tys : List (ClassId × FieldType)} {ad : Nat → Nat} {cI : ClassId} {ci : Nat} (hci : cl[ci]? = some (RX9, TX9, 23)) {a1 : Int} {M : gSt} {k : Int → gSt → Prop} (h : w_Rcounts a1 M k) : MOi l yX9_counts cX9_counts 3 .int (rmR 2 48) D cl ((cI, .int) :: tys) (wR ad cI ci) tR [.ref (ad 0), iv a1] M k := by
  refine moi_intro (by decide +kernel) (Nat.le_of_ble_eq_true rfl) wi_175 ?_
  intro p e s m args below meth c A Q C hR
  refine g_locals (lv' := [(0, .ref (ad 0)), (1, iv a1)]) rfl ?_
  unfold w_Rcounts at h
  refine g_aload_n C dR_counts_0 rfl ?_
  refine g_iload_n C dR_counts_1 rfl ?_
  refine g_iconst C dR_counts_2 ?_
  refine g_callVi C (nargs := 2) (o := 0) (st := []) (m_Rof hci h) rfl (by decide) hci rfl gd_of (by decide +kernel) ⟨rfl, rfl⟩ dR_counts_3 ⟨by decide, by decide⟩ rfl rfl (Nat.le_of_ble_eq_true rfl) ?_
  intro r3c M3 h
  refine g_istore_n C dR_counts_6 (by decide) rfl ?_
  refine g_locals (lv' := [(0, .ref (ad 0)), (1, iv a1), (2, iv r3c)]) rfl ?_
  refine g_aload_n C dR_counts_7 rfl ?_
  refine g_iconst C dR_counts_8 ?_
  refine g_callVi C (nargs := 1) (o := 0) (st := []) (m_RhasText hci h) rfl (by decide) hci rfl gd_hasText (by decide +kernel) ⟨rfl, rfl⟩ dR_counts_9 ⟨by decide, by decide⟩ rfl rfl (Nat.le_of_ble_eq_true rfl) ?_
  intro r9c M9 h
  refine g_if_ne C 17 dR_counts_12 (by decide) (fun hc => ?_) (fun hc => ?_)
  · replace h := h.1 hc
    refine g_aload_n C dR_counts_17 rfl ?_
    refine rf_named C hci dR_counts_18 ?_
    refine g_bipush C dR_counts_21 rfl ?_
    refine g_iload_n C dR_counts_23 rfl ?_
    refine g_iast C (n := 128) dR_counts_24 rfl (by decide) ⟨by decide, by decide⟩ ?_
    refine g_memname (fun M24 hM24 => ?_)
    replace h := h M24 hM24
    refine g_aload_n C dR_counts_25 rfl ?_
    refine rf_named C hci dR_counts_26 ?_
    refine g_bipush C dR_counts_29 rfl ?_
    refine g_aload_n C dR_counts_31 rfl ?_
    refine g_aload_n C dR_counts_32 rfl ?_
    refine g_iload_n C dR_counts_33 rfl ?_
    refine g_iconst C dR_counts_34 ?_
    refine g_callVi C (nargs := 2) (o := 0) (st := [.ref (ad 0), iv 103, .ref (ad 6)]) (m_Rof hci h) rfl (by decide) hci rfl gd_of (by decide +kernel) ⟨rfl, rfl⟩ dR_counts_35 ⟨by decide, by decide⟩ rfl rfl (Nat.le_of_ble_eq_true rfl) ?_
    intro r35c M35 h
    refine g_iconst C dR_counts_38 ?_
    refine g_callVi C (nargs := 2) (o := 0) (st := [iv 103, .ref (ad 6)]) (m_Rits hci h) rfl (by decide) hci rfl gd_its (by decide +kernel) ⟨rfl, rfl⟩ dR_counts_39 ⟨by decide, by decide⟩ rfl rfl (Nat.le_of_ble_eq_true rfl) ?_
    intro r39c M39 h
    refine g_iast C (n := 128) dR_counts_42 rfl (by decide) ⟨by decide, by decide⟩ ?_
    refine g_memname (fun M42 hM42 => ?_)
    replace h := h M42 hM42
    refine g_aload_n C dR_counts_43 rfl ?_
    refine rf_named C hci dR_counts_44 ?_
    refine g_bipush C dR_counts_47 rfl ?_
    refine g_aload_n C dR_counts_49 rfl ?_
    refine g_aload_n C dR_counts_50 rfl ?_
    refine g_iload_n C dR_counts_51 rfl ?_
    refine g_iconst C dR_counts_52 ?_
    refine g_callVi C (nargs := 2) (o := 0) (st := [.ref (ad 0), iv 110, .ref (ad 6)]) (m_Rof hci h) rfl (by decide) hci rfl gd_of (by decide +kernel) ⟨rfl, rfl⟩ dR_counts_53 ⟨by decide, by decide⟩ rfl rfl (Nat.le_of_ble_eq_true rfl) ?_
    intro r53c M53 h
    refine g_callVi C (nargs := 1) (o := 0) (st := [iv 110, .ref (ad 6)]) (m_RmanyOn hci h) rfl (by decide) hci rfl gd_manyOn (by decide +kernel) ⟨rfl, rfl⟩ dR_counts_56 ⟨by decide, by decide⟩ rfl rfl (Nat.le_of_ble_eq_true rfl) ?_
    intro r56c M56 h
    refine g_iast C (n := 128) dR_counts_59 rfl (by decide) ⟨by decide, by decide⟩ ?_
    refine g_memname (fun M59 hM59 => ?_)
    replace h := h M59 hM59
    refine g_aload_n C dR_counts_60 rfl ?_
    refine g_iconst C dR_counts_61 ?_
    refine g_callVi C (nargs := 1) (o := 0) (st := []) (m_Rworked hci h) rfl (by decide) hci rfl gd_worked (by decide +kernel) ⟨rfl, rfl⟩ dR_counts_62 ⟨by decide, by decide⟩ rfl rfl (Nat.le_of_ble_eq_true rfl) ?_
    intro r62c M62 h
    refine g_iconst C dR_counts_65 ?_
    refine g_iload_n C dR_counts_66 rfl ?_
    refine g_callSi C (nargs := 3) (st := []) (m_Rheld hci h) gd_held (by decide +kernel) ⟨rfl, rfl⟩ dR_counts_67 ⟨by decide, by decide⟩ rfl rfl (Nat.le_of_ble_eq_true rfl) ?_
    intro r67c M67 h
    exact hR _ _ _ _ dR_counts_70 rfl h
  · replace h := h.2 hc
    refine g_iload_n C dR_counts_15 rfl ?_
    exact hR _ _ _ _ dR_counts_16 rfl h
def wB_Rclaim_18 (a1 : Int) (a2 : Int) (k : Int → gSt → Prop)   (M : gSt) : Prop :=
w_Rerror 1 M (fun r20c M20 => k r20c M20)
def w_Rclaim (a1 : Int) (a2 : Int) (M : gSt) (k : Int → gSt → Prop) : Prop :=
w_RisThing a1 M (fun r2c M2 => 
  (wrap r2c = 0 →
    wB_Rclaim_18 a1 a2 k   M2) ∧
  (¬ wrap r2c = 0 →
    w_Rin a2 1 99999 M2 (fun r12c M12 => 
    (¬ wrap r12c = 0 →

      (¬ wrap (M12 1 2) = 10 →
        (0 ≤ 140 + (2 * (M12 1 2)) ∧ 140 + (2 * (M12 1 2)) < 536) ∧ (∀ M58 : gSt, M58 = wr M12 1 (140 + (2 * (M12 1 2))) a1 → ((0 ≤ (140 + (2 * (M58 1 2))) + 1 ∧ (140 + (2 * (M58 1 2))) + 1 < 536) ∧ (∀ M78 : gSt, M78 = wr M58 1 ((140 + (2 * (M58 1 2))) + 1) a2 → (∀ M88 : gSt, M88 = wr M78 1 2 ((M78 1 2) + 1) → (k ((M88 1 2) - 1) M88)))))) ∧
      (wrap (M12 1 2) = 10 →
        w_Rerror 4 M12 (fun r37c M37 => k r37c M37))) ∧
    (wrap r12c = 0 →
      wB_Rclaim_18 a1 a2 k   M12))))
set_option maxHeartbeats 4000000 in
set_option maxRecDepth 100000 in
theorem m_Rclaim {l : Launch} {D : va_G} {cl : List vw_C} {tys : List (ClassId × FieldType)} {ad : Nat → Nat} {cI : ClassId} {ci : Nat} (hci : cl[ci]? = some (RX9, TX9, 23)) {a1 : Int} {a2 : Int} {M : gSt} {k : Int → gSt → Prop} (h : w_Rclaim a1 a2 M k) : MOi l yX9_claim cX9_claim 3 .int (rmR 2 43) D cl ((cI, .int) :: tys) (wR ad cI ci) tR [.ref (ad 0), iv a1, iv a2] M k := by
  refine moi_intro (by decide +kernel) (Nat.le_of_ble_eq_true rfl) wi_177 ?_
  intro p e s m args below meth c A Q C hR
  have pB18 : ∀    (M : gSt), wB_Rclaim_18 a1 a2 k   M → gG p l e (rmR 2 43) s m args below meth c Q D cl A (wR ad cI ci) 3 18 [(0, .ref (ad 0))] [] M := by
    intro    M h
    unfold wB_Rclaim_18 at h
    refine g_aload_n C dR_claim_18 rfl ?_
    refine g_iconst C dR_claim_19 ?_
    refine g_callVi C (nargs := 1) (o := 0) (st := []) (m_Rerror hci h) rfl (by decide) hci rfl gd_error (by decide +kernel) ⟨rfl, rfl⟩ dR_claim_20 ⟨by decide, by decide⟩ rfl rfl (Nat.le_of_ble_eq_true rfl) ?_
    intro r20c M20 h
    exact hR _ _ _ _ dR_claim_23 rfl h
  refine g_locals (lv' := [(0, .ref (ad 0)), (1, iv a1), (2, iv a2)]) rfl ?_
  unfold w_Rclaim at h
  refine g_aload_n C dR_claim_0 rfl ?_
  refine g_iload_n C dR_claim_1 rfl ?_
  refine g_callVi C (nargs := 1) (o := 0) (st := []) (m_RisThing hci h) rfl (by decide) hci rfl gd_isThing (by decide +kernel) ⟨rfl, rfl⟩ dR_claim_2 ⟨by decide, by decide⟩ rfl rfl (Nat.le_of_ble_eq_true rfl) ?_
  intro r2c M2 h
  refine g_if_eq C 18 dR_claim_5 (by decide) (fun hc => ?_) (fun hc => ?_)
  · replace h := h.1 hc
    refine g_locals (lv' := [(0, .ref (ad 0))]) rfl ?_
    exact pB18  _ h
  · replace h := h.2 hc
    refine g_iload_n C dR_claim_8 rfl ?_
    refine g_iconst C dR_claim_9 ?_
    refine g_ldc C 99999 wi_176 rfl dR_claim_10 ?_
    refine g_callSi C (nargs := 3) (st := []) (m_Rin hci h) gd_in (by decide +kernel) ⟨rfl, rfl⟩ dR_claim_12 ⟨by decide, by decide⟩ rfl rfl (Nat.le_of_ble_eq_true rfl) ?_
    intro r12c M12 h
    refine g_if_ne C 24 dR_claim_15 (by decide) (fun hc => ?_) (fun hc => ?_)
    · replace h := h.1 hc
      refine g_aload_n C dR_claim_24 rfl ?_
      refine rf_s C hci dR_claim_25 ?_
      refine g_iconst C dR_claim_28 ?_
      refine g_iald C (n := 536) dR_claim_29 rfl (by decide) ⟨by decide, by decide⟩ ?_
      refine g_bipush C dR_claim_30 rfl ?_
      refine g_icmp_ne C 41 dR_claim_32 (by decide) (fun hc => ?_) (fun hc => ?_)
      · replace h := h.1 hc
        refine g_aload_n C dR_claim_41 rfl ?_
        refine rf_s C hci dR_claim_42 ?_
        refine g_sipush C dR_claim_45 rfl ?_
        refine g_iconst C dR_claim_48 ?_
        refine g_aload_n C dR_claim_49 rfl ?_
        refine rf_s C hci dR_claim_50 ?_
        refine g_iconst C dR_claim_53 ?_
        refine g_iald C (n := 536) dR_claim_54 rfl (by decide) ⟨by decide, by decide⟩ ?_
        refine g_imul C dR_claim_55 ?_
        refine g_iadd C dR_claim_56 ?_
        refine g_iload_n C dR_claim_57 rfl ?_
        refine g_iast C (n := 536) dR_claim_58 rfl (by decide) h.1 ?_
        replace h := h.2
        refine g_memname (fun M58 hM58 => ?_)
        replace h := h M58 hM58
        refine g_aload_n C dR_claim_59 rfl ?_
        refine rf_s C hci dR_claim_60 ?_
        refine g_sipush C dR_claim_63 rfl ?_
        refine g_iconst C dR_claim_66 ?_
        refine g_aload_n C dR_claim_67 rfl ?_
        refine rf_s C hci dR_claim_68 ?_
        refine g_iconst C dR_claim_71 ?_
        refine g_iald C (n := 536) dR_claim_72 rfl (by decide) ⟨by decide, by decide⟩ ?_
        refine g_imul C dR_claim_73 ?_
        refine g_iadd C dR_claim_74 ?_
        refine g_iconst C dR_claim_75 ?_
        refine g_iadd C dR_claim_76 ?_
        refine g_iload_n C dR_claim_77 rfl ?_
        refine g_iast C (n := 536) dR_claim_78 rfl (by decide) h.1 ?_
        replace h := h.2
        refine g_memname (fun M78 hM78 => ?_)
        replace h := h M78 hM78
        refine g_aload_n C dR_claim_79 rfl ?_
        refine rf_s C hci dR_claim_80 ?_
        refine g_iconst C dR_claim_83 ?_
        refine g_dup2 C dR_claim_84 rfl rfl ?_
        refine g_iald C (n := 536) dR_claim_85 rfl (by decide) ⟨by decide, by decide⟩ ?_
        refine g_iconst C dR_claim_86 ?_
        refine g_iadd C dR_claim_87 ?_
        refine g_iast C (n := 536) dR_claim_88 rfl (by decide) ⟨by decide, by decide⟩ ?_
        refine g_memname (fun M88 hM88 => ?_)
        replace h := h M88 hM88
        refine g_aload_n C dR_claim_89 rfl ?_
        refine rf_s C hci dR_claim_90 ?_
        refine g_iconst C dR_claim_93 ?_
        refine g_iald C (n := 536) dR_claim_94 rfl (by decide) ⟨by decide, by decide⟩ ?_
        refine g_iconst C dR_claim_95 ?_
        refine g_isub C dR_claim_96 ?_
        exact hR _ _ _ _ dR_claim_97 rfl h
      · replace h := h.2 hc
        refine g_aload_n C dR_claim_35 rfl ?_
        refine g_iconst C dR_claim_36 ?_
        refine g_callVi C (nargs := 1) (o := 0) (st := []) (m_Rerror hci h) rfl (by decide) hci rfl gd_error (by decide +kernel) ⟨rfl, rfl⟩ dR_claim_37 ⟨by decide, by decide⟩ rfl rfl (Nat.le_of_ble_eq_true rfl) ?_
        intro r37c M37 h
        exact hR _ _ _ _ dR_claim_40 rfl h
    · replace h := h.2 hc
      refine g_locals (lv' := [(0, .ref (ad 0))]) rfl ?_
      exact pB18  _ h
def wB_RclaimIs_17 (a1 : Int) (a2 : Int) (k : Int → gSt → Prop)   (M : gSt) : Prop :=
w_Rerror 1 M (fun r19c M19 => k r19c M19)
def w_RclaimIs (a1 : Int) (a2 : Int) (M : gSt) (k : Int → gSt → Prop) : Prop :=
w_RisClaim a1 M (fun r2c M2 => 
  (wrap r2c = 0 →
    wB_RclaimIs_17 a1 a2 k   M2) ∧
  (¬ wrap r2c = 0 →
    w_Rin a2 0 2 M2 (fun r11c M11 => 
    (¬ wrap r11c = 0 →

      (¬ wrap a2 = 2 →
        w_Rof a1 a2 M11 (fun r39c M39 => k r39c M39)) ∧
      (wrap a2 = 2 →
        w_Rcounts a1 M11 (fun r30c M30 => k r30c M30))) ∧
    (wrap r11c = 0 →
      wB_RclaimIs_17 a1 a2 k   M11))))
set_option maxHeartbeats 4000000 in
set_option maxRecDepth 100000 in
theorem m_RclaimIs {l : Launch} {D : va_G} {cl : List vw_C} {tys : List (ClassId × FieldType)} {ad : Nat → Nat} {cI : ClassId} {ci : Nat} (hci : cl[ci]? = some (RX9, TX9, 23)) {a1 : Int} {a2 : Int} {M : gSt} {k : Int → gSt → Prop} (h : w_RclaimIs a1 a2 M k) : MOi l yX9_claimIs cX9_claimIs 3 .int (rmR 3 70) D cl ((cI, .int) :: tys) (wR ad cI ci) tR [.ref (ad 0), iv a1, iv a2] M k := by
  refine moi_intro (by decide +kernel) (Nat.le_of_ble_eq_true rfl) wi_184 ?_
  intro p e s m args below meth c A Q C hR
  have pB17 : ∀    (M : gSt), wB_RclaimIs_17 a1 a2 k   M → gG p l e (rmR 3 70) s m args below meth c Q D cl A (wR ad cI ci) 3 17 [(0, .ref (ad 0))] [] M := by
    intro    M h
    unfold wB_RclaimIs_17 at h
    refine g_aload_n C dR_claimIs_17 rfl ?_
    refine g_iconst C dR_claimIs_18 ?_
    refine g_callVi C (nargs := 1) (o := 0) (st := []) (m_Rerror hci h) rfl (by decide) hci rfl gd_error (by decide +kernel) ⟨rfl, rfl⟩ dR_claimIs_19 ⟨by decide, by decide⟩ rfl rfl (Nat.le_of_ble_eq_true rfl) ?_
    intro r19c M19 h
    exact hR _ _ _ _ dR_claimIs_22 rfl h
  refine g_locals (lv' := [(0, .ref (ad 0)), (1, iv a1), (2, iv a2)]) rfl ?_
  unfold w_RclaimIs at h
  refine g_aload_n C dR_claimIs_0 rfl ?_
  refine g_iload_n C dR_claimIs_1 rfl ?_
  refine g_callVi C (nargs := 1) (o := 0) (st := []) (m_RisClaim hci h) rfl (by decide) hci rfl gd_isClaim (by decide +kernel) ⟨rfl, rfl⟩ dR_claimIs_2 ⟨by decide, by decide⟩ rfl rfl (Nat.le_of_ble_eq_true rfl) ?_
  intro r2c M2 h
  refine g_if_eq C 17 dR_claimIs_5 (by decide) (fun hc => ?_) (fun hc => ?_)
  · replace h := h.1 hc
    refine g_locals (lv' := [(0, .ref (ad 0))]) rfl ?_
    exact pB17  _ h
  · replace h := h.2 hc
    refine g_iload_n C dR_claimIs_8 rfl ?_
    refine g_iconst C dR_claimIs_9 ?_
    refine g_iconst C dR_claimIs_10 ?_
    refine g_callSi C (nargs := 3) (st := []) (m_Rin hci h) gd_in (by decide +kernel) ⟨rfl, rfl⟩ dR_claimIs_11 ⟨by decide, by decide⟩ rfl rfl (Nat.le_of_ble_eq_true rfl) ?_
    intro r11c M11 h
    refine g_if_ne C 23 dR_claimIs_14 (by decide) (fun hc => ?_) (fun hc => ?_)
    · replace h := h.1 hc
      refine g_iload_n C dR_claimIs_23 rfl ?_
      refine g_iconst C dR_claimIs_24 ?_
      refine g_icmp_ne C 36 dR_claimIs_25 (by decide) (fun hc => ?_) (fun hc => ?_)
      · replace h := h.1 hc
        refine g_aload_n C dR_claimIs_36 rfl ?_
        refine g_iload_n C dR_claimIs_37 rfl ?_
        refine g_iload_n C dR_claimIs_38 rfl ?_
        refine g_callVi C (nargs := 2) (o := 0) (st := []) (m_Rof hci h) rfl (by decide) hci rfl gd_of (by decide +kernel) ⟨rfl, rfl⟩ dR_claimIs_39 ⟨by decide, by decide⟩ rfl rfl (Nat.le_of_ble_eq_true rfl) ?_
        intro r39c M39 h
        exact hR _ _ _ _ dR_claimIs_42 rfl h
      · replace h := h.2 hc
        refine g_aload_n C dR_claimIs_28 rfl ?_
        refine g_iload_n C dR_claimIs_29 rfl ?_
        refine g_callVi C (nargs := 1) (o := 0) (st := []) (m_Rcounts hci h) rfl (by decide) hci rfl gd_counts (by decide +kernel) ⟨rfl, rfl⟩ dR_claimIs_30 ⟨by decide, by decide⟩ rfl rfl (Nat.le_of_ble_eq_true rfl) ?_
        intro r30c M30 h
        refine g_goto C 42 dR_claimIs_33 (by decide) ?_
        exact hR _ _ _ _ dR_claimIs_42 rfl h
    · replace h := h.2 hc
      refine g_locals (lv' := [(0, .ref (ad 0))]) rfl ?_
      exact pB17  _ h
def wB_RcountsBelow_33 (a1 : Int) (a2 : Int) (k : Int → gSt → Prop) (r5 : Int → Int → gSt → Prop) (X5_41 : Int → gSt → Prop) (v4 : Int) (s0 : Int) (s1 : Int) (M : gSt) : Prop :=
∀ x3_34 : Int, x3_34 = s1 + s0 → (r5 x3_34 (v4 + 1) M)
def wC_RcountsBelow_5 (a1 : Int) (a2 : Int) (k : Int → gSt → Prop) (r5 : Int → Int → gSt → Prop) (X5_41 : Int → gSt → Prop) (v3 : Int) (v4 : Int) (M : gSt) : Prop :=

  (wrap a2 ≤ wrap v4 →
    X5_41 v3 M) ∧
  (wrap v4 < wrap a2 →
    w_Rof v4 0 M (fun r16c M16 => 
    (¬ wrap r16c = wrap a1 →
      wB_RcountsBelow_33 a1 a2 k r5 X5_41 v4 0 v3 M16) ∧
    (wrap r16c = wrap a1 →
      w_Rcounts v4 M16 (fun r26c M26 => wB_RcountsBelow_33 a1 a2 k r5 X5_41 v4 r26c v3 M26))))
def wL_RcountsBelow_5 (a1 : Int) (a2 : Int) (k : Int → gSt → Prop)  (X5_41 : Int → gSt → Prop) : Nat → Int → Int → gSt → Prop
  | 0 => fun _ _ _ => False
  | n + 1 => fun v3 v4 M => wC_RcountsBelow_5 a1 a2 k  (wL_RcountsBelow_5 a1 a2 k  X5_41 n) X5_41 v3 v4 M
def w_RcountsBelow (a1 : Int) (a2 : Int) (M : gSt) (k : Int → gSt → Prop) : Prop :=
∃ n, wL_RcountsBelow_5 a1 a2 k  (fun u3_5 M5 =>
    k u3_5 M5) n 0 0 M
set_option maxHeartbeats 4000000 in
set_option maxRecDepth 100000 in
theorem m_RcountsBelow {l : Launch} {D : va_G} {cl : List vw_C} {tys : List (ClassId × FieldType)} {ad : Nat → Nat} {cI : ClassId} {ci : Nat} (hci : cl[ci]? = some (RX9, TX9, 23)) {a1 : Int} {a2 : Int} {M : gSt} {k : Int → gSt → Prop} (h : w_RcountsBelow a1 a2 M k) : MOi l yX9_countsBelow cX9_countsBelow 5 .int (rmR 3 70) D cl ((cI, .int) :: tys) (wR ad cI ci) tR [.ref (ad 0), iv a1, iv a2] M k := by
  refine moi_intro (by decide +kernel) (Nat.le_of_ble_eq_true rfl) wi_185 ?_
  intro p e s m args below meth c A Q C hR
  have pB33 : ∀ (r5 : Int → Int → gSt → Prop) (X5_41 : Int → gSt → Prop) (hr5 : ∀ (v3 : Int) (v4 : Int) (M : gSt), r5 v3 v4 M → gG p l e (rmR 3 70) s m args below meth c Q D cl A (wR ad cI ci) 5 5 [(0, .ref (ad 0)), (1, iv a1), (2, iv a2), (3, iv v3), (4, iv v4)] [] M) (hX5_41 : ∀ (v3 : Int) (M : gSt), X5_41 v3 M → gG p l e (rmR 3 70) s m args below meth c Q D cl A (wR ad cI ci) 5 41 [(3, iv v3)] [] M) (v4 : Int) (s0 : Int) (s1 : Int) (M : gSt), wB_RcountsBelow_33 a1 a2 k r5 X5_41 v4 s0 s1 M → gG p l e (rmR 3 70) s m args below meth c Q D cl A (wR ad cI ci) 5 33 [(0, .ref (ad 0)), (1, iv a1), (2, iv a2), (4, iv v4)] [iv s0, iv s1] M := by
    intro r5 X5_41 hr5 hX5_41 v4 s0 s1 M h
    unfold wB_RcountsBelow_33 at h
    refine g_iadd C dR_countsBelow_33 ?_
    refine g_name (fun x3_34 hx3_34 => ?_)
    replace h := h x3_34 hx3_34
    refine g_istore_n C dR_countsBelow_34 (by decide) rfl ?_
    refine g_locals (lv' := [(0, .ref (ad 0)), (1, iv a1), (2, iv a2), (3, iv x3_34), (4, iv v4)]) rfl ?_
    refine g_iinc C dR_countsBelow_35 rfl (by decide) rfl ?_
    refine g_locals (lv' := [(0, .ref (ad 0)), (1, iv a1), (2, iv a2), (3, iv x3_34), (4, iv (v4 + 1))]) rfl ?_
    refine g_goto C 5 dR_countsBelow_38 (by decide) ?_
    refine g_locals (lv' := [(0, .ref (ad 0)), (1, iv a1), (2, iv a2), (3, iv x3_34), (4, iv (v4 + 1))]) rfl ?_
    exact hr5 _ _  _ h
  have pC5 : ∀ (r5 : Int → Int → gSt → Prop) (X5_41 : Int → gSt → Prop) (hr5 : ∀ (v3 : Int) (v4 : Int) (M : gSt), r5 v3 v4 M → gG p l e (rmR 3 70) s m args below meth c Q D cl A (wR ad cI ci) 5 5 [(0, .ref (ad 0)), (1, iv a1), (2, iv a2), (3, iv v3), (4, iv v4)] [] M) (hX5_41 : ∀ (v3 : Int) (M : gSt), X5_41 v3 M → gG p l e (rmR 3 70) s m args below meth c Q D cl A (wR ad cI ci) 5 41 [(3, iv v3)] [] M) (v3 : Int) (v4 : Int) (M : gSt), wC_RcountsBelow_5 a1 a2 k r5 X5_41 v3 v4 M → gG p l e (rmR 3 70) s m args below meth c Q D cl A (wR ad cI ci) 5 5 [(0, .ref (ad 0)), (1, iv a1), (2, iv a2), (3, iv v3), (4, iv v4)] [] M := by
    intro r5 X5_41 hr5 hX5_41 v3 v4 M h
    unfold wC_RcountsBelow_5 at h
    refine g_iload C dR_countsBelow_5 rfl ?_
    refine g_iload_n C dR_countsBelow_7 rfl ?_
    refine g_icmp_ge C 41 dR_countsBelow_8 (by decide) (fun hc => ?_) (fun hc => ?_)
    · replace h := h.1 hc
      refine g_locals (lv' := [(3, iv v3)]) rfl ?_
      exact hX5_41 _  _ h
    · replace h := h.2 hc
      refine g_iload_n C dR_countsBelow_11 rfl ?_
      refine g_aload_n C dR_countsBelow_12 rfl ?_
      refine g_iload C dR_countsBelow_13 rfl ?_
      refine g_iconst C dR_countsBelow_15 ?_
      refine g_callVi C (nargs := 2) (o := 0) (st := [iv v3]) (m_Rof hci h) rfl (by decide) hci rfl gd_of (by decide +kernel) ⟨rfl, rfl⟩ dR_countsBelow_16 ⟨by decide, by decide⟩ rfl rfl (Nat.le_of_ble_eq_true rfl) ?_
      intro r16c M16 h
      refine g_iload_n C dR_countsBelow_19 rfl ?_
      refine g_icmp_ne C 32 dR_countsBelow_20 (by decide) (fun hc => ?_) (fun hc => ?_)
      · replace h := h.1 hc
        refine g_iconst C dR_countsBelow_32 ?_
        refine g_locals (lv' := [(0, .ref (ad 0)), (1, iv a1), (2, iv a2), (4, iv v4)]) rfl ?_
        exact pB33 r5 X5_41 hr5 hX5_41 _ _ _ _ h
      · replace h := h.2 hc
        refine g_aload_n C dR_countsBelow_23 rfl ?_
        refine g_iload C dR_countsBelow_24 rfl ?_
        refine g_callVi C (nargs := 1) (o := 0) (st := [iv v3]) (m_Rcounts hci h) rfl (by decide) hci rfl gd_counts (by decide +kernel) ⟨rfl, rfl⟩ dR_countsBelow_26 ⟨by decide, by decide⟩ rfl rfl (Nat.le_of_ble_eq_true rfl) ?_
        intro r26c M26 h
        refine g_goto C 33 dR_countsBelow_29 (by decide) ?_
        refine g_locals (lv' := [(0, .ref (ad 0)), (1, iv a1), (2, iv a2), (4, iv v4)]) rfl ?_
        exact pB33 r5 X5_41 hr5 hX5_41 _ _ _ _ h
  have pL5 : ∀  (X5_41 : Int → gSt → Prop) (hX5_41 : ∀ (v3 : Int) (M : gSt), X5_41 v3 M → gG p l e (rmR 3 70) s m args below meth c Q D cl A (wR ad cI ci) 5 41 [(3, iv v3)] [] M) (n : Nat) (v3 : Int) (v4 : Int) (M : gSt), wL_RcountsBelow_5 a1 a2 k  X5_41 n v3 v4 M → gG p l e (rmR 3 70) s m args below meth c Q D cl A (wR ad cI ci) 5 5 [(0, .ref (ad 0)), (1, iv a1), (2, iv a2), (3, iv v3), (4, iv v4)] [] M := by
    intro  X5_41 hX5_41 n
    induction n with
    | zero => intro v3 v4 M h; exact h.elim
    | succ n ih =>
      intro v3 v4 M h
      exact pC5  (wL_RcountsBelow_5 a1 a2 k  X5_41 n) X5_41 ih hX5_41 v3 v4 M h
  refine g_locals (lv' := [(0, .ref (ad 0)), (1, iv a1), (2, iv a2)]) rfl ?_
  unfold w_RcountsBelow at h
  refine g_iconst C dR_countsBelow_0 ?_
  refine g_istore_n C dR_countsBelow_1 (by decide) rfl ?_
  refine g_locals (lv' := [(0, .ref (ad 0)), (1, iv a1), (2, iv a2), (3, iv 0)]) rfl ?_
  refine g_iconst C dR_countsBelow_2 ?_
  refine g_istore C dR_countsBelow_3 (by decide) rfl ?_
  refine g_locals (lv' := [(0, .ref (ad 0)), (1, iv a1), (2, iv a2), (3, iv 0), (4, iv 0)]) rfl ?_
  refine g_locals (lv' := [(0, .ref (ad 0)), (1, iv a1), (2, iv a2), (3, iv 0), (4, iv 0)]) rfl ?_
  obtain ⟨n, h⟩ := h
  refine pL5 _ ?_ n _ _ _ h
  · intro u3_5 M5 h
    refine g_iload_n C dR_countsBelow_41 rfl ?_
    exact hR _ _ _ _ dR_countsBelow_42 rfl h
def w_RshareOf (a1 : Int) (a2 : Int) (M : gSt) (k : Int → gSt → Prop) : Prop :=
w_Rof a1 0 M (fun r3c M3 => w_Rits r3c 2 M3 (fun r10c M10 => w_Rcounts a1 M10 (fun r17c M17 => 
  (¬ wrap a2 = 0 →

    (¬ wrap a2 = 1 →
      w_RcountsBelow r3c a1 M17 (fun r89c M89 => w_Rheld (r10c - r89c) 0 9999999 M89 (fun r96c M96 => w_Rheld r17c 0 r96c M96 (fun r99c M99 => k r99c M99)))) ∧
    (wrap a2 = 1 →
      w_RcountsBelow r3c (M17 1 2) M17 (fun r54c M54 => 
      (wrap r10c < wrap r54c →
        w_RpartOf r17c r10c r54c M54 (fun r77c M77 => k r77c M77)) ∧
      (wrap r54c ≤ wrap r10c →
        k r17c M54)))) ∧
  (wrap a2 = 0 →
    w_RmanyOn r3c M17 (fun r33c M33 => (wrap r33c ≠ 0) ∧ (w_Rheld r17c 0 (Int.tdiv (wrap r10c) (wrap r33c)) M33 (fun r37c M37 => k r37c M37)))))))
set_option maxHeartbeats 4000000 in
set_option maxRecDepth 100000 in
theorem m_RshareOf {l : Launch} {D : va_G} {cl : List vw_C} {tys : List (ClassId × FieldType)} {ad : Nat → Nat} {cI : ClassId} {ci : Nat} (hci : cl[ci]? = some (RX9, TX9, 23)) {a1 : Int} {a2 : Int} {M : gSt} {k : Int → gSt → Prop} (h : w_RshareOf a1 a2 M k) : MOi l yX9_shareOf cX9_shareOf 7 .int (rmR 4 94) D cl ((cI, .int) :: tys) (wR ad cI ci) tR [.ref (ad 0), iv a1, iv a2] M k := by
  refine moi_intro (by decide +kernel) (Nat.le_of_ble_eq_true rfl) wi_189 ?_
  intro p e s m args below meth c A Q C hR
  refine g_locals (lv' := [(0, .ref (ad 0)), (1, iv a1), (2, iv a2)]) rfl ?_
  unfold w_RshareOf at h
  refine g_aload_n C dR_shareOf_0 rfl ?_
  refine g_iload_n C dR_shareOf_1 rfl ?_
  refine g_iconst C dR_shareOf_2 ?_
  refine g_callVi C (nargs := 2) (o := 0) (st := []) (m_Rof hci h) rfl (by decide) hci rfl gd_of (by decide +kernel) ⟨rfl, rfl⟩ dR_shareOf_3 ⟨by decide, by decide⟩ rfl rfl (Nat.le_of_ble_eq_true rfl) ?_
  intro r3c M3 h
  refine g_istore_n C dR_shareOf_6 (by decide) rfl ?_
  refine g_locals (lv' := [(0, .ref (ad 0)), (1, iv a1), (2, iv a2), (3, iv r3c)]) rfl ?_
  refine g_aload_n C dR_shareOf_7 rfl ?_
  refine g_iload_n C dR_shareOf_8 rfl ?_
  refine g_iconst C dR_shareOf_9 ?_
  refine g_callVi C (nargs := 2) (o := 0) (st := []) (m_Rits hci h) rfl (by decide) hci rfl gd_its (by decide +kernel) ⟨rfl, rfl⟩ dR_shareOf_10 ⟨by decide, by decide⟩ rfl rfl (Nat.le_of_ble_eq_true rfl) ?_
  intro r10c M10 h
  refine g_istore C dR_shareOf_13 (by decide) rfl ?_
  refine g_locals (lv' := [(0, .ref (ad 0)), (1, iv a1), (2, iv a2), (3, iv r3c), (4, iv r10c)]) rfl ?_
  refine g_aload_n C dR_shareOf_15 rfl ?_
  refine g_iload_n C dR_shareOf_16 rfl ?_
  refine g_callVi C (nargs := 1) (o := 0) (st := []) (m_Rcounts hci h) rfl (by decide) hci rfl gd_counts (by decide +kernel) ⟨rfl, rfl⟩ dR_shareOf_17 ⟨by decide, by decide⟩ rfl rfl (Nat.le_of_ble_eq_true rfl) ?_
  intro r17c M17 h
  refine g_istore C dR_shareOf_20 (by decide) rfl ?_
  refine g_locals (lv' := [(0, .ref (ad 0)), (1, iv a1), (2, iv a2), (3, iv r3c), (4, iv r10c), (5, iv r17c)]) rfl ?_
  refine g_iload_n C dR_shareOf_22 rfl ?_
  refine g_if_ne C 41 dR_shareOf_23 (by decide) (fun hc => ?_) (fun hc => ?_)
  · replace h := h.1 hc
    refine g_iload_n C dR_shareOf_41 rfl ?_
    refine g_iconst C dR_shareOf_42 ?_
    refine g_icmp_ne C 81 dR_shareOf_43 (by decide) (fun hc => ?_) (fun hc => ?_)
    · replace h := h.1 hc
      refine g_iload C dR_shareOf_81 rfl ?_
      refine g_iconst C dR_shareOf_83 ?_
      refine g_iload C dR_shareOf_84 rfl ?_
      refine g_aload_n C dR_shareOf_86 rfl ?_
      refine g_iload_n C dR_shareOf_87 rfl ?_
      refine g_iload_n C dR_shareOf_88 rfl ?_
      refine g_callVi C (nargs := 2) (o := 0) (st := [iv r10c, iv 0, iv r17c]) (m_RcountsBelow hci h) rfl (by decide) hci rfl gd_countsBelow (by decide +kernel) ⟨rfl, rfl⟩ dR_shareOf_89 ⟨by decide, by decide⟩ rfl rfl (Nat.le_of_ble_eq_true rfl) ?_
      intro r89c M89 h
      refine g_isub C dR_shareOf_92 ?_
      refine g_iconst C dR_shareOf_93 ?_
      refine g_ldc C 9999999 wi_34 rfl dR_shareOf_94 ?_
      refine g_callSi C (nargs := 3) (st := [iv 0, iv r17c]) (m_Rheld hci h) gd_held (by decide +kernel) ⟨rfl, rfl⟩ dR_shareOf_96 ⟨by decide, by decide⟩ rfl rfl (Nat.le_of_ble_eq_true rfl) ?_
      intro r96c M96 h
      refine g_callSi C (nargs := 3) (st := []) (m_Rheld hci h) gd_held (by decide +kernel) ⟨rfl, rfl⟩ dR_shareOf_99 ⟨by decide, by decide⟩ rfl rfl (Nat.le_of_ble_eq_true rfl) ?_
      intro r99c M99 h
      exact hR _ _ _ _ dR_shareOf_102 rfl h
    · replace h := h.2 hc
      refine g_aload_n C dR_shareOf_46 rfl ?_
      refine g_iload_n C dR_shareOf_47 rfl ?_
      refine g_aload_n C dR_shareOf_48 rfl ?_
      refine rf_s C hci dR_shareOf_49 ?_
      refine g_iconst C dR_shareOf_52 ?_
      refine g_iald C (n := 536) dR_shareOf_53 rfl (by decide) ⟨by decide, by decide⟩ ?_
      refine g_callVi C (nargs := 2) (o := 0) (st := []) (m_RcountsBelow hci h) rfl (by decide) hci rfl gd_countsBelow (by decide +kernel) ⟨rfl, rfl⟩ dR_shareOf_54 ⟨by decide, by decide⟩ rfl rfl (Nat.le_of_ble_eq_true rfl) ?_
      intro r54c M54 h
      refine g_istore C dR_shareOf_57 (by decide) rfl ?_
      refine g_locals (lv' := [(0, .ref (ad 0)), (1, iv a1), (2, iv a2), (3, iv r3c), (4, iv r10c), (5, iv r17c), (6, iv r54c)]) rfl ?_
      refine g_iload C dR_shareOf_59 rfl ?_
      refine g_iload C dR_shareOf_61 rfl ?_
      refine g_icmp_gt C 71 dR_shareOf_63 (by decide) (fun hc => ?_) (fun hc => ?_)
      · replace h := h.1 hc
        refine g_iload C dR_shareOf_71 rfl ?_
        refine g_iload C dR_shareOf_73 rfl ?_
        refine g_iload C dR_shareOf_75 rfl ?_
        refine g_callSi C (nargs := 3) (st := []) (m_RpartOf hci h) gd_partOf (by decide +kernel) ⟨rfl, rfl⟩ dR_shareOf_77 ⟨by decide, by decide⟩ rfl rfl (Nat.le_of_ble_eq_true rfl) ?_
        intro r77c M77 h
        exact hR _ _ _ _ dR_shareOf_80 rfl h
      · replace h := h.2 hc
        refine g_iload C dR_shareOf_66 rfl ?_
        refine g_goto C 80 dR_shareOf_68 (by decide) ?_
        exact hR _ _ _ _ dR_shareOf_80 rfl h
  · replace h := h.2 hc
    refine g_iload C dR_shareOf_26 rfl ?_
    refine g_iconst C dR_shareOf_28 ?_
    refine g_iload C dR_shareOf_29 rfl ?_
    refine g_aload_n C dR_shareOf_31 rfl ?_
    refine g_iload_n C dR_shareOf_32 rfl ?_
    refine g_callVi C (nargs := 1) (o := 0) (st := [iv r10c, iv 0, iv r17c]) (m_RmanyOn hci h) rfl (by decide) hci rfl gd_manyOn (by decide +kernel) ⟨rfl, rfl⟩ dR_shareOf_33 ⟨by decide, by decide⟩ rfl rfl (Nat.le_of_ble_eq_true rfl) ?_
    intro r33c M33 h
    refine g_idiv C dR_shareOf_36 h.1 ?_
    replace h := h.2
    refine g_top (y := Int.tdiv (wrap r10c) (wrap r33c)) rfl ?_
    refine g_callSi C (nargs := 3) (st := []) (m_Rheld hci h) gd_held (by decide +kernel) ⟨rfl, rfl⟩ dR_shareOf_37 ⟨by decide, by decide⟩ rfl rfl (Nat.le_of_ble_eq_true rfl) ?_
    intro r37c M37 h
    exact hR _ _ _ _ dR_shareOf_40 rfl h
end
section
def w_RisLaw (a1 : Int) (M : gSt) (k : Int → gSt → Prop) : Prop :=
w_Rin a1 0 2 M (fun r3c M3 => (r3c = 0 ∨ r3c = 1) ∧ (k r3c M3))
set_option maxHeartbeats 4000000 in
set_option maxRecDepth 100000 in
theorem m_RisLaw {l : Launch} {D : va_G} {cl : List vw_C} {tys : List (ClassId × FieldType)} {ad : Nat → Nat} {cI : ClassId} {ci : Nat} (hci : cl[ci]? = some (RX9, TX9, 23)) {a1 : Int} {M : gSt} {k : Int → gSt → Prop} (h : w_RisLaw a1 M k) : MOi l yX9_isLaw cX9_isLaw 1 .boolean (rmR 1 22) D cl ((cI, .int) :: tys) (wR ad cI ci) tR [iv a1] M k := by
  refine moi_intro (by decide +kernel) (Nat.le_of_ble_eq_true rfl) wi_190 ?_
  intro p e s m args below meth c A Q C hR
  refine g_locals (lv' := [(0, iv a1)]) rfl ?_
  unfold w_RisLaw at h
  refine g_iload_n C dR_isLaw_0 rfl ?_
  refine g_iconst C dR_isLaw_1 ?_
  refine g_iconst C dR_isLaw_2 ?_
  refine g_callSi C (nargs := 3) (st := []) (m_Rin hci h) gd_in (by decide +kernel) ⟨rfl, rfl⟩ dR_isLaw_3 ⟨by decide, by decide⟩ rfl rfl (Nat.le_of_ble_eq_true rfl) ?_
  intro r3c M3 h
  exact hR _ _ _ _ dR_isLaw_6 (zn_bool h.1).1 h.2
def wB_Rshare_24 (a1 : Int) (a2 : Int) (k : Int → gSt → Prop)   (M : gSt) : Prop :=
w_Rerror 1 M (fun r26c M26 => k r26c M26)
def w_Rshare (a1 : Int) (a2 : Int) (M : gSt) (k : Int → gSt → Prop) : Prop :=
w_RisClaim a1 M (fun r2c M2 => 
  (wrap r2c = 0 →
    wB_Rshare_24 a1 a2 k   M2) ∧
  (¬ wrap r2c = 0 →
    w_RisLaw a2 M2 (fun r9c M9 => 
    (wrap r9c = 0 →
      wB_Rshare_24 a1 a2 k   M9) ∧
    (¬ wrap r9c = 0 →
      w_RshareOf a1 a2 M9 (fun r18c M18 => k r18c M18)))))
set_option maxHeartbeats 4000000 in
set_option maxRecDepth 100000 in
theorem m_Rshare {l : Launch} {D : va_G} {cl : List vw_C} {tys : List (ClassId × FieldType)} {ad : Nat → Nat} {cI : ClassId} {ci : Nat} (hci : cl[ci]? = some (RX9, TX9, 23)) {a1 : Int} {a2 : Int} {M : gSt} {k : Int → gSt → Prop} (h : w_Rshare a1 a2 M k) : MOi l yX9_share cX9_share 3 .int (rmR 5 120) D cl ((cI, .int) :: tys) (wR ad cI ci) tR [.ref (ad 0), iv a1, iv a2] M k := by
  refine moi_intro (by decide +kernel) (Nat.le_of_ble_eq_true rfl) wi_196 ?_
  intro p e s m args below meth c A Q C hR
  have pB24 : ∀    (M : gSt), wB_Rshare_24 a1 a2 k   M → gG p l e (rmR 5 120) s m args below meth c Q D cl A (wR ad cI ci) 3 24 [(0, .ref (ad 0))] [] M := by
    intro    M h
    unfold wB_Rshare_24 at h
    refine g_aload_n C dR_share_24 rfl ?_
    refine g_iconst C dR_share_25 ?_
    refine g_callVi C (nargs := 1) (o := 0) (st := []) (m_Rerror hci h) rfl (by decide) hci rfl gd_error (by decide +kernel) ⟨rfl, rfl⟩ dR_share_26 ⟨by decide, by decide⟩ rfl rfl (Nat.le_of_ble_eq_true rfl) ?_
    intro r26c M26 h
    exact hR _ _ _ _ dR_share_29 rfl h
  refine g_locals (lv' := [(0, .ref (ad 0)), (1, iv a1), (2, iv a2)]) rfl ?_
  unfold w_Rshare at h
  refine g_aload_n C dR_share_0 rfl ?_
  refine g_iload_n C dR_share_1 rfl ?_
  refine g_callVi C (nargs := 1) (o := 0) (st := []) (m_RisClaim hci h) rfl (by decide) hci rfl gd_isClaim (by decide +kernel) ⟨rfl, rfl⟩ dR_share_2 ⟨by decide, by decide⟩ rfl rfl (Nat.le_of_ble_eq_true rfl) ?_
  intro r2c M2 h
  refine g_if_eq C 24 dR_share_5 (by decide) (fun hc => ?_) (fun hc => ?_)
  · replace h := h.1 hc
    refine g_locals (lv' := [(0, .ref (ad 0))]) rfl ?_
    exact pB24  _ h
  · replace h := h.2 hc
    refine g_iload_n C dR_share_8 rfl ?_
    refine g_callSi C (nargs := 1) (st := []) (m_RisLaw hci h) gd_isLaw (by decide +kernel) ⟨rfl, rfl⟩ dR_share_9 ⟨by decide, by decide⟩ rfl rfl (Nat.le_of_ble_eq_true rfl) ?_
    intro r9c M9 h
    refine g_if_eq C 24 dR_share_12 (by decide) (fun hc => ?_) (fun hc => ?_)
    · replace h := h.1 hc
      refine g_locals (lv' := [(0, .ref (ad 0))]) rfl ?_
      exact pB24  _ h
    · replace h := h.2 hc
      refine g_aload_n C dR_share_15 rfl ?_
      refine g_iload_n C dR_share_16 rfl ?_
      refine g_iload_n C dR_share_17 rfl ?_
      refine g_callVi C (nargs := 2) (o := 0) (st := []) (m_RshareOf hci h) rfl (by decide) hci rfl gd_shareOf (by decide +kernel) ⟨rfl, rfl⟩ dR_share_18 ⟨by decide, by decide⟩ rfl rfl (Nat.le_of_ble_eq_true rfl) ?_
      intro r18c M18 h
      refine g_goto C 29 dR_share_21 (by decide) ?_
      exact hR _ _ _ _ dR_share_29 rfl h
def wB_Rleft_15 (a1 : Int) (a2 : Int) (k : Int → gSt → Prop)   (M : gSt) : Prop :=
w_Rerror 1 M (fun r17c M17 => k r17c M17)
def wB_Rleft_65 (a1 : Int) (a2 : Int) (k : Int → gSt → Prop) (r31 : Int → Int → gSt → Prop) (X31_73 : Int → gSt → Prop) (v4 : Int) (s0 : Int) (s1 : Int) (M : gSt) : Prop :=
∀ x3_66 : Int, x3_66 = s1 - s0 → (r31 x3_66 (v4 + 1) M)
def wC_Rleft_31 (a1 : Int) (a2 : Int) (k : Int → gSt → Prop) (r31 : Int → Int → gSt → Prop) (X31_73 : Int → gSt → Prop) (v3 : Int) (v4 : Int) (M : gSt) : Prop :=

  (wrap (M 1 2) ≤ wrap v4 →
    X31_73 v3 M) ∧
  (wrap v4 < wrap (M 1 2) →
    w_Rof v4 0 M (fun r47c M47 => 
    (¬ wrap r47c = wrap a1 →
      wB_Rleft_65 a1 a2 k r31 X31_73 v4 0 v3 M47) ∧
    (wrap r47c = wrap a1 →
      w_RshareOf v4 a2 M47 (fun r58c M58 => wB_Rleft_65 a1 a2 k r31 X31_73 v4 r58c v3 M58))))
def wL_Rleft_31 (a1 : Int) (a2 : Int) (k : Int → gSt → Prop)  (X31_73 : Int → gSt → Prop) : Nat → Int → Int → gSt → Prop
  | 0 => fun _ _ _ => False
  | n + 1 => fun v3 v4 M => wC_Rleft_31 a1 a2 k  (wL_Rleft_31 a1 a2 k  X31_73 n) X31_73 v3 v4 M
def w_Rleft (a1 : Int) (a2 : Int) (M : gSt) (k : Int → gSt → Prop) : Prop :=
w_RisThing a1 M (fun r2c M2 => 
  (wrap r2c = 0 →
    wB_Rleft_15 a1 a2 k   M2) ∧
  (¬ wrap r2c = 0 →
    w_RisLaw a2 M2 (fun r9c M9 => 
    (¬ wrap r9c = 0 →
      w_Rits a1 2 M9 (fun r24c M24 => ∃ n, wL_Rleft_31 a1 a2 k  (fun u3_31 M31 =>
        k u3_31 M31) n r24c 0 M24)) ∧
    (wrap r9c = 0 →
      wB_Rleft_15 a1 a2 k   M9))))
set_option maxHeartbeats 4000000 in
set_option maxRecDepth 100000 in
theorem m_Rleft {l : Launch} {D : va_G} {cl : List vw_C} {tys : List (ClassId × FieldType)} {ad : Nat → Nat} {cI : ClassId} {ci : Nat} (hci : cl[ci]? = some (RX9, TX9, 23)) {a1 : Int} {a2 : Int} {M : gSt} {k : Int → gSt → Prop} (h : w_Rleft a1 a2 M k) : MOi l yX9_left cX9_left 5 .int (rmR 5 120) D cl ((cI, .int) :: tys) (wR ad cI ci) tR [.ref (ad 0), iv a1, iv a2] M k := by
  refine moi_intro (by decide +kernel) (Nat.le_of_ble_eq_true rfl) wi_197 ?_
  intro p e s m args below meth c A Q C hR
  have pB15 : ∀    (M : gSt), wB_Rleft_15 a1 a2 k   M → gG p l e (rmR 5 120) s m args below meth c Q D cl A (wR ad cI ci) 5 15 [(0, .ref (ad 0))] [] M := by
    intro    M h
    unfold wB_Rleft_15 at h
    refine g_aload_n C dR_left_15 rfl ?_
    refine g_iconst C dR_left_16 ?_
    refine g_callVi C (nargs := 1) (o := 0) (st := []) (m_Rerror hci h) rfl (by decide) hci rfl gd_error (by decide +kernel) ⟨rfl, rfl⟩ dR_left_17 ⟨by decide, by decide⟩ rfl rfl (Nat.le_of_ble_eq_true rfl) ?_
    intro r17c M17 h
    exact hR _ _ _ _ dR_left_20 rfl h
  have pB65 : ∀ (r31 : Int → Int → gSt → Prop) (X31_73 : Int → gSt → Prop) (hr31 : ∀ (v3 : Int) (v4 : Int) (M : gSt), r31 v3 v4 M → gG p l e (rmR 5 120) s m args below meth c Q D cl A (wR ad cI ci) 5 31 [(0, .ref (ad 0)), (1, iv a1), (2, iv a2), (3, iv v3), (4, iv v4)] [] M) (hX31_73 : ∀ (v3 : Int) (M : gSt), X31_73 v3 M → gG p l e (rmR 5 120) s m args below meth c Q D cl A (wR ad cI ci) 5 73 [(3, iv v3)] [] M) (v4 : Int) (s0 : Int) (s1 : Int) (M : gSt), wB_Rleft_65 a1 a2 k r31 X31_73 v4 s0 s1 M → gG p l e (rmR 5 120) s m args below meth c Q D cl A (wR ad cI ci) 5 65 [(0, .ref (ad 0)), (1, iv a1), (2, iv a2), (4, iv v4)] [iv s0, iv s1] M := by
    intro r31 X31_73 hr31 hX31_73 v4 s0 s1 M h
    unfold wB_Rleft_65 at h
    refine g_isub C dR_left_65 ?_
    refine g_name (fun x3_66 hx3_66 => ?_)
    replace h := h x3_66 hx3_66
    refine g_istore_n C dR_left_66 (by decide) rfl ?_
    refine g_locals (lv' := [(0, .ref (ad 0)), (1, iv a1), (2, iv a2), (3, iv x3_66), (4, iv v4)]) rfl ?_
    refine g_iinc C dR_left_67 rfl (by decide) rfl ?_
    refine g_locals (lv' := [(0, .ref (ad 0)), (1, iv a1), (2, iv a2), (3, iv x3_66), (4, iv (v4 + 1))]) rfl ?_
    refine g_goto C 31 dR_left_70 (by decide) ?_
    refine g_locals (lv' := [(0, .ref (ad 0)), (1, iv a1), (2, iv a2), (3, iv x3_66), (4, iv (v4 + 1))]) rfl ?_
    exact hr31 _ _  _ h
  have pC31 : ∀ (r31 : Int → Int → gSt → Prop) (X31_73 : Int → gSt → Prop) (hr31 : ∀ (v3 : Int) (v4 : Int) (M : gSt), r31 v3 v4 M → gG p l e (rmR 5 120) s m args below meth c Q D cl A (wR ad cI ci) 5 31 [(0, .ref (ad 0)), (1, iv a1), (2, iv a2), (3, iv v3), (4, iv v4)] [] M) (hX31_73 : ∀ (v3 : Int) (M : gSt), X31_73 v3 M → gG p l e (rmR 5 120) s m args below meth c Q D cl A (wR ad cI ci) 5 73 [(3, iv v3)] [] M) (v3 : Int) (v4 : Int) (M : gSt), wC_Rleft_31 a1 a2 k r31 X31_73 v3 v4 M → gG p l e (rmR 5 120) s m args below meth c Q D cl A (wR ad cI ci) 5 31 [(0, .ref (ad 0)), (1, iv a1), (2, iv a2), (3, iv v3), (4, iv v4)] [] M := by
    intro r31 X31_73 hr31 hX31_73 v3 v4 M h
    unfold wC_Rleft_31 at h
    refine g_iload C dR_left_31 rfl ?_
    refine g_aload_n C dR_left_33 rfl ?_
    refine rf_s C hci dR_left_34 ?_
    refine g_iconst C dR_left_37 ?_
    refine g_iald C (n := 536) dR_left_38 rfl (by decide) ⟨by decide, by decide⟩ ?_
    refine g_icmp_ge C 73 dR_left_39 (by decide) (fun hc => ?_) (fun hc => ?_)
    · replace h := h.1 hc
      refine g_locals (lv' := [(3, iv v3)]) rfl ?_
      exact hX31_73 _  _ h
    · replace h := h.2 hc
      refine g_iload_n C dR_left_42 rfl ?_
      refine g_aload_n C dR_left_43 rfl ?_
      refine g_iload C dR_left_44 rfl ?_
      refine g_iconst C dR_left_46 ?_
      refine g_callVi C (nargs := 2) (o := 0) (st := [iv v3]) (m_Rof hci h) rfl (by decide) hci rfl gd_of (by decide +kernel) ⟨rfl, rfl⟩ dR_left_47 ⟨by decide, by decide⟩ rfl rfl (Nat.le_of_ble_eq_true rfl) ?_
      intro r47c M47 h
      refine g_iload_n C dR_left_50 rfl ?_
      refine g_icmp_ne C 64 dR_left_51 (by decide) (fun hc => ?_) (fun hc => ?_)
      · replace h := h.1 hc
        refine g_iconst C dR_left_64 ?_
        refine g_locals (lv' := [(0, .ref (ad 0)), (1, iv a1), (2, iv a2), (4, iv v4)]) rfl ?_
        exact pB65 r31 X31_73 hr31 hX31_73 _ _ _ _ h
      · replace h := h.2 hc
        refine g_aload_n C dR_left_54 rfl ?_
        refine g_iload C dR_left_55 rfl ?_
        refine g_iload_n C dR_left_57 rfl ?_
        refine g_callVi C (nargs := 2) (o := 0) (st := [iv v3]) (m_RshareOf hci h) rfl (by decide) hci rfl gd_shareOf (by decide +kernel) ⟨rfl, rfl⟩ dR_left_58 ⟨by decide, by decide⟩ rfl rfl (Nat.le_of_ble_eq_true rfl) ?_
        intro r58c M58 h
        refine g_goto C 65 dR_left_61 (by decide) ?_
        refine g_locals (lv' := [(0, .ref (ad 0)), (1, iv a1), (2, iv a2), (4, iv v4)]) rfl ?_
        exact pB65 r31 X31_73 hr31 hX31_73 _ _ _ _ h
  have pL31 : ∀  (X31_73 : Int → gSt → Prop) (hX31_73 : ∀ (v3 : Int) (M : gSt), X31_73 v3 M → gG p l e (rmR 5 120) s m args below meth c Q D cl A (wR ad cI ci) 5 73 [(3, iv v3)] [] M) (n : Nat) (v3 : Int) (v4 : Int) (M : gSt), wL_Rleft_31 a1 a2 k  X31_73 n v3 v4 M → gG p l e (rmR 5 120) s m args below meth c Q D cl A (wR ad cI ci) 5 31 [(0, .ref (ad 0)), (1, iv a1), (2, iv a2), (3, iv v3), (4, iv v4)] [] M := by
    intro  X31_73 hX31_73 n
    induction n with
    | zero => intro v3 v4 M h; exact h.elim
    | succ n ih =>
      intro v3 v4 M h
      exact pC31  (wL_Rleft_31 a1 a2 k  X31_73 n) X31_73 ih hX31_73 v3 v4 M h
  refine g_locals (lv' := [(0, .ref (ad 0)), (1, iv a1), (2, iv a2)]) rfl ?_
  unfold w_Rleft at h
  refine g_aload_n C dR_left_0 rfl ?_
  refine g_iload_n C dR_left_1 rfl ?_
  refine g_callVi C (nargs := 1) (o := 0) (st := []) (m_RisThing hci h) rfl (by decide) hci rfl gd_isThing (by decide +kernel) ⟨rfl, rfl⟩ dR_left_2 ⟨by decide, by decide⟩ rfl rfl (Nat.le_of_ble_eq_true rfl) ?_
  intro r2c M2 h
  refine g_if_eq C 15 dR_left_5 (by decide) (fun hc => ?_) (fun hc => ?_)
  · replace h := h.1 hc
    refine g_locals (lv' := [(0, .ref (ad 0))]) rfl ?_
    exact pB15  _ h
  · replace h := h.2 hc
    refine g_iload_n C dR_left_8 rfl ?_
    refine g_callSi C (nargs := 1) (st := []) (m_RisLaw hci h) gd_isLaw (by decide +kernel) ⟨rfl, rfl⟩ dR_left_9 ⟨by decide, by decide⟩ rfl rfl (Nat.le_of_ble_eq_true rfl) ?_
    intro r9c M9 h
    refine g_if_ne C 21 dR_left_12 (by decide) (fun hc => ?_) (fun hc => ?_)
    · replace h := h.1 hc
      refine g_aload_n C dR_left_21 rfl ?_
      refine g_iload_n C dR_left_22 rfl ?_
      refine g_iconst C dR_left_23 ?_
      refine g_callVi C (nargs := 2) (o := 0) (st := []) (m_Rits hci h) rfl (by decide) hci rfl gd_its (by decide +kernel) ⟨rfl, rfl⟩ dR_left_24 ⟨by decide, by decide⟩ rfl rfl (Nat.le_of_ble_eq_true rfl) ?_
      intro r24c M24 h
      refine g_istore_n C dR_left_27 (by decide) rfl ?_
      refine g_locals (lv' := [(0, .ref (ad 0)), (1, iv a1), (2, iv a2), (3, iv r24c)]) rfl ?_
      refine g_iconst C dR_left_28 ?_
      refine g_istore C dR_left_29 (by decide) rfl ?_
      refine g_locals (lv' := [(0, .ref (ad 0)), (1, iv a1), (2, iv a2), (3, iv r24c), (4, iv 0)]) rfl ?_
      refine g_locals (lv' := [(0, .ref (ad 0)), (1, iv a1), (2, iv a2), (3, iv r24c), (4, iv 0)]) rfl ?_
      obtain ⟨n, h⟩ := h
      refine pL31 _ ?_ n _ _ _ h
      · intro u3_31 M31 h
        refine g_iload_n C dR_left_73 rfl ?_
        exact hR _ _ _ _ dR_left_74 rfl h
    · replace h := h.2 hc
      refine g_locals (lv' := [(0, .ref (ad 0))]) rfl ?_
      exact pB15  _ h
def w_RisPaper (a1 : Int) (a2 : Int) (a3 : Int) (M : gSt) (k : Int → gSt → Prop) : Prop :=
w_RisThing a1 M (fun r2c M2 => 
  (wrap r2c = 0 →
    k 0 M2) ∧
  (¬ wrap r2c = 0 →
    w_RisThing a2 M2 (fun r10c M10 => 
    (wrap r10c = 0 →
      k 0 M10) ∧
    (¬ wrap r10c = 0 →

      (wrap a1 = wrap a2 →
        k 0 M10) ∧
      (¬ wrap a1 = wrap a2 →
        w_Rin a3 1 8 M10 (fun r25c M25 => 
        (wrap r25c = 0 →
          k 0 M25) ∧
        (¬ wrap r25c = 0 →
          k 1 M25)))))))
set_option maxHeartbeats 4000000 in
set_option maxRecDepth 100000 in
theorem m_RisPaper {l : Launch} {D : va_G} {cl : List vw_C} {tys : List (ClassId × FieldType)} {ad : Nat → Nat} {cI : ClassId} {ci : Nat} (hci : cl[ci]? = some (RX9, TX9, 23)) {a1 : Int} {a2 : Int} {a3 : Int} {M : gSt} {k : Int → gSt → Prop} (h : w_RisPaper a1 a2 a3 M k) : MOi l yX9_isPaper cX9_isPaper 4 .boolean (rmR 2 43) D cl ((cI, .int) :: tys) (wR ad cI ci) tR [.ref (ad 0), iv a1, iv a2, iv a3] M k := by
  refine moi_intro (by decide +kernel) (Nat.le_of_ble_eq_true rfl) wi_198 ?_
  intro p e s m args below meth c A Q C hR
  refine g_locals (lv' := [(0, .ref (ad 0)), (1, iv a1), (2, iv a2), (3, iv a3)]) rfl ?_
  unfold w_RisPaper at h
  refine g_aload_n C dR_isPaper_0 rfl ?_
  refine g_iload_n C dR_isPaper_1 rfl ?_
  refine g_callVi C (nargs := 1) (o := 0) (st := []) (m_RisThing hci h) rfl (by decide) hci rfl gd_isThing (by decide +kernel) ⟨rfl, rfl⟩ dR_isPaper_2 ⟨by decide, by decide⟩ rfl rfl (Nat.le_of_ble_eq_true rfl) ?_
  intro r2c M2 h
  refine g_if_eq C 35 dR_isPaper_5 (by decide) (fun hc => ?_) (fun hc => ?_)
  · replace h := h.1 hc
    refine g_iconst C dR_isPaper_35 ?_
    exact hR _ _ _ _ dR_isPaper_36 rfl h
  · replace h := h.2 hc
    refine g_aload_n C dR_isPaper_8 rfl ?_
    refine g_iload_n C dR_isPaper_9 rfl ?_
    refine g_callVi C (nargs := 1) (o := 0) (st := []) (m_RisThing hci h) rfl (by decide) hci rfl gd_isThing (by decide +kernel) ⟨rfl, rfl⟩ dR_isPaper_10 ⟨by decide, by decide⟩ rfl rfl (Nat.le_of_ble_eq_true rfl) ?_
    intro r10c M10 h
    refine g_if_eq C 35 dR_isPaper_13 (by decide) (fun hc => ?_) (fun hc => ?_)
    · replace h := h.1 hc
      refine g_iconst C dR_isPaper_35 ?_
      exact hR _ _ _ _ dR_isPaper_36 rfl h
    · replace h := h.2 hc
      refine g_iload_n C dR_isPaper_16 rfl ?_
      refine g_iload_n C dR_isPaper_17 rfl ?_
      refine g_icmp_eq C 35 dR_isPaper_18 (by decide) (fun hc => ?_) (fun hc => ?_)
      · replace h := h.1 hc
        refine g_iconst C dR_isPaper_35 ?_
        exact hR _ _ _ _ dR_isPaper_36 rfl h
      · replace h := h.2 hc
        refine g_iload_n C dR_isPaper_21 rfl ?_
        refine g_iconst C dR_isPaper_22 ?_
        refine g_bipush C dR_isPaper_23 rfl ?_
        refine g_callSi C (nargs := 3) (st := []) (m_Rin hci h) gd_in (by decide +kernel) ⟨rfl, rfl⟩ dR_isPaper_25 ⟨by decide, by decide⟩ rfl rfl (Nat.le_of_ble_eq_true rfl) ?_
        intro r25c M25 h
        refine g_if_eq C 35 dR_isPaper_28 (by decide) (fun hc => ?_) (fun hc => ?_)
        · replace h := h.1 hc
          refine g_iconst C dR_isPaper_35 ?_
          exact hR _ _ _ _ dR_isPaper_36 rfl h
        · replace h := h.2 hc
          refine g_iconst C dR_isPaper_31 ?_
          refine g_goto C 36 dR_isPaper_32 (by decide) ?_
          exact hR _ _ _ _ dR_isPaper_36 rfl h
def w_RaddPaper (a1 : Int) (a2 : Int) (a3 : Int) (M : gSt) (k : gSt → Prop) : Prop :=
∀ x4_12 : Int, x4_12 = 160 + (3 * (M 1 3)) → ((0 ≤ x4_12 ∧ x4_12 < 536) ∧ (∀ M21 : gSt, M21 = wr M 1 x4_12 a1 → ((0 ≤ x4_12 + 1 ∧ x4_12 + 1 < 536) ∧ (∀ M31 : gSt, M31 = wr M21 1 (x4_12 + 1) a2 → ((0 ≤ x4_12 + 2 ∧ x4_12 + 2 < 536) ∧ (∀ M41 : gSt, M41 = wr M31 1 (x4_12 + 2) a3 → (∀ M51 : gSt, M51 = wr M41 1 3 ((M41 1 3) + 1) → (k M51))))))))
set_option maxHeartbeats 4000000 in
set_option maxRecDepth 100000 in
theorem m_RaddPaper {l : Launch} {D : va_G} {cl : List vw_C} {tys : List (ClassId × FieldType)} {ad : Nat → Nat} {cI : ClassId} {ci : Nat} (hci : cl[ci]? = some (RX9, TX9, 23)) {a1 : Int} {a2 : Int} {a3 : Int} {M : gSt} {k : gSt → Prop} (h : w_RaddPaper a1 a2 a3 M k) : MOv l yX9_addPaper cX9_addPaper 5 (rmR 0 0) D cl ((cI, .int) :: tys) (wR ad cI ci) tR [.ref (ad 0), iv a1, iv a2, iv a3] M k := by
  refine mov_intro (by decide +kernel) (Nat.le_of_ble_eq_true rfl) wi_199 ?_
  intro p e s m args below meth c A Q C hR
  refine g_locals (lv' := [(0, .ref (ad 0)), (1, iv a1), (2, iv a2), (3, iv a3)]) rfl ?_
  unfold w_RaddPaper at h
  refine g_sipush C dR_addPaper_0 rfl ?_
  refine g_iconst C dR_addPaper_3 ?_
  refine g_aload_n C dR_addPaper_4 rfl ?_
  refine rf_s C hci dR_addPaper_5 ?_
  refine g_iconst C dR_addPaper_8 ?_
  refine g_iald C (n := 536) dR_addPaper_9 rfl (by decide) ⟨by decide, by decide⟩ ?_
  refine g_imul C dR_addPaper_10 ?_
  refine g_iadd C dR_addPaper_11 ?_
  refine g_name (fun x4_12 hx4_12 => ?_)
  replace h := h x4_12 hx4_12
  refine g_istore C dR_addPaper_12 (by decide) rfl ?_
  refine g_locals (lv' := [(0, .ref (ad 0)), (1, iv a1), (2, iv a2), (3, iv a3), (4, iv x4_12)]) rfl ?_
  refine g_aload_n C dR_addPaper_14 rfl ?_
  refine rf_s C hci dR_addPaper_15 ?_
  refine g_iload C dR_addPaper_18 rfl ?_
  refine g_iload_n C dR_addPaper_20 rfl ?_
  refine g_iast C (n := 536) dR_addPaper_21 rfl (by decide) h.1 ?_
  replace h := h.2
  refine g_memname (fun M21 hM21 => ?_)
  replace h := h M21 hM21
  refine g_aload_n C dR_addPaper_22 rfl ?_
  refine rf_s C hci dR_addPaper_23 ?_
  refine g_iload C dR_addPaper_26 rfl ?_
  refine g_iconst C dR_addPaper_28 ?_
  refine g_iadd C dR_addPaper_29 ?_
  refine g_iload_n C dR_addPaper_30 rfl ?_
  refine g_iast C (n := 536) dR_addPaper_31 rfl (by decide) h.1 ?_
  replace h := h.2
  refine g_memname (fun M31 hM31 => ?_)
  replace h := h M31 hM31
  refine g_aload_n C dR_addPaper_32 rfl ?_
  refine rf_s C hci dR_addPaper_33 ?_
  refine g_iload C dR_addPaper_36 rfl ?_
  refine g_iconst C dR_addPaper_38 ?_
  refine g_iadd C dR_addPaper_39 ?_
  refine g_iload_n C dR_addPaper_40 rfl ?_
  refine g_iast C (n := 536) dR_addPaper_41 rfl (by decide) h.1 ?_
  replace h := h.2
  refine g_memname (fun M41 hM41 => ?_)
  replace h := h M41 hM41
  refine g_aload_n C dR_addPaper_42 rfl ?_
  refine rf_s C hci dR_addPaper_43 ?_
  refine g_iconst C dR_addPaper_46 ?_
  refine g_dup2 C dR_addPaper_47 rfl rfl ?_
  refine g_iald C (n := 536) dR_addPaper_48 rfl (by decide) ⟨by decide, by decide⟩ ?_
  refine g_iconst C dR_addPaper_49 ?_
  refine g_iadd C dR_addPaper_50 ?_
  refine g_iast C (n := 536) dR_addPaper_51 rfl (by decide) ⟨by decide, by decide⟩ ?_
  refine g_memname (fun M51 hM51 => ?_)
  replace h := h M51 hM51
  exact hR _ _ _ dR_addPaper_52 h
def w_Rpaper (a1 : Int) (a2 : Int) (a3 : Int) (M : gSt) (k : Int → gSt → Prop) : Prop :=
w_RisPaper a1 a2 a3 M (fun r4c M4 => 
  (¬ wrap r4c = 0 →

    (¬ wrap (M4 1 3) = 6 →
      w_RaddPaper a1 a2 a3 M4 (fun M37 => k ((M37 1 3) - 1) M37)) ∧
    (wrap (M4 1 3) = 6 →
      w_Rerror 4 M4 (fun r29c M29 => k r29c M29))) ∧
  (wrap r4c = 0 →
    w_Rerror 1 M4 (fun r12c M12 => k r12c M12)))
set_option maxHeartbeats 4000000 in
set_option maxRecDepth 100000 in
theorem m_Rpaper {l : Launch} {D : va_G} {cl : List vw_C} {tys : List (ClassId × FieldType)} {ad : Nat → Nat} {cI : ClassId} {ci : Nat} (hci : cl[ci]? = some (RX9, TX9, 23)) {a1 : Int} {a2 : Int} {a3 : Int} {M : gSt} {k : Int → gSt → Prop} (h : w_Rpaper a1 a2 a3 M k) : MOi l yX9_paper cX9_paper 4 .int (rmR 3 66) D cl ((cI, .int) :: tys) (wR ad cI ci) tR [.ref (ad 0), iv a1, iv a2, iv a3] M k := by
  refine moi_intro (by decide +kernel) (Nat.le_of_ble_eq_true rfl) wi_206 ?_
  intro p e s m args below meth c A Q C hR
  refine g_locals (lv' := [(0, .ref (ad 0)), (1, iv a1), (2, iv a2), (3, iv a3)]) rfl ?_
  unfold w_Rpaper at h
  refine g_aload_n C dR_paper_0 rfl ?_
  refine g_iload_n C dR_paper_1 rfl ?_
  refine g_iload_n C dR_paper_2 rfl ?_
  refine g_iload_n C dR_paper_3 rfl ?_
  refine g_callVi C (nargs := 3) (o := 0) (st := []) (m_RisPaper hci h) rfl (by decide) hci rfl gd_isPaper (by decide +kernel) ⟨rfl, rfl⟩ dR_paper_4 ⟨by decide, by decide⟩ rfl rfl (Nat.le_of_ble_eq_true rfl) ?_
  intro r4c M4 h
  refine g_if_ne C 16 dR_paper_7 (by decide) (fun hc => ?_) (fun hc => ?_)
  · replace h := h.1 hc
    refine g_aload_n C dR_paper_16 rfl ?_
    refine rf_s C hci dR_paper_17 ?_
    refine g_iconst C dR_paper_20 ?_
    refine g_iald C (n := 536) dR_paper_21 rfl (by decide) ⟨by decide, by decide⟩ ?_
    refine g_bipush C dR_paper_22 rfl ?_
    refine g_icmp_ne C 33 dR_paper_24 (by decide) (fun hc => ?_) (fun hc => ?_)
    · replace h := h.1 hc
      refine g_aload_n C dR_paper_33 rfl ?_
      refine g_iload_n C dR_paper_34 rfl ?_
      refine g_iload_n C dR_paper_35 rfl ?_
      refine g_iload_n C dR_paper_36 rfl ?_
      refine g_callVv C (nargs := 3) (o := 0) (st := []) (m_RaddPaper hci h) rfl (by decide) hci rfl gd_addPaper (by decide +kernel) ⟨rfl, rfl⟩ dR_paper_37 ⟨by decide, by decide⟩ rfl rfl (Nat.le_of_ble_eq_true rfl) ?_
      intro M37 h
      refine g_aload_n C dR_paper_40 rfl ?_
      refine rf_s C hci dR_paper_41 ?_
      refine g_iconst C dR_paper_44 ?_
      refine g_iald C (n := 536) dR_paper_45 rfl (by decide) ⟨by decide, by decide⟩ ?_
      refine g_iconst C dR_paper_46 ?_
      refine g_isub C dR_paper_47 ?_
      exact hR _ _ _ _ dR_paper_48 rfl h
    · replace h := h.2 hc
      refine g_aload_n C dR_paper_27 rfl ?_
      refine g_iconst C dR_paper_28 ?_
      refine g_callVi C (nargs := 1) (o := 0) (st := []) (m_Rerror hci h) rfl (by decide) hci rfl gd_error (by decide +kernel) ⟨rfl, rfl⟩ dR_paper_29 ⟨by decide, by decide⟩ rfl rfl (Nat.le_of_ble_eq_true rfl) ?_
      intro r29c M29 h
      exact hR _ _ _ _ dR_paper_32 rfl h
  · replace h := h.2 hc
    refine g_aload_n C dR_paper_10 rfl ?_
    refine g_iconst C dR_paper_11 ?_
    refine g_callVi C (nargs := 1) (o := 0) (st := []) (m_Rerror hci h) rfl (by decide) hci rfl gd_error (by decide +kernel) ⟨rfl, rfl⟩ dR_paper_12 ⟨by decide, by decide⟩ rfl rfl (Nat.le_of_ble_eq_true rfl) ?_
    intro r12c M12 h
    exact hR _ _ _ _ dR_paper_15 rfl h
def wB_Rweigh_28 (a1 : Int) (a2 : Int) (a3 : Int) (k : Int → gSt → Prop)   (M : gSt) : Prop :=
w_Rerror 1 M (fun r30c M30 => k r30c M30)
def w_Rweigh (a1 : Int) (a2 : Int) (a3 : Int) (M : gSt) (k : Int → gSt → Prop) : Prop :=
w_RisThing a1 M (fun r2c M2 => 
  (wrap r2c = 0 →
    wB_Rweigh_28 a1 a2 a3 k   M2) ∧
  (¬ wrap r2c = 0 →
    w_Rin a2 0 9999999 M2 (fun r12c M12 => 
    (wrap r12c = 0 →
      wB_Rweigh_28 a1 a2 a3 k   M12) ∧
    (¬ wrap r12c = 0 →
      w_Rin a3 0 99 M12 (fun r22c M22 => 
      (¬ wrap r22c = 0 →

        (¬ wrap (M22 1 4) = 8 →
          ∀ x4_63 : Int, x4_63 = 178 + (3 * (M22 1 4)) → ((0 ≤ x4_63 ∧ x4_63 < 536) ∧ (∀ M72 : gSt, M72 = wr M22 1 x4_63 a1 → ((0 ≤ x4_63 + 1 ∧ x4_63 + 1 < 536) ∧ (∀ M82 : gSt, M82 = wr M72 1 (x4_63 + 1) a2 → ((0 ≤ x4_63 + 2 ∧ x4_63 + 2 < 536) ∧ (∀ M92 : gSt, M92 = wr M82 1 (x4_63 + 2) a3 → (∀ M102 : gSt, M102 = wr M92 1 4 ((M92 1 4) + 1) → (k ((M102 1 4) - 1) M102))))))))) ∧
        (wrap (M22 1 4) = 8 →
          w_Rerror 4 M22 (fun r47c M47 => k r47c M47))) ∧
      (wrap r22c = 0 →
        wB_Rweigh_28 a1 a2 a3 k   M22))))))
set_option maxHeartbeats 4000000 in
set_option maxRecDepth 100000 in
theorem m_Rweigh {l : Launch} {D : va_G} {cl : List vw_C} {tys : List (ClassId × FieldType)} {ad : Nat → Nat} {cI : ClassId} {ci : Nat} (hci : cl[ci]? = some (RX9, TX9, 23)) {a1 : Int} {a2 : Int} {a3 : Int} {M : gSt} {k : Int → gSt → Prop} (h : w_Rweigh a1 a2 a3 M k) : MOi l yX9_weigh cX9_weigh 5 .int (rmR 2 43) D cl ((cI, .int) :: tys) (wR ad cI ci) tR [.ref (ad 0), iv a1, iv a2, iv a3] M k := by
  refine moi_intro (by decide +kernel) (Nat.le_of_ble_eq_true rfl) wi_207 ?_
  intro p e s m args below meth c A Q C hR
  have pB28 : ∀    (M : gSt), wB_Rweigh_28 a1 a2 a3 k   M → gG p l e (rmR 2 43) s m args below meth c Q D cl A (wR ad cI ci) 5 28 [(0, .ref (ad 0))] [] M := by
    intro    M h
    unfold wB_Rweigh_28 at h
    refine g_aload_n C dR_weigh_28 rfl ?_
    refine g_iconst C dR_weigh_29 ?_
    refine g_callVi C (nargs := 1) (o := 0) (st := []) (m_Rerror hci h) rfl (by decide) hci rfl gd_error (by decide +kernel) ⟨rfl, rfl⟩ dR_weigh_30 ⟨by decide, by decide⟩ rfl rfl (Nat.le_of_ble_eq_true rfl) ?_
    intro r30c M30 h
    exact hR _ _ _ _ dR_weigh_33 rfl h
  refine g_locals (lv' := [(0, .ref (ad 0)), (1, iv a1), (2, iv a2), (3, iv a3)]) rfl ?_
  unfold w_Rweigh at h
  refine g_aload_n C dR_weigh_0 rfl ?_
  refine g_iload_n C dR_weigh_1 rfl ?_
  refine g_callVi C (nargs := 1) (o := 0) (st := []) (m_RisThing hci h) rfl (by decide) hci rfl gd_isThing (by decide +kernel) ⟨rfl, rfl⟩ dR_weigh_2 ⟨by decide, by decide⟩ rfl rfl (Nat.le_of_ble_eq_true rfl) ?_
  intro r2c M2 h
  refine g_if_eq C 28 dR_weigh_5 (by decide) (fun hc => ?_) (fun hc => ?_)
  · replace h := h.1 hc
    refine g_locals (lv' := [(0, .ref (ad 0))]) rfl ?_
    exact pB28  _ h
  · replace h := h.2 hc
    refine g_iload_n C dR_weigh_8 rfl ?_
    refine g_iconst C dR_weigh_9 ?_
    refine g_ldc C 9999999 wi_34 rfl dR_weigh_10 ?_
    refine g_callSi C (nargs := 3) (st := []) (m_Rin hci h) gd_in (by decide +kernel) ⟨rfl, rfl⟩ dR_weigh_12 ⟨by decide, by decide⟩ rfl rfl (Nat.le_of_ble_eq_true rfl) ?_
    intro r12c M12 h
    refine g_if_eq C 28 dR_weigh_15 (by decide) (fun hc => ?_) (fun hc => ?_)
    · replace h := h.1 hc
      refine g_locals (lv' := [(0, .ref (ad 0))]) rfl ?_
      exact pB28  _ h
    · replace h := h.2 hc
      refine g_iload_n C dR_weigh_18 rfl ?_
      refine g_iconst C dR_weigh_19 ?_
      refine g_bipush C dR_weigh_20 rfl ?_
      refine g_callSi C (nargs := 3) (st := []) (m_Rin hci h) gd_in (by decide +kernel) ⟨rfl, rfl⟩ dR_weigh_22 ⟨by decide, by decide⟩ rfl rfl (Nat.le_of_ble_eq_true rfl) ?_
      intro r22c M22 h
      refine g_if_ne C 34 dR_weigh_25 (by decide) (fun hc => ?_) (fun hc => ?_)
      · replace h := h.1 hc
        refine g_aload_n C dR_weigh_34 rfl ?_
        refine rf_s C hci dR_weigh_35 ?_
        refine g_iconst C dR_weigh_38 ?_
        refine g_iald C (n := 536) dR_weigh_39 rfl (by decide) ⟨by decide, by decide⟩ ?_
        refine g_bipush C dR_weigh_40 rfl ?_
        refine g_icmp_ne C 51 dR_weigh_42 (by decide) (fun hc => ?_) (fun hc => ?_)
        · replace h := h.1 hc
          refine g_sipush C dR_weigh_51 rfl ?_
          refine g_iconst C dR_weigh_54 ?_
          refine g_aload_n C dR_weigh_55 rfl ?_
          refine rf_s C hci dR_weigh_56 ?_
          refine g_iconst C dR_weigh_59 ?_
          refine g_iald C (n := 536) dR_weigh_60 rfl (by decide) ⟨by decide, by decide⟩ ?_
          refine g_imul C dR_weigh_61 ?_
          refine g_iadd C dR_weigh_62 ?_
          refine g_name (fun x4_63 hx4_63 => ?_)
          replace h := h x4_63 hx4_63
          refine g_istore C dR_weigh_63 (by decide) rfl ?_
          refine g_locals (lv' := [(0, .ref (ad 0)), (1, iv a1), (2, iv a2), (3, iv a3), (4, iv x4_63)]) rfl ?_
          refine g_aload_n C dR_weigh_65 rfl ?_
          refine rf_s C hci dR_weigh_66 ?_
          refine g_iload C dR_weigh_69 rfl ?_
          refine g_iload_n C dR_weigh_71 rfl ?_
          refine g_iast C (n := 536) dR_weigh_72 rfl (by decide) h.1 ?_
          replace h := h.2
          refine g_memname (fun M72 hM72 => ?_)
          replace h := h M72 hM72
          refine g_aload_n C dR_weigh_73 rfl ?_
          refine rf_s C hci dR_weigh_74 ?_
          refine g_iload C dR_weigh_77 rfl ?_
          refine g_iconst C dR_weigh_79 ?_
          refine g_iadd C dR_weigh_80 ?_
          refine g_iload_n C dR_weigh_81 rfl ?_
          refine g_iast C (n := 536) dR_weigh_82 rfl (by decide) h.1 ?_
          replace h := h.2
          refine g_memname (fun M82 hM82 => ?_)
          replace h := h M82 hM82
          refine g_aload_n C dR_weigh_83 rfl ?_
          refine rf_s C hci dR_weigh_84 ?_
          refine g_iload C dR_weigh_87 rfl ?_
          refine g_iconst C dR_weigh_89 ?_
          refine g_iadd C dR_weigh_90 ?_
          refine g_iload_n C dR_weigh_91 rfl ?_
          refine g_iast C (n := 536) dR_weigh_92 rfl (by decide) h.1 ?_
          replace h := h.2
          refine g_memname (fun M92 hM92 => ?_)
          replace h := h M92 hM92
          refine g_aload_n C dR_weigh_93 rfl ?_
          refine rf_s C hci dR_weigh_94 ?_
          refine g_iconst C dR_weigh_97 ?_
          refine g_dup2 C dR_weigh_98 rfl rfl ?_
          refine g_iald C (n := 536) dR_weigh_99 rfl (by decide) ⟨by decide, by decide⟩ ?_
          refine g_iconst C dR_weigh_100 ?_
          refine g_iadd C dR_weigh_101 ?_
          refine g_iast C (n := 536) dR_weigh_102 rfl (by decide) ⟨by decide, by decide⟩ ?_
          refine g_memname (fun M102 hM102 => ?_)
          replace h := h M102 hM102
          refine g_aload_n C dR_weigh_103 rfl ?_
          refine rf_s C hci dR_weigh_104 ?_
          refine g_iconst C dR_weigh_107 ?_
          refine g_iald C (n := 536) dR_weigh_108 rfl (by decide) ⟨by decide, by decide⟩ ?_
          refine g_iconst C dR_weigh_109 ?_
          refine g_isub C dR_weigh_110 ?_
          exact hR _ _ _ _ dR_weigh_111 rfl h
        · replace h := h.2 hc
          refine g_aload_n C dR_weigh_45 rfl ?_
          refine g_iconst C dR_weigh_46 ?_
          refine g_callVi C (nargs := 1) (o := 0) (st := []) (m_Rerror hci h) rfl (by decide) hci rfl gd_error (by decide +kernel) ⟨rfl, rfl⟩ dR_weigh_47 ⟨by decide, by decide⟩ rfl rfl (Nat.le_of_ble_eq_true rfl) ?_
          intro r47c M47 h
          exact hR _ _ _ _ dR_weigh_50 rfl h
      · replace h := h.2 hc
        refine g_locals (lv' := [(0, .ref (ad 0))]) rfl ?_
        exact pB28  _ h
def w_Rforget (a1 : Int) (M : gSt) (k : Int → gSt → Prop) : Prop :=
w_Rin a1 0 1 M (fun r3c M3 => 
  (¬ wrap r3c = 0 →
    (0 ≤ 3 + a1 ∧ 3 + a1 < 536) ∧ (∀ x2_23 : Int, x2_23 = M3 1 (3 + a1) → ((0 ≤ 3 + a1 ∧ 3 + a1 < 536) ∧ (∀ M32 : gSt, M32 = wr M3 1 (3 + a1) 0 → (k x2_23 M32))))) ∧
  (wrap r3c = 0 →
    w_Rerror 1 M3 (fun r11c M11 => k r11c M11)))
set_option maxHeartbeats 4000000 in
set_option maxRecDepth 100000 in
theorem m_Rforget {l : Launch} {D : va_G} {cl : List vw_C} {tys : List (ClassId × FieldType)} {ad : Nat → Nat} {cI : ClassId} {ci : Nat} (hci : cl[ci]? = some (RX9, TX9, 23)) {a1 : Int} {M : gSt} {k : Int → gSt → Prop} (h : w_Rforget a1 M k) : MOi l yX9_forget cX9_forget 3 .int (rmR 1 22) D cl ((cI, .int) :: tys) (wR ad cI ci) tR [.ref (ad 0), iv a1] M k := by
  refine moi_intro (by decide +kernel) (Nat.le_of_ble_eq_true rfl) wi_208 ?_
  intro p e s m args below meth c A Q C hR
  refine g_locals (lv' := [(0, .ref (ad 0)), (1, iv a1)]) rfl ?_
  unfold w_Rforget at h
  refine g_iload_n C dR_forget_0 rfl ?_
  refine g_iconst C dR_forget_1 ?_
  refine g_iconst C dR_forget_2 ?_
  refine g_callSi C (nargs := 3) (st := []) (m_Rin hci h) gd_in (by decide +kernel) ⟨rfl, rfl⟩ dR_forget_3 ⟨by decide, by decide⟩ rfl rfl (Nat.le_of_ble_eq_true rfl) ?_
  intro r3c M3 h
  refine g_if_ne C 15 dR_forget_6 (by decide) (fun hc => ?_) (fun hc => ?_)
  · replace h := h.1 hc
    refine g_aload_n C dR_forget_15 rfl ?_
    refine rf_s C hci dR_forget_16 ?_
    refine g_iconst C dR_forget_19 ?_
    refine g_iload_n C dR_forget_20 rfl ?_
    refine g_iadd C dR_forget_21 ?_
    refine g_iald C (n := 536) dR_forget_22 rfl (by decide) h.1 ?_
    replace h := h.2
    refine g_name (fun x2_23 hx2_23 => ?_)
    replace h := h x2_23 hx2_23
    refine g_istore_n C dR_forget_23 (by decide) rfl ?_
    refine g_locals (lv' := [(0, .ref (ad 0)), (1, iv a1), (2, iv x2_23)]) rfl ?_
    refine g_aload_n C dR_forget_24 rfl ?_
    refine rf_s C hci dR_forget_25 ?_
    refine g_iconst C dR_forget_28 ?_
    refine g_iload_n C dR_forget_29 rfl ?_
    refine g_iadd C dR_forget_30 ?_
    refine g_iconst C dR_forget_31 ?_
    refine g_iast C (n := 536) dR_forget_32 rfl (by decide) h.1 ?_
    replace h := h.2
    refine g_memname (fun M32 hM32 => ?_)
    replace h := h M32 hM32
    refine g_iload_n C dR_forget_33 rfl ?_
    exact hR _ _ _ _ dR_forget_34 rfl h
  · replace h := h.2 hc
    refine g_aload_n C dR_forget_9 rfl ?_
    refine g_iconst C dR_forget_10 ?_
    refine g_callVi C (nargs := 1) (o := 0) (st := []) (m_Rerror hci h) rfl (by decide) hci rfl gd_error (by decide +kernel) ⟨rfl, rfl⟩ dR_forget_11 ⟨by decide, by decide⟩ rfl rfl (Nat.le_of_ble_eq_true rfl) ?_
    intro r11c M11 h
    exact hR _ _ _ _ dR_forget_14 rfl h
def w_RallPapers  (M : gSt) (k : Int → gSt → Prop) : Prop :=
k ((xshl 1 (M 1 3)) - 1) M
set_option maxHeartbeats 4000000 in
set_option maxRecDepth 100000 in
theorem m_RallPapers {l : Launch} {D : va_G} {cl : List vw_C} {tys : List (ClassId × FieldType)} {ad : Nat → Nat} {cI : ClassId} {ci : Nat} (hci : cl[ci]? = some (RX9, TX9, 23))  {M : gSt} {k : Int → gSt → Prop} (h : w_RallPapers  M k) : MOi l yX9_allPapers cX9_allPapers 1 .int (rmR 0 0) D cl ((cI, .int) :: tys) (wR ad cI ci) tR [.ref (ad 0)] M k := by
  refine moi_intro (by decide +kernel) (Nat.le_of_ble_eq_true rfl) wi_209 ?_
  intro p e s m args below meth c A Q C hR
  refine g_locals (lv' := [(0, .ref (ad 0))]) rfl ?_
  unfold w_RallPapers at h
  refine g_iconst C dR_allPapers_0 ?_
  refine g_aload_n C dR_allPapers_1 rfl ?_
  refine rf_s C hci dR_allPapers_2 ?_
  refine g_iconst C dR_allPapers_5 ?_
  refine g_iald C (n := 536) dR_allPapers_6 rfl (by decide) ⟨by decide, by decide⟩ ?_
  refine g_ishl C dR_allPapers_7 ?_
  refine g_iconst C dR_allPapers_8 ?_
  refine g_isub C dR_allPapers_9 ?_
  exact hR _ _ _ _ dR_allPapers_10 rfl h
def w_RisHistory (a1 : Int) (M : gSt) (k : Int → gSt → Prop) : Prop :=
w_RallPapers  M (fun r3c M3 => w_Rin a1 0 r3c M3 (fun r6c M6 => (r6c = 0 ∨ r6c = 1) ∧ (k r6c M6)))
set_option maxHeartbeats 4000000 in
set_option maxRecDepth 100000 in
theorem m_RisHistory {l : Launch} {D : va_G} {cl : List vw_C} {tys : List (ClassId × FieldType)} {ad : Nat → Nat} {cI : ClassId} {ci : Nat} (hci : cl[ci]? = some (RX9, TX9, 23)) {a1 : Int} {M : gSt} {k : Int → gSt → Prop} (h : w_RisHistory a1 M k) : MOi l yX9_isHistory cX9_isHistory 2 .boolean (rmR 1 22) D cl ((cI, .int) :: tys) (wR ad cI ci) tR [.ref (ad 0), iv a1] M k := by
  refine moi_intro (by decide +kernel) (Nat.le_of_ble_eq_true rfl) wi_213 ?_
  intro p e s m args below meth c A Q C hR
  refine g_locals (lv' := [(0, .ref (ad 0)), (1, iv a1)]) rfl ?_
  unfold w_RisHistory at h
  refine g_iload_n C dR_isHistory_0 rfl ?_
  refine g_iconst C dR_isHistory_1 ?_
  refine g_aload_n C dR_isHistory_2 rfl ?_
  refine g_callVi C (nargs := 0) (o := 0) (st := [iv 0, iv a1]) (m_RallPapers hci h) rfl (by decide) hci rfl gd_allPapers (by decide +kernel) ⟨rfl, rfl⟩ dR_isHistory_3 ⟨by decide, by decide⟩ rfl rfl (Nat.le_of_ble_eq_true rfl) ?_
  intro r3c M3 h
  refine g_callSi C (nargs := 3) (st := []) (m_Rin hci h) gd_in (by decide +kernel) ⟨rfl, rfl⟩ dR_isHistory_6 ⟨by decide, by decide⟩ rfl rfl (Nat.le_of_ble_eq_true rfl) ?_
  intro r6c M6 h
  exact hR _ _ _ _ dR_isHistory_9 (zn_bool h.1).1 h.2
def wB_RgoesBy_65 (a1 : Int) (k : gSt → Prop) (r2 : Int → gSt → Prop) (X2_71 : gSt → Prop) (v2 : Int) (M : gSt) : Prop :=
r2 (v2 + 1) M
def wC_RgoesBy_2 (a1 : Int) (k : gSt → Prop) (r2 : Int → gSt → Prop) (X2_71 : gSt → Prop) (v2 : Int) (M : gSt) : Prop :=

  (wrap (M 1 3) ≤ wrap v2 →
    X2_71  M) ∧
  (wrap v2 < wrap (M 1 3) →

    (¬ wrap (xand (xshr a1 v2) 1) = 1 →
      wB_RgoesBy_65 a1 k r2 X2_71 v2 M) ∧
    (wrap (xand (xshr a1 v2) 1) = 1 →
      (0 ≤ 160 + (3 * v2) ∧ 160 + (3 * v2) < 536) ∧ ((0 ≤ (160 + (3 * v2)) + 1 ∧ (160 + (3 * v2)) + 1 < 536) ∧ ((0 ≤ (160 + (3 * v2)) + 2 ∧ (160 + (3 * v2)) + 2 < 536) ∧ (w_Rmoves (M 1 (160 + (3 * v2))) (M 1 ((160 + (3 * v2)) + 1)) (M 1 ((160 + (3 * v2)) + 2)) M (fun M62 => wB_RgoesBy_65 a1 k r2 X2_71 v2 M62))))))
def wL_RgoesBy_2 (a1 : Int) (k : gSt → Prop)  (X2_71 : gSt → Prop) : Nat → Int → gSt → Prop
  | 0 => fun _ _ => False
  | n + 1 => fun v2 M => wC_RgoesBy_2 a1 k  (wL_RgoesBy_2 a1 k  X2_71 n) X2_71 v2 M
def w_RgoesBy (a1 : Int) (M : gSt) (k : gSt → Prop) : Prop :=
∃ n, wL_RgoesBy_2 a1 k  (fun  M2 =>
    k M2) n 0 M
set_option maxHeartbeats 4000000 in
set_option maxRecDepth 100000 in
theorem m_RgoesBy {l : Launch} {D : va_G} {cl : List vw_C} {tys : List (ClassId × FieldType)} {ad : Nat → Nat} {cI : ClassId} {ci : Nat} (hci : cl[ci]? = some (RX9, TX9, 23)) {a1 : Int} {M : gSt} {k : gSt → Prop} (h : w_RgoesBy a1 M k) : MOv l yX9_goesBy cX9_goesBy 3 (rmR 2 53) D cl ((cI, .int) :: tys) (wR ad cI ci) tR [.ref (ad 0), iv a1] M k := by
  refine mov_intro (by decide +kernel) (Nat.le_of_ble_eq_true rfl) wi_214 ?_
  intro p e s m args below meth c A Q C hR
  have pB65 : ∀ (r2 : Int → gSt → Prop) (X2_71 : gSt → Prop) (hr2 : ∀ (v2 : Int) (M : gSt), r2 v2 M → gG p l e (rmR 2 53) s m args below meth c Q D cl A (wR ad cI ci) 3 2 [(0, .ref (ad 0)), (1, iv a1), (2, iv v2)] [] M) (hX2_71 : ∀  (M : gSt), X2_71  M → gG p l e (rmR 2 53) s m args below meth c Q D cl A (wR ad cI ci) 3 71 [] [] M) (v2 : Int) (M : gSt), wB_RgoesBy_65 a1 k r2 X2_71 v2 M → gG p l e (rmR 2 53) s m args below meth c Q D cl A (wR ad cI ci) 3 65 [(0, .ref (ad 0)), (1, iv a1), (2, iv v2)] [] M := by
    intro r2 X2_71 hr2 hX2_71 v2 M h
    unfold wB_RgoesBy_65 at h
    refine g_iinc C dR_goesBy_65 rfl (by decide) rfl ?_
    refine g_locals (lv' := [(0, .ref (ad 0)), (1, iv a1), (2, iv (v2 + 1))]) rfl ?_
    refine g_goto C 2 dR_goesBy_68 (by decide) ?_
    refine g_locals (lv' := [(0, .ref (ad 0)), (1, iv a1), (2, iv (v2 + 1))]) rfl ?_
    exact hr2 _  _ h
  have pC2 : ∀ (r2 : Int → gSt → Prop) (X2_71 : gSt → Prop) (hr2 : ∀ (v2 : Int) (M : gSt), r2 v2 M → gG p l e (rmR 2 53) s m args below meth c Q D cl A (wR ad cI ci) 3 2 [(0, .ref (ad 0)), (1, iv a1), (2, iv v2)] [] M) (hX2_71 : ∀  (M : gSt), X2_71  M → gG p l e (rmR 2 53) s m args below meth c Q D cl A (wR ad cI ci) 3 71 [] [] M) (v2 : Int) (M : gSt), wC_RgoesBy_2 a1 k r2 X2_71 v2 M → gG p l e (rmR 2 53) s m args below meth c Q D cl A (wR ad cI ci) 3 2 [(0, .ref (ad 0)), (1, iv a1), (2, iv v2)] [] M := by
    intro r2 X2_71 hr2 hX2_71 v2 M h
    unfold wC_RgoesBy_2 at h
    refine g_iload_n C dR_goesBy_2 rfl ?_
    refine g_aload_n C dR_goesBy_3 rfl ?_
    refine rf_s C hci dR_goesBy_4 ?_
    refine g_iconst C dR_goesBy_7 ?_
    refine g_iald C (n := 536) dR_goesBy_8 rfl (by decide) ⟨by decide, by decide⟩ ?_
    refine g_icmp_ge C 71 dR_goesBy_9 (by decide) (fun hc => ?_) (fun hc => ?_)
    · replace h := h.1 hc
      refine g_locals (lv' := []) rfl ?_
      exact hX2_71  _ h
    · replace h := h.2 hc
      refine g_iload_n C dR_goesBy_12 rfl ?_
      refine g_iload_n C dR_goesBy_13 rfl ?_
      refine g_ishr C dR_goesBy_14 ?_
      refine g_iconst C dR_goesBy_15 ?_
      refine g_iand C dR_goesBy_16 ?_
      refine g_iconst C dR_goesBy_17 ?_
      refine g_icmp_ne C 65 dR_goesBy_18 (by decide) (fun hc => ?_) (fun hc => ?_)
      · replace h := h.1 hc
        refine g_locals (lv' := [(0, .ref (ad 0)), (1, iv a1), (2, iv v2)]) rfl ?_
        exact pB65 r2 X2_71 hr2 hX2_71 _ _ h
      · replace h := h.2 hc
        refine g_aload_n C dR_goesBy_21 rfl ?_
        refine g_aload_n C dR_goesBy_22 rfl ?_
        refine rf_s C hci dR_goesBy_23 ?_
        refine g_sipush C dR_goesBy_26 rfl ?_
        refine g_iconst C dR_goesBy_29 ?_
        refine g_iload_n C dR_goesBy_30 rfl ?_
        refine g_imul C dR_goesBy_31 ?_
        refine g_iadd C dR_goesBy_32 ?_
        refine g_iald C (n := 536) dR_goesBy_33 rfl (by decide) h.1 ?_
        replace h := h.2
        refine g_aload_n C dR_goesBy_34 rfl ?_
        refine rf_s C hci dR_goesBy_35 ?_
        refine g_sipush C dR_goesBy_38 rfl ?_
        refine g_iconst C dR_goesBy_41 ?_
        refine g_iload_n C dR_goesBy_42 rfl ?_
        refine g_imul C dR_goesBy_43 ?_
        refine g_iadd C dR_goesBy_44 ?_
        refine g_iconst C dR_goesBy_45 ?_
        refine g_iadd C dR_goesBy_46 ?_
        refine g_iald C (n := 536) dR_goesBy_47 rfl (by decide) h.1 ?_
        replace h := h.2
        refine g_aload_n C dR_goesBy_48 rfl ?_
        refine rf_s C hci dR_goesBy_49 ?_
        refine g_sipush C dR_goesBy_52 rfl ?_
        refine g_iconst C dR_goesBy_55 ?_
        refine g_iload_n C dR_goesBy_56 rfl ?_
        refine g_imul C dR_goesBy_57 ?_
        refine g_iadd C dR_goesBy_58 ?_
        refine g_iconst C dR_goesBy_59 ?_
        refine g_iadd C dR_goesBy_60 ?_
        refine g_iald C (n := 536) dR_goesBy_61 rfl (by decide) h.1 ?_
        replace h := h.2
        refine g_callVv C (nargs := 3) (o := 0) (st := []) (m_Rmoves hci h) rfl (by decide) hci rfl gd_moves (by decide +kernel) ⟨rfl, rfl⟩ dR_goesBy_62 ⟨by decide, by decide⟩ rfl rfl (Nat.le_of_ble_eq_true rfl) ?_
        intro M62 h
        refine g_locals (lv' := [(0, .ref (ad 0)), (1, iv a1), (2, iv v2)]) rfl ?_
        exact pB65 r2 X2_71 hr2 hX2_71 _ _ h
  have pL2 : ∀  (X2_71 : gSt → Prop) (hX2_71 : ∀  (M : gSt), X2_71  M → gG p l e (rmR 2 53) s m args below meth c Q D cl A (wR ad cI ci) 3 71 [] [] M) (n : Nat) (v2 : Int) (M : gSt), wL_RgoesBy_2 a1 k  X2_71 n v2 M → gG p l e (rmR 2 53) s m args below meth c Q D cl A (wR ad cI ci) 3 2 [(0, .ref (ad 0)), (1, iv a1), (2, iv v2)] [] M := by
    intro  X2_71 hX2_71 n
    induction n with
    | zero => intro v2 M h; exact h.elim
    | succ n ih =>
      intro v2 M h
      exact pC2  (wL_RgoesBy_2 a1 k  X2_71 n) X2_71 ih hX2_71 v2 M h
  refine g_locals (lv' := [(0, .ref (ad 0)), (1, iv a1)]) rfl ?_
  unfold w_RgoesBy at h
  refine g_iconst C dR_goesBy_0 ?_
  refine g_istore_n C dR_goesBy_1 (by decide) rfl ?_
  refine g_locals (lv' := [(0, .ref (ad 0)), (1, iv a1), (2, iv 0)]) rfl ?_
  refine g_locals (lv' := [(0, .ref (ad 0)), (1, iv a1), (2, iv 0)]) rfl ?_
  obtain ⟨n, h⟩ := h
  refine pL2 _ ?_ n _ _ h
  · intro  M2 h
    exact hR _ _ _ dR_goesBy_71 h
def w_Rafter (a1 : Int) (a2 : Int) (a3 : Int) (M : gSt) (k : Int → gSt → Prop) : Prop :=
w_Rcarry 1 3 M (fun M8 => w_RgoesBy a1 M8 (fun M13 => w_Rits a2 a3 M13 (fun r19c M19 => w_Rcarry 3 1 M19 (fun M32 => k r19c M32))))
set_option maxHeartbeats 4000000 in
set_option maxRecDepth 100000 in
theorem m_Rafter {l : Launch} {D : va_G} {cl : List vw_C} {tys : List (ClassId × FieldType)} {ad : Nat → Nat} {cI : ClassId} {ci : Nat} (hci : cl[ci]? = some (RX9, TX9, 23)) {a1 : Int} {a2 : Int} {a3 : Int} {M : gSt} {k : Int → gSt → Prop} (h : w_Rafter a1 a2 a3 M k) : MOi l yX9_after cX9_after 5 .int (rmR 3 75) D cl ((cI, .int) :: tys) (wR ad cI ci) tR [.ref (ad 0), iv a1, iv a2, iv a3] M k := by
  refine moi_intro (by decide +kernel) (Nat.le_of_ble_eq_true rfl) wi_218 ?_
  intro p e s m args below meth c A Q C hR
  refine g_locals (lv' := [(0, .ref (ad 0)), (1, iv a1), (2, iv a2), (3, iv a3)]) rfl ?_
  unfold w_Rafter at h
  refine g_aload_n C dR_after_0 rfl ?_
  refine rf_s C hci dR_after_1 ?_
  refine g_aload_n C dR_after_4 rfl ?_
  refine rf_put C hci dR_after_5 ?_
  refine g_callSv C (nargs := 2) (st := []) (m_Rcarry hci h) gd_carry (by decide +kernel) ⟨rfl, rfl⟩ dR_after_8 ⟨by decide, by decide⟩ rfl rfl (Nat.le_of_ble_eq_true rfl) ?_
  intro M8 h
  refine g_aload_n C dR_after_11 rfl ?_
  refine g_iload_n C dR_after_12 rfl ?_
  refine g_callVv C (nargs := 1) (o := 0) (st := []) (m_RgoesBy hci h) rfl (by decide) hci rfl gd_goesBy (by decide +kernel) ⟨rfl, rfl⟩ dR_after_13 ⟨by decide, by decide⟩ rfl rfl (Nat.le_of_ble_eq_true rfl) ?_
  intro M13 h
  refine g_aload_n C dR_after_16 rfl ?_
  refine g_iload_n C dR_after_17 rfl ?_
  refine g_iload_n C dR_after_18 rfl ?_
  refine g_callVi C (nargs := 2) (o := 0) (st := []) (m_Rits hci h) rfl (by decide) hci rfl gd_its (by decide +kernel) ⟨rfl, rfl⟩ dR_after_19 ⟨by decide, by decide⟩ rfl rfl (Nat.le_of_ble_eq_true rfl) ?_
  intro r19c M19 h
  refine g_istore C dR_after_22 (by decide) rfl ?_
  refine g_locals (lv' := [(0, .ref (ad 0)), (1, iv a1), (2, iv a2), (3, iv a3), (4, iv r19c)]) rfl ?_
  refine g_aload_n C dR_after_24 rfl ?_
  refine rf_put C hci dR_after_25 ?_
  refine g_aload_n C dR_after_28 rfl ?_
  refine rf_s C hci dR_after_29 ?_
  refine g_callSv C (nargs := 2) (st := []) (m_Rcarry hci h) gd_carry (by decide +kernel) ⟨rfl, rfl⟩ dR_after_32 ⟨by decide, by decide⟩ rfl rfl (Nat.le_of_ble_eq_true rfl) ?_
  intro M32 h
  refine g_iload C dR_after_35 rfl ?_
  exact hR _ _ _ _ dR_after_37 rfl h
def wB_Rby_26 (a1 : Int) (a2 : Int) (a3 : Int) (k : Int → gSt → Prop)   (M : gSt) : Prop :=
w_Rerror 1 M (fun r28c M28 => k r28c M28)
def w_Rby (a1 : Int) (a2 : Int) (a3 : Int) (M : gSt) (k : Int → gSt → Prop) : Prop :=
w_RisHistory a1 M (fun r2c M2 => 
  (wrap r2c = 0 →
    wB_Rby_26 a1 a2 a3 k   M2) ∧
  (¬ wrap r2c = 0 →
    w_RisThing a2 M2 (fun r10c M10 => 
    (wrap r10c = 0 →
      wB_Rby_26 a1 a2 a3 k   M10) ∧
    (¬ wrap r10c = 0 →
      w_Rin a3 2 9 M10 (fun r20c M20 => 
      (¬ wrap r20c = 0 →
        w_Rafter a1 a2 a3 M20 (fun r36c M36 => k r36c M36)) ∧
      (wrap r20c = 0 →
        wB_Rby_26 a1 a2 a3 k   M20))))))
set_option maxHeartbeats 4000000 in
set_option maxRecDepth 100000 in
theorem m_Rby {l : Launch} {D : va_G} {cl : List vw_C} {tys : List (ClassId × FieldType)} {ad : Nat → Nat} {cI : ClassId} {ci : Nat} (hci : cl[ci]? = some (RX9, TX9, 23)) {a1 : Int} {a2 : Int} {a3 : Int} {M : gSt} {k : Int → gSt → Prop} (h : w_Rby a1 a2 a3 M k) : MOi l yX9_by cX9_by 4 .int (rmR 4 99) D cl ((cI, .int) :: tys) (wR ad cI ci) tR [.ref (ad 0), iv a1, iv a2, iv a3] M k := by
  refine moi_intro (by decide +kernel) (Nat.le_of_ble_eq_true rfl) wi_225 ?_
  intro p e s m args below meth c A Q C hR
  have pB26 : ∀    (M : gSt), wB_Rby_26 a1 a2 a3 k   M → gG p l e (rmR 4 99) s m args below meth c Q D cl A (wR ad cI ci) 4 26 [(0, .ref (ad 0))] [] M := by
    intro    M h
    unfold wB_Rby_26 at h
    refine g_aload_n C dR_by_26 rfl ?_
    refine g_iconst C dR_by_27 ?_
    refine g_callVi C (nargs := 1) (o := 0) (st := []) (m_Rerror hci h) rfl (by decide) hci rfl gd_error (by decide +kernel) ⟨rfl, rfl⟩ dR_by_28 ⟨by decide, by decide⟩ rfl rfl (Nat.le_of_ble_eq_true rfl) ?_
    intro r28c M28 h
    exact hR _ _ _ _ dR_by_31 rfl h
  refine g_locals (lv' := [(0, .ref (ad 0)), (1, iv a1), (2, iv a2), (3, iv a3)]) rfl ?_
  unfold w_Rby at h
  refine g_aload_n C dR_by_0 rfl ?_
  refine g_iload_n C dR_by_1 rfl ?_
  refine g_callVi C (nargs := 1) (o := 0) (st := []) (m_RisHistory hci h) rfl (by decide) hci rfl gd_isHistory (by decide +kernel) ⟨rfl, rfl⟩ dR_by_2 ⟨by decide, by decide⟩ rfl rfl (Nat.le_of_ble_eq_true rfl) ?_
  intro r2c M2 h
  refine g_if_eq C 26 dR_by_5 (by decide) (fun hc => ?_) (fun hc => ?_)
  · replace h := h.1 hc
    refine g_locals (lv' := [(0, .ref (ad 0))]) rfl ?_
    exact pB26  _ h
  · replace h := h.2 hc
    refine g_aload_n C dR_by_8 rfl ?_
    refine g_iload_n C dR_by_9 rfl ?_
    refine g_callVi C (nargs := 1) (o := 0) (st := []) (m_RisThing hci h) rfl (by decide) hci rfl gd_isThing (by decide +kernel) ⟨rfl, rfl⟩ dR_by_10 ⟨by decide, by decide⟩ rfl rfl (Nat.le_of_ble_eq_true rfl) ?_
    intro r10c M10 h
    refine g_if_eq C 26 dR_by_13 (by decide) (fun hc => ?_) (fun hc => ?_)
    · replace h := h.1 hc
      refine g_locals (lv' := [(0, .ref (ad 0))]) rfl ?_
      exact pB26  _ h
    · replace h := h.2 hc
      refine g_iload_n C dR_by_16 rfl ?_
      refine g_iconst C dR_by_17 ?_
      refine g_bipush C dR_by_18 rfl ?_
      refine g_callSi C (nargs := 3) (st := []) (m_Rin hci h) gd_in (by decide +kernel) ⟨rfl, rfl⟩ dR_by_20 ⟨by decide, by decide⟩ rfl rfl (Nat.le_of_ble_eq_true rfl) ?_
      intro r20c M20 h
      refine g_if_ne C 32 dR_by_23 (by decide) (fun hc => ?_) (fun hc => ?_)
      · replace h := h.1 hc
        refine g_aload_n C dR_by_32 rfl ?_
        refine g_iload_n C dR_by_33 rfl ?_
        refine g_iload_n C dR_by_34 rfl ?_
        refine g_iload_n C dR_by_35 rfl ?_
        refine g_callVi C (nargs := 3) (o := 0) (st := []) (m_Rafter hci h) rfl (by decide) hci rfl gd_after (by decide +kernel) ⟨rfl, rfl⟩ dR_by_36 ⟨by decide, by decide⟩ rfl rfl (Nat.le_of_ble_eq_true rfl) ?_
        intro r36c M36 h
        exact hR _ _ _ _ dR_by_39 rfl h
      · replace h := h.2 hc
        refine g_locals (lv' := [(0, .ref (ad 0))]) rfl ?_
        exact pB26  _ h
def wC_RdoesFit_20 (a1 : Int) (k : Int → gSt → Prop) (r20 : Int → Int → gSt → Prop) (X20_101 : Int → gSt → Prop) (v2 : Int) (v3 : Int) (M : gSt) : Prop :=

  (wrap (M 1 4) ≤ wrap v3 →
    X20_101 v2 M) ∧
  (wrap v3 < wrap (M 1 4) →

    (wrap v2 = 0 →
      X20_101 v2 M) ∧
    (¬ wrap v2 = 0 →
      (0 ≤ 178 + (3 * v3) ∧ 178 + (3 * v3) < 536) ∧ (w_Rits (M 1 (178 + (3 * v3))) 2 M (fun r48c M48 => (0 ≤ (178 + (3 * v3)) + 1 ∧ (178 + (3 * v3)) + 1 < 536) ∧ (∀ x4_66 : Int, x4_66 = r48c - (M48 1 ((178 + (3 * v3)) + 1)) → ((0 ≤ (178 + (3 * v3)) + 2 ∧ (178 + (3 * v3)) + 2 < 536) ∧ (∀ x5_82 : Int, x5_82 = M48 1 ((178 + (3 * v3)) + 2) → (w_Rin x4_66 (-x5_82) x5_82 M48 (fun r91c M91 => r20 r91c (v3 + 1) M91)))))))))
def wL_RdoesFit_20 (a1 : Int) (k : Int → gSt → Prop)  (X20_101 : Int → gSt → Prop) : Nat → Int → Int → gSt → Prop
  | 0 => fun _ _ _ => False
  | n + 1 => fun v2 v3 M => wC_RdoesFit_20 a1 k  (wL_RdoesFit_20 a1 k  X20_101 n) X20_101 v2 v3 M
def wB_RdoesFit_101 (a1 : Int) (k : Int → gSt → Prop)  (v2 : Int) (M : gSt) : Prop :=
w_Rcarry 3 1 M (fun M109 => (v2 = 0 ∨ v2 = 1) ∧ (k v2 M109))
def w_RdoesFit (a1 : Int) (M : gSt) (k : Int → gSt → Prop) : Prop :=
w_Rcarry 1 3 M (fun M8 => w_RgoesBy a1 M8 (fun M13 => ∃ n, wL_RdoesFit_20 a1 k  (fun u2_20 M20 =>
    wB_RdoesFit_101 a1 k  u2_20 M20) n 1 0 M13))
set_option maxHeartbeats 4000000 in
set_option maxRecDepth 100000 in
theorem m_RdoesFit {l : Launch} {D : va_G} {cl : List vw_C} {tys : List (ClassId × FieldType)} {ad : Nat → Nat} {cI : ClassId} {ci : Nat} (hci : cl[ci]? = some (RX9, TX9, 23)) {a1 : Int} {M : gSt} {k : Int → gSt → Prop} (h : w_RdoesFit a1 M k) : MOi l yX9_doesFit cX9_doesFit 6 .boolean (rmR 3 75) D cl ((cI, .int) :: tys) (wR ad cI ci) tR [.ref (ad 0), iv a1] M k := by
  refine moi_intro (by decide +kernel) (Nat.le_of_ble_eq_true rfl) wi_226 ?_
  intro p e s m args below meth c A Q C hR
  have pC20 : ∀ (r20 : Int → Int → gSt → Prop) (X20_101 : Int → gSt → Prop) (hr20 : ∀ (v2 : Int) (v3 : Int) (M : gSt), r20 v2 v3 M → gG p l e (rmR 3 75) s m args below meth c Q D cl A (wR ad cI ci) 6 20 [(0, .ref (ad 0)), (2, iv v2), (3, iv v3)] [] M) (hX20_101 : ∀ (v2 : Int) (M : gSt), X20_101 v2 M → gG p l e (rmR 3 75) s m args below meth c Q D cl A (wR ad cI ci) 6 101 [(0, .ref (ad 0)), (2, iv v2)] [] M) (v2 : Int) (v3 : Int) (M : gSt), wC_RdoesFit_20 a1 k r20 X20_101 v2 v3 M → gG p l e (rmR 3 75) s m args below meth c Q D cl A (wR ad cI ci) 6 20 [(0, .ref (ad 0)), (2, iv v2), (3, iv v3)] [] M := by
    intro r20 X20_101 hr20 hX20_101 v2 v3 M h
    unfold wC_RdoesFit_20 at h
    refine g_iload_n C dR_doesFit_20 rfl ?_
    refine g_aload_n C dR_doesFit_21 rfl ?_
    refine rf_s C hci dR_doesFit_22 ?_
    refine g_iconst C dR_doesFit_25 ?_
    refine g_iald C (n := 536) dR_doesFit_26 rfl (by decide) ⟨by decide, by decide⟩ ?_
    refine g_icmp_ge C 101 dR_doesFit_27 (by decide) (fun hc => ?_) (fun hc => ?_)
    · replace h := h.1 hc
      refine g_locals (lv' := [(0, .ref (ad 0)), (2, iv v2)]) rfl ?_
      exact hX20_101 _  _ h
    · replace h := h.2 hc
      refine g_iload_n C dR_doesFit_30 rfl ?_
      refine g_if_eq C 101 dR_doesFit_31 (by decide) (fun hc => ?_) (fun hc => ?_)
      · replace h := h.1 hc
        refine g_locals (lv' := [(0, .ref (ad 0)), (2, iv v2)]) rfl ?_
        exact hX20_101 _  _ h
      · replace h := h.2 hc
        refine g_aload_n C dR_doesFit_34 rfl ?_
        refine g_aload_n C dR_doesFit_35 rfl ?_
        refine rf_s C hci dR_doesFit_36 ?_
        refine g_sipush C dR_doesFit_39 rfl ?_
        refine g_iconst C dR_doesFit_42 ?_
        refine g_iload_n C dR_doesFit_43 rfl ?_
        refine g_imul C dR_doesFit_44 ?_
        refine g_iadd C dR_doesFit_45 ?_
        refine g_iald C (n := 536) dR_doesFit_46 rfl (by decide) h.1 ?_
        replace h := h.2
        refine g_iconst C dR_doesFit_47 ?_
        refine g_callVi C (nargs := 2) (o := 0) (st := []) (m_Rits hci h) rfl (by decide) hci rfl gd_its (by decide +kernel) ⟨rfl, rfl⟩ dR_doesFit_48 ⟨by decide, by decide⟩ rfl rfl (Nat.le_of_ble_eq_true rfl) ?_
        intro r48c M48 h
        refine g_aload_n C dR_doesFit_51 rfl ?_
        refine rf_s C hci dR_doesFit_52 ?_
        refine g_sipush C dR_doesFit_55 rfl ?_
        refine g_iconst C dR_doesFit_58 ?_
        refine g_iload_n C dR_doesFit_59 rfl ?_
        refine g_imul C dR_doesFit_60 ?_
        refine g_iadd C dR_doesFit_61 ?_
        refine g_iconst C dR_doesFit_62 ?_
        refine g_iadd C dR_doesFit_63 ?_
        refine g_iald C (n := 536) dR_doesFit_64 rfl (by decide) h.1 ?_
        replace h := h.2
        refine g_isub C dR_doesFit_65 ?_
        refine g_name (fun x4_66 hx4_66 => ?_)
        replace h := h x4_66 hx4_66
        refine g_istore C dR_doesFit_66 (by decide) rfl ?_
        refine g_locals (lv' := [(0, .ref (ad 0)), (2, iv v2), (3, iv v3), (4, iv x4_66)]) rfl ?_
        refine g_aload_n C dR_doesFit_68 rfl ?_
        refine rf_s C hci dR_doesFit_69 ?_
        refine g_sipush C dR_doesFit_72 rfl ?_
        refine g_iconst C dR_doesFit_75 ?_
        refine g_iload_n C dR_doesFit_76 rfl ?_
        refine g_imul C dR_doesFit_77 ?_
        refine g_iadd C dR_doesFit_78 ?_
        refine g_iconst C dR_doesFit_79 ?_
        refine g_iadd C dR_doesFit_80 ?_
        refine g_iald C (n := 536) dR_doesFit_81 rfl (by decide) h.1 ?_
        replace h := h.2
        refine g_name (fun x5_82 hx5_82 => ?_)
        replace h := h x5_82 hx5_82
        refine g_istore C dR_doesFit_82 (by decide) rfl ?_
        refine g_locals (lv' := [(0, .ref (ad 0)), (2, iv v2), (3, iv v3), (4, iv x4_66), (5, iv x5_82)]) rfl ?_
        refine g_iload C dR_doesFit_84 rfl ?_
        refine g_iload C dR_doesFit_86 rfl ?_
        refine g_ineg C dR_doesFit_88 ?_
        refine g_iload C dR_doesFit_89 rfl ?_
        refine g_callSi C (nargs := 3) (st := []) (m_Rin hci h) gd_in (by decide +kernel) ⟨rfl, rfl⟩ dR_doesFit_91 ⟨by decide, by decide⟩ rfl rfl (Nat.le_of_ble_eq_true rfl) ?_
        intro r91c M91 h
        refine g_istore_n C dR_doesFit_94 (by decide) rfl ?_
        refine g_locals (lv' := [(0, .ref (ad 0)), (2, iv r91c), (3, iv v3), (4, iv x4_66), (5, iv x5_82)]) rfl ?_
        refine g_iinc C dR_doesFit_95 rfl (by decide) rfl ?_
        refine g_locals (lv' := [(0, .ref (ad 0)), (2, iv r91c), (3, iv (v3 + 1)), (4, iv x4_66), (5, iv x5_82)]) rfl ?_
        refine g_goto C 20 dR_doesFit_98 (by decide) ?_
        refine g_locals (lv' := [(0, .ref (ad 0)), (2, iv r91c), (3, iv (v3 + 1))]) rfl ?_
        exact hr20 _ _  _ h
  have pL20 : ∀  (X20_101 : Int → gSt → Prop) (hX20_101 : ∀ (v2 : Int) (M : gSt), X20_101 v2 M → gG p l e (rmR 3 75) s m args below meth c Q D cl A (wR ad cI ci) 6 101 [(0, .ref (ad 0)), (2, iv v2)] [] M) (n : Nat) (v2 : Int) (v3 : Int) (M : gSt), wL_RdoesFit_20 a1 k  X20_101 n v2 v3 M → gG p l e (rmR 3 75) s m args below meth c Q D cl A (wR ad cI ci) 6 20 [(0, .ref (ad 0)), (2, iv v2), (3, iv v3)] [] M := by
    intro  X20_101 hX20_101 n
    induction n with
    | zero => intro v2 v3 M h; exact h.elim
    | succ n ih =>
      intro v2 v3 M h
      exact pC20  (wL_RdoesFit_20 a1 k  X20_101 n) X20_101 ih hX20_101 v2 v3 M h
  have pB101 : ∀   (v2 : Int) (M : gSt), wB_RdoesFit_101 a1 k  v2 M → gG p l e (rmR 3 75) s m args below meth c Q D cl A (wR ad cI ci) 6 101 [(0, .ref (ad 0)), (2, iv v2)] [] M := by
    intro   v2 M h
    unfold wB_RdoesFit_101 at h
    refine g_aload_n C dR_doesFit_101 rfl ?_
    refine rf_put C hci dR_doesFit_102 ?_
    refine g_aload_n C dR_doesFit_105 rfl ?_
    refine rf_s C hci dR_doesFit_106 ?_
    refine g_callSv C (nargs := 2) (st := []) (m_Rcarry hci h) gd_carry (by decide +kernel) ⟨rfl, rfl⟩ dR_doesFit_109 ⟨by decide, by decide⟩ rfl rfl (Nat.le_of_ble_eq_true rfl) ?_
    intro M109 h
    refine g_iload_n C dR_doesFit_112 rfl ?_
    exact hR _ _ _ _ dR_doesFit_113 (zn_bool h.1).1 h.2
  refine g_locals (lv' := [(0, .ref (ad 0)), (1, iv a1)]) rfl ?_
  unfold w_RdoesFit at h
  refine g_aload_n C dR_doesFit_0 rfl ?_
  refine rf_s C hci dR_doesFit_1 ?_
  refine g_aload_n C dR_doesFit_4 rfl ?_
  refine rf_put C hci dR_doesFit_5 ?_
  refine g_callSv C (nargs := 2) (st := []) (m_Rcarry hci h) gd_carry (by decide +kernel) ⟨rfl, rfl⟩ dR_doesFit_8 ⟨by decide, by decide⟩ rfl rfl (Nat.le_of_ble_eq_true rfl) ?_
  intro M8 h
  refine g_aload_n C dR_doesFit_11 rfl ?_
  refine g_iload_n C dR_doesFit_12 rfl ?_
  refine g_callVv C (nargs := 1) (o := 0) (st := []) (m_RgoesBy hci h) rfl (by decide) hci rfl gd_goesBy (by decide +kernel) ⟨rfl, rfl⟩ dR_doesFit_13 ⟨by decide, by decide⟩ rfl rfl (Nat.le_of_ble_eq_true rfl) ?_
  intro M13 h
  refine g_iconst C dR_doesFit_16 ?_
  refine g_istore_n C dR_doesFit_17 (by decide) rfl ?_
  refine g_locals (lv' := [(0, .ref (ad 0)), (1, iv a1), (2, iv 1)]) rfl ?_
  refine g_iconst C dR_doesFit_18 ?_
  refine g_istore_n C dR_doesFit_19 (by decide) rfl ?_
  refine g_locals (lv' := [(0, .ref (ad 0)), (1, iv a1), (2, iv 1), (3, iv 0)]) rfl ?_
  refine g_locals (lv' := [(0, .ref (ad 0)), (2, iv 1), (3, iv 0)]) rfl ?_
  obtain ⟨n, h⟩ := h
  refine pL20 _ ?_ n _ _ _ h
  · intro u2_20 M20 h
    refine g_locals (lv' := [(0, .ref (ad 0)), (2, iv u2_20)]) rfl ?_
    exact pB101 _ _ h
end
section
def wB_RfindFits_43  (k : gSt → Prop) (r7 : Int → gSt → Prop) (X7_49 : gSt → Prop) (v1 : Int) (M : gSt) : Prop :=
r7 (v1 + 1) M
def wC_RfindFits_7  (k : gSt → Prop) (r7 : Int → gSt → Prop) (X7_49 : gSt → Prop) (v1 : Int) (M : gSt) : Prop :=
w_RallPapers  M (fun r9c M9 => 
  (wrap r9c < wrap v1 →
    X7_49  M9) ∧
  (wrap v1 ≤ wrap r9c →
    w_RdoesFit v1 M9 (fun r17c M17 => 
    (wrap r17c = 0 →
      wB_RfindFits_43  k r7 X7_49 v1 M17) ∧
    (¬ wrap r17c = 0 →
      (0 ≤ M17 0 13 ∧ M17 0 13 < 64) ∧ (∀ M32 : gSt, M32 = wr M17 8 (M17 0 13) v1 → (∀ M40 : gSt, M40 = wr M32 0 13 ((M32 0 13) + 1) → (wB_RfindFits_43  k r7 X7_49 v1 M40)))))))
def wL_RfindFits_7  (k : gSt → Prop)  (X7_49 : gSt → Prop) : Nat → Int → gSt → Prop
  | 0 => fun _ _ => False
  | n + 1 => fun v1 M => wC_RfindFits_7  k  (wL_RfindFits_7  k  X7_49 n) X7_49 v1 M
def w_RfindFits  (M : gSt) (k : gSt → Prop) : Prop :=
∀ M2 : gSt, M2 = wr M 0 13 0 → (∃ n, wL_RfindFits_7  k  (fun  M7 =>
    k M7) n 0 M2)
set_option maxHeartbeats 4000000 in
set_option maxRecDepth 100000 in
theorem m_RfindFits {l : Launch} {D : va_G} {cl : List vw_C} {tys : List (ClassId × FieldType)} {ad : Nat → Nat} {cI : ClassId} {ci : Nat} (hci : cl[ci]? = some (RX9, TX9, 23))  {M : gSt} {k : gSt → Prop} (h : w_RfindFits  M k) : MOv l yX9_findFits cX9_findFits 2 (rmR 4 100) D cl ((cI, .int) :: tys) (wR ad cI ci) tR [.ref (ad 0)] M k := by
  refine mov_intro (by decide +kernel) (Nat.le_of_ble_eq_true rfl) wi_231 ?_
  intro p e s m args below meth c A Q C hR
  have pB43 : ∀ (r7 : Int → gSt → Prop) (X7_49 : gSt → Prop) (hr7 : ∀ (v1 : Int) (M : gSt), r7 v1 M → gG p l e (rmR 4 100) s m args below meth c Q D cl A (wR ad cI ci) 2 7 [(0, .ref (ad 0)), (1, iv v1)] [] M) (hX7_49 : ∀  (M : gSt), X7_49  M → gG p l e (rmR 4 100) s m args below meth c Q D cl A (wR ad cI ci) 2 49 [] [] M) (v1 : Int) (M : gSt), wB_RfindFits_43  k r7 X7_49 v1 M → gG p l e (rmR 4 100) s m args below meth c Q D cl A (wR ad cI ci) 2 43 [(0, .ref (ad 0)), (1, iv v1)] [] M := by
    intro r7 X7_49 hr7 hX7_49 v1 M h
    unfold wB_RfindFits_43 at h
    refine g_iinc C dR_findFits_43 rfl (by decide) rfl ?_
    refine g_locals (lv' := [(0, .ref (ad 0)), (1, iv (v1 + 1))]) rfl ?_
    refine g_goto C 7 dR_findFits_46 (by decide) ?_
    refine g_locals (lv' := [(0, .ref (ad 0)), (1, iv (v1 + 1))]) rfl ?_
    exact hr7 _  _ h
  have pC7 : ∀ (r7 : Int → gSt → Prop) (X7_49 : gSt → Prop) (hr7 : ∀ (v1 : Int) (M : gSt), r7 v1 M → gG p l e (rmR 4 100) s m args below meth c Q D cl A (wR ad cI ci) 2 7 [(0, .ref (ad 0)), (1, iv v1)] [] M) (hX7_49 : ∀  (M : gSt), X7_49  M → gG p l e (rmR 4 100) s m args below meth c Q D cl A (wR ad cI ci) 2 49 [] [] M) (v1 : Int) (M : gSt), wC_RfindFits_7  k r7 X7_49 v1 M → gG p l e (rmR 4 100) s m args below meth c Q D cl A (wR ad cI ci) 2 7 [(0, .ref (ad 0)), (1, iv v1)] [] M := by
    intro r7 X7_49 hr7 hX7_49 v1 M h
    unfold wC_RfindFits_7 at h
    refine g_iload_n C dR_findFits_7 rfl ?_
    refine g_aload_n C dR_findFits_8 rfl ?_
    refine g_callVi C (nargs := 0) (o := 0) (st := [iv v1]) (m_RallPapers hci h) rfl (by decide) hci rfl gd_allPapers (by decide +kernel) ⟨rfl, rfl⟩ dR_findFits_9 ⟨by decide, by decide⟩ rfl rfl (Nat.le_of_ble_eq_true rfl) ?_
    intro r9c M9 h
    refine g_icmp_gt C 49 dR_findFits_12 (by decide) (fun hc => ?_) (fun hc => ?_)
    · replace h := h.1 hc
      refine g_locals (lv' := []) rfl ?_
      exact hX7_49  _ h
    · replace h := h.2 hc
      refine g_aload_n C dR_findFits_15 rfl ?_
      refine g_iload_n C dR_findFits_16 rfl ?_
      refine g_callVi C (nargs := 1) (o := 0) (st := []) (m_RdoesFit hci h) rfl (by decide) hci rfl gd_doesFit (by decide +kernel) ⟨rfl, rfl⟩ dR_findFits_17 ⟨by decide, by decide⟩ rfl rfl (Nat.le_of_ble_eq_true rfl) ?_
      intro r17c M17 h
      refine g_if_eq C 43 dR_findFits_20 (by decide) (fun hc => ?_) (fun hc => ?_)
      · replace h := h.1 hc
        refine g_locals (lv' := [(0, .ref (ad 0)), (1, iv v1)]) rfl ?_
        exact pB43 r7 X7_49 hr7 hX7_49 _ _ h
      · replace h := h.2 hc
        refine g_aload_n C dR_findFits_23 rfl ?_
        refine rf_fit C hci dR_findFits_24 ?_
        refine g_aload_n C dR_findFits_27 rfl ?_
        refine rf_many C hci dR_findFits_28 ?_
        refine g_iload_n C dR_findFits_31 rfl ?_
        refine g_iast C (n := 64) dR_findFits_32 rfl (by decide) h.1 ?_
        replace h := h.2
        refine g_memname (fun M32 hM32 => ?_)
        replace h := h M32 hM32
        refine g_aload_n C dR_findFits_33 rfl ?_
        refine g_dup C dR_findFits_34 rfl ?_
        refine rf_many C hci dR_findFits_35 ?_
        refine g_iconst C dR_findFits_38 ?_
        refine g_iadd C dR_findFits_39 ?_
        refine rp_many C hci dR_findFits_40 ?_
        refine g_memname (fun M40 hM40 => ?_)
        replace h := h M40 hM40
        refine g_locals (lv' := [(0, .ref (ad 0)), (1, iv v1)]) rfl ?_
        exact pB43 r7 X7_49 hr7 hX7_49 _ _ h
  have pL7 : ∀  (X7_49 : gSt → Prop) (hX7_49 : ∀  (M : gSt), X7_49  M → gG p l e (rmR 4 100) s m args below meth c Q D cl A (wR ad cI ci) 2 49 [] [] M) (n : Nat) (v1 : Int) (M : gSt), wL_RfindFits_7  k  X7_49 n v1 M → gG p l e (rmR 4 100) s m args below meth c Q D cl A (wR ad cI ci) 2 7 [(0, .ref (ad 0)), (1, iv v1)] [] M := by
    intro  X7_49 hX7_49 n
    induction n with
    | zero => intro v1 M h; exact h.elim
    | succ n ih =>
      intro v1 M h
      exact pC7  (wL_RfindFits_7  k  X7_49 n) X7_49 ih hX7_49 v1 M h
  refine g_locals (lv' := [(0, .ref (ad 0))]) rfl ?_
  unfold w_RfindFits at h
  refine g_aload_n C dR_findFits_0 rfl ?_
  refine g_iconst C dR_findFits_1 ?_
  refine rp_many C hci dR_findFits_2 ?_
  refine g_memname (fun M2 hM2 => ?_)
  replace h := h M2 hM2
  refine g_iconst C dR_findFits_5 ?_
  refine g_istore_n C dR_findFits_6 (by decide) rfl ?_
  refine g_locals (lv' := [(0, .ref (ad 0)), (1, iv 0)]) rfl ?_
  refine g_locals (lv' := [(0, .ref (ad 0)), (1, iv 0)]) rfl ?_
  obtain ⟨n, h⟩ := h
  refine pL7 _ ?_ n _ _ h
  · intro  M7 h
    exact hR _ _ _ dR_findFits_49 h
def wC_RbitsOf_4 (a1 : Int) (k : Int → gSt → Prop) (r4 : Int → Int → gSt → Prop) (X4_20 : Int → gSt → Prop) (v1 : Int) (v2 : Int) (M : gSt) : Prop :=

  (wrap v2 = 0 →
    X4_20 v1 M) ∧
  (¬ wrap v2 = 0 →
    ∀ x2_16 : Int, x2_16 = xand v2 (v2 - 1) → (r4 (v1 + 1) x2_16 M))
def wL_RbitsOf_4 (a1 : Int) (k : Int → gSt → Prop)  (X4_20 : Int → gSt → Prop) : Nat → Int → Int → gSt → Prop
  | 0 => fun _ _ _ => False
  | n + 1 => fun v1 v2 M => wC_RbitsOf_4 a1 k  (wL_RbitsOf_4 a1 k  X4_20 n) X4_20 v1 v2 M
def w_RbitsOf (a1 : Int) (M : gSt) (k : Int → gSt → Prop) : Prop :=
∃ n, wL_RbitsOf_4 a1 k  (fun u1_4 M4 =>
    k u1_4 M4) n 0 a1 M
set_option maxHeartbeats 4000000 in
set_option maxRecDepth 100000 in
theorem m_RbitsOf {l : Launch} {D : va_G} {cl : List vw_C} {tys : List (ClassId × FieldType)} {ad : Nat → Nat} {cI : ClassId} {ci : Nat} (hci : cl[ci]? = some (RX9, TX9, 23)) {a1 : Int} {M : gSt} {k : Int → gSt → Prop} (h : w_RbitsOf a1 M k) : MOi l yX9_bitsOf cX9_bitsOf 3 .int (rmR 0 0) D cl ((cI, .int) :: tys) (wR ad cI ci) tR [iv a1] M k := by
  refine moi_intro (by decide +kernel) (Nat.le_of_ble_eq_true rfl) wi_232 ?_
  intro p e s m args below meth c A Q C hR
  have pC4 : ∀ (r4 : Int → Int → gSt → Prop) (X4_20 : Int → gSt → Prop) (hr4 : ∀ (v1 : Int) (v2 : Int) (M : gSt), r4 v1 v2 M → gG p l e (rmR 0 0) s m args below meth c Q D cl A (wR ad cI ci) 3 4 [(1, iv v1), (2, iv v2)] [] M) (hX4_20 : ∀ (v1 : Int) (M : gSt), X4_20 v1 M → gG p l e (rmR 0 0) s m args below meth c Q D cl A (wR ad cI ci) 3 20 [(1, iv v1)] [] M) (v1 : Int) (v2 : Int) (M : gSt), wC_RbitsOf_4 a1 k r4 X4_20 v1 v2 M → gG p l e (rmR 0 0) s m args below meth c Q D cl A (wR ad cI ci) 3 4 [(1, iv v1), (2, iv v2)] [] M := by
    intro r4 X4_20 hr4 hX4_20 v1 v2 M h
    unfold wC_RbitsOf_4 at h
    refine g_iload_n C dR_bitsOf_4 rfl ?_
    refine g_if_eq C 20 dR_bitsOf_5 (by decide) (fun hc => ?_) (fun hc => ?_)
    · replace h := h.1 hc
      refine g_locals (lv' := [(1, iv v1)]) rfl ?_
      exact hX4_20 _  _ h
    · replace h := h.2 hc
      refine g_iinc C dR_bitsOf_8 rfl (by decide) rfl ?_
      refine g_locals (lv' := [(1, iv (v1 + 1)), (2, iv v2)]) rfl ?_
      refine g_iload_n C dR_bitsOf_11 rfl ?_
      refine g_iload_n C dR_bitsOf_12 rfl ?_
      refine g_iconst C dR_bitsOf_13 ?_
      refine g_isub C dR_bitsOf_14 ?_
      refine g_iand C dR_bitsOf_15 ?_
      refine g_name (fun x2_16 hx2_16 => ?_)
      replace h := h x2_16 hx2_16
      refine g_istore_n C dR_bitsOf_16 (by decide) rfl ?_
      refine g_locals (lv' := [(1, iv (v1 + 1)), (2, iv x2_16)]) rfl ?_
      refine g_goto C 4 dR_bitsOf_17 (by decide) ?_
      refine g_locals (lv' := [(1, iv (v1 + 1)), (2, iv x2_16)]) rfl ?_
      exact hr4 _ _  _ h
  have pL4 : ∀  (X4_20 : Int → gSt → Prop) (hX4_20 : ∀ (v1 : Int) (M : gSt), X4_20 v1 M → gG p l e (rmR 0 0) s m args below meth c Q D cl A (wR ad cI ci) 3 20 [(1, iv v1)] [] M) (n : Nat) (v1 : Int) (v2 : Int) (M : gSt), wL_RbitsOf_4 a1 k  X4_20 n v1 v2 M → gG p l e (rmR 0 0) s m args below meth c Q D cl A (wR ad cI ci) 3 4 [(1, iv v1), (2, iv v2)] [] M := by
    intro  X4_20 hX4_20 n
    induction n with
    | zero => intro v1 v2 M h; exact h.elim
    | succ n ih =>
      intro v1 v2 M h
      exact pC4  (wL_RbitsOf_4 a1 k  X4_20 n) X4_20 ih hX4_20 v1 v2 M h
  refine g_locals (lv' := [(0, iv a1)]) rfl ?_
  unfold w_RbitsOf at h
  refine g_iconst C dR_bitsOf_0 ?_
  refine g_istore_n C dR_bitsOf_1 (by decide) rfl ?_
  refine g_locals (lv' := [(0, iv a1), (1, iv 0)]) rfl ?_
  refine g_iload_n C dR_bitsOf_2 rfl ?_
  refine g_istore_n C dR_bitsOf_3 (by decide) rfl ?_
  refine g_locals (lv' := [(0, iv a1), (1, iv 0), (2, iv a1)]) rfl ?_
  refine g_locals (lv' := [(1, iv 0), (2, iv a1)]) rfl ?_
  obtain ⟨n, h⟩ := h
  refine pL4 _ ?_ n _ _ _ h
  · intro u1_4 M4 h
    refine g_iload_n C dR_bitsOf_20 rfl ?_
    exact hR _ _ _ _ dR_bitsOf_21 rfl h
def wB_Rfits_91 (a1 : Int) (k : Int → gSt → Prop) (r32 : Int → Int → Int → Int → gSt → Prop) (X32_99 : Int → Int → Int → gSt → Prop) (v2 : Int) (v3 : Int) (v5 : Int) (s0 : Int) (M : gSt) : Prop :=
r32 v2 v3 s0 (v5 + 1) M
def wC_Rfits_32 (a1 : Int) (k : Int → gSt → Prop) (r32 : Int → Int → Int → Int → gSt → Prop) (X32_99 : Int → Int → Int → gSt → Prop) (v2 : Int) (v3 : Int) (v4 : Int) (v5 : Int) (M : gSt) : Prop :=

  (wrap (M 0 13) ≤ wrap v5 →
    X32_99 v2 v3 v4 M) ∧
  (wrap v5 < wrap (M 0 13) →
    (0 ≤ v5 ∧ v5 < 64) ∧ (∀ x2_50 : Int, x2_50 = xand v2 (M 8 v5) → ((0 ≤ v5 ∧ v5 < 64) ∧ (∀ x3_60 : Int, x3_60 = xor2 v3 (M 8 v5) → ((0 ≤ v5 ∧ v5 < 64) ∧ (w_RbitsOf (M 8 v5) M (fun r68c M68 => 
    (wrap r68c ≤ wrap v4 →
      wB_Rfits_91 a1 k r32 X32_99 x2_50 x3_60 v5 v4 M68) ∧
    (wrap v4 < wrap r68c →
      (0 ≤ v5 ∧ v5 < 64) ∧ (w_RbitsOf (M68 8 v5) M68 (fun r83c M83 => wB_Rfits_91 a1 k r32 X32_99 x2_50 x3_60 v5 r83c M83))))))))))
def wL_Rfits_32 (a1 : Int) (k : Int → gSt → Prop)  (X32_99 : Int → Int → Int → gSt → Prop) : Nat → Int → Int → Int → Int → gSt → Prop
  | 0 => fun _ _ _ _ _ => False
  | n + 1 => fun v2 v3 v4 v5 M => wC_Rfits_32 a1 k  (wL_Rfits_32 a1 k  X32_99 n) X32_99 v2 v3 v4 v5 M
def wB_Rfits_122 (a1 : Int) (k : Int → gSt → Prop)  (v2 : Int) (v3 : Int) (v4 : Int) (M : gSt) : Prop :=

  (¬ wrap a1 = 0 →

    (¬ wrap a1 = 1 →

      (¬ wrap a1 = 2 →

        (¬ wrap a1 = 3 →
          k ((M 1 3) - v4) M) ∧
        (wrap a1 = 3 →
          k v3 M)) ∧
      (wrap a1 = 2 →
        k v2 M)) ∧
    (wrap a1 = 1 →
      k (M 8 0) M)) ∧
  (wrap a1 = 0 →
    k (M 0 13) M)
def wB_Rfits_109 (a1 : Int) (k : Int → gSt → Prop)  (v2 : Int) (v3 : Int) (v4 : Int) (M : gSt) : Prop :=

  (¬ wrap (M 0 13) = 0 →
    wB_Rfits_122 a1 k  v2 v3 v4 M) ∧
  (wrap (M 0 13) = 0 →
    w_Rerror 2 M (fun r118c M118 => k r118c M118))
def w_Rfits (a1 : Int) (M : gSt) (k : Int → gSt → Prop) : Prop :=
w_Rin a1 0 4 M (fun r3c M3 => 
  (¬ wrap r3c = 0 →
    w_RfindFits  M3 (fun M16 => w_RallPapers  M16 (fun r20c M20 => ∃ n, wL_Rfits_32 a1 k  (fun u2_32 u3_32 u4_32 M32 =>

      (wrap a1 = 1 →
        wB_Rfits_109 a1 k  u2_32 u3_32 u4_32 M32) ∧
      (¬ wrap a1 = 1 →

        (¬ wrap a1 = 4 →
          wB_Rfits_122 a1 k  u2_32 u3_32 u4_32 M32) ∧
        (wrap a1 = 4 →
          wB_Rfits_109 a1 k  u2_32 u3_32 u4_32 M32))) n r20c 0 0 0 M20))) ∧
  (wrap r3c = 0 →
    w_Rerror 1 M3 (fun r11c M11 => k r11c M11)))
set_option maxHeartbeats 4000000 in
set_option maxRecDepth 100000 in
theorem m_Rfits {l : Launch} {D : va_G} {cl : List vw_C} {tys : List (ClassId × FieldType)} {ad : Nat → Nat} {cI : ClassId} {ci : Nat} (hci : cl[ci]? = some (RX9, TX9, 23)) {a1 : Int} {M : gSt} {k : Int → gSt → Prop} (h : w_Rfits a1 M k) : MOi l yX9_fits cX9_fits 6 .int (rmR 5 121) D cl ((cI, .int) :: tys) (wR ad cI ci) tR [.ref (ad 0), iv a1] M k := by
  refine moi_intro (by decide +kernel) (Nat.le_of_ble_eq_true rfl) wi_238 ?_
  intro p e s m args below meth c A Q C hR
  have pB91 : ∀ (r32 : Int → Int → Int → Int → gSt → Prop) (X32_99 : Int → Int → Int → gSt → Prop) (hr32 : ∀ (v2 : Int) (v3 : Int) (v4 : Int) (v5 : Int) (M : gSt), r32 v2 v3 v4 v5 M → gG p l e (rmR 5 121) s m args below meth c Q D cl A (wR ad cI ci) 6 32 [(0, .ref (ad 0)), (1, iv a1), (2, iv v2), (3, iv v3), (4, iv v4), (5, iv v5)] [] M) (hX32_99 : ∀ (v2 : Int) (v3 : Int) (v4 : Int) (M : gSt), X32_99 v2 v3 v4 M → gG p l e (rmR 5 121) s m args below meth c Q D cl A (wR ad cI ci) 6 99 [(0, .ref (ad 0)), (1, iv a1), (2, iv v2), (3, iv v3), (4, iv v4)] [] M) (v2 : Int) (v3 : Int) (v5 : Int) (s0 : Int) (M : gSt), wB_Rfits_91 a1 k r32 X32_99 v2 v3 v5 s0 M → gG p l e (rmR 5 121) s m args below meth c Q D cl A (wR ad cI ci) 6 91 [(0, .ref (ad 0)), (1, iv a1), (2, iv v2), (3, iv v3), (5, iv v5)] [iv s0] M := by
    intro r32 X32_99 hr32 hX32_99 v2 v3 v5 s0 M h
    unfold wB_Rfits_91 at h
    refine g_istore C dR_fits_91 (by decide) rfl ?_
    refine g_locals (lv' := [(0, .ref (ad 0)), (1, iv a1), (2, iv v2), (3, iv v3), (4, iv s0), (5, iv v5)]) rfl ?_
    refine g_iinc C dR_fits_93 rfl (by decide) rfl ?_
    refine g_locals (lv' := [(0, .ref (ad 0)), (1, iv a1), (2, iv v2), (3, iv v3), (4, iv s0), (5, iv (v5 + 1))]) rfl ?_
    refine g_goto C 32 dR_fits_96 (by decide) ?_
    refine g_locals (lv' := [(0, .ref (ad 0)), (1, iv a1), (2, iv v2), (3, iv v3), (4, iv s0), (5, iv (v5 + 1))]) rfl ?_
    exact hr32 _ _ _ _  _ h
  have pC32 : ∀ (r32 : Int → Int → Int → Int → gSt → Prop) (X32_99 : Int → Int → Int → gSt → Prop) (hr32 : ∀ (v2 : Int) (v3 : Int) (v4 : Int) (v5 : Int) (M : gSt), r32 v2 v3 v4 v5 M → gG p l e (rmR 5 121) s m args below meth c Q D cl A (wR ad cI ci) 6 32 [(0, .ref (ad 0)), (1, iv a1), (2, iv v2), (3, iv v3), (4, iv v4), (5, iv v5)] [] M) (hX32_99 : ∀ (v2 : Int) (v3 : Int) (v4 : Int) (M : gSt), X32_99 v2 v3 v4 M → gG p l e (rmR 5 121) s m args below meth c Q D cl A (wR ad cI ci) 6 99 [(0, .ref (ad 0)), (1, iv a1), (2, iv v2), (3, iv v3), (4, iv v4)] [] M) (v2 : Int) (v3 : Int) (v4 : Int) (v5 : Int) (M : gSt), wC_Rfits_32 a1 k r32 X32_99 v2 v3 v4 v5 M → gG p l e (rmR 5 121) s m args below meth c Q D cl A (wR ad cI ci) 6 32 [(0, .ref (ad 0)), (1, iv a1), (2, iv v2), (3, iv v3), (4, iv v4), (5, iv v5)] [] M := by
    intro r32 X32_99 hr32 hX32_99 v2 v3 v4 v5 M h
    unfold wC_Rfits_32 at h
    refine g_iload C dR_fits_32 rfl ?_
    refine g_aload_n C dR_fits_34 rfl ?_
    refine rf_many C hci dR_fits_35 ?_
    refine g_icmp_ge C 99 dR_fits_38 (by decide) (fun hc => ?_) (fun hc => ?_)
    · replace h := h.1 hc
      refine g_locals (lv' := [(0, .ref (ad 0)), (1, iv a1), (2, iv v2), (3, iv v3), (4, iv v4)]) rfl ?_
      exact hX32_99 _ _ _  _ h
    · replace h := h.2 hc
      refine g_iload_n C dR_fits_41 rfl ?_
      refine g_aload_n C dR_fits_42 rfl ?_
      refine rf_fit C hci dR_fits_43 ?_
      refine g_iload C dR_fits_46 rfl ?_
      refine g_iald C (n := 64) dR_fits_48 rfl (by decide) h.1 ?_
      replace h := h.2
      refine g_iand C dR_fits_49 ?_
      refine g_name (fun x2_50 hx2_50 => ?_)
      replace h := h x2_50 hx2_50
      refine g_istore_n C dR_fits_50 (by decide) rfl ?_
      refine g_locals (lv' := [(0, .ref (ad 0)), (1, iv a1), (2, iv x2_50), (3, iv v3), (4, iv v4), (5, iv v5)]) rfl ?_
      refine g_iload_n C dR_fits_51 rfl ?_
      refine g_aload_n C dR_fits_52 rfl ?_
      refine rf_fit C hci dR_fits_53 ?_
      refine g_iload C dR_fits_56 rfl ?_
      refine g_iald C (n := 64) dR_fits_58 rfl (by decide) h.1 ?_
      replace h := h.2
      refine g_ior C dR_fits_59 ?_
      refine g_name (fun x3_60 hx3_60 => ?_)
      replace h := h x3_60 hx3_60
      refine g_istore_n C dR_fits_60 (by decide) rfl ?_
      refine g_locals (lv' := [(0, .ref (ad 0)), (1, iv a1), (2, iv x2_50), (3, iv x3_60), (4, iv v4), (5, iv v5)]) rfl ?_
      refine g_aload_n C dR_fits_61 rfl ?_
      refine rf_fit C hci dR_fits_62 ?_
      refine g_iload C dR_fits_65 rfl ?_
      refine g_iald C (n := 64) dR_fits_67 rfl (by decide) h.1 ?_
      replace h := h.2
      refine g_callSi C (nargs := 1) (st := []) (m_RbitsOf hci h) gd_bitsOf (by decide +kernel) ⟨rfl, rfl⟩ dR_fits_68 ⟨by decide, by decide⟩ rfl rfl (Nat.le_of_ble_eq_true rfl) ?_
      intro r68c M68 h
      refine g_iload C dR_fits_71 rfl ?_
      refine g_icmp_le C 89 dR_fits_73 (by decide) (fun hc => ?_) (fun hc => ?_)
      · replace h := h.1 hc
        refine g_iload C dR_fits_89 rfl ?_
        refine g_locals (lv' := [(0, .ref (ad 0)), (1, iv a1), (2, iv x2_50), (3, iv x3_60), (5, iv v5)]) rfl ?_
        exact pB91 r32 X32_99 hr32 hX32_99 _ _ _ _ _ h
      · replace h := h.2 hc
        refine g_aload_n C dR_fits_76 rfl ?_
        refine rf_fit C hci dR_fits_77 ?_
        refine g_iload C dR_fits_80 rfl ?_
        refine g_iald C (n := 64) dR_fits_82 rfl (by decide) h.1 ?_
        replace h := h.2
        refine g_callSi C (nargs := 1) (st := []) (m_RbitsOf hci h) gd_bitsOf (by decide +kernel) ⟨rfl, rfl⟩ dR_fits_83 ⟨by decide, by decide⟩ rfl rfl (Nat.le_of_ble_eq_true rfl) ?_
        intro r83c M83 h
        refine g_goto C 91 dR_fits_86 (by decide) ?_
        refine g_locals (lv' := [(0, .ref (ad 0)), (1, iv a1), (2, iv x2_50), (3, iv x3_60), (5, iv v5)]) rfl ?_
        exact pB91 r32 X32_99 hr32 hX32_99 _ _ _ _ _ h
  have pL32 : ∀  (X32_99 : Int → Int → Int → gSt → Prop) (hX32_99 : ∀ (v2 : Int) (v3 : Int) (v4 : Int) (M : gSt), X32_99 v2 v3 v4 M → gG p l e (rmR 5 121) s m args below meth c Q D cl A (wR ad cI ci) 6 99 [(0, .ref (ad 0)), (1, iv a1), (2, iv v2), (3, iv v3), (4, iv v4)] [] M) (n : Nat) (v2 : Int) (v3 : Int) (v4 : Int) (v5 : Int) (M : gSt), wL_Rfits_32 a1 k  X32_99 n v2 v3 v4 v5 M → gG p l e (rmR 5 121) s m args below meth c Q D cl A (wR ad cI ci) 6 32 [(0, .ref (ad 0)), (1, iv a1), (2, iv v2), (3, iv v3), (4, iv v4), (5, iv v5)] [] M := by
    intro  X32_99 hX32_99 n
    induction n with
    | zero => intro v2 v3 v4 v5 M h; exact h.elim
    | succ n ih =>
      intro v2 v3 v4 v5 M h
      exact pC32  (wL_Rfits_32 a1 k  X32_99 n) X32_99 ih hX32_99 v2 v3 v4 v5 M h
  have pB122 : ∀   (v2 : Int) (v3 : Int) (v4 : Int) (M : gSt), wB_Rfits_122 a1 k  v2 v3 v4 M → gG p l e (rmR 5 121) s m args below meth c Q D cl A (wR ad cI ci) 6 122 [(0, .ref (ad 0)), (1, iv a1), (2, iv v2), (3, iv v3), (4, iv v4)] [] M := by
    intro   v2 v3 v4 M h
    unfold wB_Rfits_122 at h
    refine g_iload_n C dR_fits_122 rfl ?_
    refine g_if_ne C 133 dR_fits_123 (by decide) (fun hc => ?_) (fun hc => ?_)
    · replace h := h.1 hc
      refine g_iload_n C dR_fits_133 rfl ?_
      refine g_iconst C dR_fits_134 ?_
      refine g_icmp_ne C 147 dR_fits_135 (by decide) (fun hc => ?_) (fun hc => ?_)
      · replace h := h.1 hc
        refine g_iload_n C dR_fits_147 rfl ?_
        refine g_iconst C dR_fits_148 ?_
        refine g_icmp_ne C 156 dR_fits_149 (by decide) (fun hc => ?_) (fun hc => ?_)
        · replace h := h.1 hc
          refine g_iload_n C dR_fits_156 rfl ?_
          refine g_iconst C dR_fits_157 ?_
          refine g_icmp_ne C 165 dR_fits_158 (by decide) (fun hc => ?_) (fun hc => ?_)
          · replace h := h.1 hc
            refine g_aload_n C dR_fits_165 rfl ?_
            refine rf_s C hci dR_fits_166 ?_
            refine g_iconst C dR_fits_169 ?_
            refine g_iald C (n := 536) dR_fits_170 rfl (by decide) ⟨by decide, by decide⟩ ?_
            refine g_iload C dR_fits_171 rfl ?_
            refine g_isub C dR_fits_173 ?_
            exact hR _ _ _ _ dR_fits_174 rfl h
          · replace h := h.2 hc
            refine g_iload_n C dR_fits_161 rfl ?_
            refine g_goto C 174 dR_fits_162 (by decide) ?_
            exact hR _ _ _ _ dR_fits_174 rfl h
        · replace h := h.2 hc
          refine g_iload_n C dR_fits_152 rfl ?_
          refine g_goto C 174 dR_fits_153 (by decide) ?_
          exact hR _ _ _ _ dR_fits_174 rfl h
      · replace h := h.2 hc
        refine g_aload_n C dR_fits_138 rfl ?_
        refine rf_fit C hci dR_fits_139 ?_
        refine g_iconst C dR_fits_142 ?_
        refine g_iald C (n := 64) dR_fits_143 rfl (by decide) ⟨by decide, by decide⟩ ?_
        refine g_goto C 174 dR_fits_144 (by decide) ?_
        exact hR _ _ _ _ dR_fits_174 rfl h
    · replace h := h.2 hc
      refine g_aload_n C dR_fits_126 rfl ?_
      refine rf_many C hci dR_fits_127 ?_
      refine g_goto C 174 dR_fits_130 (by decide) ?_
      exact hR _ _ _ _ dR_fits_174 rfl h
  have pB109 : ∀   (v2 : Int) (v3 : Int) (v4 : Int) (M : gSt), wB_Rfits_109 a1 k  v2 v3 v4 M → gG p l e (rmR 5 121) s m args below meth c Q D cl A (wR ad cI ci) 6 109 [(0, .ref (ad 0)), (1, iv a1), (2, iv v2), (3, iv v3), (4, iv v4)] [] M := by
    intro   v2 v3 v4 M h
    unfold wB_Rfits_109 at h
    refine g_aload_n C dR_fits_109 rfl ?_
    refine rf_many C hci dR_fits_110 ?_
    refine g_if_ne C 122 dR_fits_113 (by decide) (fun hc => ?_) (fun hc => ?_)
    · replace h := h.1 hc
      refine g_locals (lv' := [(0, .ref (ad 0)), (1, iv a1), (2, iv v2), (3, iv v3), (4, iv v4)]) rfl ?_
      exact pB122 _ _ _ _ h
    · replace h := h.2 hc
      refine g_aload_n C dR_fits_116 rfl ?_
      refine g_iconst C dR_fits_117 ?_
      refine g_callVi C (nargs := 1) (o := 0) (st := []) (m_Rerror hci h) rfl (by decide) hci rfl gd_error (by decide +kernel) ⟨rfl, rfl⟩ dR_fits_118 ⟨by decide, by decide⟩ rfl rfl (Nat.le_of_ble_eq_true rfl) ?_
      intro r118c M118 h
      exact hR _ _ _ _ dR_fits_121 rfl h
  refine g_locals (lv' := [(0, .ref (ad 0)), (1, iv a1)]) rfl ?_
  unfold w_Rfits at h
  refine g_iload_n C dR_fits_0 rfl ?_
  refine g_iconst C dR_fits_1 ?_
  refine g_iconst C dR_fits_2 ?_
  refine g_callSi C (nargs := 3) (st := []) (m_Rin hci h) gd_in (by decide +kernel) ⟨rfl, rfl⟩ dR_fits_3 ⟨by decide, by decide⟩ rfl rfl (Nat.le_of_ble_eq_true rfl) ?_
  intro r3c M3 h
  refine g_if_ne C 15 dR_fits_6 (by decide) (fun hc => ?_) (fun hc => ?_)
  · replace h := h.1 hc
    refine g_aload_n C dR_fits_15 rfl ?_
    refine g_callVv C (nargs := 0) (o := 0) (st := []) (m_RfindFits hci h) rfl (by decide) hci rfl gd_findFits (by decide +kernel) ⟨rfl, rfl⟩ dR_fits_16 ⟨by decide, by decide⟩ rfl rfl (Nat.le_of_ble_eq_true rfl) ?_
    intro M16 h
    refine g_aload_n C dR_fits_19 rfl ?_
    refine g_callVi C (nargs := 0) (o := 0) (st := []) (m_RallPapers hci h) rfl (by decide) hci rfl gd_allPapers (by decide +kernel) ⟨rfl, rfl⟩ dR_fits_20 ⟨by decide, by decide⟩ rfl rfl (Nat.le_of_ble_eq_true rfl) ?_
    intro r20c M20 h
    refine g_istore_n C dR_fits_23 (by decide) rfl ?_
    refine g_locals (lv' := [(0, .ref (ad 0)), (1, iv a1), (2, iv r20c)]) rfl ?_
    refine g_iconst C dR_fits_24 ?_
    refine g_istore_n C dR_fits_25 (by decide) rfl ?_
    refine g_locals (lv' := [(0, .ref (ad 0)), (1, iv a1), (2, iv r20c), (3, iv 0)]) rfl ?_
    refine g_iconst C dR_fits_26 ?_
    refine g_istore C dR_fits_27 (by decide) rfl ?_
    refine g_locals (lv' := [(0, .ref (ad 0)), (1, iv a1), (2, iv r20c), (3, iv 0), (4, iv 0)]) rfl ?_
    refine g_iconst C dR_fits_29 ?_
    refine g_istore C dR_fits_30 (by decide) rfl ?_
    refine g_locals (lv' := [(0, .ref (ad 0)), (1, iv a1), (2, iv r20c), (3, iv 0), (4, iv 0), (5, iv 0)]) rfl ?_
    refine g_locals (lv' := [(0, .ref (ad 0)), (1, iv a1), (2, iv r20c), (3, iv 0), (4, iv 0), (5, iv 0)]) rfl ?_
    obtain ⟨n, h⟩ := h
    refine pL32 _ ?_ n _ _ _ _ _ h
    · intro u2_32 u3_32 u4_32 M32 h
      refine g_iload_n C dR_fits_99 rfl ?_
      refine g_iconst C dR_fits_100 ?_
      refine g_icmp_eq C 109 dR_fits_101 (by decide) (fun hc => ?_) (fun hc => ?_)
      · replace h := h.1 hc
        refine g_locals (lv' := [(0, .ref (ad 0)), (1, iv a1), (2, iv u2_32), (3, iv u3_32), (4, iv u4_32)]) rfl ?_
        exact pB109 _ _ _ _ h
      · replace h := h.2 hc
        refine g_iload_n C dR_fits_104 rfl ?_
        refine g_iconst C dR_fits_105 ?_
        refine g_icmp_ne C 122 dR_fits_106 (by decide) (fun hc => ?_) (fun hc => ?_)
        · replace h := h.1 hc
          refine g_locals (lv' := [(0, .ref (ad 0)), (1, iv a1), (2, iv u2_32), (3, iv u3_32), (4, iv u4_32)]) rfl ?_
          exact pB122 _ _ _ _ h
        · replace h := h.2 hc
          refine g_locals (lv' := [(0, .ref (ad 0)), (1, iv a1), (2, iv u2_32), (3, iv u3_32), (4, iv u4_32)]) rfl ?_
          exact pB109 _ _ _ _ h
  · replace h := h.2 hc
    refine g_aload_n C dR_fits_9 rfl ?_
    refine g_iconst C dR_fits_10 ?_
    refine g_callVi C (nargs := 1) (o := 0) (st := []) (m_Rerror hci h) rfl (by decide) hci rfl gd_error (by decide +kernel) ⟨rfl, rfl⟩ dR_fits_11 ⟨by decide, by decide⟩ rfl rfl (Nat.le_of_ble_eq_true rfl) ?_
    intro r11c M11 h
    exact hR _ _ _ _ dR_fits_14 rfl h
def wB_Rspan_26 (a1 : Int) (a2 : Int) (a3 : Int) (k : Int → gSt → Prop)   (M : gSt) : Prop :=
w_Rerror 1 M (fun r28c M28 => k r28c M28)
def wB_Rspan_132 (a1 : Int) (a2 : Int) (a3 : Int) (k : Int → gSt → Prop) (r69 : Int → Int → gSt → Prop) (X69_140 : Int → gSt → Prop) (v5 : Int) (s0 : Int) (M : gSt) : Prop :=
r69 s0 (v5 + 1) M
def wC_Rspan_69 (a1 : Int) (a2 : Int) (a3 : Int) (k : Int → gSt → Prop) (r69 : Int → Int → gSt → Prop) (X69_140 : Int → gSt → Prop) (v4 : Int) (v5 : Int) (M : gSt) : Prop :=

  (wrap (M 0 13) ≤ wrap v5 →
    X69_140 v4 M) ∧
  (wrap v5 < wrap (M 0 13) →
    (0 ≤ v5 ∧ v5 < 64) ∧ (w_Rafter (M 8 v5) a1 (6 + a2) M (fun r91c M91 => 
    (¬ wrap a3 = 1 →

      (wrap v4 ≤ wrap r91c →
        wB_Rspan_132 a1 a2 a3 k r69 X69_140 v5 v4 M91) ∧
      (wrap r91c < wrap v4 →
        wB_Rspan_132 a1 a2 a3 k r69 X69_140 v5 r91c M91)) ∧
    (wrap a3 = 1 →

      (wrap r91c ≤ wrap v4 →
        wB_Rspan_132 a1 a2 a3 k r69 X69_140 v5 v4 M91) ∧
      (wrap v4 < wrap r91c →
        wB_Rspan_132 a1 a2 a3 k r69 X69_140 v5 r91c M91)))))
def wL_Rspan_69 (a1 : Int) (a2 : Int) (a3 : Int) (k : Int → gSt → Prop)  (X69_140 : Int → gSt → Prop) : Nat → Int → Int → gSt → Prop
  | 0 => fun _ _ _ => False
  | n + 1 => fun v4 v5 M => wC_Rspan_69 a1 a2 a3 k  (wL_Rspan_69 a1 a2 a3 k  X69_140 n) X69_140 v4 v5 M
def w_Rspan (a1 : Int) (a2 : Int) (a3 : Int) (M : gSt) (k : Int → gSt → Prop) : Prop :=
w_RisThing a1 M (fun r2c M2 => 
  (wrap r2c = 0 →
    wB_Rspan_26 a1 a2 a3 k   M2) ∧
  (¬ wrap r2c = 0 →
    w_Rin a2 0 3 M2 (fun r11c M11 => 
    (wrap r11c = 0 →
      wB_Rspan_26 a1 a2 a3 k   M11) ∧
    (¬ wrap r11c = 0 →
      w_Rin a3 0 1 M11 (fun r20c M20 => 
      (¬ wrap r20c = 0 →
        w_RfindFits  M20 (fun M33 => 
        (¬ wrap (M33 0 13) = 0 →
          w_Rafter (M33 8 0) a1 (6 + a2) M33 (fun r61c M61 => ∃ n, wL_Rspan_69 a1 a2 a3 k  (fun u4_69 M69 =>
            k u4_69 M69) n r61c 1 M61)) ∧
        (wrap (M33 0 13) = 0 →
          w_Rerror 2 M33 (fun r45c M45 => k r45c M45)))) ∧
      (wrap r20c = 0 →
        wB_Rspan_26 a1 a2 a3 k   M20))))))
set_option maxHeartbeats 4000000 in
set_option maxRecDepth 100000 in
theorem m_Rspan {l : Launch} {D : va_G} {cl : List vw_C} {tys : List (ClassId × FieldType)} {ad : Nat → Nat} {cI : ClassId} {ci : Nat} (hci : cl[ci]? = some (RX9, TX9, 23)) {a1 : Int} {a2 : Int} {a3 : Int} {M : gSt} {k : Int → gSt → Prop} (h : w_Rspan a1 a2 a3 M k) : MOi l yX9_span cX9_span 7 .int (rmR 5 121) D cl ((cI, .int) :: tys) (wR ad cI ci) tR [.ref (ad 0), iv a1, iv a2, iv a3] M k := by
  refine moi_intro (by decide +kernel) (Nat.le_of_ble_eq_true rfl) wi_239 ?_
  intro p e s m args below meth c A Q C hR
  have pB26 : ∀    (M : gSt), wB_Rspan_26 a1 a2 a3 k   M → gG p l e (rmR 5 121) s m args below meth c Q D cl A (wR ad cI ci) 7 26 [(0, .ref (ad 0))] [] M := by
    intro    M h
    unfold wB_Rspan_26 at h
    refine g_aload_n C dR_span_26 rfl ?_
    refine g_iconst C dR_span_27 ?_
    refine g_callVi C (nargs := 1) (o := 0) (st := []) (m_Rerror hci h) rfl (by decide) hci rfl gd_error (by decide +kernel) ⟨rfl, rfl⟩ dR_span_28 ⟨by decide, by decide⟩ rfl rfl (Nat.le_of_ble_eq_true rfl) ?_
    intro r28c M28 h
    exact hR _ _ _ _ dR_span_31 rfl h
  have pB132 : ∀ (r69 : Int → Int → gSt → Prop) (X69_140 : Int → gSt → Prop) (hr69 : ∀ (v4 : Int) (v5 : Int) (M : gSt), r69 v4 v5 M → gG p l e (rmR 5 121) s m args below meth c Q D cl A (wR ad cI ci) 7 69 [(0, .ref (ad 0)), (1, iv a1), (2, iv a2), (3, iv a3), (4, iv v4), (5, iv v5)] [] M) (hX69_140 : ∀ (v4 : Int) (M : gSt), X69_140 v4 M → gG p l e (rmR 5 121) s m args below meth c Q D cl A (wR ad cI ci) 7 140 [(4, iv v4)] [] M) (v5 : Int) (s0 : Int) (M : gSt), wB_Rspan_132 a1 a2 a3 k r69 X69_140 v5 s0 M → gG p l e (rmR 5 121) s m args below meth c Q D cl A (wR ad cI ci) 7 132 [(0, .ref (ad 0)), (1, iv a1), (2, iv a2), (3, iv a3), (5, iv v5)] [iv s0] M := by
    intro r69 X69_140 hr69 hX69_140 v5 s0 M h
    unfold wB_Rspan_132 at h
    refine g_istore C dR_span_132 (by decide) rfl ?_
    refine g_locals (lv' := [(0, .ref (ad 0)), (1, iv a1), (2, iv a2), (3, iv a3), (4, iv s0), (5, iv v5)]) rfl ?_
    refine g_iinc C dR_span_134 rfl (by decide) rfl ?_
    refine g_locals (lv' := [(0, .ref (ad 0)), (1, iv a1), (2, iv a2), (3, iv a3), (4, iv s0), (5, iv (v5 + 1))]) rfl ?_
    refine g_goto C 69 dR_span_137 (by decide) ?_
    refine g_locals (lv' := [(0, .ref (ad 0)), (1, iv a1), (2, iv a2), (3, iv a3), (4, iv s0), (5, iv (v5 + 1))]) rfl ?_
    exact hr69 _ _  _ h
  have pC69 : ∀ (r69 : Int → Int → gSt → Prop) (X69_140 : Int → gSt → Prop) (hr69 : ∀ (v4 : Int) (v5 : Int) (M : gSt), r69 v4 v5 M → gG p l e (rmR 5 121) s m args below meth c Q D cl A (wR ad cI ci) 7 69 [(0, .ref (ad 0)), (1, iv a1), (2, iv a2), (3, iv a3), (4, iv v4), (5, iv v5)] [] M) (hX69_140 : ∀ (v4 : Int) (M : gSt), X69_140 v4 M → gG p l e (rmR 5 121) s m args below meth c Q D cl A (wR ad cI ci) 7 140 [(4, iv v4)] [] M) (v4 : Int) (v5 : Int) (M : gSt), wC_Rspan_69 a1 a2 a3 k r69 X69_140 v4 v5 M → gG p l e (rmR 5 121) s m args below meth c Q D cl A (wR ad cI ci) 7 69 [(0, .ref (ad 0)), (1, iv a1), (2, iv a2), (3, iv a3), (4, iv v4), (5, iv v5)] [] M := by
    intro r69 X69_140 hr69 hX69_140 v4 v5 M h
    unfold wC_Rspan_69 at h
    refine g_iload C dR_span_69 rfl ?_
    refine g_aload_n C dR_span_71 rfl ?_
    refine rf_many C hci dR_span_72 ?_
    refine g_icmp_ge C 140 dR_span_75 (by decide) (fun hc => ?_) (fun hc => ?_)
    · replace h := h.1 hc
      refine g_locals (lv' := [(4, iv v4)]) rfl ?_
      exact hX69_140 _  _ h
    · replace h := h.2 hc
      refine g_aload_n C dR_span_78 rfl ?_
      refine g_aload_n C dR_span_79 rfl ?_
      refine rf_fit C hci dR_span_80 ?_
      refine g_iload C dR_span_83 rfl ?_
      refine g_iald C (n := 64) dR_span_85 rfl (by decide) h.1 ?_
      replace h := h.2
      refine g_iload_n C dR_span_86 rfl ?_
      refine g_bipush C dR_span_87 rfl ?_
      refine g_iload_n C dR_span_89 rfl ?_
      refine g_iadd C dR_span_90 ?_
      refine g_callVi C (nargs := 3) (o := 0) (st := []) (m_Rafter hci h) rfl (by decide) hci rfl gd_after (by decide +kernel) ⟨rfl, rfl⟩ dR_span_91 ⟨by decide, by decide⟩ rfl rfl (Nat.le_of_ble_eq_true rfl) ?_
      intro r91c M91 h
      refine g_istore C dR_span_94 (by decide) rfl ?_
      refine g_locals (lv' := [(0, .ref (ad 0)), (1, iv a1), (2, iv a2), (3, iv a3), (4, iv v4), (5, iv v5), (6, iv r91c)]) rfl ?_
      refine g_iload_n C dR_span_96 rfl ?_
      refine g_iconst C dR_span_97 ?_
      refine g_icmp_ne C 118 dR_span_98 (by decide) (fun hc => ?_) (fun hc => ?_)
      · replace h := h.1 hc
        refine g_iload C dR_span_118 rfl ?_
        refine g_iload C dR_span_120 rfl ?_
        refine g_icmp_ge C 130 dR_span_122 (by decide) (fun hc => ?_) (fun hc => ?_)
        · replace h := h.1 hc
          refine g_iload C dR_span_130 rfl ?_
          refine g_locals (lv' := [(0, .ref (ad 0)), (1, iv a1), (2, iv a2), (3, iv a3), (5, iv v5)]) rfl ?_
          exact pB132 r69 X69_140 hr69 hX69_140 _ _ _ h
        · replace h := h.2 hc
          refine g_iload C dR_span_125 rfl ?_
          refine g_goto C 132 dR_span_127 (by decide) ?_
          refine g_locals (lv' := [(0, .ref (ad 0)), (1, iv a1), (2, iv a2), (3, iv a3), (5, iv v5)]) rfl ?_
          exact pB132 r69 X69_140 hr69 hX69_140 _ _ _ h
      · replace h := h.2 hc
        refine g_iload C dR_span_101 rfl ?_
        refine g_iload C dR_span_103 rfl ?_
        refine g_icmp_le C 113 dR_span_105 (by decide) (fun hc => ?_) (fun hc => ?_)
        · replace h := h.1 hc
          refine g_iload C dR_span_113 rfl ?_
          refine g_goto C 132 dR_span_115 (by decide) ?_
          refine g_locals (lv' := [(0, .ref (ad 0)), (1, iv a1), (2, iv a2), (3, iv a3), (5, iv v5)]) rfl ?_
          exact pB132 r69 X69_140 hr69 hX69_140 _ _ _ h
        · replace h := h.2 hc
          refine g_iload C dR_span_108 rfl ?_
          refine g_goto C 132 dR_span_110 (by decide) ?_
          refine g_locals (lv' := [(0, .ref (ad 0)), (1, iv a1), (2, iv a2), (3, iv a3), (5, iv v5)]) rfl ?_
          exact pB132 r69 X69_140 hr69 hX69_140 _ _ _ h
  have pL69 : ∀  (X69_140 : Int → gSt → Prop) (hX69_140 : ∀ (v4 : Int) (M : gSt), X69_140 v4 M → gG p l e (rmR 5 121) s m args below meth c Q D cl A (wR ad cI ci) 7 140 [(4, iv v4)] [] M) (n : Nat) (v4 : Int) (v5 : Int) (M : gSt), wL_Rspan_69 a1 a2 a3 k  X69_140 n v4 v5 M → gG p l e (rmR 5 121) s m args below meth c Q D cl A (wR ad cI ci) 7 69 [(0, .ref (ad 0)), (1, iv a1), (2, iv a2), (3, iv a3), (4, iv v4), (5, iv v5)] [] M := by
    intro  X69_140 hX69_140 n
    induction n with
    | zero => intro v4 v5 M h; exact h.elim
    | succ n ih =>
      intro v4 v5 M h
      exact pC69  (wL_Rspan_69 a1 a2 a3 k  X69_140 n) X69_140 ih hX69_140 v4 v5 M h
  refine g_locals (lv' := [(0, .ref (ad 0)), (1, iv a1), (2, iv a2), (3, iv a3)]) rfl ?_
  unfold w_Rspan at h
  refine g_aload_n C dR_span_0 rfl ?_
  refine g_iload_n C dR_span_1 rfl ?_
  refine g_callVi C (nargs := 1) (o := 0) (st := []) (m_RisThing hci h) rfl (by decide) hci rfl gd_isThing (by decide +kernel) ⟨rfl, rfl⟩ dR_span_2 ⟨by decide, by decide⟩ rfl rfl (Nat.le_of_ble_eq_true rfl) ?_
  intro r2c M2 h
  refine g_if_eq C 26 dR_span_5 (by decide) (fun hc => ?_) (fun hc => ?_)
  · replace h := h.1 hc
    refine g_locals (lv' := [(0, .ref (ad 0))]) rfl ?_
    exact pB26  _ h
  · replace h := h.2 hc
    refine g_iload_n C dR_span_8 rfl ?_
    refine g_iconst C dR_span_9 ?_
    refine g_iconst C dR_span_10 ?_
    refine g_callSi C (nargs := 3) (st := []) (m_Rin hci h) gd_in (by decide +kernel) ⟨rfl, rfl⟩ dR_span_11 ⟨by decide, by decide⟩ rfl rfl (Nat.le_of_ble_eq_true rfl) ?_
    intro r11c M11 h
    refine g_if_eq C 26 dR_span_14 (by decide) (fun hc => ?_) (fun hc => ?_)
    · replace h := h.1 hc
      refine g_locals (lv' := [(0, .ref (ad 0))]) rfl ?_
      exact pB26  _ h
    · replace h := h.2 hc
      refine g_iload_n C dR_span_17 rfl ?_
      refine g_iconst C dR_span_18 ?_
      refine g_iconst C dR_span_19 ?_
      refine g_callSi C (nargs := 3) (st := []) (m_Rin hci h) gd_in (by decide +kernel) ⟨rfl, rfl⟩ dR_span_20 ⟨by decide, by decide⟩ rfl rfl (Nat.le_of_ble_eq_true rfl) ?_
      intro r20c M20 h
      refine g_if_ne C 32 dR_span_23 (by decide) (fun hc => ?_) (fun hc => ?_)
      · replace h := h.1 hc
        refine g_aload_n C dR_span_32 rfl ?_
        refine g_callVv C (nargs := 0) (o := 0) (st := []) (m_RfindFits hci h) rfl (by decide) hci rfl gd_findFits (by decide +kernel) ⟨rfl, rfl⟩ dR_span_33 ⟨by decide, by decide⟩ rfl rfl (Nat.le_of_ble_eq_true rfl) ?_
        intro M33 h
        refine g_aload_n C dR_span_36 rfl ?_
        refine rf_many C hci dR_span_37 ?_
        refine g_if_ne C 49 dR_span_40 (by decide) (fun hc => ?_) (fun hc => ?_)
        · replace h := h.1 hc
          refine g_aload_n C dR_span_49 rfl ?_
          refine g_aload_n C dR_span_50 rfl ?_
          refine rf_fit C hci dR_span_51 ?_
          refine g_iconst C dR_span_54 ?_
          refine g_iald C (n := 64) dR_span_55 rfl (by decide) ⟨by decide, by decide⟩ ?_
          refine g_iload_n C dR_span_56 rfl ?_
          refine g_bipush C dR_span_57 rfl ?_
          refine g_iload_n C dR_span_59 rfl ?_
          refine g_iadd C dR_span_60 ?_
          refine g_callVi C (nargs := 3) (o := 0) (st := []) (m_Rafter hci h) rfl (by decide) hci rfl gd_after (by decide +kernel) ⟨rfl, rfl⟩ dR_span_61 ⟨by decide, by decide⟩ rfl rfl (Nat.le_of_ble_eq_true rfl) ?_
          intro r61c M61 h
          refine g_istore C dR_span_64 (by decide) rfl ?_
          refine g_locals (lv' := [(0, .ref (ad 0)), (1, iv a1), (2, iv a2), (3, iv a3), (4, iv r61c)]) rfl ?_
          refine g_iconst C dR_span_66 ?_
          refine g_istore C dR_span_67 (by decide) rfl ?_
          refine g_locals (lv' := [(0, .ref (ad 0)), (1, iv a1), (2, iv a2), (3, iv a3), (4, iv r61c), (5, iv 1)]) rfl ?_
          refine g_locals (lv' := [(0, .ref (ad 0)), (1, iv a1), (2, iv a2), (3, iv a3), (4, iv r61c), (5, iv 1)]) rfl ?_
          obtain ⟨n, h⟩ := h
          refine pL69 _ ?_ n _ _ _ h
          · intro u4_69 M69 h
            refine g_iload C dR_span_140 rfl ?_
            exact hR _ _ _ _ dR_span_142 rfl h
        · replace h := h.2 hc
          refine g_aload_n C dR_span_43 rfl ?_
          refine g_iconst C dR_span_44 ?_
          refine g_callVi C (nargs := 1) (o := 0) (st := []) (m_Rerror hci h) rfl (by decide) hci rfl gd_error (by decide +kernel) ⟨rfl, rfl⟩ dR_span_45 ⟨by decide, by decide⟩ rfl rfl (Nat.le_of_ble_eq_true rfl) ?_
          intro r45c M45 h
          exact hR _ _ _ _ dR_span_48 rfl h
      · replace h := h.2 hc
        refine g_locals (lv' := [(0, .ref (ad 0))]) rfl ?_
        exact pB26  _ h
def wC_Rheap_2 (a1 : Int) (k : Int → gSt → Prop) (r2 : Int → gSt → Prop) (X2_34 : gSt → Prop) (v2 : Int) (M : gSt) : Prop :=

  (wrap (M 0 13) ≤ wrap v2 →
    X2_34  M) ∧
  (wrap v2 < wrap (M 0 13) →
    (0 ≤ v2 ∧ v2 < 64) ∧ (w_Rafter (M 8 v2) a1 2 M (fun r24c M24 => (0 ≤ v2 ∧ v2 < 64) ∧ (∀ M27 : gSt, M27 = wr M24 9 v2 r24c → (r2 (v2 + 1) M27)))))
def wL_Rheap_2 (a1 : Int) (k : Int → gSt → Prop)  (X2_34 : gSt → Prop) : Nat → Int → gSt → Prop
  | 0 => fun _ _ => False
  | n + 1 => fun v2 M => wC_Rheap_2 a1 k  (wL_Rheap_2 a1 k  X2_34 n) X2_34 v2 M
def wB_Rheap_84 (a1 : Int) (k : Int → gSt → Prop) (r38 : Int → Int → gSt → Prop) (X38_112 : Int → gSt → Prop) (r52 : Int → Int → Int → Int → gSt → Prop) (X52_93 : Int → Int → Int → gSt → Prop) (v2 : Int) (v3 : Int) (v5 : Int) (s0 : Int) (s1 : Int) (M : gSt) : Prop :=
∀ x4_85 : Int, x4_85 = s1 + s0 → (r52 v2 v3 x4_85 (v5 + 1) M)
def wC_Rheap_52 (a1 : Int) (k : Int → gSt → Prop) (r38 : Int → Int → gSt → Prop) (X38_112 : Int → gSt → Prop) (r52 : Int → Int → Int → Int → gSt → Prop) (X52_93 : Int → Int → Int → gSt → Prop) (v2 : Int) (v3 : Int) (v4 : Int) (v5 : Int) (M : gSt) : Prop :=

  (wrap (M 0 13) ≤ wrap v5 →
    X52_93 v2 v3 v4 M) ∧
  (wrap v5 < wrap (M 0 13) →
    (0 ≤ v5 ∧ v5 < 64) ∧ ((0 ≤ v3 ∧ v3 < 64) ∧ (
    (¬ wrap (M 9 v5) = wrap (M 9 v3) →
      wB_Rheap_84 a1 k r38 X38_112 r52 X52_93 v2 v3 v5 0 v4 M) ∧
    (wrap (M 9 v5) = wrap (M 9 v3) →
      wB_Rheap_84 a1 k r38 X38_112 r52 X52_93 v2 v3 v5 1 v4 M))))
def wL_Rheap_52 (a1 : Int) (k : Int → gSt → Prop) (r38 : Int → Int → gSt → Prop) (X38_112 : Int → gSt → Prop) (X52_93 : Int → Int → Int → gSt → Prop) : Nat → Int → Int → Int → Int → gSt → Prop
  | 0 => fun _ _ _ _ _ => False
  | n + 1 => fun v2 v3 v4 v5 M => wC_Rheap_52 a1 k r38 X38_112 (wL_Rheap_52 a1 k r38 X38_112 X52_93 n) X52_93 v2 v3 v4 v5 M
def wB_Rheap_105 (a1 : Int) (k : Int → gSt → Prop) (r38 : Int → Int → gSt → Prop) (X38_112 : Int → gSt → Prop) (v3 : Int) (s0 : Int) (M : gSt) : Prop :=
r38 s0 (v3 + 1) M
def wC_Rheap_38 (a1 : Int) (k : Int → gSt → Prop) (r38 : Int → Int → gSt → Prop) (X38_112 : Int → gSt → Prop) (v2 : Int) (v3 : Int) (M : gSt) : Prop :=

  (wrap (M 0 13) ≤ wrap v3 →
    X38_112 v2 M) ∧
  (wrap v3 < wrap (M 0 13) →
    ∃ n, wL_Rheap_52 a1 k r38 X38_112 (fun u2_52 u3_52 u4_52 M52 =>

      (wrap u4_52 ≤ wrap u2_52 →
        wB_Rheap_105 a1 k r38 X38_112 u3_52 u2_52 M52) ∧
      (wrap u2_52 < wrap u4_52 →
        wB_Rheap_105 a1 k r38 X38_112 u3_52 u4_52 M52)) n v2 v3 0 0 M)
def wL_Rheap_38 (a1 : Int) (k : Int → gSt → Prop)  (X38_112 : Int → gSt → Prop) : Nat → Int → Int → gSt → Prop
  | 0 => fun _ _ _ => False
  | n + 1 => fun v2 v3 M => wC_Rheap_38 a1 k  (wL_Rheap_38 a1 k  X38_112 n) X38_112 v2 v3 M
def w_Rheap (a1 : Int) (M : gSt) (k : Int → gSt → Prop) : Prop :=
∃ n, wL_Rheap_2 a1 k  (fun  M2 =>
    ∃ n, wL_Rheap_38 a1 k  (fun u2_38 M38 =>
      k u2_38 M38) n 0 0 M2) n 0 M
set_option maxHeartbeats 4000000 in
set_option maxRecDepth 100000 in
theorem m_Rheap {l : Launch} {D : va_G} {cl : List vw_C} {tys : List (ClassId × FieldType)} {ad : Nat → Nat} {cI : ClassId} {ci : Nat} (hci : cl[ci]? = some (RX9, TX9, 23)) {a1 : Int} {M : gSt} {k : Int → gSt → Prop} (h : w_Rheap a1 M k) : MOi l yX9_heap cX9_heap 6 .int (rmR 4 99) D cl ((cI, .int) :: tys) (wR ad cI ci) tR [.ref (ad 0), iv a1] M k := by
  refine moi_intro (by decide +kernel) (Nat.le_of_ble_eq_true rfl) wi_240 ?_
  intro p e s m args below meth c A Q C hR
  have pC2 : ∀ (r2 : Int → gSt → Prop) (X2_34 : gSt → Prop) (hr2 : ∀ (v2 : Int) (M : gSt), r2 v2 M → gG p l e (rmR 4 99) s m args below meth c Q D cl A (wR ad cI ci) 6 2 [(0, .ref (ad 0)), (1, iv a1), (2, iv v2)] [] M) (hX2_34 : ∀  (M : gSt), X2_34  M → gG p l e (rmR 4 99) s m args below meth c Q D cl A (wR ad cI ci) 6 34 [(0, .ref (ad 0))] [] M) (v2 : Int) (M : gSt), wC_Rheap_2 a1 k r2 X2_34 v2 M → gG p l e (rmR 4 99) s m args below meth c Q D cl A (wR ad cI ci) 6 2 [(0, .ref (ad 0)), (1, iv a1), (2, iv v2)] [] M := by
    intro r2 X2_34 hr2 hX2_34 v2 M h
    unfold wC_Rheap_2 at h
    refine g_iload_n C dR_heap_2 rfl ?_
    refine g_aload_n C dR_heap_3 rfl ?_
    refine rf_many C hci dR_heap_4 ?_
    refine g_icmp_ge C 34 dR_heap_7 (by decide) (fun hc => ?_) (fun hc => ?_)
    · replace h := h.1 hc
      refine g_locals (lv' := [(0, .ref (ad 0))]) rfl ?_
      exact hX2_34  _ h
    · replace h := h.2 hc
      refine g_aload_n C dR_heap_10 rfl ?_
      refine rf_seen C hci dR_heap_11 ?_
      refine g_iload_n C dR_heap_14 rfl ?_
      refine g_aload_n C dR_heap_15 rfl ?_
      refine g_aload_n C dR_heap_16 rfl ?_
      refine rf_fit C hci dR_heap_17 ?_
      refine g_iload_n C dR_heap_20 rfl ?_
      refine g_iald C (n := 64) dR_heap_21 rfl (by decide) h.1 ?_
      replace h := h.2
      refine g_iload_n C dR_heap_22 rfl ?_
      refine g_iconst C dR_heap_23 ?_
      refine g_callVi C (nargs := 3) (o := 0) (st := [iv v2, .ref (ad 9)]) (m_Rafter hci h) rfl (by decide) hci rfl gd_after (by decide +kernel) ⟨rfl, rfl⟩ dR_heap_24 ⟨by decide, by decide⟩ rfl rfl (Nat.le_of_ble_eq_true rfl) ?_
      intro r24c M24 h
      refine g_iast C (n := 64) dR_heap_27 rfl (by decide) h.1 ?_
      replace h := h.2
      refine g_memname (fun M27 hM27 => ?_)
      replace h := h M27 hM27
      refine g_iinc C dR_heap_28 rfl (by decide) rfl ?_
      refine g_locals (lv' := [(0, .ref (ad 0)), (1, iv a1), (2, iv (v2 + 1))]) rfl ?_
      refine g_goto C 2 dR_heap_31 (by decide) ?_
      refine g_locals (lv' := [(0, .ref (ad 0)), (1, iv a1), (2, iv (v2 + 1))]) rfl ?_
      exact hr2 _  _ h
  have pL2 : ∀  (X2_34 : gSt → Prop) (hX2_34 : ∀  (M : gSt), X2_34  M → gG p l e (rmR 4 99) s m args below meth c Q D cl A (wR ad cI ci) 6 34 [(0, .ref (ad 0))] [] M) (n : Nat) (v2 : Int) (M : gSt), wL_Rheap_2 a1 k  X2_34 n v2 M → gG p l e (rmR 4 99) s m args below meth c Q D cl A (wR ad cI ci) 6 2 [(0, .ref (ad 0)), (1, iv a1), (2, iv v2)] [] M := by
    intro  X2_34 hX2_34 n
    induction n with
    | zero => intro v2 M h; exact h.elim
    | succ n ih =>
      intro v2 M h
      exact pC2  (wL_Rheap_2 a1 k  X2_34 n) X2_34 ih hX2_34 v2 M h
  have pB84 : ∀ (r38 : Int → Int → gSt → Prop) (X38_112 : Int → gSt → Prop) (r52 : Int → Int → Int → Int → gSt → Prop) (X52_93 : Int → Int → Int → gSt → Prop) (hr38 : ∀ (v2 : Int) (v3 : Int) (M : gSt), r38 v2 v3 M → gG p l e (rmR 4 99) s m args below meth c Q D cl A (wR ad cI ci) 6 38 [(0, .ref (ad 0)), (2, iv v2), (3, iv v3)] [] M) (hX38_112 : ∀ (v2 : Int) (M : gSt), X38_112 v2 M → gG p l e (rmR 4 99) s m args below meth c Q D cl A (wR ad cI ci) 6 112 [(2, iv v2)] [] M) (hr52 : ∀ (v2 : Int) (v3 : Int) (v4 : Int) (v5 : Int) (M : gSt), r52 v2 v3 v4 v5 M → gG p l e (rmR 4 99) s m args below meth c Q D cl A (wR ad cI ci) 6 52 [(0, .ref (ad 0)), (2, iv v2), (3, iv v3), (4, iv v4), (5, iv v5)] [] M) (hX52_93 : ∀ (v2 : Int) (v3 : Int) (v4 : Int) (M : gSt), X52_93 v2 v3 v4 M → gG p l e (rmR 4 99) s m args below meth c Q D cl A (wR ad cI ci) 6 93 [(0, .ref (ad 0)), (2, iv v2), (3, iv v3), (4, iv v4)] [] M) (v2 : Int) (v3 : Int) (v5 : Int) (s0 : Int) (s1 : Int) (M : gSt), wB_Rheap_84 a1 k r38 X38_112 r52 X52_93 v2 v3 v5 s0 s1 M → gG p l e (rmR 4 99) s m args below meth c Q D cl A (wR ad cI ci) 6 84 [(0, .ref (ad 0)), (2, iv v2), (3, iv v3), (5, iv v5)] [iv s0, iv s1] M := by
    intro r38 X38_112 r52 X52_93 hr38 hX38_112 hr52 hX52_93 v2 v3 v5 s0 s1 M h
    unfold wB_Rheap_84 at h
    refine g_iadd C dR_heap_84 ?_
    refine g_name (fun x4_85 hx4_85 => ?_)
    replace h := h x4_85 hx4_85
    refine g_istore C dR_heap_85 (by decide) rfl ?_
    refine g_locals (lv' := [(0, .ref (ad 0)), (2, iv v2), (3, iv v3), (4, iv x4_85), (5, iv v5)]) rfl ?_
    refine g_iinc C dR_heap_87 rfl (by decide) rfl ?_
    refine g_locals (lv' := [(0, .ref (ad 0)), (2, iv v2), (3, iv v3), (4, iv x4_85), (5, iv (v5 + 1))]) rfl ?_
    refine g_goto C 52 dR_heap_90 (by decide) ?_
    refine g_locals (lv' := [(0, .ref (ad 0)), (2, iv v2), (3, iv v3), (4, iv x4_85), (5, iv (v5 + 1))]) rfl ?_
    exact hr52 _ _ _ _  _ h
  have pC52 : ∀ (r38 : Int → Int → gSt → Prop) (X38_112 : Int → gSt → Prop) (r52 : Int → Int → Int → Int → gSt → Prop) (X52_93 : Int → Int → Int → gSt → Prop) (hr38 : ∀ (v2 : Int) (v3 : Int) (M : gSt), r38 v2 v3 M → gG p l e (rmR 4 99) s m args below meth c Q D cl A (wR ad cI ci) 6 38 [(0, .ref (ad 0)), (2, iv v2), (3, iv v3)] [] M) (hX38_112 : ∀ (v2 : Int) (M : gSt), X38_112 v2 M → gG p l e (rmR 4 99) s m args below meth c Q D cl A (wR ad cI ci) 6 112 [(2, iv v2)] [] M) (hr52 : ∀ (v2 : Int) (v3 : Int) (v4 : Int) (v5 : Int) (M : gSt), r52 v2 v3 v4 v5 M → gG p l e (rmR 4 99) s m args below meth c Q D cl A (wR ad cI ci) 6 52 [(0, .ref (ad 0)), (2, iv v2), (3, iv v3), (4, iv v4), (5, iv v5)] [] M) (hX52_93 : ∀ (v2 : Int) (v3 : Int) (v4 : Int) (M : gSt), X52_93 v2 v3 v4 M → gG p l e (rmR 4 99) s m args below meth c Q D cl A (wR ad cI ci) 6 93 [(0, .ref (ad 0)), (2, iv v2), (3, iv v3), (4, iv v4)] [] M) (v2 : Int) (v3 : Int) (v4 : Int) (v5 : Int) (M : gSt), wC_Rheap_52 a1 k r38 X38_112 r52 X52_93 v2 v3 v4 v5 M → gG p l e (rmR 4 99) s m args below meth c Q D cl A (wR ad cI ci) 6 52 [(0, .ref (ad 0)), (2, iv v2), (3, iv v3), (4, iv v4), (5, iv v5)] [] M := by
    intro r38 X38_112 r52 X52_93 hr38 hX38_112 hr52 hX52_93 v2 v3 v4 v5 M h
    unfold wC_Rheap_52 at h
    refine g_iload C dR_heap_52 rfl ?_
    refine g_aload_n C dR_heap_54 rfl ?_
    refine rf_many C hci dR_heap_55 ?_
    refine g_icmp_ge C 93 dR_heap_58 (by decide) (fun hc => ?_) (fun hc => ?_)
    · replace h := h.1 hc
      refine g_locals (lv' := [(0, .ref (ad 0)), (2, iv v2), (3, iv v3), (4, iv v4)]) rfl ?_
      exact hX52_93 _ _ _  _ h
    · replace h := h.2 hc
      refine g_iload C dR_heap_61 rfl ?_
      refine g_aload_n C dR_heap_63 rfl ?_
      refine rf_seen C hci dR_heap_64 ?_
      refine g_iload C dR_heap_67 rfl ?_
      refine g_iald C (n := 64) dR_heap_69 rfl (by decide) h.1 ?_
      replace h := h.2
      refine g_aload_n C dR_heap_70 rfl ?_
      refine rf_seen C hci dR_heap_71 ?_
      refine g_iload_n C dR_heap_74 rfl ?_
      refine g_iald C (n := 64) dR_heap_75 rfl (by decide) h.1 ?_
      replace h := h.2
      refine g_icmp_ne C 83 dR_heap_76 (by decide) (fun hc => ?_) (fun hc => ?_)
      · replace h := h.1 hc
        refine g_iconst C dR_heap_83 ?_
        refine g_locals (lv' := [(0, .ref (ad 0)), (2, iv v2), (3, iv v3), (5, iv v5)]) rfl ?_
        exact pB84 r38 X38_112 r52 X52_93 hr38 hX38_112 hr52 hX52_93 _ _ _ _ _ _ h
      · replace h := h.2 hc
        refine g_iconst C dR_heap_79 ?_
        refine g_goto C 84 dR_heap_80 (by decide) ?_
        refine g_locals (lv' := [(0, .ref (ad 0)), (2, iv v2), (3, iv v3), (5, iv v5)]) rfl ?_
        exact pB84 r38 X38_112 r52 X52_93 hr38 hX38_112 hr52 hX52_93 _ _ _ _ _ _ h
  have pL52 : ∀ (r38 : Int → Int → gSt → Prop) (X38_112 : Int → gSt → Prop) (X52_93 : Int → Int → Int → gSt → Prop) (hr38 : ∀ (v2 : Int) (v3 : Int) (M : gSt), r38 v2 v3 M → gG p l e (rmR 4 99) s m args below meth c Q D cl A (wR ad cI ci) 6 38 [(0, .ref (ad 0)), (2, iv v2), (3, iv v3)] [] M) (hX38_112 : ∀ (v2 : Int) (M : gSt), X38_112 v2 M → gG p l e (rmR 4 99) s m args below meth c Q D cl A (wR ad cI ci) 6 112 [(2, iv v2)] [] M) (hX52_93 : ∀ (v2 : Int) (v3 : Int) (v4 : Int) (M : gSt), X52_93 v2 v3 v4 M → gG p l e (rmR 4 99) s m args below meth c Q D cl A (wR ad cI ci) 6 93 [(0, .ref (ad 0)), (2, iv v2), (3, iv v3), (4, iv v4)] [] M) (n : Nat) (v2 : Int) (v3 : Int) (v4 : Int) (v5 : Int) (M : gSt), wL_Rheap_52 a1 k r38 X38_112 X52_93 n v2 v3 v4 v5 M → gG p l e (rmR 4 99) s m args below meth c Q D cl A (wR ad cI ci) 6 52 [(0, .ref (ad 0)), (2, iv v2), (3, iv v3), (4, iv v4), (5, iv v5)] [] M := by
    intro r38 X38_112 X52_93 hr38 hX38_112 hX52_93 n
    induction n with
    | zero => intro v2 v3 v4 v5 M h; exact h.elim
    | succ n ih =>
      intro v2 v3 v4 v5 M h
      exact pC52 r38 X38_112 (wL_Rheap_52 a1 k r38 X38_112 X52_93 n) X52_93 hr38 hX38_112 ih hX52_93 v2 v3 v4 v5 M h
  have pB105 : ∀ (r38 : Int → Int → gSt → Prop) (X38_112 : Int → gSt → Prop) (hr38 : ∀ (v2 : Int) (v3 : Int) (M : gSt), r38 v2 v3 M → gG p l e (rmR 4 99) s m args below meth c Q D cl A (wR ad cI ci) 6 38 [(0, .ref (ad 0)), (2, iv v2), (3, iv v3)] [] M) (hX38_112 : ∀ (v2 : Int) (M : gSt), X38_112 v2 M → gG p l e (rmR 4 99) s m args below meth c Q D cl A (wR ad cI ci) 6 112 [(2, iv v2)] [] M) (v3 : Int) (s0 : Int) (M : gSt), wB_Rheap_105 a1 k r38 X38_112 v3 s0 M → gG p l e (rmR 4 99) s m args below meth c Q D cl A (wR ad cI ci) 6 105 [(0, .ref (ad 0)), (3, iv v3)] [iv s0] M := by
    intro r38 X38_112 hr38 hX38_112 v3 s0 M h
    unfold wB_Rheap_105 at h
    refine g_istore_n C dR_heap_105 (by decide) rfl ?_
    refine g_locals (lv' := [(0, .ref (ad 0)), (2, iv s0), (3, iv v3)]) rfl ?_
    refine g_iinc C dR_heap_106 rfl (by decide) rfl ?_
    refine g_locals (lv' := [(0, .ref (ad 0)), (2, iv s0), (3, iv (v3 + 1))]) rfl ?_
    refine g_goto C 38 dR_heap_109 (by decide) ?_
    refine g_locals (lv' := [(0, .ref (ad 0)), (2, iv s0), (3, iv (v3 + 1))]) rfl ?_
    exact hr38 _ _  _ h
  have pC38 : ∀ (r38 : Int → Int → gSt → Prop) (X38_112 : Int → gSt → Prop) (hr38 : ∀ (v2 : Int) (v3 : Int) (M : gSt), r38 v2 v3 M → gG p l e (rmR 4 99) s m args below meth c Q D cl A (wR ad cI ci) 6 38 [(0, .ref (ad 0)), (2, iv v2), (3, iv v3)] [] M) (hX38_112 : ∀ (v2 : Int) (M : gSt), X38_112 v2 M → gG p l e (rmR 4 99) s m args below meth c Q D cl A (wR ad cI ci) 6 112 [(2, iv v2)] [] M) (v2 : Int) (v3 : Int) (M : gSt), wC_Rheap_38 a1 k r38 X38_112 v2 v3 M → gG p l e (rmR 4 99) s m args below meth c Q D cl A (wR ad cI ci) 6 38 [(0, .ref (ad 0)), (2, iv v2), (3, iv v3)] [] M := by
    intro r38 X38_112 hr38 hX38_112 v2 v3 M h
    unfold wC_Rheap_38 at h
    refine g_iload_n C dR_heap_38 rfl ?_
    refine g_aload_n C dR_heap_39 rfl ?_
    refine rf_many C hci dR_heap_40 ?_
    refine g_icmp_ge C 112 dR_heap_43 (by decide) (fun hc => ?_) (fun hc => ?_)
    · replace h := h.1 hc
      refine g_locals (lv' := [(2, iv v2)]) rfl ?_
      exact hX38_112 _  _ h
    · replace h := h.2 hc
      refine g_iconst C dR_heap_46 ?_
      refine g_istore C dR_heap_47 (by decide) rfl ?_
      refine g_locals (lv' := [(0, .ref (ad 0)), (2, iv v2), (3, iv v3), (4, iv 0)]) rfl ?_
      refine g_iconst C dR_heap_49 ?_
      refine g_istore C dR_heap_50 (by decide) rfl ?_
      refine g_locals (lv' := [(0, .ref (ad 0)), (2, iv v2), (3, iv v3), (4, iv 0), (5, iv 0)]) rfl ?_
      refine g_locals (lv' := [(0, .ref (ad 0)), (2, iv v2), (3, iv v3), (4, iv 0), (5, iv 0)]) rfl ?_
      obtain ⟨n, h⟩ := h
      refine pL52 r38 X38_112 _ hr38 hX38_112 ?_ n _ _ _ _ _ h
      · intro u2_52 u3_52 u4_52 M52 h
        refine g_iload C dR_heap_93 rfl ?_
        refine g_iload_n C dR_heap_95 rfl ?_
        refine g_icmp_le C 104 dR_heap_96 (by decide) (fun hc => ?_) (fun hc => ?_)
        · replace h := h.1 hc
          refine g_iload_n C dR_heap_104 rfl ?_
          refine g_locals (lv' := [(0, .ref (ad 0)), (3, iv u3_52)]) rfl ?_
          exact pB105 r38 X38_112 hr38 hX38_112 _ _ _ h
        · replace h := h.2 hc
          refine g_iload C dR_heap_99 rfl ?_
          refine g_goto C 105 dR_heap_101 (by decide) ?_
          refine g_locals (lv' := [(0, .ref (ad 0)), (3, iv u3_52)]) rfl ?_
          exact pB105 r38 X38_112 hr38 hX38_112 _ _ _ h
  have pL38 : ∀  (X38_112 : Int → gSt → Prop) (hX38_112 : ∀ (v2 : Int) (M : gSt), X38_112 v2 M → gG p l e (rmR 4 99) s m args below meth c Q D cl A (wR ad cI ci) 6 112 [(2, iv v2)] [] M) (n : Nat) (v2 : Int) (v3 : Int) (M : gSt), wL_Rheap_38 a1 k  X38_112 n v2 v3 M → gG p l e (rmR 4 99) s m args below meth c Q D cl A (wR ad cI ci) 6 38 [(0, .ref (ad 0)), (2, iv v2), (3, iv v3)] [] M := by
    intro  X38_112 hX38_112 n
    induction n with
    | zero => intro v2 v3 M h; exact h.elim
    | succ n ih =>
      intro v2 v3 M h
      exact pC38  (wL_Rheap_38 a1 k  X38_112 n) X38_112 ih hX38_112 v2 v3 M h
  refine g_locals (lv' := [(0, .ref (ad 0)), (1, iv a1)]) rfl ?_
  unfold w_Rheap at h
  refine g_iconst C dR_heap_0 ?_
  refine g_istore_n C dR_heap_1 (by decide) rfl ?_
  refine g_locals (lv' := [(0, .ref (ad 0)), (1, iv a1), (2, iv 0)]) rfl ?_
  refine g_locals (lv' := [(0, .ref (ad 0)), (1, iv a1), (2, iv 0)]) rfl ?_
  obtain ⟨n, h⟩ := h
  refine pL2 _ ?_ n _ _ h
  · intro  M2 h
    refine g_iconst C dR_heap_34 ?_
    refine g_istore_n C dR_heap_35 (by decide) rfl ?_
    refine g_locals (lv' := [(0, .ref (ad 0)), (2, iv 0)]) rfl ?_
    refine g_iconst C dR_heap_36 ?_
    refine g_istore_n C dR_heap_37 (by decide) rfl ?_
    refine g_locals (lv' := [(0, .ref (ad 0)), (2, iv 0), (3, iv 0)]) rfl ?_
    refine g_locals (lv' := [(0, .ref (ad 0)), (2, iv 0), (3, iv 0)]) rfl ?_
    obtain ⟨n, h⟩ := h
    refine pL38 _ ?_ n _ _ _ h
    · intro u2_38 M38 h
      refine g_iload_n C dR_heap_112 rfl ?_
      exact hR _ _ _ _ dR_heap_113 rfl h
def wB_Rnext_20  (k : Int → gSt → Prop)   (M : gSt) : Prop :=
w_Rerror 2 M (fun r22c M22 => k r22c M22)
def wB_Rnext_58  (k : Int → gSt → Prop) (r30 : Int → Int → gSt → Prop) (X30_65 : Int → gSt → Prop) (v2 : Int) (s0 : Int) (M : gSt) : Prop :=
r30 s0 (v2 + 1) M
def wC_Rnext_30  (k : Int → gSt → Prop) (r30 : Int → Int → gSt → Prop) (X30_65 : Int → gSt → Prop) (v1 : Int) (v2 : Int) (M : gSt) : Prop :=

  (wrap (M 1 0) ≤ wrap v2 →
    X30_65 v1 M) ∧
  (wrap v2 < wrap (M 1 0) →
    w_Rheap v2 M (fun r42c M42 => w_Rheap v1 M42 (fun r47c M47 => 
    (wrap r47c ≤ wrap r42c →
      wB_Rnext_58  k r30 X30_65 v2 v1 M47) ∧
    (wrap r42c < wrap r47c →
      wB_Rnext_58  k r30 X30_65 v2 v2 M47))))
def wL_Rnext_30  (k : Int → gSt → Prop)  (X30_65 : Int → gSt → Prop) : Nat → Int → Int → gSt → Prop
  | 0 => fun _ _ _ => False
  | n + 1 => fun v1 v2 M => wC_Rnext_30  k  (wL_Rnext_30  k  X30_65 n) X30_65 v1 v2 M
def w_Rnext  (M : gSt) (k : Int → gSt → Prop) : Prop :=
w_RfindFits  M (fun M1 => 
  (wrap (M1 0 13) = 0 →
    wB_Rnext_20  k   M1) ∧
  (¬ wrap (M1 0 13) = 0 →

    (¬ wrap (M1 1 0) = 0 →
      ∃ n, wL_Rnext_30  k  (fun u1_30 M30 =>
        k u1_30 M30) n 0 1 M1) ∧
    (wrap (M1 1 0) = 0 →
      wB_Rnext_20  k   M1)))
set_option maxHeartbeats 4000000 in
set_option maxRecDepth 100000 in
theorem m_Rnext {l : Launch} {D : va_G} {cl : List vw_C} {tys : List (ClassId × FieldType)} {ad : Nat → Nat} {cI : ClassId} {ci : Nat} (hci : cl[ci]? = some (RX9, TX9, 23))  {M : gSt} {k : Int → gSt → Prop} (h : w_Rnext  M k) : MOi l yX9_next cX9_next 3 .int (rmR 5 124) D cl ((cI, .int) :: tys) (wR ad cI ci) tR [.ref (ad 0)] M k := by
  refine moi_intro (by decide +kernel) (Nat.le_of_ble_eq_true rfl) wi_244 ?_
  intro p e s m args below meth c A Q C hR
  have pB20 : ∀    (M : gSt), wB_Rnext_20  k   M → gG p l e (rmR 5 124) s m args below meth c Q D cl A (wR ad cI ci) 3 20 [(0, .ref (ad 0))] [] M := by
    intro    M h
    unfold wB_Rnext_20 at h
    refine g_aload_n C dR_next_20 rfl ?_
    refine g_iconst C dR_next_21 ?_
    refine g_callVi C (nargs := 1) (o := 0) (st := []) (m_Rerror hci h) rfl (by decide) hci rfl gd_error (by decide +kernel) ⟨rfl, rfl⟩ dR_next_22 ⟨by decide, by decide⟩ rfl rfl (Nat.le_of_ble_eq_true rfl) ?_
    intro r22c M22 h
    exact hR _ _ _ _ dR_next_25 rfl h
  have pB58 : ∀ (r30 : Int → Int → gSt → Prop) (X30_65 : Int → gSt → Prop) (hr30 : ∀ (v1 : Int) (v2 : Int) (M : gSt), r30 v1 v2 M → gG p l e (rmR 5 124) s m args below meth c Q D cl A (wR ad cI ci) 3 30 [(0, .ref (ad 0)), (1, iv v1), (2, iv v2)] [] M) (hX30_65 : ∀ (v1 : Int) (M : gSt), X30_65 v1 M → gG p l e (rmR 5 124) s m args below meth c Q D cl A (wR ad cI ci) 3 65 [(1, iv v1)] [] M) (v2 : Int) (s0 : Int) (M : gSt), wB_Rnext_58  k r30 X30_65 v2 s0 M → gG p l e (rmR 5 124) s m args below meth c Q D cl A (wR ad cI ci) 3 58 [(0, .ref (ad 0)), (2, iv v2)] [iv s0] M := by
    intro r30 X30_65 hr30 hX30_65 v2 s0 M h
    unfold wB_Rnext_58 at h
    refine g_istore_n C dR_next_58 (by decide) rfl ?_
    refine g_locals (lv' := [(0, .ref (ad 0)), (1, iv s0), (2, iv v2)]) rfl ?_
    refine g_iinc C dR_next_59 rfl (by decide) rfl ?_
    refine g_locals (lv' := [(0, .ref (ad 0)), (1, iv s0), (2, iv (v2 + 1))]) rfl ?_
    refine g_goto C 30 dR_next_62 (by decide) ?_
    refine g_locals (lv' := [(0, .ref (ad 0)), (1, iv s0), (2, iv (v2 + 1))]) rfl ?_
    exact hr30 _ _  _ h
  have pC30 : ∀ (r30 : Int → Int → gSt → Prop) (X30_65 : Int → gSt → Prop) (hr30 : ∀ (v1 : Int) (v2 : Int) (M : gSt), r30 v1 v2 M → gG p l e (rmR 5 124) s m args below meth c Q D cl A (wR ad cI ci) 3 30 [(0, .ref (ad 0)), (1, iv v1), (2, iv v2)] [] M) (hX30_65 : ∀ (v1 : Int) (M : gSt), X30_65 v1 M → gG p l e (rmR 5 124) s m args below meth c Q D cl A (wR ad cI ci) 3 65 [(1, iv v1)] [] M) (v1 : Int) (v2 : Int) (M : gSt), wC_Rnext_30  k r30 X30_65 v1 v2 M → gG p l e (rmR 5 124) s m args below meth c Q D cl A (wR ad cI ci) 3 30 [(0, .ref (ad 0)), (1, iv v1), (2, iv v2)] [] M := by
    intro r30 X30_65 hr30 hX30_65 v1 v2 M h
    unfold wC_Rnext_30 at h
    refine g_iload_n C dR_next_30 rfl ?_
    refine g_aload_n C dR_next_31 rfl ?_
    refine rf_s C hci dR_next_32 ?_
    refine g_iconst C dR_next_35 ?_
    refine g_iald C (n := 536) dR_next_36 rfl (by decide) ⟨by decide, by decide⟩ ?_
    refine g_icmp_ge C 65 dR_next_37 (by decide) (fun hc => ?_) (fun hc => ?_)
    · replace h := h.1 hc
      refine g_locals (lv' := [(1, iv v1)]) rfl ?_
      exact hX30_65 _  _ h
    · replace h := h.2 hc
      refine g_aload_n C dR_next_40 rfl ?_
      refine g_iload_n C dR_next_41 rfl ?_
      refine g_callVi C (nargs := 1) (o := 0) (st := []) (m_Rheap hci h) rfl (by decide) hci rfl gd_heap (by decide +kernel) ⟨rfl, rfl⟩ dR_next_42 ⟨by decide, by decide⟩ rfl rfl (Nat.le_of_ble_eq_true rfl) ?_
      intro r42c M42 h
      refine g_aload_n C dR_next_45 rfl ?_
      refine g_iload_n C dR_next_46 rfl ?_
      refine g_callVi C (nargs := 1) (o := 0) (st := [iv r42c]) (m_Rheap hci h) rfl (by decide) hci rfl gd_heap (by decide +kernel) ⟨rfl, rfl⟩ dR_next_47 ⟨by decide, by decide⟩ rfl rfl (Nat.le_of_ble_eq_true rfl) ?_
      intro r47c M47 h
      refine g_icmp_ge C 57 dR_next_50 (by decide) (fun hc => ?_) (fun hc => ?_)
      · replace h := h.1 hc
        refine g_iload_n C dR_next_57 rfl ?_
        refine g_locals (lv' := [(0, .ref (ad 0)), (2, iv v2)]) rfl ?_
        exact pB58 r30 X30_65 hr30 hX30_65 _ _ _ h
      · replace h := h.2 hc
        refine g_iload_n C dR_next_53 rfl ?_
        refine g_goto C 58 dR_next_54 (by decide) ?_
        refine g_locals (lv' := [(0, .ref (ad 0)), (2, iv v2)]) rfl ?_
        exact pB58 r30 X30_65 hr30 hX30_65 _ _ _ h
  have pL30 : ∀  (X30_65 : Int → gSt → Prop) (hX30_65 : ∀ (v1 : Int) (M : gSt), X30_65 v1 M → gG p l e (rmR 5 124) s m args below meth c Q D cl A (wR ad cI ci) 3 65 [(1, iv v1)] [] M) (n : Nat) (v1 : Int) (v2 : Int) (M : gSt), wL_Rnext_30  k  X30_65 n v1 v2 M → gG p l e (rmR 5 124) s m args below meth c Q D cl A (wR ad cI ci) 3 30 [(0, .ref (ad 0)), (1, iv v1), (2, iv v2)] [] M := by
    intro  X30_65 hX30_65 n
    induction n with
    | zero => intro v1 v2 M h; exact h.elim
    | succ n ih =>
      intro v1 v2 M h
      exact pC30  (wL_Rnext_30  k  X30_65 n) X30_65 ih hX30_65 v1 v2 M h
  refine g_locals (lv' := [(0, .ref (ad 0))]) rfl ?_
  unfold w_Rnext at h
  refine g_aload_n C dR_next_0 rfl ?_
  refine g_callVv C (nargs := 0) (o := 0) (st := []) (m_RfindFits hci h) rfl (by decide) hci rfl gd_findFits (by decide +kernel) ⟨rfl, rfl⟩ dR_next_1 ⟨by decide, by decide⟩ rfl rfl (Nat.le_of_ble_eq_true rfl) ?_
  intro M1 h
  refine g_aload_n C dR_next_4 rfl ?_
  refine rf_many C hci dR_next_5 ?_
  refine g_if_eq C 20 dR_next_8 (by decide) (fun hc => ?_) (fun hc => ?_)
  · replace h := h.1 hc
    refine g_locals (lv' := [(0, .ref (ad 0))]) rfl ?_
    exact pB20  _ h
  · replace h := h.2 hc
    refine g_aload_n C dR_next_11 rfl ?_
    refine rf_s C hci dR_next_12 ?_
    refine g_iconst C dR_next_15 ?_
    refine g_iald C (n := 536) dR_next_16 rfl (by decide) ⟨by decide, by decide⟩ ?_
    refine g_if_ne C 26 dR_next_17 (by decide) (fun hc => ?_) (fun hc => ?_)
    · replace h := h.1 hc
      refine g_iconst C dR_next_26 ?_
      refine g_istore_n C dR_next_27 (by decide) rfl ?_
      refine g_locals (lv' := [(0, .ref (ad 0)), (1, iv 0)]) rfl ?_
      refine g_iconst C dR_next_28 ?_
      refine g_istore_n C dR_next_29 (by decide) rfl ?_
      refine g_locals (lv' := [(0, .ref (ad 0)), (1, iv 0), (2, iv 1)]) rfl ?_
      refine g_locals (lv' := [(0, .ref (ad 0)), (1, iv 0), (2, iv 1)]) rfl ?_
      obtain ⟨n, h⟩ := h
      refine pL30 _ ?_ n _ _ _ h
      · intro u1_30 M30 h
        refine g_iload_n C dR_next_65 rfl ?_
        exact hR _ _ _ _ dR_next_66 rfl h
    · replace h := h.2 hc
      refine g_locals (lv' := [(0, .ref (ad 0))]) rfl ?_
      exact pB20  _ h
end
section
def wB_Rtogether_65 (a1 : Int) (a2 : Int) (k : Int → gSt → Prop) (r8 : Int → Int → Int → gSt → Prop) (X8_71 : Int → Int → gSt → Prop) (v3 : Int) (v5 : Int) (v7 : Int) (M : gSt) : Prop :=
r8 v3 v5 (v7 + 1) M
def wC_Rtogether_8 (a1 : Int) (a2 : Int) (k : Int → gSt → Prop) (r8 : Int → Int → Int → gSt → Prop) (X8_71 : Int → Int → gSt → Prop) (v3 : Int) (v5 : Int) (v7 : Int) (M : gSt) : Prop :=

  (wrap (M 1 0) ≤ wrap v7 →
    X8_71 v3 v5 M) ∧
  (wrap v7 < wrap (M 1 0) →

    (¬ wrap (xand (xshr a2 v7) 1) = 1 →
      wB_Rtogether_65 a1 a2 k r8 X8_71 v3 v5 v7 M) ∧
    (wrap (xand (xshr a2 v7) 1) = 1 →
      w_Rits v7 2 M (fun r34c M34 => ∀ x3_39 : Int, x3_39 = v3 + (wrap r34c) → (w_Rits v7 2 M34 (fun r46c M46 => w_Rits v7 (6 + a1) M46 (fun r57c M57 => ∀ x5_63 : Int, x5_63 = v5 + ((wrap r46c) * (wrap r57c)) → (wB_Rtogether_65 a1 a2 k r8 X8_71 x3_39 x5_63 v7 M57)))))))
def wL_Rtogether_8 (a1 : Int) (a2 : Int) (k : Int → gSt → Prop)  (X8_71 : Int → Int → gSt → Prop) : Nat → Int → Int → Int → gSt → Prop
  | 0 => fun _ _ _ _ => False
  | n + 1 => fun v3 v5 v7 M => wC_Rtogether_8 a1 a2 k  (wL_Rtogether_8 a1 a2 k  X8_71 n) X8_71 v3 v5 v7 M
def w_Rtogether (a1 : Int) (a2 : Int) (M : gSt) (k : Int → gSt → Prop) : Prop :=
∃ n, wL_Rtogether_8 a1 a2 k  (fun u3_8 u5_8 M8 =>

    (¬ wrap (ycmp u3_8 0) = 0 →
      (wrapL u3_8 ≠ 0) ∧ (k (Int.tdiv (wrapL u5_8) (wrapL u3_8)) M8)) ∧
    (wrap (ycmp u3_8 0) = 0 →
      k 0 M8)) n 0 0 0 M
set_option maxHeartbeats 4000000 in
set_option maxRecDepth 100000 in
theorem m_Rtogether {l : Launch} {D : va_G} {cl : List vw_C} {tys : List (ClassId × FieldType)} {ad : Nat → Nat} {cI : ClassId} {ci : Nat} (hci : cl[ci]? = some (RX9, TX9, 23)) {a1 : Int} {a2 : Int} {M : gSt} {k : Int → gSt → Prop} (h : w_Rtogether a1 a2 M k) : MOi l yX9_together cX9_together 8 .int (rmR 1 22) D cl ((cI, .int) :: tys) (wR ad cI ci) tR [.ref (ad 0), iv a1, iv a2] M k := by
  refine moi_intro (by decide +kernel) (Nat.le_of_ble_eq_true rfl) wi_245 ?_
  intro p e s m args below meth c A Q C hR
  have pB65 : ∀ (r8 : Int → Int → Int → gSt → Prop) (X8_71 : Int → Int → gSt → Prop) (hr8 : ∀ (v3 : Int) (v5 : Int) (v7 : Int) (M : gSt), r8 v3 v5 v7 M → gG p l e (rmR 1 22) s m args below meth c Q D cl A (wR ad cI ci) 8 8 [(0, .ref (ad 0)), (1, iv a1), (2, iv a2), (3, jv v3), (5, jv v5), (7, iv v7)] [] M) (hX8_71 : ∀ (v3 : Int) (v5 : Int) (M : gSt), X8_71 v3 v5 M → gG p l e (rmR 1 22) s m args below meth c Q D cl A (wR ad cI ci) 8 71 [(3, jv v3), (5, jv v5)] [] M) (v3 : Int) (v5 : Int) (v7 : Int) (M : gSt), wB_Rtogether_65 a1 a2 k r8 X8_71 v3 v5 v7 M → gG p l e (rmR 1 22) s m args below meth c Q D cl A (wR ad cI ci) 8 65 [(0, .ref (ad 0)), (1, iv a1), (2, iv a2), (3, jv v3), (5, jv v5), (7, iv v7)] [] M := by
    intro r8 X8_71 hr8 hX8_71 v3 v5 v7 M h
    unfold wB_Rtogether_65 at h
    refine g_iinc C dR_together_65 rfl (by decide) rfl ?_
    refine g_locals (lv' := [(0, .ref (ad 0)), (1, iv a1), (2, iv a2), (3, jv v3), (5, jv v5), (7, iv (v7 + 1))]) rfl ?_
    refine g_goto C 8 dR_together_68 (by decide) ?_
    refine g_locals (lv' := [(0, .ref (ad 0)), (1, iv a1), (2, iv a2), (3, jv v3), (5, jv v5), (7, iv (v7 + 1))]) rfl ?_
    exact hr8 _ _ _  _ h
  have pC8 : ∀ (r8 : Int → Int → Int → gSt → Prop) (X8_71 : Int → Int → gSt → Prop) (hr8 : ∀ (v3 : Int) (v5 : Int) (v7 : Int) (M : gSt), r8 v3 v5 v7 M → gG p l e (rmR 1 22) s m args below meth c Q D cl A (wR ad cI ci) 8 8 [(0, .ref (ad 0)), (1, iv a1), (2, iv a2), (3, jv v3), (5, jv v5), (7, iv v7)] [] M) (hX8_71 : ∀ (v3 : Int) (v5 : Int) (M : gSt), X8_71 v3 v5 M → gG p l e (rmR 1 22) s m args below meth c Q D cl A (wR ad cI ci) 8 71 [(3, jv v3), (5, jv v5)] [] M) (v3 : Int) (v5 : Int) (v7 : Int) (M : gSt), wC_Rtogether_8 a1 a2 k r8 X8_71 v3 v5 v7 M → gG p l e (rmR 1 22) s m args below meth c Q D cl A (wR ad cI ci) 8 8 [(0, .ref (ad 0)), (1, iv a1), (2, iv a2), (3, jv v3), (5, jv v5), (7, iv v7)] [] M := by
    intro r8 X8_71 hr8 hX8_71 v3 v5 v7 M h
    unfold wC_Rtogether_8 at h
    refine g_iload C dR_together_8 rfl ?_
    refine g_aload_n C dR_together_10 rfl ?_
    refine rf_s C hci dR_together_11 ?_
    refine g_iconst C dR_together_14 ?_
    refine g_iald C (n := 536) dR_together_15 rfl (by decide) ⟨by decide, by decide⟩ ?_
    refine g_icmp_ge C 71 dR_together_16 (by decide) (fun hc => ?_) (fun hc => ?_)
    · replace h := h.1 hc
      refine g_locals (lv' := [(3, jv v3), (5, jv v5)]) rfl ?_
      exact hX8_71 _ _  _ h
    · replace h := h.2 hc
      refine g_iload_n C dR_together_19 rfl ?_
      refine g_iload C dR_together_20 rfl ?_
      refine g_ishr C dR_together_22 ?_
      refine g_iconst C dR_together_23 ?_
      refine g_iand C dR_together_24 ?_
      refine g_iconst C dR_together_25 ?_
      refine g_icmp_ne C 65 dR_together_26 (by decide) (fun hc => ?_) (fun hc => ?_)
      · replace h := h.1 hc
        refine g_locals (lv' := [(0, .ref (ad 0)), (1, iv a1), (2, iv a2), (3, jv v3), (5, jv v5), (7, iv v7)]) rfl ?_
        exact pB65 r8 X8_71 hr8 hX8_71 _ _ _ _ h
      · replace h := h.2 hc
        refine g_lload_n C dR_together_29 rfl ?_
        refine g_aload_n C dR_together_30 rfl ?_
        refine g_iload C dR_together_31 rfl ?_
        refine g_iconst C dR_together_33 ?_
        refine g_callVi C (nargs := 2) (o := 0) (st := [jv v3]) (m_Rits hci h) rfl (by decide) hci rfl gd_its (by decide +kernel) ⟨rfl, rfl⟩ dR_together_34 ⟨by decide, by decide⟩ rfl rfl (Nat.le_of_ble_eq_true rfl) ?_
        intro r34c M34 h
        refine g_i2l C dR_together_37 ?_
        refine g_ladd C dR_together_38 ?_
        refine g_nameL (fun x3_39 hx3_39 => ?_)
        replace h := h x3_39 hx3_39
        refine g_lstore_n C dR_together_39 (by decide) rfl ?_
        refine g_locals (lv' := [(0, .ref (ad 0)), (1, iv a1), (2, iv a2), (3, jv x3_39), (5, jv v5), (7, iv v7)]) rfl ?_
        refine g_lload C dR_together_40 rfl ?_
        refine g_aload_n C dR_together_42 rfl ?_
        refine g_iload C dR_together_43 rfl ?_
        refine g_iconst C dR_together_45 ?_
        refine g_callVi C (nargs := 2) (o := 0) (st := [jv v5]) (m_Rits hci h) rfl (by decide) hci rfl gd_its (by decide +kernel) ⟨rfl, rfl⟩ dR_together_46 ⟨by decide, by decide⟩ rfl rfl (Nat.le_of_ble_eq_true rfl) ?_
        intro r46c M46 h
        refine g_i2l C dR_together_49 ?_
        refine g_aload_n C dR_together_50 rfl ?_
        refine g_iload C dR_together_51 rfl ?_
        refine g_bipush C dR_together_53 rfl ?_
        refine g_iload_n C dR_together_55 rfl ?_
        refine g_iadd C dR_together_56 ?_
        refine g_callVi C (nargs := 2) (o := 0) (st := [jv (wrap r46c), jv v5]) (m_Rits hci h) rfl (by decide) hci rfl gd_its (by decide +kernel) ⟨rfl, rfl⟩ dR_together_57 ⟨by decide, by decide⟩ rfl rfl (Nat.le_of_ble_eq_true rfl) ?_
        intro r57c M57 h
        refine g_i2l C dR_together_60 ?_
        refine g_lmul C dR_together_61 ?_
        refine g_ladd C dR_together_62 ?_
        refine g_nameL (fun x5_63 hx5_63 => ?_)
        replace h := h x5_63 hx5_63
        refine g_lstore C dR_together_63 (by decide) rfl ?_
        refine g_locals (lv' := [(0, .ref (ad 0)), (1, iv a1), (2, iv a2), (3, jv x3_39), (5, jv x5_63), (7, iv v7)]) rfl ?_
        refine g_locals (lv' := [(0, .ref (ad 0)), (1, iv a1), (2, iv a2), (3, jv x3_39), (5, jv x5_63), (7, iv v7)]) rfl ?_
        exact pB65 r8 X8_71 hr8 hX8_71 _ _ _ _ h
  have pL8 : ∀  (X8_71 : Int → Int → gSt → Prop) (hX8_71 : ∀ (v3 : Int) (v5 : Int) (M : gSt), X8_71 v3 v5 M → gG p l e (rmR 1 22) s m args below meth c Q D cl A (wR ad cI ci) 8 71 [(3, jv v3), (5, jv v5)] [] M) (n : Nat) (v3 : Int) (v5 : Int) (v7 : Int) (M : gSt), wL_Rtogether_8 a1 a2 k  X8_71 n v3 v5 v7 M → gG p l e (rmR 1 22) s m args below meth c Q D cl A (wR ad cI ci) 8 8 [(0, .ref (ad 0)), (1, iv a1), (2, iv a2), (3, jv v3), (5, jv v5), (7, iv v7)] [] M := by
    intro  X8_71 hX8_71 n
    induction n with
    | zero => intro v3 v5 v7 M h; exact h.elim
    | succ n ih =>
      intro v3 v5 v7 M h
      exact pC8  (wL_Rtogether_8 a1 a2 k  X8_71 n) X8_71 ih hX8_71 v3 v5 v7 M h
  refine g_locals (lv' := [(0, .ref (ad 0)), (1, iv a1), (2, iv a2)]) rfl ?_
  unfold w_Rtogether at h
  refine g_lconst C 0 rfl dR_together_0 ?_
  refine g_lstore_n C dR_together_1 (by decide) rfl ?_
  refine g_locals (lv' := [(0, .ref (ad 0)), (1, iv a1), (2, iv a2), (3, jv 0)]) rfl ?_
  refine g_lconst C 0 rfl dR_together_2 ?_
  refine g_lstore C dR_together_3 (by decide) rfl ?_
  refine g_locals (lv' := [(0, .ref (ad 0)), (1, iv a1), (2, iv a2), (3, jv 0), (5, jv 0)]) rfl ?_
  refine g_iconst C dR_together_5 ?_
  refine g_istore C dR_together_6 (by decide) rfl ?_
  refine g_locals (lv' := [(0, .ref (ad 0)), (1, iv a1), (2, iv a2), (3, jv 0), (5, jv 0), (7, iv 0)]) rfl ?_
  refine g_locals (lv' := [(0, .ref (ad 0)), (1, iv a1), (2, iv a2), (3, jv 0), (5, jv 0), (7, iv 0)]) rfl ?_
  obtain ⟨n, h⟩ := h
  refine pL8 _ ?_ n _ _ _ _ h
  · intro u3_8 u5_8 M8 h
    refine g_lload_n C dR_together_71 rfl ?_
    refine g_lconst C 0 rfl dR_together_72 ?_
    refine g_lcmp C dR_together_73 ?_
    refine g_if_ne C 81 dR_together_74 (by decide) (fun hc => ?_) (fun hc => ?_)
    · replace h := h.1 hc
      refine g_lload C dR_together_81 rfl ?_
      refine g_lload_n C dR_together_83 rfl ?_
      refine g_ldiv C dR_together_84 h.1 ?_
      replace h := h.2
      refine g_topL (y := Int.tdiv (wrapL u5_8) (wrapL u3_8)) rfl ?_
      refine g_l2i C dR_together_85 ?_
      exact hR _ _ _ _ dR_together_86 rfl h
    · replace h := h.2 hc
      refine g_iconst C dR_together_77 ?_
      refine g_goto C 86 dR_together_78 (by decide) ?_
      exact hR _ _ _ _ dR_together_86 rfl h
def wB_RhaveGrams_40 (a1 : Int) (k : Int → gSt → Prop) (r4 : Int → Int → gSt → Prop) (X4_47 : Int → gSt → Prop) (v3 : Int) (s0 : Int) (M : gSt) : Prop :=
r4 s0 (v3 + 1) M
def wB_RhaveGrams_39 (a1 : Int) (k : Int → gSt → Prop) (r4 : Int → Int → gSt → Prop) (X4_47 : Int → gSt → Prop) (v3 : Int) (M : gSt) : Prop :=
wB_RhaveGrams_40 a1 k r4 X4_47 v3 0 M
def wB_RhaveGrams_35 (a1 : Int) (k : Int → gSt → Prop) (r4 : Int → Int → gSt → Prop) (X4_47 : Int → gSt → Prop) (v3 : Int) (M : gSt) : Prop :=
wB_RhaveGrams_40 a1 k r4 X4_47 v3 1 M
def wC_RhaveGrams_4 (a1 : Int) (k : Int → gSt → Prop) (r4 : Int → Int → gSt → Prop) (X4_47 : Int → gSt → Prop) (v2 : Int) (v3 : Int) (M : gSt) : Prop :=

  (wrap (M 1 0) ≤ wrap v3 →
    X4_47 v2 M) ∧
  (wrap v3 < wrap (M 1 0) →

    (wrap v2 = 0 →
      wB_RhaveGrams_39 a1 k r4 X4_47 v3 M) ∧
    (¬ wrap v2 = 0 →

      (wrap (xand (xshr a1 v3) 1) = 0 →
        wB_RhaveGrams_35 a1 k r4 X4_47 v3 M) ∧
      (¬ wrap (xand (xshr a1 v3) 1) = 0 →
        w_Rits v3 2 M (fun r29c M29 => 
        (wrap r29c ≤ 0 →
          wB_RhaveGrams_39 a1 k r4 X4_47 v3 M29) ∧
        (0 < wrap r29c →
          wB_RhaveGrams_35 a1 k r4 X4_47 v3 M29)))))
def wL_RhaveGrams_4 (a1 : Int) (k : Int → gSt → Prop)  (X4_47 : Int → gSt → Prop) : Nat → Int → Int → gSt → Prop
  | 0 => fun _ _ _ => False
  | n + 1 => fun v2 v3 M => wC_RhaveGrams_4 a1 k  (wL_RhaveGrams_4 a1 k  X4_47 n) X4_47 v2 v3 M
def w_RhaveGrams (a1 : Int) (M : gSt) (k : Int → gSt → Prop) : Prop :=
∃ n, wL_RhaveGrams_4 a1 k  (fun u2_4 M4 =>
    (u2_4 = 0 ∨ u2_4 = 1) ∧ (k u2_4 M4)) n 1 0 M
set_option maxHeartbeats 4000000 in
set_option maxRecDepth 100000 in
theorem m_RhaveGrams {l : Launch} {D : va_G} {cl : List vw_C} {tys : List (ClassId × FieldType)} {ad : Nat → Nat} {cI : ClassId} {ci : Nat} (hci : cl[ci]? = some (RX9, TX9, 23)) {a1 : Int} {M : gSt} {k : Int → gSt → Prop} (h : w_RhaveGrams a1 M k) : MOi l yX9_haveGrams cX9_haveGrams 4 .boolean (rmR 1 22) D cl ((cI, .int) :: tys) (wR ad cI ci) tR [.ref (ad 0), iv a1] M k := by
  refine moi_intro (by decide +kernel) (Nat.le_of_ble_eq_true rfl) wi_246 ?_
  intro p e s m args below meth c A Q C hR
  have pB40 : ∀ (r4 : Int → Int → gSt → Prop) (X4_47 : Int → gSt → Prop) (hr4 : ∀ (v2 : Int) (v3 : Int) (M : gSt), r4 v2 v3 M → gG p l e (rmR 1 22) s m args below meth c Q D cl A (wR ad cI ci) 4 4 [(0, .ref (ad 0)), (1, iv a1), (2, iv v2), (3, iv v3)] [] M) (hX4_47 : ∀ (v2 : Int) (M : gSt), X4_47 v2 M → gG p l e (rmR 1 22) s m args below meth c Q D cl A (wR ad cI ci) 4 47 [(2, iv v2)] [] M) (v3 : Int) (s0 : Int) (M : gSt), wB_RhaveGrams_40 a1 k r4 X4_47 v3 s0 M → gG p l e (rmR 1 22) s m args below meth c Q D cl A (wR ad cI ci) 4 40 [(0, .ref (ad 0)), (1, iv a1), (3, iv v3)] [iv s0] M := by
    intro r4 X4_47 hr4 hX4_47 v3 s0 M h
    unfold wB_RhaveGrams_40 at h
    refine g_istore_n C dR_haveGrams_40 (by decide) rfl ?_
    refine g_locals (lv' := [(0, .ref (ad 0)), (1, iv a1), (2, iv s0), (3, iv v3)]) rfl ?_
    refine g_iinc C dR_haveGrams_41 rfl (by decide) rfl ?_
    refine g_locals (lv' := [(0, .ref (ad 0)), (1, iv a1), (2, iv s0), (3, iv (v3 + 1))]) rfl ?_
    refine g_goto C 4 dR_haveGrams_44 (by decide) ?_
    refine g_locals (lv' := [(0, .ref (ad 0)), (1, iv a1), (2, iv s0), (3, iv (v3 + 1))]) rfl ?_
    exact hr4 _ _  _ h
  have pB39 : ∀ (r4 : Int → Int → gSt → Prop) (X4_47 : Int → gSt → Prop) (hr4 : ∀ (v2 : Int) (v3 : Int) (M : gSt), r4 v2 v3 M → gG p l e (rmR 1 22) s m args below meth c Q D cl A (wR ad cI ci) 4 4 [(0, .ref (ad 0)), (1, iv a1), (2, iv v2), (3, iv v3)] [] M) (hX4_47 : ∀ (v2 : Int) (M : gSt), X4_47 v2 M → gG p l e (rmR 1 22) s m args below meth c Q D cl A (wR ad cI ci) 4 47 [(2, iv v2)] [] M) (v3 : Int) (M : gSt), wB_RhaveGrams_39 a1 k r4 X4_47 v3 M → gG p l e (rmR 1 22) s m args below meth c Q D cl A (wR ad cI ci) 4 39 [(0, .ref (ad 0)), (1, iv a1), (3, iv v3)] [] M := by
    intro r4 X4_47 hr4 hX4_47 v3 M h
    unfold wB_RhaveGrams_39 at h
    refine g_iconst C dR_haveGrams_39 ?_
    refine g_locals (lv' := [(0, .ref (ad 0)), (1, iv a1), (3, iv v3)]) rfl ?_
    exact pB40 r4 X4_47 hr4 hX4_47 _ _ _ h
  have pB35 : ∀ (r4 : Int → Int → gSt → Prop) (X4_47 : Int → gSt → Prop) (hr4 : ∀ (v2 : Int) (v3 : Int) (M : gSt), r4 v2 v3 M → gG p l e (rmR 1 22) s m args below meth c Q D cl A (wR ad cI ci) 4 4 [(0, .ref (ad 0)), (1, iv a1), (2, iv v2), (3, iv v3)] [] M) (hX4_47 : ∀ (v2 : Int) (M : gSt), X4_47 v2 M → gG p l e (rmR 1 22) s m args below meth c Q D cl A (wR ad cI ci) 4 47 [(2, iv v2)] [] M) (v3 : Int) (M : gSt), wB_RhaveGrams_35 a1 k r4 X4_47 v3 M → gG p l e (rmR 1 22) s m args below meth c Q D cl A (wR ad cI ci) 4 35 [(0, .ref (ad 0)), (1, iv a1), (3, iv v3)] [] M := by
    intro r4 X4_47 hr4 hX4_47 v3 M h
    unfold wB_RhaveGrams_35 at h
    refine g_iconst C dR_haveGrams_35 ?_
    refine g_goto C 40 dR_haveGrams_36 (by decide) ?_
    refine g_locals (lv' := [(0, .ref (ad 0)), (1, iv a1), (3, iv v3)]) rfl ?_
    exact pB40 r4 X4_47 hr4 hX4_47 _ _ _ h
  have pC4 : ∀ (r4 : Int → Int → gSt → Prop) (X4_47 : Int → gSt → Prop) (hr4 : ∀ (v2 : Int) (v3 : Int) (M : gSt), r4 v2 v3 M → gG p l e (rmR 1 22) s m args below meth c Q D cl A (wR ad cI ci) 4 4 [(0, .ref (ad 0)), (1, iv a1), (2, iv v2), (3, iv v3)] [] M) (hX4_47 : ∀ (v2 : Int) (M : gSt), X4_47 v2 M → gG p l e (rmR 1 22) s m args below meth c Q D cl A (wR ad cI ci) 4 47 [(2, iv v2)] [] M) (v2 : Int) (v3 : Int) (M : gSt), wC_RhaveGrams_4 a1 k r4 X4_47 v2 v3 M → gG p l e (rmR 1 22) s m args below meth c Q D cl A (wR ad cI ci) 4 4 [(0, .ref (ad 0)), (1, iv a1), (2, iv v2), (3, iv v3)] [] M := by
    intro r4 X4_47 hr4 hX4_47 v2 v3 M h
    unfold wC_RhaveGrams_4 at h
    refine g_iload_n C dR_haveGrams_4 rfl ?_
    refine g_aload_n C dR_haveGrams_5 rfl ?_
    refine rf_s C hci dR_haveGrams_6 ?_
    refine g_iconst C dR_haveGrams_9 ?_
    refine g_iald C (n := 536) dR_haveGrams_10 rfl (by decide) ⟨by decide, by decide⟩ ?_
    refine g_icmp_ge C 47 dR_haveGrams_11 (by decide) (fun hc => ?_) (fun hc => ?_)
    · replace h := h.1 hc
      refine g_locals (lv' := [(2, iv v2)]) rfl ?_
      exact hX4_47 _  _ h
    · replace h := h.2 hc
      refine g_iload_n C dR_haveGrams_14 rfl ?_
      refine g_if_eq C 39 dR_haveGrams_15 (by decide) (fun hc => ?_) (fun hc => ?_)
      · replace h := h.1 hc
        refine g_locals (lv' := [(0, .ref (ad 0)), (1, iv a1), (3, iv v3)]) rfl ?_
        exact pB39 r4 X4_47 hr4 hX4_47 _ _ h
      · replace h := h.2 hc
        refine g_iload_n C dR_haveGrams_18 rfl ?_
        refine g_iload_n C dR_haveGrams_19 rfl ?_
        refine g_ishr C dR_haveGrams_20 ?_
        refine g_iconst C dR_haveGrams_21 ?_
        refine g_iand C dR_haveGrams_22 ?_
        refine g_if_eq C 35 dR_haveGrams_23 (by decide) (fun hc => ?_) (fun hc => ?_)
        · replace h := h.1 hc
          refine g_locals (lv' := [(0, .ref (ad 0)), (1, iv a1), (3, iv v3)]) rfl ?_
          exact pB35 r4 X4_47 hr4 hX4_47 _ _ h
        · replace h := h.2 hc
          refine g_aload_n C dR_haveGrams_26 rfl ?_
          refine g_iload_n C dR_haveGrams_27 rfl ?_
          refine g_iconst C dR_haveGrams_28 ?_
          refine g_callVi C (nargs := 2) (o := 0) (st := []) (m_Rits hci h) rfl (by decide) hci rfl gd_its (by decide +kernel) ⟨rfl, rfl⟩ dR_haveGrams_29 ⟨by decide, by decide⟩ rfl rfl (Nat.le_of_ble_eq_true rfl) ?_
          intro r29c M29 h
          refine g_if_le C 39 dR_haveGrams_32 (by decide) (fun hc => ?_) (fun hc => ?_)
          · replace h := h.1 hc
            refine g_locals (lv' := [(0, .ref (ad 0)), (1, iv a1), (3, iv v3)]) rfl ?_
            exact pB39 r4 X4_47 hr4 hX4_47 _ _ h
          · replace h := h.2 hc
            refine g_locals (lv' := [(0, .ref (ad 0)), (1, iv a1), (3, iv v3)]) rfl ?_
            exact pB35 r4 X4_47 hr4 hX4_47 _ _ h
  have pL4 : ∀  (X4_47 : Int → gSt → Prop) (hX4_47 : ∀ (v2 : Int) (M : gSt), X4_47 v2 M → gG p l e (rmR 1 22) s m args below meth c Q D cl A (wR ad cI ci) 4 47 [(2, iv v2)] [] M) (n : Nat) (v2 : Int) (v3 : Int) (M : gSt), wL_RhaveGrams_4 a1 k  X4_47 n v2 v3 M → gG p l e (rmR 1 22) s m args below meth c Q D cl A (wR ad cI ci) 4 4 [(0, .ref (ad 0)), (1, iv a1), (2, iv v2), (3, iv v3)] [] M := by
    intro  X4_47 hX4_47 n
    induction n with
    | zero => intro v2 v3 M h; exact h.elim
    | succ n ih =>
      intro v2 v3 M h
      exact pC4  (wL_RhaveGrams_4 a1 k  X4_47 n) X4_47 ih hX4_47 v2 v3 M h
  refine g_locals (lv' := [(0, .ref (ad 0)), (1, iv a1)]) rfl ?_
  unfold w_RhaveGrams at h
  refine g_iconst C dR_haveGrams_0 ?_
  refine g_istore_n C dR_haveGrams_1 (by decide) rfl ?_
  refine g_locals (lv' := [(0, .ref (ad 0)), (1, iv a1), (2, iv 1)]) rfl ?_
  refine g_iconst C dR_haveGrams_2 ?_
  refine g_istore_n C dR_haveGrams_3 (by decide) rfl ?_
  refine g_locals (lv' := [(0, .ref (ad 0)), (1, iv a1), (2, iv 1), (3, iv 0)]) rfl ?_
  refine g_locals (lv' := [(0, .ref (ad 0)), (1, iv a1), (2, iv 1), (3, iv 0)]) rfl ?_
  obtain ⟨n, h⟩ := h
  refine pL4 _ ?_ n _ _ _ h
  · intro u2_4 M4 h
    refine g_iload_n C dR_haveGrams_47 rfl ?_
    exact hR _ _ _ _ dR_haveGrams_48 (zn_bool h.1).1 h.2
def wB_Rmost_27 (a1 : Int) (a2 : Int) (a3 : Int) (k : Int → gSt → Prop)   (M : gSt) : Prop :=
w_Rerror 1 M (fun r29c M29 => k r29c M29)
def wB_Rmost_119 (a1 : Int) (a2 : Int) (a3 : Int) (k : Int → gSt → Prop) (r39 : Int → Int → gSt → Prop) (X39_125 : Int → gSt → Prop) (v4 : Int) (v5 : Int) (M : gSt) : Prop :=
r39 v4 (v5 + 1) M
def wB_Rmost_117 (a1 : Int) (a2 : Int) (a3 : Int) (k : Int → gSt → Prop) (r39 : Int → Int → gSt → Prop) (X39_125 : Int → gSt → Prop) (v5 : Int) (s0 : Int) (M : gSt) : Prop :=
wB_Rmost_119 a1 a2 a3 k r39 X39_125 s0 v5 M
def wB_Rmost_110 (a1 : Int) (a2 : Int) (a3 : Int) (k : Int → gSt → Prop) (r39 : Int → Int → gSt → Prop) (X39_125 : Int → gSt → Prop) (v5 : Int) (M : gSt) : Prop :=
wB_Rmost_117 a1 a2 a3 k r39 X39_125 v5 v5 M
def wB_Rmost_115 (a1 : Int) (a2 : Int) (a3 : Int) (k : Int → gSt → Prop) (r39 : Int → Int → gSt → Prop) (X39_125 : Int → gSt → Prop) (v4 : Int) (v5 : Int) (M : gSt) : Prop :=
wB_Rmost_117 a1 a2 a3 k r39 X39_125 v5 v4 M
def wC_Rmost_39 (a1 : Int) (a2 : Int) (a3 : Int) (k : Int → gSt → Prop) (r39 : Int → Int → gSt → Prop) (X39_125 : Int → gSt → Prop) (v4 : Int) (v5 : Int) (M : gSt) : Prop :=

  (wrap (xshl 1 (M 1 0)) ≤ wrap v5 →
    X39_125 v4 M) ∧
  (wrap v5 < wrap (xshl 1 (M 1 0)) →
    w_RbitsOf v5 M (fun r54c M54 => 
    (wrap a2 < wrap r54c →
      wB_Rmost_119 a1 a2 a3 k r39 X39_125 v4 v5 M54) ∧
    (wrap r54c ≤ wrap a2 →
      w_RhaveGrams v5 M54 (fun r64c M64 => 
      (wrap r64c = 0 →
        wB_Rmost_119 a1 a2 a3 k r39 X39_125 v4 v5 M64) ∧
      (¬ wrap r64c = 0 →
        w_Rtogether a1 v5 M64 (fun r74c M74 => w_Rtogether a1 v4 M74 (fun r81c M81 => ∀ x6_85 : Int, x6_85 = r74c - r81c → (
        (0 < wrap x6_85 →
          wB_Rmost_110 a1 a2 a3 k r39 X39_125 v5 M81) ∧
        (wrap x6_85 ≤ 0 →

          (¬ wrap x6_85 = 0 →
            wB_Rmost_115 a1 a2 a3 k r39 X39_125 v4 v5 M81) ∧
          (wrap x6_85 = 0 →
            w_RbitsOf v5 M81 (fun r99c M99 => w_RbitsOf v4 M99 (fun r104c M104 => 
            (wrap r104c ≤ wrap r99c →
              wB_Rmost_115 a1 a2 a3 k r39 X39_125 v4 v5 M104) ∧
            (wrap r99c < wrap r104c →
              wB_Rmost_110 a1 a2 a3 k r39 X39_125 v5 M104)))))))))))))
def wL_Rmost_39 (a1 : Int) (a2 : Int) (a3 : Int) (k : Int → gSt → Prop)  (X39_125 : Int → gSt → Prop) : Nat → Int → Int → gSt → Prop
  | 0 => fun _ _ _ => False
  | n + 1 => fun v4 v5 M => wC_Rmost_39 a1 a2 a3 k  (wL_Rmost_39 a1 a2 a3 k  X39_125 n) X39_125 v4 v5 M
def w_Rmost (a1 : Int) (a2 : Int) (a3 : Int) (M : gSt) (k : Int → gSt → Prop) : Prop :=
w_Rin a1 0 3 M (fun r3c M3 => 
  (wrap r3c = 0 →
    wB_Rmost_27 a1 a2 a3 k   M3) ∧
  (¬ wrap r3c = 0 →
    w_Rin a2 0 3 M3 (fun r12c M12 => 
    (wrap r12c = 0 →
      wB_Rmost_27 a1 a2 a3 k   M12) ∧
    (¬ wrap r12c = 0 →
      w_Rin a3 0 1 M12 (fun r21c M21 => 
      (¬ wrap r21c = 0 →
        ∃ n, wL_Rmost_39 a1 a2 a3 k  (fun u4_39 M39 =>

          (¬ wrap a3 = 0 →
            w_Rtogether a1 u4_39 M39 (fun r138c M138 => k r138c M138)) ∧
          (wrap a3 = 0 →
            k u4_39 M39)) n 0 1 M21) ∧
      (wrap r21c = 0 →
        wB_Rmost_27 a1 a2 a3 k   M21))))))
set_option maxHeartbeats 4000000 in
set_option maxRecDepth 100000 in
theorem m_Rmost {l : Launch} {D : va_G} {cl : List vw_C} {tys : List (ClassId × FieldType)} {ad : Nat → Nat} {cI : ClassId} {ci : Nat} (hci : cl[ci]? = some (RX9, TX9, 23)) {a1 : Int} {a2 : Int} {a3 : Int} {M : gSt} {k : Int → gSt → Prop} (h : w_Rmost a1 a2 a3 M k) : MOi l yX9_most cX9_most 7 .int (rmR 2 49) D cl ((cI, .int) :: tys) (wR ad cI ci) tR [.ref (ad 0), iv a1, iv a2, iv a3] M k := by
  refine moi_intro (by decide +kernel) (Nat.le_of_ble_eq_true rfl) wi_253 ?_
  intro p e s m args below meth c A Q C hR
  have pB27 : ∀    (M : gSt), wB_Rmost_27 a1 a2 a3 k   M → gG p l e (rmR 2 49) s m args below meth c Q D cl A (wR ad cI ci) 7 27 [(0, .ref (ad 0))] [] M := by
    intro    M h
    unfold wB_Rmost_27 at h
    refine g_aload_n C dR_most_27 rfl ?_
    refine g_iconst C dR_most_28 ?_
    refine g_callVi C (nargs := 1) (o := 0) (st := []) (m_Rerror hci h) rfl (by decide) hci rfl gd_error (by decide +kernel) ⟨rfl, rfl⟩ dR_most_29 ⟨by decide, by decide⟩ rfl rfl (Nat.le_of_ble_eq_true rfl) ?_
    intro r29c M29 h
    exact hR _ _ _ _ dR_most_32 rfl h
  have pB119 : ∀ (r39 : Int → Int → gSt → Prop) (X39_125 : Int → gSt → Prop) (hr39 : ∀ (v4 : Int) (v5 : Int) (M : gSt), r39 v4 v5 M → gG p l e (rmR 2 49) s m args below meth c Q D cl A (wR ad cI ci) 7 39 [(0, .ref (ad 0)), (1, iv a1), (2, iv a2), (3, iv a3), (4, iv v4), (5, iv v5)] [] M) (hX39_125 : ∀ (v4 : Int) (M : gSt), X39_125 v4 M → gG p l e (rmR 2 49) s m args below meth c Q D cl A (wR ad cI ci) 7 125 [(0, .ref (ad 0)), (1, iv a1), (3, iv a3), (4, iv v4)] [] M) (v4 : Int) (v5 : Int) (M : gSt), wB_Rmost_119 a1 a2 a3 k r39 X39_125 v4 v5 M → gG p l e (rmR 2 49) s m args below meth c Q D cl A (wR ad cI ci) 7 119 [(0, .ref (ad 0)), (1, iv a1), (2, iv a2), (3, iv a3), (4, iv v4), (5, iv v5)] [] M := by
    intro r39 X39_125 hr39 hX39_125 v4 v5 M h
    unfold wB_Rmost_119 at h
    refine g_iinc C dR_most_119 rfl (by decide) rfl ?_
    refine g_locals (lv' := [(0, .ref (ad 0)), (1, iv a1), (2, iv a2), (3, iv a3), (4, iv v4), (5, iv (v5 + 1))]) rfl ?_
    refine g_goto C 39 dR_most_122 (by decide) ?_
    refine g_locals (lv' := [(0, .ref (ad 0)), (1, iv a1), (2, iv a2), (3, iv a3), (4, iv v4), (5, iv (v5 + 1))]) rfl ?_
    exact hr39 _ _  _ h
  have pB117 : ∀ (r39 : Int → Int → gSt → Prop) (X39_125 : Int → gSt → Prop) (hr39 : ∀ (v4 : Int) (v5 : Int) (M : gSt), r39 v4 v5 M → gG p l e (rmR 2 49) s m args below meth c Q D cl A (wR ad cI ci) 7 39 [(0, .ref (ad 0)), (1, iv a1), (2, iv a2), (3, iv a3), (4, iv v4), (5, iv v5)] [] M) (hX39_125 : ∀ (v4 : Int) (M : gSt), X39_125 v4 M → gG p l e (rmR 2 49) s m args below meth c Q D cl A (wR ad cI ci) 7 125 [(0, .ref (ad 0)), (1, iv a1), (3, iv a3), (4, iv v4)] [] M) (v5 : Int) (s0 : Int) (M : gSt), wB_Rmost_117 a1 a2 a3 k r39 X39_125 v5 s0 M → gG p l e (rmR 2 49) s m args below meth c Q D cl A (wR ad cI ci) 7 117 [(0, .ref (ad 0)), (1, iv a1), (2, iv a2), (3, iv a3), (5, iv v5)] [iv s0] M := by
    intro r39 X39_125 hr39 hX39_125 v5 s0 M h
    unfold wB_Rmost_117 at h
    refine g_istore C dR_most_117 (by decide) rfl ?_
    refine g_locals (lv' := [(0, .ref (ad 0)), (1, iv a1), (2, iv a2), (3, iv a3), (4, iv s0), (5, iv v5)]) rfl ?_
    refine g_locals (lv' := [(0, .ref (ad 0)), (1, iv a1), (2, iv a2), (3, iv a3), (4, iv s0), (5, iv v5)]) rfl ?_
    exact pB119 r39 X39_125 hr39 hX39_125 _ _ _ h
  have pB110 : ∀ (r39 : Int → Int → gSt → Prop) (X39_125 : Int → gSt → Prop) (hr39 : ∀ (v4 : Int) (v5 : Int) (M : gSt), r39 v4 v5 M → gG p l e (rmR 2 49) s m args below meth c Q D cl A (wR ad cI ci) 7 39 [(0, .ref (ad 0)), (1, iv a1), (2, iv a2), (3, iv a3), (4, iv v4), (5, iv v5)] [] M) (hX39_125 : ∀ (v4 : Int) (M : gSt), X39_125 v4 M → gG p l e (rmR 2 49) s m args below meth c Q D cl A (wR ad cI ci) 7 125 [(0, .ref (ad 0)), (1, iv a1), (3, iv a3), (4, iv v4)] [] M) (v5 : Int) (M : gSt), wB_Rmost_110 a1 a2 a3 k r39 X39_125 v5 M → gG p l e (rmR 2 49) s m args below meth c Q D cl A (wR ad cI ci) 7 110 [(0, .ref (ad 0)), (1, iv a1), (2, iv a2), (3, iv a3), (5, iv v5)] [] M := by
    intro r39 X39_125 hr39 hX39_125 v5 M h
    unfold wB_Rmost_110 at h
    refine g_iload C dR_most_110 rfl ?_
    refine g_goto C 117 dR_most_112 (by decide) ?_
    refine g_locals (lv' := [(0, .ref (ad 0)), (1, iv a1), (2, iv a2), (3, iv a3), (5, iv v5)]) rfl ?_
    exact pB117 r39 X39_125 hr39 hX39_125 _ _ _ h
  have pB115 : ∀ (r39 : Int → Int → gSt → Prop) (X39_125 : Int → gSt → Prop) (hr39 : ∀ (v4 : Int) (v5 : Int) (M : gSt), r39 v4 v5 M → gG p l e (rmR 2 49) s m args below meth c Q D cl A (wR ad cI ci) 7 39 [(0, .ref (ad 0)), (1, iv a1), (2, iv a2), (3, iv a3), (4, iv v4), (5, iv v5)] [] M) (hX39_125 : ∀ (v4 : Int) (M : gSt), X39_125 v4 M → gG p l e (rmR 2 49) s m args below meth c Q D cl A (wR ad cI ci) 7 125 [(0, .ref (ad 0)), (1, iv a1), (3, iv a3), (4, iv v4)] [] M) (v4 : Int) (v5 : Int) (M : gSt), wB_Rmost_115 a1 a2 a3 k r39 X39_125 v4 v5 M → gG p l e (rmR 2 49) s m args below meth c Q D cl A (wR ad cI ci) 7 115 [(0, .ref (ad 0)), (1, iv a1), (2, iv a2), (3, iv a3), (4, iv v4), (5, iv v5)] [] M := by
    intro r39 X39_125 hr39 hX39_125 v4 v5 M h
    unfold wB_Rmost_115 at h
    refine g_iload C dR_most_115 rfl ?_
    refine g_locals (lv' := [(0, .ref (ad 0)), (1, iv a1), (2, iv a2), (3, iv a3), (5, iv v5)]) rfl ?_
    exact pB117 r39 X39_125 hr39 hX39_125 _ _ _ h
  have pC39 : ∀ (r39 : Int → Int → gSt → Prop) (X39_125 : Int → gSt → Prop) (hr39 : ∀ (v4 : Int) (v5 : Int) (M : gSt), r39 v4 v5 M → gG p l e (rmR 2 49) s m args below meth c Q D cl A (wR ad cI ci) 7 39 [(0, .ref (ad 0)), (1, iv a1), (2, iv a2), (3, iv a3), (4, iv v4), (5, iv v5)] [] M) (hX39_125 : ∀ (v4 : Int) (M : gSt), X39_125 v4 M → gG p l e (rmR 2 49) s m args below meth c Q D cl A (wR ad cI ci) 7 125 [(0, .ref (ad 0)), (1, iv a1), (3, iv a3), (4, iv v4)] [] M) (v4 : Int) (v5 : Int) (M : gSt), wC_Rmost_39 a1 a2 a3 k r39 X39_125 v4 v5 M → gG p l e (rmR 2 49) s m args below meth c Q D cl A (wR ad cI ci) 7 39 [(0, .ref (ad 0)), (1, iv a1), (2, iv a2), (3, iv a3), (4, iv v4), (5, iv v5)] [] M := by
    intro r39 X39_125 hr39 hX39_125 v4 v5 M h
    unfold wC_Rmost_39 at h
    refine g_iload C dR_most_39 rfl ?_
    refine g_iconst C dR_most_41 ?_
    refine g_aload_n C dR_most_42 rfl ?_
    refine rf_s C hci dR_most_43 ?_
    refine g_iconst C dR_most_46 ?_
    refine g_iald C (n := 536) dR_most_47 rfl (by decide) ⟨by decide, by decide⟩ ?_
    refine g_ishl C dR_most_48 ?_
    refine g_icmp_ge C 125 dR_most_49 (by decide) (fun hc => ?_) (fun hc => ?_)
    · replace h := h.1 hc
      refine g_locals (lv' := [(0, .ref (ad 0)), (1, iv a1), (3, iv a3), (4, iv v4)]) rfl ?_
      exact hX39_125 _  _ h
    · replace h := h.2 hc
      refine g_iload C dR_most_52 rfl ?_
      refine g_callSi C (nargs := 1) (st := []) (m_RbitsOf hci h) gd_bitsOf (by decide +kernel) ⟨rfl, rfl⟩ dR_most_54 ⟨by decide, by decide⟩ rfl rfl (Nat.le_of_ble_eq_true rfl) ?_
      intro r54c M54 h
      refine g_iload_n C dR_most_57 rfl ?_
      refine g_icmp_gt C 119 dR_most_58 (by decide) (fun hc => ?_) (fun hc => ?_)
      · replace h := h.1 hc
        refine g_locals (lv' := [(0, .ref (ad 0)), (1, iv a1), (2, iv a2), (3, iv a3), (4, iv v4), (5, iv v5)]) rfl ?_
        exact pB119 r39 X39_125 hr39 hX39_125 _ _ _ h
      · replace h := h.2 hc
        refine g_aload_n C dR_most_61 rfl ?_
        refine g_iload C dR_most_62 rfl ?_
        refine g_callVi C (nargs := 1) (o := 0) (st := []) (m_RhaveGrams hci h) rfl (by decide) hci rfl gd_haveGrams (by decide +kernel) ⟨rfl, rfl⟩ dR_most_64 ⟨by decide, by decide⟩ rfl rfl (Nat.le_of_ble_eq_true rfl) ?_
        intro r64c M64 h
        refine g_if_eq C 119 dR_most_67 (by decide) (fun hc => ?_) (fun hc => ?_)
        · replace h := h.1 hc
          refine g_locals (lv' := [(0, .ref (ad 0)), (1, iv a1), (2, iv a2), (3, iv a3), (4, iv v4), (5, iv v5)]) rfl ?_
          exact pB119 r39 X39_125 hr39 hX39_125 _ _ _ h
        · replace h := h.2 hc
          refine g_aload_n C dR_most_70 rfl ?_
          refine g_iload_n C dR_most_71 rfl ?_
          refine g_iload C dR_most_72 rfl ?_
          refine g_callVi C (nargs := 2) (o := 0) (st := []) (m_Rtogether hci h) rfl (by decide) hci rfl gd_together (by decide +kernel) ⟨rfl, rfl⟩ dR_most_74 ⟨by decide, by decide⟩ rfl rfl (Nat.le_of_ble_eq_true rfl) ?_
          intro r74c M74 h
          refine g_aload_n C dR_most_77 rfl ?_
          refine g_iload_n C dR_most_78 rfl ?_
          refine g_iload C dR_most_79 rfl ?_
          refine g_callVi C (nargs := 2) (o := 0) (st := [iv r74c]) (m_Rtogether hci h) rfl (by decide) hci rfl gd_together (by decide +kernel) ⟨rfl, rfl⟩ dR_most_81 ⟨by decide, by decide⟩ rfl rfl (Nat.le_of_ble_eq_true rfl) ?_
          intro r81c M81 h
          refine g_isub C dR_most_84 ?_
          refine g_name (fun x6_85 hx6_85 => ?_)
          replace h := h x6_85 hx6_85
          refine g_istore C dR_most_85 (by decide) rfl ?_
          refine g_locals (lv' := [(0, .ref (ad 0)), (1, iv a1), (2, iv a2), (3, iv a3), (4, iv v4), (5, iv v5), (6, iv x6_85)]) rfl ?_
          refine g_iload C dR_most_87 rfl ?_
          refine g_if_gt C 110 dR_most_89 (by decide) (fun hc => ?_) (fun hc => ?_)
          · replace h := h.1 hc
            refine g_locals (lv' := [(0, .ref (ad 0)), (1, iv a1), (2, iv a2), (3, iv a3), (5, iv v5)]) rfl ?_
            exact pB110 r39 X39_125 hr39 hX39_125 _ _ h
          · replace h := h.2 hc
            refine g_iload C dR_most_92 rfl ?_
            refine g_if_ne C 115 dR_most_94 (by decide) (fun hc => ?_) (fun hc => ?_)
            · replace h := h.1 hc
              refine g_locals (lv' := [(0, .ref (ad 0)), (1, iv a1), (2, iv a2), (3, iv a3), (4, iv v4), (5, iv v5)]) rfl ?_
              exact pB115 r39 X39_125 hr39 hX39_125 _ _ _ h
            · replace h := h.2 hc
              refine g_iload C dR_most_97 rfl ?_
              refine g_callSi C (nargs := 1) (st := []) (m_RbitsOf hci h) gd_bitsOf (by decide +kernel) ⟨rfl, rfl⟩ dR_most_99 ⟨by decide, by decide⟩ rfl rfl (Nat.le_of_ble_eq_true rfl) ?_
              intro r99c M99 h
              refine g_iload C dR_most_102 rfl ?_
              refine g_callSi C (nargs := 1) (st := [iv r99c]) (m_RbitsOf hci h) gd_bitsOf (by decide +kernel) ⟨rfl, rfl⟩ dR_most_104 ⟨by decide, by decide⟩ rfl rfl (Nat.le_of_ble_eq_true rfl) ?_
              intro r104c M104 h
              refine g_icmp_ge C 115 dR_most_107 (by decide) (fun hc => ?_) (fun hc => ?_)
              · replace h := h.1 hc
                refine g_locals (lv' := [(0, .ref (ad 0)), (1, iv a1), (2, iv a2), (3, iv a3), (4, iv v4), (5, iv v5)]) rfl ?_
                exact pB115 r39 X39_125 hr39 hX39_125 _ _ _ h
              · replace h := h.2 hc
                refine g_locals (lv' := [(0, .ref (ad 0)), (1, iv a1), (2, iv a2), (3, iv a3), (5, iv v5)]) rfl ?_
                exact pB110 r39 X39_125 hr39 hX39_125 _ _ h
  have pL39 : ∀  (X39_125 : Int → gSt → Prop) (hX39_125 : ∀ (v4 : Int) (M : gSt), X39_125 v4 M → gG p l e (rmR 2 49) s m args below meth c Q D cl A (wR ad cI ci) 7 125 [(0, .ref (ad 0)), (1, iv a1), (3, iv a3), (4, iv v4)] [] M) (n : Nat) (v4 : Int) (v5 : Int) (M : gSt), wL_Rmost_39 a1 a2 a3 k  X39_125 n v4 v5 M → gG p l e (rmR 2 49) s m args below meth c Q D cl A (wR ad cI ci) 7 39 [(0, .ref (ad 0)), (1, iv a1), (2, iv a2), (3, iv a3), (4, iv v4), (5, iv v5)] [] M := by
    intro  X39_125 hX39_125 n
    induction n with
    | zero => intro v4 v5 M h; exact h.elim
    | succ n ih =>
      intro v4 v5 M h
      exact pC39  (wL_Rmost_39 a1 a2 a3 k  X39_125 n) X39_125 ih hX39_125 v4 v5 M h
  refine g_locals (lv' := [(0, .ref (ad 0)), (1, iv a1), (2, iv a2), (3, iv a3)]) rfl ?_
  unfold w_Rmost at h
  refine g_iload_n C dR_most_0 rfl ?_
  refine g_iconst C dR_most_1 ?_
  refine g_iconst C dR_most_2 ?_
  refine g_callSi C (nargs := 3) (st := []) (m_Rin hci h) gd_in (by decide +kernel) ⟨rfl, rfl⟩ dR_most_3 ⟨by decide, by decide⟩ rfl rfl (Nat.le_of_ble_eq_true rfl) ?_
  intro r3c M3 h
  refine g_if_eq C 27 dR_most_6 (by decide) (fun hc => ?_) (fun hc => ?_)
  · replace h := h.1 hc
    refine g_locals (lv' := [(0, .ref (ad 0))]) rfl ?_
    exact pB27  _ h
  · replace h := h.2 hc
    refine g_iload_n C dR_most_9 rfl ?_
    refine g_iconst C dR_most_10 ?_
    refine g_iconst C dR_most_11 ?_
    refine g_callSi C (nargs := 3) (st := []) (m_Rin hci h) gd_in (by decide +kernel) ⟨rfl, rfl⟩ dR_most_12 ⟨by decide, by decide⟩ rfl rfl (Nat.le_of_ble_eq_true rfl) ?_
    intro r12c M12 h
    refine g_if_eq C 27 dR_most_15 (by decide) (fun hc => ?_) (fun hc => ?_)
    · replace h := h.1 hc
      refine g_locals (lv' := [(0, .ref (ad 0))]) rfl ?_
      exact pB27  _ h
    · replace h := h.2 hc
      refine g_iload_n C dR_most_18 rfl ?_
      refine g_iconst C dR_most_19 ?_
      refine g_iconst C dR_most_20 ?_
      refine g_callSi C (nargs := 3) (st := []) (m_Rin hci h) gd_in (by decide +kernel) ⟨rfl, rfl⟩ dR_most_21 ⟨by decide, by decide⟩ rfl rfl (Nat.le_of_ble_eq_true rfl) ?_
      intro r21c M21 h
      refine g_if_ne C 33 dR_most_24 (by decide) (fun hc => ?_) (fun hc => ?_)
      · replace h := h.1 hc
        refine g_iconst C dR_most_33 ?_
        refine g_istore C dR_most_34 (by decide) rfl ?_
        refine g_locals (lv' := [(0, .ref (ad 0)), (1, iv a1), (2, iv a2), (3, iv a3), (4, iv 0)]) rfl ?_
        refine g_iconst C dR_most_36 ?_
        refine g_istore C dR_most_37 (by decide) rfl ?_
        refine g_locals (lv' := [(0, .ref (ad 0)), (1, iv a1), (2, iv a2), (3, iv a3), (4, iv 0), (5, iv 1)]) rfl ?_
        refine g_locals (lv' := [(0, .ref (ad 0)), (1, iv a1), (2, iv a2), (3, iv a3), (4, iv 0), (5, iv 1)]) rfl ?_
        obtain ⟨n, h⟩ := h
        refine pL39 _ ?_ n _ _ _ h
        · intro u4_39 M39 h
          refine g_iload_n C dR_most_125 rfl ?_
          refine g_if_ne C 134 dR_most_126 (by decide) (fun hc => ?_) (fun hc => ?_)
          · replace h := h.1 hc
            refine g_aload_n C dR_most_134 rfl ?_
            refine g_iload_n C dR_most_135 rfl ?_
            refine g_iload C dR_most_136 rfl ?_
            refine g_callVi C (nargs := 2) (o := 0) (st := []) (m_Rtogether hci h) rfl (by decide) hci rfl gd_together (by decide +kernel) ⟨rfl, rfl⟩ dR_most_138 ⟨by decide, by decide⟩ rfl rfl (Nat.le_of_ble_eq_true rfl) ?_
            intro r138c M138 h
            exact hR _ _ _ _ dR_most_141 rfl h
          · replace h := h.2 hc
            refine g_iload C dR_most_129 rfl ?_
            refine g_goto C 141 dR_most_131 (by decide) ?_
            exact hR _ _ _ _ dR_most_141 rfl h
      · replace h := h.2 hc
        refine g_locals (lv' := [(0, .ref (ad 0))]) rfl ?_
        exact pB27  _ h
def w_Rbegins (a1 : Int) (M : gSt) (k : gSt → Prop) : Prop :=

  (30 ≤ wrap (M 0 16) →
    k M) ∧
  (wrap (M 0 16) < 30 →
    (0 ≤ M 0 16 ∧ M 0 16 < 30) ∧ (∀ M18 : gSt, M18 = wr M 10 (M 0 16) a1 → (∀ M26 : gSt, M26 = wr M18 0 16 ((M18 0 16) + 1) → (k M26))))
set_option maxHeartbeats 4000000 in
set_option maxRecDepth 100000 in
theorem m_Rbegins {l : Launch} {D : va_G} {cl : List vw_C} {tys : List (ClassId × FieldType)} {ad : Nat → Nat} {cI : ClassId} {ci : Nat} (hci : cl[ci]? = some (RX9, TX9, 23)) {a1 : Int} {M : gSt} {k : gSt → Prop} (h : w_Rbegins a1 M k) : MOv l yX9_begins cX9_begins 2 (rmR 0 0) D cl ((cI, .int) :: tys) (wR ad cI ci) tR [.ref (ad 0), iv a1] M k := by
  refine mov_intro (by decide +kernel) (Nat.le_of_ble_eq_true rfl) wi_255 ?_
  intro p e s m args below meth c A Q C hR
  refine g_locals (lv' := [(0, .ref (ad 0)), (1, iv a1)]) rfl ?_
  unfold w_Rbegins at h
  refine g_aload_n C dR_begins_0 rfl ?_
  refine rf_traced C hci dR_begins_1 ?_
  refine g_bipush C dR_begins_4 rfl ?_
  refine g_icmp_ge C 29 dR_begins_6 (by decide) (fun hc => ?_) (fun hc => ?_)
  · replace h := h.1 hc
    exact hR _ _ _ dR_begins_29 h
  · replace h := h.2 hc
    refine g_aload_n C dR_begins_9 rfl ?_
    refine rf_trace C hci dR_begins_10 ?_
    refine g_aload_n C dR_begins_13 rfl ?_
    refine rf_traced C hci dR_begins_14 ?_
    refine g_iload_n C dR_begins_17 rfl ?_
    refine g_iast C (n := 30) dR_begins_18 rfl (by decide) h.1 ?_
    replace h := h.2
    refine g_memname (fun M18 hM18 => ?_)
    replace h := h M18 hM18
    refine g_aload_n C dR_begins_19 rfl ?_
    refine g_dup C dR_begins_20 rfl ?_
    refine rf_traced C hci dR_begins_21 ?_
    refine g_iconst C dR_begins_24 ?_
    refine g_iadd C dR_begins_25 ?_
    refine rp_traced C hci dR_begins_26 ?_
    refine g_memname (fun M26 hM26 => ?_)
    replace h := h M26 hM26
    exact hR _ _ _ dR_begins_29 h
def w_Rabove (a1 : Int) (M : gSt) (k : Int → gSt → Prop) : Prop :=

  (¬ wrap a1 = 4 →

    (¬ wrap a1 = 5 →

      (¬ wrap a1 = 6 →
        k 0 M) ∧
      (wrap a1 = 6 →
        k 3 M)) ∧
    (wrap a1 = 5 →
      k 2 M)) ∧
  (wrap a1 = 4 →
    k 1 M)
set_option maxHeartbeats 4000000 in
set_option maxRecDepth 100000 in
theorem m_Rabove {l : Launch} {D : va_G} {cl : List vw_C} {tys : List (ClassId × FieldType)} {ad : Nat → Nat} {cI : ClassId} {ci : Nat} (hci : cl[ci]? = some (RX9, TX9, 23)) {a1 : Int} {M : gSt} {k : Int → gSt → Prop} (h : w_Rabove a1 M k) : MOi l yX9_above cX9_above 1 .int (rmR 0 0) D cl ((cI, .int) :: tys) (wR ad cI ci) tR [iv a1] M k := by
  refine moi_intro (by decide +kernel) (Nat.le_of_ble_eq_true rfl) wi_256 ?_
  intro p e s m args below meth c A Q C hR
  refine g_locals (lv' := [(0, iv a1)]) rfl ?_
  unfold w_Rabove at h
  refine g_iload_n C dR_above_0 rfl ?_
  refine g_iconst C dR_above_1 ?_
  refine g_icmp_ne C 9 dR_above_2 (by decide) (fun hc => ?_) (fun hc => ?_)
  · replace h := h.1 hc
    refine g_iload_n C dR_above_9 rfl ?_
    refine g_iconst C dR_above_10 ?_
    refine g_icmp_ne C 18 dR_above_11 (by decide) (fun hc => ?_) (fun hc => ?_)
    · replace h := h.1 hc
      refine g_iload_n C dR_above_18 rfl ?_
      refine g_bipush C dR_above_19 rfl ?_
      refine g_icmp_ne C 28 dR_above_21 (by decide) (fun hc => ?_) (fun hc => ?_)
      · replace h := h.1 hc
        refine g_iconst C dR_above_28 ?_
        exact hR _ _ _ _ dR_above_29 rfl h
      · replace h := h.2 hc
        refine g_iconst C dR_above_24 ?_
        refine g_goto C 29 dR_above_25 (by decide) ?_
        exact hR _ _ _ _ dR_above_29 rfl h
    · replace h := h.2 hc
      refine g_iconst C dR_above_14 ?_
      refine g_goto C 29 dR_above_15 (by decide) ?_
      exact hR _ _ _ _ dR_above_29 rfl h
  · replace h := h.2 hc
    refine g_iconst C dR_above_5 ?_
    refine g_goto C 29 dR_above_6 (by decide) ?_
    exact hR _ _ _ _ dR_above_29 rfl h
def w_RkindNow  (M : gSt) (k : Int → gSt → Prop) : Prop :=
w_Rits (M 0 17) 0 M (fun r6c M6 => k r6c M6)
set_option maxHeartbeats 4000000 in
set_option maxRecDepth 100000 in
theorem m_RkindNow {l : Launch} {D : va_G} {cl : List vw_C} {tys : List (ClassId × FieldType)} {ad : Nat → Nat} {cI : ClassId} {ci : Nat} (hci : cl[ci]? = some (RX9, TX9, 23))  {M : gSt} {k : Int → gSt → Prop} (h : w_RkindNow  M k) : MOi l yX9_kindNow cX9_kindNow 1 .int (rmR 1 22) D cl ((cI, .int) :: tys) (wR ad cI ci) tR [.ref (ad 0)] M k := by
  refine moi_intro (by decide +kernel) (Nat.le_of_ble_eq_true rfl) wi_258 ?_
  intro p e s m args below meth c A Q C hR
  refine g_locals (lv' := [(0, .ref (ad 0))]) rfl ?_
  unfold w_RkindNow at h
  refine g_aload_n C dR_kindNow_0 rfl ?_
  refine g_aload_n C dR_kindNow_1 rfl ?_
  refine rf_speaks C hci dR_kindNow_2 ?_
  refine g_iconst C dR_kindNow_5 ?_
  refine g_callVi C (nargs := 2) (o := 0) (st := []) (m_Rits hci h) rfl (by decide) hci rfl gd_its (by decide +kernel) ⟨rfl, rfl⟩ dR_kindNow_6 ⟨by decide, by decide⟩ rfl rfl (Nat.le_of_ble_eq_true rfl) ?_
  intro r6c M6 h
  exact hR _ _ _ _ dR_kindNow_9 rfl h
def w_RmNow  (M : gSt) (k : Int → gSt → Prop) : Prop :=
w_Rits (M 0 17) 1 M (fun r6c M6 => k r6c M6)
set_option maxHeartbeats 4000000 in
set_option maxRecDepth 100000 in
theorem m_RmNow {l : Launch} {D : va_G} {cl : List vw_C} {tys : List (ClassId × FieldType)} {ad : Nat → Nat} {cI : ClassId} {ci : Nat} (hci : cl[ci]? = some (RX9, TX9, 23))  {M : gSt} {k : Int → gSt → Prop} (h : w_RmNow  M k) : MOi l yX9_mNow cX9_mNow 1 .int (rmR 1 22) D cl ((cI, .int) :: tys) (wR ad cI ci) tR [.ref (ad 0)] M k := by
  refine moi_intro (by decide +kernel) (Nat.le_of_ble_eq_true rfl) wi_259 ?_
  intro p e s m args below meth c A Q C hR
  refine g_locals (lv' := [(0, .ref (ad 0))]) rfl ?_
  unfold w_RmNow at h
  refine g_aload_n C dR_mNow_0 rfl ?_
  refine g_aload_n C dR_mNow_1 rfl ?_
  refine rf_speaks C hci dR_mNow_2 ?_
  refine g_iconst C dR_mNow_5 ?_
  refine g_callVi C (nargs := 2) (o := 0) (st := []) (m_Rits hci h) rfl (by decide) hci rfl gd_its (by decide +kernel) ⟨rfl, rfl⟩ dR_mNow_6 ⟨by decide, by decide⟩ rfl rfl (Nat.le_of_ble_eq_true rfl) ?_
  intro r6c M6 h
  exact hR _ _ _ _ dR_mNow_9 rfl h
def w_Rbody (a1 : Int) (M : gSt) (k : Int → gSt → Prop) : Prop :=
w_Rin a1 0 ((M 0 16) - 1) M (fun r8c M8 => 
  (wrap r8c = 0 →
    w_Rerror 2 M8 (fun r25c M25 => k r25c M25)) ∧
  (¬ wrap r8c = 0 →
    (0 ≤ a1 ∧ a1 < 30) ∧ (k (M8 10 a1) M8)))
set_option maxHeartbeats 4000000 in
set_option maxRecDepth 100000 in
theorem m_Rbody {l : Launch} {D : va_G} {cl : List vw_C} {tys : List (ClassId × FieldType)} {ad : Nat → Nat} {cI : ClassId} {ci : Nat} (hci : cl[ci]? = some (RX9, TX9, 23)) {a1 : Int} {M : gSt} {k : Int → gSt → Prop} (h : w_Rbody a1 M k) : MOi l yX9_body cX9_body 2 .int (rmR 1 22) D cl ((cI, .int) :: tys) (wR ad cI ci) tR [.ref (ad 0), iv a1] M k := by
  refine moi_intro (by decide +kernel) (Nat.le_of_ble_eq_true rfl) wi_289 ?_
  intro p e s m args below meth c A Q C hR
  refine g_locals (lv' := [(0, .ref (ad 0)), (1, iv a1)]) rfl ?_
  unfold w_Rbody at h
  refine g_iload_n C dR_body_0 rfl ?_
  refine g_iconst C dR_body_1 ?_
  refine g_aload_n C dR_body_2 rfl ?_
  refine rf_traced C hci dR_body_3 ?_
  refine g_iconst C dR_body_6 ?_
  refine g_isub C dR_body_7 ?_
  refine g_callSi C (nargs := 3) (st := []) (m_Rin hci h) gd_in (by decide +kernel) ⟨rfl, rfl⟩ dR_body_8 ⟨by decide, by decide⟩ rfl rfl (Nat.le_of_ble_eq_true rfl) ?_
  intro r8c M8 h
  refine g_if_eq C 23 dR_body_11 (by decide) (fun hc => ?_) (fun hc => ?_)
  · replace h := h.1 hc
    refine g_aload_n C dR_body_23 rfl ?_
    refine g_iconst C dR_body_24 ?_
    refine g_callVi C (nargs := 1) (o := 0) (st := []) (m_Rerror hci h) rfl (by decide) hci rfl gd_error (by decide +kernel) ⟨rfl, rfl⟩ dR_body_25 ⟨by decide, by decide⟩ rfl rfl (Nat.le_of_ble_eq_true rfl) ?_
    intro r25c M25 h
    exact hR _ _ _ _ dR_body_28 rfl h
  · replace h := h.2 hc
    refine g_aload_n C dR_body_14 rfl ?_
    refine rf_trace C hci dR_body_15 ?_
    refine g_iload_n C dR_body_18 rfl ?_
    refine g_iald C (n := 30) dR_body_19 rfl (by decide) h.1 ?_
    replace h := h.2
    refine g_goto C 28 dR_body_20 (by decide) ?_
    exact hR _ _ _ _ dR_body_28 rfl h
def w_RisSheet (a1 : Int) (M : gSt) (k : Int → gSt → Prop) : Prop :=
w_Rin a1 0 3 M (fun r3c M3 => (r3c = 0 ∨ r3c = 1) ∧ (k r3c M3))
set_option maxHeartbeats 4000000 in
set_option maxRecDepth 100000 in
theorem m_RisSheet {l : Launch} {D : va_G} {cl : List vw_C} {tys : List (ClassId × FieldType)} {ad : Nat → Nat} {cI : ClassId} {ci : Nat} (hci : cl[ci]? = some (RX9, TX9, 23)) {a1 : Int} {M : gSt} {k : Int → gSt → Prop} (h : w_RisSheet a1 M k) : MOi l yX9_isSheet cX9_isSheet 1 .boolean (rmR 1 22) D cl ((cI, .int) :: tys) (wR ad cI ci) tR [iv a1] M k := by
  refine moi_intro (by decide +kernel) (Nat.le_of_ble_eq_true rfl) wi_290 ?_
  intro p e s m args below meth c A Q C hR
  refine g_locals (lv' := [(0, iv a1)]) rfl ?_
  unfold w_RisSheet at h
  refine g_iload_n C dR_isSheet_0 rfl ?_
  refine g_iconst C dR_isSheet_1 ?_
  refine g_iconst C dR_isSheet_2 ?_
  refine g_callSi C (nargs := 3) (st := []) (m_Rin hci h) gd_in (by decide +kernel) ⟨rfl, rfl⟩ dR_isSheet_3 ⟨by decide, by decide⟩ rfl rfl (Nat.le_of_ble_eq_true rfl) ?_
  intro r3c M3 h
  exact hR _ _ _ _ dR_isSheet_6 (zn_bool h.1).1 h.2
def wB_Rsheet_29 (a1 : Int) (a2 : Int) (a3 : Int) (k : Int → gSt → Prop)   (M : gSt) : Prop :=
w_Rerror 1 M (fun r31c M31 => k r31c M31)
def wC_Rsheet_90 (a1 : Int) (a2 : Int) (a3 : Int) (k : Int → gSt → Prop) (r90 : Int → gSt → Prop) (X90_116 : gSt → Prop) (v4 : Int) (M : gSt) : Prop :=

  (24 ≤ wrap v4 →
    X90_116  M) ∧
  (wrap v4 < 24 →
    (0 ≤ (24 * a1) + v4 ∧ (24 * a1) + v4 < 96) ∧ (∀ M109 : gSt, M109 = wr M 13 ((24 * a1) + v4) 0 → (r90 (v4 + 1) M109)))
def wL_Rsheet_90 (a1 : Int) (a2 : Int) (a3 : Int) (k : Int → gSt → Prop)  (X90_116 : gSt → Prop) : Nat → Int → gSt → Prop
  | 0 => fun _ _ => False
  | n + 1 => fun v4 M => wC_Rsheet_90 a1 a2 a3 k  (wL_Rsheet_90 a1 a2 a3 k  X90_116 n) X90_116 v4 M
def wB_Rsheet_86 (a1 : Int) (a2 : Int) (a3 : Int) (k : Int → gSt → Prop)  (s0 : Int) (s1 : Int) (M : gSt) : Prop :=
(0 ≤ s1 ∧ s1 < 4) ∧ (∀ M86 : gSt, M86 = wr M 12 s1 s0 → (∃ n, wL_Rsheet_90 a1 a2 a3 k  (fun  M90 =>
    k 1 M90) n 0 M86))
def wB_Rsheet_65 (a1 : Int) (a2 : Int) (a3 : Int) (k : Int → gSt → Prop)   (M : gSt) : Prop :=
(0 ≤ a1 ∧ a1 < 4) ∧ (∀ M71 : gSt, M71 = wr M 11 a1 a2 → (
  (¬ wrap a2 = 0 →
    wB_Rsheet_86 a1 a2 a3 k  a3 a1 M71) ∧
  (wrap a2 = 0 →
    wB_Rsheet_86 a1 a2 a3 k  0 a1 M71)))
def wB_Rsheet_49 (a1 : Int) (a2 : Int) (a3 : Int) (k : Int → gSt → Prop)   (M : gSt) : Prop :=

  (wrap a2 = 0 →
    wB_Rsheet_65 a1 a2 a3 k   M) ∧
  (¬ wrap a2 = 0 →

    (wrap a3 ≤ 24 →
      wB_Rsheet_65 a1 a2 a3 k   M) ∧
    (24 < wrap a3 →
      w_Rerror 1 M (fun r61c M61 => k r61c M61)))
def wB_Rsheet_35 (a1 : Int) (a2 : Int) (a3 : Int) (k : Int → gSt → Prop)   (M : gSt) : Prop :=

  (wrap a2 = 0 →
    wB_Rsheet_49 a1 a2 a3 k   M) ∧
  (¬ wrap a2 = 0 →

    (0 ≤ wrap a3 →
      wB_Rsheet_49 a1 a2 a3 k   M) ∧
    (wrap a3 < 0 →
      w_Rerror 3 M (fun r45c M45 => k r45c M45)))
def w_Rsheet (a1 : Int) (a2 : Int) (a3 : Int) (M : gSt) (k : Int → gSt → Prop) : Prop :=
w_RisSheet a1 M (fun r1c M1 => 
  (wrap r1c = 0 →
    wB_Rsheet_29 a1 a2 a3 k   M1) ∧
  (¬ wrap r1c = 0 →

    (wrap a2 = 0 →
      wB_Rsheet_35 a1 a2 a3 k   M1) ∧
    (¬ wrap a2 = 0 →

      (wrap a2 = 8 →
        wB_Rsheet_35 a1 a2 a3 k   M1) ∧
      (¬ wrap a2 = 8 →

        (wrap a2 = 16 →
          wB_Rsheet_35 a1 a2 a3 k   M1) ∧
        (¬ wrap a2 = 16 →

          (wrap a2 = 32 →
            wB_Rsheet_35 a1 a2 a3 k   M1) ∧
          (¬ wrap a2 = 32 →
            wB_Rsheet_29 a1 a2 a3 k   M1))))))
set_option maxHeartbeats 4000000 in
set_option maxRecDepth 100000 in
theorem m_Rsheet {l : Launch} {D : va_G} {cl : List vw_C} {tys : List (ClassId × FieldType)} {ad : Nat → Nat} {cI : ClassId} {ci : Nat} (hci : cl[ci]? = some (RX9, TX9, 23)) {a1 : Int} {a2 : Int} {a3 : Int} {M : gSt} {k : Int → gSt → Prop} (h : w_Rsheet a1 a2 a3 M k) : MOi l yX9_sheet cX9_sheet 5 .int (rmR 2 42) D cl ((cI, .int) :: tys) (wR ad cI ci) tR [.ref (ad 0), iv a1, iv a2, iv a3] M k := by
  refine moi_intro (by decide +kernel) (Nat.le_of_ble_eq_true rfl) wi_293 ?_
  intro p e s m args below meth c A Q C hR
  have pB29 : ∀    (M : gSt), wB_Rsheet_29 a1 a2 a3 k   M → gG p l e (rmR 2 42) s m args below meth c Q D cl A (wR ad cI ci) 5 29 [(0, .ref (ad 0))] [] M := by
    intro    M h
    unfold wB_Rsheet_29 at h
    refine g_aload_n C dR_sheet_29 rfl ?_
    refine g_iconst C dR_sheet_30 ?_
    refine g_callVi C (nargs := 1) (o := 0) (st := []) (m_Rerror hci h) rfl (by decide) hci rfl gd_error (by decide +kernel) ⟨rfl, rfl⟩ dR_sheet_31 ⟨by decide, by decide⟩ rfl rfl (Nat.le_of_ble_eq_true rfl) ?_
    intro r31c M31 h
    exact hR _ _ _ _ dR_sheet_34 rfl h
  have pC90 : ∀ (r90 : Int → gSt → Prop) (X90_116 : gSt → Prop) (hr90 : ∀ (v4 : Int) (M : gSt), r90 v4 M → gG p l e (rmR 2 42) s m args below meth c Q D cl A (wR ad cI ci) 5 90 [(0, .ref (ad 0)), (1, iv a1), (4, iv v4)] [] M) (hX90_116 : ∀  (M : gSt), X90_116  M → gG p l e (rmR 2 42) s m args below meth c Q D cl A (wR ad cI ci) 5 116 [] [] M) (v4 : Int) (M : gSt), wC_Rsheet_90 a1 a2 a3 k r90 X90_116 v4 M → gG p l e (rmR 2 42) s m args below meth c Q D cl A (wR ad cI ci) 5 90 [(0, .ref (ad 0)), (1, iv a1), (4, iv v4)] [] M := by
    intro r90 X90_116 hr90 hX90_116 v4 M h
    unfold wC_Rsheet_90 at h
    refine g_iload C dR_sheet_90 rfl ?_
    refine g_bipush C dR_sheet_92 rfl ?_
    refine g_icmp_ge C 116 dR_sheet_94 (by decide) (fun hc => ?_) (fun hc => ?_)
    · replace h := h.1 hc
      refine g_locals (lv' := []) rfl ?_
      exact hX90_116  _ h
    · replace h := h.2 hc
      refine g_aload_n C dR_sheet_97 rfl ?_
      refine rf_number C hci dR_sheet_98 ?_
      refine g_bipush C dR_sheet_101 rfl ?_
      refine g_iload_n C dR_sheet_103 rfl ?_
      refine g_imul C dR_sheet_104 ?_
      refine g_iload C dR_sheet_105 rfl ?_
      refine g_iadd C dR_sheet_107 ?_
      refine g_iconst C dR_sheet_108 ?_
      refine g_iast C (n := 96) dR_sheet_109 rfl (by decide) h.1 ?_
      replace h := h.2
      refine g_memname (fun M109 hM109 => ?_)
      replace h := h M109 hM109
      refine g_iinc C dR_sheet_110 rfl (by decide) rfl ?_
      refine g_locals (lv' := [(0, .ref (ad 0)), (1, iv a1), (4, iv (v4 + 1))]) rfl ?_
      refine g_goto C 90 dR_sheet_113 (by decide) ?_
      refine g_locals (lv' := [(0, .ref (ad 0)), (1, iv a1), (4, iv (v4 + 1))]) rfl ?_
      exact hr90 _  _ h
  have pL90 : ∀  (X90_116 : gSt → Prop) (hX90_116 : ∀  (M : gSt), X90_116  M → gG p l e (rmR 2 42) s m args below meth c Q D cl A (wR ad cI ci) 5 116 [] [] M) (n : Nat) (v4 : Int) (M : gSt), wL_Rsheet_90 a1 a2 a3 k  X90_116 n v4 M → gG p l e (rmR 2 42) s m args below meth c Q D cl A (wR ad cI ci) 5 90 [(0, .ref (ad 0)), (1, iv a1), (4, iv v4)] [] M := by
    intro  X90_116 hX90_116 n
    induction n with
    | zero => intro v4 M h; exact h.elim
    | succ n ih =>
      intro v4 M h
      exact pC90  (wL_Rsheet_90 a1 a2 a3 k  X90_116 n) X90_116 ih hX90_116 v4 M h
  have pB86 : ∀   (s0 : Int) (s1 : Int) (M : gSt), wB_Rsheet_86 a1 a2 a3 k  s0 s1 M → gG p l e (rmR 2 42) s m args below meth c Q D cl A (wR ad cI ci) 5 86 [(0, .ref (ad 0)), (1, iv a1)] [iv s0, iv s1, .ref (ad 12)] M := by
    intro   s0 s1 M h
    unfold wB_Rsheet_86 at h
    refine g_iast C (n := 4) dR_sheet_86 rfl (by decide) h.1 ?_
    replace h := h.2
    refine g_memname (fun M86 hM86 => ?_)
    replace h := h M86 hM86
    refine g_iconst C dR_sheet_87 ?_
    refine g_istore C dR_sheet_88 (by decide) rfl ?_
    refine g_locals (lv' := [(0, .ref (ad 0)), (1, iv a1), (4, iv 0)]) rfl ?_
    refine g_locals (lv' := [(0, .ref (ad 0)), (1, iv a1), (4, iv 0)]) rfl ?_
    obtain ⟨n, h⟩ := h
    refine pL90 _ ?_ n _ _ h
    · intro  M90 h
      refine g_iconst C dR_sheet_116 ?_
      exact hR _ _ _ _ dR_sheet_117 rfl h
  have pB65 : ∀    (M : gSt), wB_Rsheet_65 a1 a2 a3 k   M → gG p l e (rmR 2 42) s m args below meth c Q D cl A (wR ad cI ci) 5 65 [(0, .ref (ad 0)), (1, iv a1), (2, iv a2), (3, iv a3)] [] M := by
    intro    M h
    unfold wB_Rsheet_65 at h
    refine g_aload_n C dR_sheet_65 rfl ?_
    refine rf_bits C hci dR_sheet_66 ?_
    refine g_iload_n C dR_sheet_69 rfl ?_
    refine g_iload_n C dR_sheet_70 rfl ?_
    refine g_iast C (n := 4) dR_sheet_71 rfl (by decide) h.1 ?_
    replace h := h.2
    refine g_memname (fun M71 hM71 => ?_)
    replace h := h M71 hM71
    refine g_aload_n C dR_sheet_72 rfl ?_
    refine rf_sizes C hci dR_sheet_73 ?_
    refine g_iload_n C dR_sheet_76 rfl ?_
    refine g_iload_n C dR_sheet_77 rfl ?_
    refine g_if_ne C 85 dR_sheet_78 (by decide) (fun hc => ?_) (fun hc => ?_)
    · replace h := h.1 hc
      refine g_iload_n C dR_sheet_85 rfl ?_
      refine g_locals (lv' := [(0, .ref (ad 0)), (1, iv a1)]) rfl ?_
      exact pB86 _ _ _ h
    · replace h := h.2 hc
      refine g_iconst C dR_sheet_81 ?_
      refine g_goto C 86 dR_sheet_82 (by decide) ?_
      refine g_locals (lv' := [(0, .ref (ad 0)), (1, iv a1)]) rfl ?_
      exact pB86 _ _ _ h
  have pB49 : ∀    (M : gSt), wB_Rsheet_49 a1 a2 a3 k   M → gG p l e (rmR 2 42) s m args below meth c Q D cl A (wR ad cI ci) 5 49 [(0, .ref (ad 0)), (1, iv a1), (2, iv a2), (3, iv a3)] [] M := by
    intro    M h
    unfold wB_Rsheet_49 at h
    refine g_iload_n C dR_sheet_49 rfl ?_
    refine g_if_eq C 65 dR_sheet_50 (by decide) (fun hc => ?_) (fun hc => ?_)
    · replace h := h.1 hc
      refine g_locals (lv' := [(0, .ref (ad 0)), (1, iv a1), (2, iv a2), (3, iv a3)]) rfl ?_
      exact pB65  _ h
    · replace h := h.2 hc
      refine g_iload_n C dR_sheet_53 rfl ?_
      refine g_bipush C dR_sheet_54 rfl ?_
      refine g_icmp_le C 65 dR_sheet_56 (by decide) (fun hc => ?_) (fun hc => ?_)
      · replace h := h.1 hc
        refine g_locals (lv' := [(0, .ref (ad 0)), (1, iv a1), (2, iv a2), (3, iv a3)]) rfl ?_
        exact pB65  _ h
      · replace h := h.2 hc
        refine g_aload_n C dR_sheet_59 rfl ?_
        refine g_iconst C dR_sheet_60 ?_
        refine g_callVi C (nargs := 1) (o := 0) (st := []) (m_Rerror hci h) rfl (by decide) hci rfl gd_error (by decide +kernel) ⟨rfl, rfl⟩ dR_sheet_61 ⟨by decide, by decide⟩ rfl rfl (Nat.le_of_ble_eq_true rfl) ?_
        intro r61c M61 h
        exact hR _ _ _ _ dR_sheet_64 rfl h
  have pB35 : ∀    (M : gSt), wB_Rsheet_35 a1 a2 a3 k   M → gG p l e (rmR 2 42) s m args below meth c Q D cl A (wR ad cI ci) 5 35 [(0, .ref (ad 0)), (1, iv a1), (2, iv a2), (3, iv a3)] [] M := by
    intro    M h
    unfold wB_Rsheet_35 at h
    refine g_iload_n C dR_sheet_35 rfl ?_
    refine g_if_eq C 49 dR_sheet_36 (by decide) (fun hc => ?_) (fun hc => ?_)
    · replace h := h.1 hc
      refine g_locals (lv' := [(0, .ref (ad 0)), (1, iv a1), (2, iv a2), (3, iv a3)]) rfl ?_
      exact pB49  _ h
    · replace h := h.2 hc
      refine g_iload_n C dR_sheet_39 rfl ?_
      refine g_if_ge C 49 dR_sheet_40 (by decide) (fun hc => ?_) (fun hc => ?_)
      · replace h := h.1 hc
        refine g_locals (lv' := [(0, .ref (ad 0)), (1, iv a1), (2, iv a2), (3, iv a3)]) rfl ?_
        exact pB49  _ h
      · replace h := h.2 hc
        refine g_aload_n C dR_sheet_43 rfl ?_
        refine g_iconst C dR_sheet_44 ?_
        refine g_callVi C (nargs := 1) (o := 0) (st := []) (m_Rerror hci h) rfl (by decide) hci rfl gd_error (by decide +kernel) ⟨rfl, rfl⟩ dR_sheet_45 ⟨by decide, by decide⟩ rfl rfl (Nat.le_of_ble_eq_true rfl) ?_
        intro r45c M45 h
        exact hR _ _ _ _ dR_sheet_48 rfl h
  refine g_locals (lv' := [(0, .ref (ad 0)), (1, iv a1), (2, iv a2), (3, iv a3)]) rfl ?_
  unfold w_Rsheet at h
  refine g_iload_n C dR_sheet_0 rfl ?_
  refine g_callSi C (nargs := 1) (st := []) (m_RisSheet hci h) gd_isSheet (by decide +kernel) ⟨rfl, rfl⟩ dR_sheet_1 ⟨by decide, by decide⟩ rfl rfl (Nat.le_of_ble_eq_true rfl) ?_
  intro r1c M1 h
  refine g_if_eq C 29 dR_sheet_4 (by decide) (fun hc => ?_) (fun hc => ?_)
  · replace h := h.1 hc
    refine g_locals (lv' := [(0, .ref (ad 0))]) rfl ?_
    exact pB29  _ h
  · replace h := h.2 hc
    refine g_iload_n C dR_sheet_7 rfl ?_
    refine g_if_eq C 35 dR_sheet_8 (by decide) (fun hc => ?_) (fun hc => ?_)
    · replace h := h.1 hc
      refine g_locals (lv' := [(0, .ref (ad 0)), (1, iv a1), (2, iv a2), (3, iv a3)]) rfl ?_
      exact pB35  _ h
    · replace h := h.2 hc
      refine g_iload_n C dR_sheet_11 rfl ?_
      refine g_bipush C dR_sheet_12 rfl ?_
      refine g_icmp_eq C 35 dR_sheet_14 (by decide) (fun hc => ?_) (fun hc => ?_)
      · replace h := h.1 hc
        refine g_locals (lv' := [(0, .ref (ad 0)), (1, iv a1), (2, iv a2), (3, iv a3)]) rfl ?_
        exact pB35  _ h
      · replace h := h.2 hc
        refine g_iload_n C dR_sheet_17 rfl ?_
        refine g_bipush C dR_sheet_18 rfl ?_
        refine g_icmp_eq C 35 dR_sheet_20 (by decide) (fun hc => ?_) (fun hc => ?_)
        · replace h := h.1 hc
          refine g_locals (lv' := [(0, .ref (ad 0)), (1, iv a1), (2, iv a2), (3, iv a3)]) rfl ?_
          exact pB35  _ h
        · replace h := h.2 hc
          refine g_iload_n C dR_sheet_23 rfl ?_
          refine g_bipush C dR_sheet_24 rfl ?_
          refine g_icmp_eq C 35 dR_sheet_26 (by decide) (fun hc => ?_) (fun hc => ?_)
          · replace h := h.1 hc
            refine g_locals (lv' := [(0, .ref (ad 0)), (1, iv a1), (2, iv a2), (3, iv a3)]) rfl ?_
            exact pB35  _ h
          · replace h := h.2 hc
            refine g_locals (lv' := [(0, .ref (ad 0))]) rfl ?_
            exact pB29  _ h
def w_Rput (a1 : Int) (a2 : Int) (a3 : Int) (M : gSt) (k : Int → gSt → Prop) : Prop :=
w_RisSheet a1 M (fun r1c M1 => 
  (¬ wrap r1c = 0 →
    (0 ≤ a1 ∧ a1 < 4) ∧ (
    (¬ wrap (M1 11 a1) = 0 →
      (0 ≤ a1 ∧ a1 < 4) ∧ (w_Rin a2 0 ((M1 12 a1) - 1) M1 (fun r38c M38 => 
      (¬ wrap r38c = 0 →
        (0 ≤ a1 ∧ a1 < 4) ∧ (∀ x4_59 : Int, x4_59 = 32 - (M38 11 a1) → ((0 ≤ (24 * a1) + a2 ∧ (24 * a1) + a2 < 96) ∧ (∀ M78 : gSt, M78 = wr M38 13 ((24 * a1) + a2) (xshr (xshl a3 x4_59) x4_59) → (k 1 M78))))) ∧
      (wrap r38c = 0 →
        w_Rerror 1 M38 (fun r46c M46 => k r46c M46))))) ∧
    (wrap (M1 11 a1) = 0 →
      w_Rerror 2 M1 (fun r24c M24 => k r24c M24)))) ∧
  (wrap r1c = 0 →
    w_Rerror 1 M1 (fun r9c M9 => k r9c M9)))
set_option maxHeartbeats 4000000 in
set_option maxRecDepth 100000 in
theorem m_Rput {l : Launch} {D : va_G} {cl : List vw_C} {tys : List (ClassId × FieldType)} {ad : Nat → Nat} {cI : ClassId} {ci : Nat} (hci : cl[ci]? = some (RX9, TX9, 23)) {a1 : Int} {a2 : Int} {a3 : Int} {M : gSt} {k : Int → gSt → Prop} (h : w_Rput a1 a2 a3 M k) : MOi l yX9_put cX9_put 5 .int (rmR 2 42) D cl ((cI, .int) :: tys) (wR ad cI ci) tR [.ref (ad 0), iv a1, iv a2, iv a3] M k := by
  refine moi_intro (by decide +kernel) (Nat.le_of_ble_eq_true rfl) wi_294 ?_
  intro p e s m args below meth c A Q C hR
  refine g_locals (lv' := [(0, .ref (ad 0)), (1, iv a1), (2, iv a2), (3, iv a3)]) rfl ?_
  unfold w_Rput at h
  refine g_iload_n C dR_put_0 rfl ?_
  refine g_callSi C (nargs := 1) (st := []) (m_RisSheet hci h) gd_isSheet (by decide +kernel) ⟨rfl, rfl⟩ dR_put_1 ⟨by decide, by decide⟩ rfl rfl (Nat.le_of_ble_eq_true rfl) ?_
  intro r1c M1 h
  refine g_if_ne C 13 dR_put_4 (by decide) (fun hc => ?_) (fun hc => ?_)
  · replace h := h.1 hc
    refine g_aload_n C dR_put_13 rfl ?_
    refine rf_bits C hci dR_put_14 ?_
    refine g_iload_n C dR_put_17 rfl ?_
    refine g_iald C (n := 4) dR_put_18 rfl (by decide) h.1 ?_
    replace h := h.2
    refine g_if_ne C 28 dR_put_19 (by decide) (fun hc => ?_) (fun hc => ?_)
    · replace h := h.1 hc
      refine g_iload_n C dR_put_28 rfl ?_
      refine g_iconst C dR_put_29 ?_
      refine g_aload_n C dR_put_30 rfl ?_
      refine rf_sizes C hci dR_put_31 ?_
      refine g_iload_n C dR_put_34 rfl ?_
      refine g_iald C (n := 4) dR_put_35 rfl (by decide) h.1 ?_
      replace h := h.2
      refine g_iconst C dR_put_36 ?_
      refine g_isub C dR_put_37 ?_
      refine g_callSi C (nargs := 3) (st := []) (m_Rin hci h) gd_in (by decide +kernel) ⟨rfl, rfl⟩ dR_put_38 ⟨by decide, by decide⟩ rfl rfl (Nat.le_of_ble_eq_true rfl) ?_
      intro r38c M38 h
      refine g_if_ne C 50 dR_put_41 (by decide) (fun hc => ?_) (fun hc => ?_)
      · replace h := h.1 hc
        refine g_bipush C dR_put_50 rfl ?_
        refine g_aload_n C dR_put_52 rfl ?_
        refine rf_bits C hci dR_put_53 ?_
        refine g_iload_n C dR_put_56 rfl ?_
        refine g_iald C (n := 4) dR_put_57 rfl (by decide) h.1 ?_
        replace h := h.2
        refine g_isub C dR_put_58 ?_
        refine g_name (fun x4_59 hx4_59 => ?_)
        replace h := h x4_59 hx4_59
        refine g_istore C dR_put_59 (by decide) rfl ?_
        refine g_locals (lv' := [(0, .ref (ad 0)), (1, iv a1), (2, iv a2), (3, iv a3), (4, iv x4_59)]) rfl ?_
        refine g_aload_n C dR_put_61 rfl ?_
        refine rf_number C hci dR_put_62 ?_
        refine g_bipush C dR_put_65 rfl ?_
        refine g_iload_n C dR_put_67 rfl ?_
        refine g_imul C dR_put_68 ?_
        refine g_iload_n C dR_put_69 rfl ?_
        refine g_iadd C dR_put_70 ?_
        refine g_iload_n C dR_put_71 rfl ?_
        refine g_iload C dR_put_72 rfl ?_
        refine g_ishl C dR_put_74 ?_
        refine g_iload C dR_put_75 rfl ?_
        refine g_ishr C dR_put_77 ?_
        refine g_iast C (n := 96) dR_put_78 rfl (by decide) h.1 ?_
        replace h := h.2
        refine g_memname (fun M78 hM78 => ?_)
        replace h := h M78 hM78
        refine g_iconst C dR_put_79 ?_
        exact hR _ _ _ _ dR_put_80 rfl h
      · replace h := h.2 hc
        refine g_aload_n C dR_put_44 rfl ?_
        refine g_iconst C dR_put_45 ?_
        refine g_callVi C (nargs := 1) (o := 0) (st := []) (m_Rerror hci h) rfl (by decide) hci rfl gd_error (by decide +kernel) ⟨rfl, rfl⟩ dR_put_46 ⟨by decide, by decide⟩ rfl rfl (Nat.le_of_ble_eq_true rfl) ?_
        intro r46c M46 h
        exact hR _ _ _ _ dR_put_49 rfl h
    · replace h := h.2 hc
      refine g_aload_n C dR_put_22 rfl ?_
      refine g_iconst C dR_put_23 ?_
      refine g_callVi C (nargs := 1) (o := 0) (st := []) (m_Rerror hci h) rfl (by decide) hci rfl gd_error (by decide +kernel) ⟨rfl, rfl⟩ dR_put_24 ⟨by decide, by decide⟩ rfl rfl (Nat.le_of_ble_eq_true rfl) ?_
      intro r24c M24 h
      exact hR _ _ _ _ dR_put_27 rfl h
  · replace h := h.2 hc
    refine g_aload_n C dR_put_7 rfl ?_
    refine g_iconst C dR_put_8 ?_
    refine g_callVi C (nargs := 1) (o := 0) (st := []) (m_Rerror hci h) rfl (by decide) hci rfl gd_error (by decide +kernel) ⟨rfl, rfl⟩ dR_put_9 ⟨by decide, by decide⟩ rfl rfl (Nat.le_of_ble_eq_true rfl) ?_
    intro r9c M9 h
    exact hR _ _ _ _ dR_put_12 rfl h
end
section
def wB_Rmove_14 (a1 : Int) (a2 : Int) (a3 : Int) (a4 : Int) (a5 : Int) (k : Int → gSt → Prop)   (M : gSt) : Prop :=
w_Rerror 1 M (fun r16c M16 => k r16c M16)
def wB_Rmove_38 (a1 : Int) (a2 : Int) (a3 : Int) (a4 : Int) (a5 : Int) (k : Int → gSt → Prop)   (M : gSt) : Prop :=
w_Rerror 2 M (fun r40c M40 => k r40c M40)
def wB_Rmove_106 (a1 : Int) (a2 : Int) (a3 : Int) (a4 : Int) (a5 : Int) (k : Int → gSt → Prop)   (M : gSt) : Prop :=
w_Rerror 1 M (fun r108c M108 => k r108c M108)
def wC_Rmove_115 (a1 : Int) (a2 : Int) (a3 : Int) (a4 : Int) (a5 : Int) (k : Int → gSt → Prop) (r115 : Int → gSt → Prop) (X115_149 : gSt → Prop) (v6 : Int) (M : gSt) : Prop :=

  (wrap a5 ≤ wrap v6 →
    X115_149  M) ∧
  (wrap v6 < wrap a5 →
    (0 ≤ ((24 * a1) + a2) + v6 ∧ ((24 * a1) + a2) + v6 < 96) ∧ ((0 ≤ v6 ∧ v6 < 24) ∧ (∀ M142 : gSt, M142 = wr M 14 v6 (M 13 (((24 * a1) + a2) + v6)) → (r115 (v6 + 1) M142))))
def wL_Rmove_115 (a1 : Int) (a2 : Int) (a3 : Int) (a4 : Int) (a5 : Int) (k : Int → gSt → Prop)  (X115_149 : gSt → Prop) : Nat → Int → gSt → Prop
  | 0 => fun _ _ => False
  | n + 1 => fun v6 M => wC_Rmove_115 a1 a2 a3 a4 a5 k  (wL_Rmove_115 a1 a2 a3 a4 a5 k  X115_149 n) X115_149 v6 M
def wC_Rmove_152 (a1 : Int) (a2 : Int) (a3 : Int) (a4 : Int) (a5 : Int) (k : Int → gSt → Prop) (r152 : Int → gSt → Prop) (X152_187 : gSt → Prop) (v6 : Int) (M : gSt) : Prop :=

  (wrap a5 ≤ wrap v6 →
    X152_187  M) ∧
  (wrap v6 < wrap a5 →
    (0 ≤ v6 ∧ v6 < 24) ∧ ((0 ≤ ((24 * a3) + a4) + v6 ∧ ((24 * a3) + a4) + v6 < 96) ∧ (∀ M180 : gSt, M180 = wr M 13 (((24 * a3) + a4) + v6) (M 14 v6) → (r152 (v6 + 1) M180))))
def wL_Rmove_152 (a1 : Int) (a2 : Int) (a3 : Int) (a4 : Int) (a5 : Int) (k : Int → gSt → Prop)  (X152_187 : gSt → Prop) : Nat → Int → gSt → Prop
  | 0 => fun _ _ => False
  | n + 1 => fun v6 M => wC_Rmove_152 a1 a2 a3 a4 a5 k  (wL_Rmove_152 a1 a2 a3 a4 a5 k  X152_187 n) X152_187 v6 M
def w_Rmove (a1 : Int) (a2 : Int) (a3 : Int) (a4 : Int) (a5 : Int) (M : gSt) (k : Int → gSt → Prop) : Prop :=
w_RisSheet a1 M (fun r1c M1 => 
  (wrap r1c = 0 →
    wB_Rmove_14 a1 a2 a3 a4 a5 k   M1) ∧
  (¬ wrap r1c = 0 →
    w_RisSheet a3 M1 (fun r8c M8 => 
    (¬ wrap r8c = 0 →
      (0 ≤ a1 ∧ a1 < 4) ∧ (
      (wrap (M8 11 a1) = 0 →
        wB_Rmove_38 a1 a2 a3 a4 a5 k   M8) ∧
      (¬ wrap (M8 11 a1) = 0 →
        (0 ≤ a3 ∧ a3 < 4) ∧ (
        (¬ wrap (M8 11 a3) = 0 →
          (0 ≤ a1 ∧ a1 < 4) ∧ ((0 ≤ a3 ∧ a3 < 4) ∧ (
          (wrap (M8 11 a1) = wrap (M8 11 a3) →

            (wrap a5 < 0 →
              wB_Rmove_106 a1 a2 a3 a4 a5 k   M8) ∧
            (0 ≤ wrap a5 →

              (wrap a2 < 0 →
                wB_Rmove_106 a1 a2 a3 a4 a5 k   M8) ∧
              (0 ≤ wrap a2 →

                (wrap a4 < 0 →
                  wB_Rmove_106 a1 a2 a3 a4 a5 k   M8) ∧
                (0 ≤ wrap a4 →
                  (0 ≤ a1 ∧ a1 < 4) ∧ (
                  (wrap ((M8 12 a1) - a5) < wrap a2 →
                    wB_Rmove_106 a1 a2 a3 a4 a5 k   M8) ∧
                  (wrap a2 ≤ wrap ((M8 12 a1) - a5) →
                    (0 ≤ a3 ∧ a3 < 4) ∧ (
                    (wrap a4 ≤ wrap ((M8 12 a3) - a5) →
                      ∃ n, wL_Rmove_115 a1 a2 a3 a4 a5 k  (fun  M115 =>
                        ∃ n, wL_Rmove_152 a1 a2 a3 a4 a5 k  (fun  M152 =>
                          k a5 M152) n 0 M115) n 0 M8) ∧
                    (wrap ((M8 12 a3) - a5) < wrap a4 →
                      wB_Rmove_106 a1 a2 a3 a4 a5 k   M8)))))))) ∧
          (¬ wrap (M8 11 a1) = wrap (M8 11 a3) →
            w_Rerror 5 M8 (fun r61c M61 => k r61c M61))))) ∧
        (wrap (M8 11 a3) = 0 →
          wB_Rmove_38 a1 a2 a3 a4 a5 k   M8))))) ∧
    (wrap r8c = 0 →
      wB_Rmove_14 a1 a2 a3 a4 a5 k   M8))))
set_option maxHeartbeats 4000000 in
set_option maxRecDepth 100000 in
theorem m_Rmove {l : Launch} {D : va_G} {cl : List vw_C} {tys : List (ClassId × FieldType)} {ad : Nat → Nat} {cI : ClassId} {ci : Nat} (hci : cl[ci]? = some (RX9, TX9, 23)) {a1 : Int} {a2 : Int} {a3 : Int} {a4 : Int} {a5 : Int} {M : gSt} {k : Int → gSt → Prop} (h : w_Rmove a1 a2 a3 a4 a5 M k) : MOi l yX9_move cX9_move 7 .int (rmR 2 42) D cl ((cI, .int) :: tys) (wR ad cI ci) tR [.ref (ad 0), iv a1, iv a2, iv a3, iv a4, iv a5] M k := by
  refine moi_intro (by decide +kernel) (Nat.le_of_ble_eq_true rfl) wi_295 ?_
  intro p e s m args below meth c A Q C hR
  have pB14 : ∀    (M : gSt), wB_Rmove_14 a1 a2 a3 a4 a5 k   M → gG p l e (rmR 2 42) s m args below meth c Q D cl A (wR ad cI ci) 7 14 [(0, .ref (ad 0))] [] M := by
    intro    M h
    unfold wB_Rmove_14 at h
    refine g_aload_n C dR_move_14 rfl ?_
    refine g_iconst C dR_move_15 ?_
    refine g_callVi C (nargs := 1) (o := 0) (st := []) (m_Rerror hci h) rfl (by decide) hci rfl gd_error (by decide +kernel) ⟨rfl, rfl⟩ dR_move_16 ⟨by decide, by decide⟩ rfl rfl (Nat.le_of_ble_eq_true rfl) ?_
    intro r16c M16 h
    exact hR _ _ _ _ dR_move_19 rfl h
  have pB38 : ∀    (M : gSt), wB_Rmove_38 a1 a2 a3 a4 a5 k   M → gG p l e (rmR 2 42) s m args below meth c Q D cl A (wR ad cI ci) 7 38 [(0, .ref (ad 0))] [] M := by
    intro    M h
    unfold wB_Rmove_38 at h
    refine g_aload_n C dR_move_38 rfl ?_
    refine g_iconst C dR_move_39 ?_
    refine g_callVi C (nargs := 1) (o := 0) (st := []) (m_Rerror hci h) rfl (by decide) hci rfl gd_error (by decide +kernel) ⟨rfl, rfl⟩ dR_move_40 ⟨by decide, by decide⟩ rfl rfl (Nat.le_of_ble_eq_true rfl) ?_
    intro r40c M40 h
    exact hR _ _ _ _ dR_move_43 rfl h
  have pB106 : ∀    (M : gSt), wB_Rmove_106 a1 a2 a3 a4 a5 k   M → gG p l e (rmR 2 42) s m args below meth c Q D cl A (wR ad cI ci) 7 106 [(0, .ref (ad 0))] [] M := by
    intro    M h
    unfold wB_Rmove_106 at h
    refine g_aload_n C dR_move_106 rfl ?_
    refine g_iconst C dR_move_107 ?_
    refine g_callVi C (nargs := 1) (o := 0) (st := []) (m_Rerror hci h) rfl (by decide) hci rfl gd_error (by decide +kernel) ⟨rfl, rfl⟩ dR_move_108 ⟨by decide, by decide⟩ rfl rfl (Nat.le_of_ble_eq_true rfl) ?_
    intro r108c M108 h
    exact hR _ _ _ _ dR_move_111 rfl h
  have pC115 : ∀ (r115 : Int → gSt → Prop) (X115_149 : gSt → Prop) (hr115 : ∀ (v6 : Int) (M : gSt), r115 v6 M → gG p l e (rmR 2 42) s m args below meth c Q D cl A (wR ad cI ci) 7 115 [(0, .ref (ad 0)), (1, iv a1), (2, iv a2), (3, iv a3), (4, iv a4), (5, iv a5), (6, iv v6)] [] M) (hX115_149 : ∀  (M : gSt), X115_149  M → gG p l e (rmR 2 42) s m args below meth c Q D cl A (wR ad cI ci) 7 149 [(0, .ref (ad 0)), (3, iv a3), (4, iv a4), (5, iv a5)] [] M) (v6 : Int) (M : gSt), wC_Rmove_115 a1 a2 a3 a4 a5 k r115 X115_149 v6 M → gG p l e (rmR 2 42) s m args below meth c Q D cl A (wR ad cI ci) 7 115 [(0, .ref (ad 0)), (1, iv a1), (2, iv a2), (3, iv a3), (4, iv a4), (5, iv a5), (6, iv v6)] [] M := by
    intro r115 X115_149 hr115 hX115_149 v6 M h
    unfold wC_Rmove_115 at h
    refine g_iload C dR_move_115 rfl ?_
    refine g_iload C dR_move_117 rfl ?_
    refine g_icmp_ge C 149 dR_move_119 (by decide) (fun hc => ?_) (fun hc => ?_)
    · replace h := h.1 hc
      refine g_locals (lv' := [(0, .ref (ad 0)), (3, iv a3), (4, iv a4), (5, iv a5)]) rfl ?_
      exact hX115_149  _ h
    · replace h := h.2 hc
      refine g_aload_n C dR_move_122 rfl ?_
      refine rf_aside C hci dR_move_123 ?_
      refine g_iload C dR_move_126 rfl ?_
      refine g_aload_n C dR_move_128 rfl ?_
      refine rf_number C hci dR_move_129 ?_
      refine g_bipush C dR_move_132 rfl ?_
      refine g_iload_n C dR_move_134 rfl ?_
      refine g_imul C dR_move_135 ?_
      refine g_iload_n C dR_move_136 rfl ?_
      refine g_iadd C dR_move_137 ?_
      refine g_iload C dR_move_138 rfl ?_
      refine g_iadd C dR_move_140 ?_
      refine g_iald C (n := 96) dR_move_141 rfl (by decide) h.1 ?_
      replace h := h.2
      refine g_iast C (n := 24) dR_move_142 rfl (by decide) h.1 ?_
      replace h := h.2
      refine g_memname (fun M142 hM142 => ?_)
      replace h := h M142 hM142
      refine g_iinc C dR_move_143 rfl (by decide) rfl ?_
      refine g_locals (lv' := [(0, .ref (ad 0)), (1, iv a1), (2, iv a2), (3, iv a3), (4, iv a4), (5, iv a5), (6, iv (v6 + 1))]) rfl ?_
      refine g_goto C 115 dR_move_146 (by decide) ?_
      refine g_locals (lv' := [(0, .ref (ad 0)), (1, iv a1), (2, iv a2), (3, iv a3), (4, iv a4), (5, iv a5), (6, iv (v6 + 1))]) rfl ?_
      exact hr115 _  _ h
  have pL115 : ∀  (X115_149 : gSt → Prop) (hX115_149 : ∀  (M : gSt), X115_149  M → gG p l e (rmR 2 42) s m args below meth c Q D cl A (wR ad cI ci) 7 149 [(0, .ref (ad 0)), (3, iv a3), (4, iv a4), (5, iv a5)] [] M) (n : Nat) (v6 : Int) (M : gSt), wL_Rmove_115 a1 a2 a3 a4 a5 k  X115_149 n v6 M → gG p l e (rmR 2 42) s m args below meth c Q D cl A (wR ad cI ci) 7 115 [(0, .ref (ad 0)), (1, iv a1), (2, iv a2), (3, iv a3), (4, iv a4), (5, iv a5), (6, iv v6)] [] M := by
    intro  X115_149 hX115_149 n
    induction n with
    | zero => intro v6 M h; exact h.elim
    | succ n ih =>
      intro v6 M h
      exact pC115  (wL_Rmove_115 a1 a2 a3 a4 a5 k  X115_149 n) X115_149 ih hX115_149 v6 M h
  have pC152 : ∀ (r152 : Int → gSt → Prop) (X152_187 : gSt → Prop) (hr152 : ∀ (v6 : Int) (M : gSt), r152 v6 M → gG p l e (rmR 2 42) s m args below meth c Q D cl A (wR ad cI ci) 7 152 [(0, .ref (ad 0)), (3, iv a3), (4, iv a4), (5, iv a5), (6, iv v6)] [] M) (hX152_187 : ∀  (M : gSt), X152_187  M → gG p l e (rmR 2 42) s m args below meth c Q D cl A (wR ad cI ci) 7 187 [(5, iv a5)] [] M) (v6 : Int) (M : gSt), wC_Rmove_152 a1 a2 a3 a4 a5 k r152 X152_187 v6 M → gG p l e (rmR 2 42) s m args below meth c Q D cl A (wR ad cI ci) 7 152 [(0, .ref (ad 0)), (3, iv a3), (4, iv a4), (5, iv a5), (6, iv v6)] [] M := by
    intro r152 X152_187 hr152 hX152_187 v6 M h
    unfold wC_Rmove_152 at h
    refine g_iload C dR_move_152 rfl ?_
    refine g_iload C dR_move_154 rfl ?_
    refine g_icmp_ge C 187 dR_move_156 (by decide) (fun hc => ?_) (fun hc => ?_)
    · replace h := h.1 hc
      refine g_locals (lv' := [(5, iv a5)]) rfl ?_
      exact hX152_187  _ h
    · replace h := h.2 hc
      refine g_aload_n C dR_move_159 rfl ?_
      refine rf_number C hci dR_move_160 ?_
      refine g_bipush C dR_move_163 rfl ?_
      refine g_iload_n C dR_move_165 rfl ?_
      refine g_imul C dR_move_166 ?_
      refine g_iload C dR_move_167 rfl ?_
      refine g_iadd C dR_move_169 ?_
      refine g_iload C dR_move_170 rfl ?_
      refine g_iadd C dR_move_172 ?_
      refine g_aload_n C dR_move_173 rfl ?_
      refine rf_aside C hci dR_move_174 ?_
      refine g_iload C dR_move_177 rfl ?_
      refine g_iald C (n := 24) dR_move_179 rfl (by decide) h.1 ?_
      replace h := h.2
      refine g_iast C (n := 96) dR_move_180 rfl (by decide) h.1 ?_
      replace h := h.2
      refine g_memname (fun M180 hM180 => ?_)
      replace h := h M180 hM180
      refine g_iinc C dR_move_181 rfl (by decide) rfl ?_
      refine g_locals (lv' := [(0, .ref (ad 0)), (3, iv a3), (4, iv a4), (5, iv a5), (6, iv (v6 + 1))]) rfl ?_
      refine g_goto C 152 dR_move_184 (by decide) ?_
      refine g_locals (lv' := [(0, .ref (ad 0)), (3, iv a3), (4, iv a4), (5, iv a5), (6, iv (v6 + 1))]) rfl ?_
      exact hr152 _  _ h
  have pL152 : ∀  (X152_187 : gSt → Prop) (hX152_187 : ∀  (M : gSt), X152_187  M → gG p l e (rmR 2 42) s m args below meth c Q D cl A (wR ad cI ci) 7 187 [(5, iv a5)] [] M) (n : Nat) (v6 : Int) (M : gSt), wL_Rmove_152 a1 a2 a3 a4 a5 k  X152_187 n v6 M → gG p l e (rmR 2 42) s m args below meth c Q D cl A (wR ad cI ci) 7 152 [(0, .ref (ad 0)), (3, iv a3), (4, iv a4), (5, iv a5), (6, iv v6)] [] M := by
    intro  X152_187 hX152_187 n
    induction n with
    | zero => intro v6 M h; exact h.elim
    | succ n ih =>
      intro v6 M h
      exact pC152  (wL_Rmove_152 a1 a2 a3 a4 a5 k  X152_187 n) X152_187 ih hX152_187 v6 M h
  refine g_locals (lv' := [(0, .ref (ad 0)), (1, iv a1), (2, iv a2), (3, iv a3), (4, iv a4), (5, iv a5)]) rfl ?_
  unfold w_Rmove at h
  refine g_iload_n C dR_move_0 rfl ?_
  refine g_callSi C (nargs := 1) (st := []) (m_RisSheet hci h) gd_isSheet (by decide +kernel) ⟨rfl, rfl⟩ dR_move_1 ⟨by decide, by decide⟩ rfl rfl (Nat.le_of_ble_eq_true rfl) ?_
  intro r1c M1 h
  refine g_if_eq C 14 dR_move_4 (by decide) (fun hc => ?_) (fun hc => ?_)
  · replace h := h.1 hc
    refine g_locals (lv' := [(0, .ref (ad 0))]) rfl ?_
    exact pB14  _ h
  · replace h := h.2 hc
    refine g_iload_n C dR_move_7 rfl ?_
    refine g_callSi C (nargs := 1) (st := []) (m_RisSheet hci h) gd_isSheet (by decide +kernel) ⟨rfl, rfl⟩ dR_move_8 ⟨by decide, by decide⟩ rfl rfl (Nat.le_of_ble_eq_true rfl) ?_
    intro r8c M8 h
    refine g_if_ne C 20 dR_move_11 (by decide) (fun hc => ?_) (fun hc => ?_)
    · replace h := h.1 hc
      refine g_aload_n C dR_move_20 rfl ?_
      refine rf_bits C hci dR_move_21 ?_
      refine g_iload_n C dR_move_24 rfl ?_
      refine g_iald C (n := 4) dR_move_25 rfl (by decide) h.1 ?_
      replace h := h.2
      refine g_if_eq C 38 dR_move_26 (by decide) (fun hc => ?_) (fun hc => ?_)
      · replace h := h.1 hc
        refine g_locals (lv' := [(0, .ref (ad 0))]) rfl ?_
        exact pB38  _ h
      · replace h := h.2 hc
        refine g_aload_n C dR_move_29 rfl ?_
        refine rf_bits C hci dR_move_30 ?_
        refine g_iload_n C dR_move_33 rfl ?_
        refine g_iald C (n := 4) dR_move_34 rfl (by decide) h.1 ?_
        replace h := h.2
        refine g_if_ne C 44 dR_move_35 (by decide) (fun hc => ?_) (fun hc => ?_)
        · replace h := h.1 hc
          refine g_aload_n C dR_move_44 rfl ?_
          refine rf_bits C hci dR_move_45 ?_
          refine g_iload_n C dR_move_48 rfl ?_
          refine g_iald C (n := 4) dR_move_49 rfl (by decide) h.1 ?_
          replace h := h.2
          refine g_aload_n C dR_move_50 rfl ?_
          refine rf_bits C hci dR_move_51 ?_
          refine g_iload_n C dR_move_54 rfl ?_
          refine g_iald C (n := 4) dR_move_55 rfl (by decide) h.1 ?_
          replace h := h.2
          refine g_icmp_eq C 65 dR_move_56 (by decide) (fun hc => ?_) (fun hc => ?_)
          · replace h := h.1 hc
            refine g_iload C dR_move_65 rfl ?_
            refine g_if_lt C 106 dR_move_67 (by decide) (fun hc => ?_) (fun hc => ?_)
            · replace h := h.1 hc
              refine g_locals (lv' := [(0, .ref (ad 0))]) rfl ?_
              exact pB106  _ h
            · replace h := h.2 hc
              refine g_iload_n C dR_move_70 rfl ?_
              refine g_if_lt C 106 dR_move_71 (by decide) (fun hc => ?_) (fun hc => ?_)
              · replace h := h.1 hc
                refine g_locals (lv' := [(0, .ref (ad 0))]) rfl ?_
                exact pB106  _ h
              · replace h := h.2 hc
                refine g_iload C dR_move_74 rfl ?_
                refine g_if_lt C 106 dR_move_76 (by decide) (fun hc => ?_) (fun hc => ?_)
                · replace h := h.1 hc
                  refine g_locals (lv' := [(0, .ref (ad 0))]) rfl ?_
                  exact pB106  _ h
                · replace h := h.2 hc
                  refine g_iload_n C dR_move_79 rfl ?_
                  refine g_aload_n C dR_move_80 rfl ?_
                  refine rf_sizes C hci dR_move_81 ?_
                  refine g_iload_n C dR_move_84 rfl ?_
                  refine g_iald C (n := 4) dR_move_85 rfl (by decide) h.1 ?_
                  replace h := h.2
                  refine g_iload C dR_move_86 rfl ?_
                  refine g_isub C dR_move_88 ?_
                  refine g_icmp_gt C 106 dR_move_89 (by decide) (fun hc => ?_) (fun hc => ?_)
                  · replace h := h.1 hc
                    refine g_locals (lv' := [(0, .ref (ad 0))]) rfl ?_
                    exact pB106  _ h
                  · replace h := h.2 hc
                    refine g_iload C dR_move_92 rfl ?_
                    refine g_aload_n C dR_move_94 rfl ?_
                    refine rf_sizes C hci dR_move_95 ?_
                    refine g_iload_n C dR_move_98 rfl ?_
                    refine g_iald C (n := 4) dR_move_99 rfl (by decide) h.1 ?_
                    replace h := h.2
                    refine g_iload C dR_move_100 rfl ?_
                    refine g_isub C dR_move_102 ?_
                    refine g_icmp_le C 112 dR_move_103 (by decide) (fun hc => ?_) (fun hc => ?_)
                    · replace h := h.1 hc
                      refine g_iconst C dR_move_112 ?_
                      refine g_istore C dR_move_113 (by decide) rfl ?_
                      refine g_locals (lv' := [(0, .ref (ad 0)), (1, iv a1), (2, iv a2), (3, iv a3), (4, iv a4), (5, iv a5), (6, iv 0)]) rfl ?_
                      refine g_locals (lv' := [(0, .ref (ad 0)), (1, iv a1), (2, iv a2), (3, iv a3), (4, iv a4), (5, iv a5), (6, iv 0)]) rfl ?_
                      obtain ⟨n, h⟩ := h
                      refine pL115 _ ?_ n _ _ h
                      · intro  M115 h
                        refine g_iconst C dR_move_149 ?_
                        refine g_istore C dR_move_150 (by decide) rfl ?_
                        refine g_locals (lv' := [(0, .ref (ad 0)), (3, iv a3), (4, iv a4), (5, iv a5), (6, iv 0)]) rfl ?_
                        refine g_locals (lv' := [(0, .ref (ad 0)), (3, iv a3), (4, iv a4), (5, iv a5), (6, iv 0)]) rfl ?_
                        obtain ⟨n, h⟩ := h
                        refine pL152 _ ?_ n _ _ h
                        · intro  M152 h
                          refine g_iload C dR_move_187 rfl ?_
                          exact hR _ _ _ _ dR_move_189 rfl h
                    · replace h := h.2 hc
                      refine g_locals (lv' := [(0, .ref (ad 0))]) rfl ?_
                      exact pB106  _ h
          · replace h := h.2 hc
            refine g_aload_n C dR_move_59 rfl ?_
            refine g_iconst C dR_move_60 ?_
            refine g_callVi C (nargs := 1) (o := 0) (st := []) (m_Rerror hci h) rfl (by decide) hci rfl gd_error (by decide +kernel) ⟨rfl, rfl⟩ dR_move_61 ⟨by decide, by decide⟩ rfl rfl (Nat.le_of_ble_eq_true rfl) ?_
            intro r61c M61 h
            exact hR _ _ _ _ dR_move_64 rfl h
        · replace h := h.2 hc
          refine g_locals (lv' := [(0, .ref (ad 0))]) rfl ?_
          exact pB38  _ h
    · replace h := h.2 hc
      refine g_locals (lv' := [(0, .ref (ad 0))]) rfl ?_
      exact pB14  _ h
def w_Rlacks (a1 : Int) (M : gSt) (k : Int → gSt → Prop) : Prop :=
w_RisSheet a1 M (fun r1c M1 => 
  (¬ wrap r1c = 0 →
    (0 ≤ a1 ∧ a1 < 4) ∧ (
    (¬ wrap (M1 11 a1) = 0 →
      k 0 M1) ∧
    (wrap (M1 11 a1) = 0 →
      k 2 M1))) ∧
  (wrap r1c = 0 →
    k 1 M1))
set_option maxHeartbeats 4000000 in
set_option maxRecDepth 100000 in
theorem m_Rlacks {l : Launch} {D : va_G} {cl : List vw_C} {tys : List (ClassId × FieldType)} {ad : Nat → Nat} {cI : ClassId} {ci : Nat} (hci : cl[ci]? = some (RX9, TX9, 23)) {a1 : Int} {M : gSt} {k : Int → gSt → Prop} (h : w_Rlacks a1 M k) : MOi l yX9_lacks cX9_lacks 2 .int (rmR 2 42) D cl ((cI, .int) :: tys) (wR ad cI ci) tR [.ref (ad 0), iv a1] M k := by
  refine moi_intro (by decide +kernel) (Nat.le_of_ble_eq_true rfl) wi_296 ?_
  intro p e s m args below meth c A Q C hR
  refine g_locals (lv' := [(0, .ref (ad 0)), (1, iv a1)]) rfl ?_
  unfold w_Rlacks at h
  refine g_iload_n C dR_lacks_0 rfl ?_
  refine g_callSi C (nargs := 1) (st := []) (m_RisSheet hci h) gd_isSheet (by decide +kernel) ⟨rfl, rfl⟩ dR_lacks_1 ⟨by decide, by decide⟩ rfl rfl (Nat.le_of_ble_eq_true rfl) ?_
  intro r1c M1 h
  refine g_if_ne C 11 dR_lacks_4 (by decide) (fun hc => ?_) (fun hc => ?_)
  · replace h := h.1 hc
    refine g_aload_n C dR_lacks_11 rfl ?_
    refine rf_bits C hci dR_lacks_12 ?_
    refine g_iload_n C dR_lacks_15 rfl ?_
    refine g_iald C (n := 4) dR_lacks_16 rfl (by decide) h.1 ?_
    replace h := h.2
    refine g_if_ne C 24 dR_lacks_17 (by decide) (fun hc => ?_) (fun hc => ?_)
    · replace h := h.1 hc
      refine g_iconst C dR_lacks_24 ?_
      exact hR _ _ _ _ dR_lacks_25 rfl h
    · replace h := h.2 hc
      refine g_iconst C dR_lacks_20 ?_
      refine g_goto C 25 dR_lacks_21 (by decide) ?_
      exact hR _ _ _ _ dR_lacks_25 rfl h
  · replace h := h.2 hc
    refine g_iconst C dR_lacks_7 ?_
    refine g_goto C 25 dR_lacks_8 (by decide) ?_
    exact hR _ _ _ _ dR_lacks_25 rfl h
def wC_Rpapers_24 (a1 : Int) (k : Int → gSt → Prop) (r24 : Int → Int → gSt → Prop) (X24_140 : Int → gSt → Prop) (v3 : Int) (v4 : Int) (M : gSt) : Prop :=
(0 ≤ a1 ∧ a1 < 4) ∧ (
  (wrap (M 12 a1) ≤ wrap ((3 * v3) + 2) →
    X24_140 v3 M) ∧
  (wrap ((3 * v3) + 2) < wrap (M 12 a1) →

    (6 ≤ wrap (M 1 3) →
      X24_140 v3 M) ∧
    (wrap (M 1 3) < 6 →
      (0 ≤ v4 + (3 * v3) ∧ v4 + (3 * v3) < 96) ∧ ((0 ≤ (v4 + (3 * v3)) + 1 ∧ (v4 + (3 * v3)) + 1 < 96) ∧ ((0 ≤ (v4 + (3 * v3)) + 2 ∧ (v4 + (3 * v3)) + 2 < 96) ∧ (w_RisPaper (M 13 (v4 + (3 * v3))) (M 13 ((v4 + (3 * v3)) + 1)) (M 13 ((v4 + (3 * v3)) + 2)) M (fun r87c M87 => 
      (wrap r87c = 0 →
        X24_140 v3 M87) ∧
      (¬ wrap r87c = 0 →
        (0 ≤ v4 + (3 * v3) ∧ v4 + (3 * v3) < 96) ∧ ((0 ≤ (v4 + (3 * v3)) + 1 ∧ (v4 + (3 * v3)) + 1 < 96) ∧ ((0 ≤ (v4 + (3 * v3)) + 2 ∧ (v4 + (3 * v3)) + 2 < 96) ∧ (w_RaddPaper (M87 13 (v4 + (3 * v3))) (M87 13 ((v4 + (3 * v3)) + 1)) (M87 13 ((v4 + (3 * v3)) + 2)) M87 (fun M131 => r24 (v3 + 1) v4 M131))))))))))))
def wL_Rpapers_24 (a1 : Int) (k : Int → gSt → Prop)  (X24_140 : Int → gSt → Prop) : Nat → Int → Int → gSt → Prop
  | 0 => fun _ _ _ => False
  | n + 1 => fun v3 v4 M => wC_Rpapers_24 a1 k  (wL_Rpapers_24 a1 k  X24_140 n) X24_140 v3 v4 M
def w_Rpapers (a1 : Int) (M : gSt) (k : Int → gSt → Prop) : Prop :=
w_Rlacks a1 M (fun r2c M2 => 
  (wrap r2c ≤ 0 →
    ∀ x4_22 : Int, x4_22 = 24 * a1 → (∃ n, wL_Rpapers_24 a1 k  (fun u3_24 M24 =>
      k u3_24 M24) n 0 x4_22 M2)) ∧
  (0 < wrap r2c →
    w_Rerror r2c M2 (fun r12c M12 => k r12c M12)))
set_option maxHeartbeats 4000000 in
set_option maxRecDepth 100000 in
theorem m_Rpapers {l : Launch} {D : va_G} {cl : List vw_C} {tys : List (ClassId × FieldType)} {ad : Nat → Nat} {cI : ClassId} {ci : Nat} (hci : cl[ci]? = some (RX9, TX9, 23)) {a1 : Int} {M : gSt} {k : Int → gSt → Prop} (h : w_Rpapers a1 M k) : MOi l yX9_papers cX9_papers 5 .int (rmR 3 66) D cl ((cI, .int) :: tys) (wR ad cI ci) tR [.ref (ad 0), iv a1] M k := by
  refine moi_intro (by decide +kernel) (Nat.le_of_ble_eq_true rfl) wi_300 ?_
  intro p e s m args below meth c A Q C hR
  have pC24 : ∀ (r24 : Int → Int → gSt → Prop) (X24_140 : Int → gSt → Prop) (hr24 : ∀ (v3 : Int) (v4 : Int) (M : gSt), r24 v3 v4 M → gG p l e (rmR 3 66) s m args below meth c Q D cl A (wR ad cI ci) 5 24 [(0, .ref (ad 0)), (1, iv a1), (3, iv v3), (4, iv v4)] [] M) (hX24_140 : ∀ (v3 : Int) (M : gSt), X24_140 v3 M → gG p l e (rmR 3 66) s m args below meth c Q D cl A (wR ad cI ci) 5 140 [(3, iv v3)] [] M) (v3 : Int) (v4 : Int) (M : gSt), wC_Rpapers_24 a1 k r24 X24_140 v3 v4 M → gG p l e (rmR 3 66) s m args below meth c Q D cl A (wR ad cI ci) 5 24 [(0, .ref (ad 0)), (1, iv a1), (3, iv v3), (4, iv v4)] [] M := by
    intro r24 X24_140 hr24 hX24_140 v3 v4 M h
    unfold wC_Rpapers_24 at h
    refine g_iconst C dR_papers_24 ?_
    refine g_iload_n C dR_papers_25 rfl ?_
    refine g_imul C dR_papers_26 ?_
    refine g_iconst C dR_papers_27 ?_
    refine g_iadd C dR_papers_28 ?_
    refine g_aload_n C dR_papers_29 rfl ?_
    refine rf_sizes C hci dR_papers_30 ?_
    refine g_iload_n C dR_papers_33 rfl ?_
    refine g_iald C (n := 4) dR_papers_34 rfl (by decide) h.1 ?_
    replace h := h.2
    refine g_icmp_ge C 140 dR_papers_35 (by decide) (fun hc => ?_) (fun hc => ?_)
    · replace h := h.1 hc
      refine g_locals (lv' := [(3, iv v3)]) rfl ?_
      exact hX24_140 _  _ h
    · replace h := h.2 hc
      refine g_aload_n C dR_papers_38 rfl ?_
      refine rf_s C hci dR_papers_39 ?_
      refine g_iconst C dR_papers_42 ?_
      refine g_iald C (n := 536) dR_papers_43 rfl (by decide) ⟨by decide, by decide⟩ ?_
      refine g_bipush C dR_papers_44 rfl ?_
      refine g_icmp_ge C 140 dR_papers_46 (by decide) (fun hc => ?_) (fun hc => ?_)
      · replace h := h.1 hc
        refine g_locals (lv' := [(3, iv v3)]) rfl ?_
        exact hX24_140 _  _ h
      · replace h := h.2 hc
        refine g_aload_n C dR_papers_49 rfl ?_
        refine g_aload_n C dR_papers_50 rfl ?_
        refine rf_number C hci dR_papers_51 ?_
        refine g_iload C dR_papers_54 rfl ?_
        refine g_iconst C dR_papers_56 ?_
        refine g_iload_n C dR_papers_57 rfl ?_
        refine g_imul C dR_papers_58 ?_
        refine g_iadd C dR_papers_59 ?_
        refine g_iald C (n := 96) dR_papers_60 rfl (by decide) h.1 ?_
        replace h := h.2
        refine g_aload_n C dR_papers_61 rfl ?_
        refine rf_number C hci dR_papers_62 ?_
        refine g_iload C dR_papers_65 rfl ?_
        refine g_iconst C dR_papers_67 ?_
        refine g_iload_n C dR_papers_68 rfl ?_
        refine g_imul C dR_papers_69 ?_
        refine g_iadd C dR_papers_70 ?_
        refine g_iconst C dR_papers_71 ?_
        refine g_iadd C dR_papers_72 ?_
        refine g_iald C (n := 96) dR_papers_73 rfl (by decide) h.1 ?_
        replace h := h.2
        refine g_aload_n C dR_papers_74 rfl ?_
        refine rf_number C hci dR_papers_75 ?_
        refine g_iload C dR_papers_78 rfl ?_
        refine g_iconst C dR_papers_80 ?_
        refine g_iload_n C dR_papers_81 rfl ?_
        refine g_imul C dR_papers_82 ?_
        refine g_iadd C dR_papers_83 ?_
        refine g_iconst C dR_papers_84 ?_
        refine g_iadd C dR_papers_85 ?_
        refine g_iald C (n := 96) dR_papers_86 rfl (by decide) h.1 ?_
        replace h := h.2
        refine g_callVi C (nargs := 3) (o := 0) (st := []) (m_RisPaper hci h) rfl (by decide) hci rfl gd_isPaper (by decide +kernel) ⟨rfl, rfl⟩ dR_papers_87 ⟨by decide, by decide⟩ rfl rfl (Nat.le_of_ble_eq_true rfl) ?_
        intro r87c M87 h
        refine g_if_eq C 140 dR_papers_90 (by decide) (fun hc => ?_) (fun hc => ?_)
        · replace h := h.1 hc
          refine g_locals (lv' := [(3, iv v3)]) rfl ?_
          exact hX24_140 _  _ h
        · replace h := h.2 hc
          refine g_aload_n C dR_papers_93 rfl ?_
          refine g_aload_n C dR_papers_94 rfl ?_
          refine rf_number C hci dR_papers_95 ?_
          refine g_iload C dR_papers_98 rfl ?_
          refine g_iconst C dR_papers_100 ?_
          refine g_iload_n C dR_papers_101 rfl ?_
          refine g_imul C dR_papers_102 ?_
          refine g_iadd C dR_papers_103 ?_
          refine g_iald C (n := 96) dR_papers_104 rfl (by decide) h.1 ?_
          replace h := h.2
          refine g_aload_n C dR_papers_105 rfl ?_
          refine rf_number C hci dR_papers_106 ?_
          refine g_iload C dR_papers_109 rfl ?_
          refine g_iconst C dR_papers_111 ?_
          refine g_iload_n C dR_papers_112 rfl ?_
          refine g_imul C dR_papers_113 ?_
          refine g_iadd C dR_papers_114 ?_
          refine g_iconst C dR_papers_115 ?_
          refine g_iadd C dR_papers_116 ?_
          refine g_iald C (n := 96) dR_papers_117 rfl (by decide) h.1 ?_
          replace h := h.2
          refine g_aload_n C dR_papers_118 rfl ?_
          refine rf_number C hci dR_papers_119 ?_
          refine g_iload C dR_papers_122 rfl ?_
          refine g_iconst C dR_papers_124 ?_
          refine g_iload_n C dR_papers_125 rfl ?_
          refine g_imul C dR_papers_126 ?_
          refine g_iadd C dR_papers_127 ?_
          refine g_iconst C dR_papers_128 ?_
          refine g_iadd C dR_papers_129 ?_
          refine g_iald C (n := 96) dR_papers_130 rfl (by decide) h.1 ?_
          replace h := h.2
          refine g_callVv C (nargs := 3) (o := 0) (st := []) (m_RaddPaper hci h) rfl (by decide) hci rfl gd_addPaper (by decide +kernel) ⟨rfl, rfl⟩ dR_papers_131 ⟨by decide, by decide⟩ rfl rfl (Nat.le_of_ble_eq_true rfl) ?_
          intro M131 h
          refine g_iinc C dR_papers_134 rfl (by decide) rfl ?_
          refine g_locals (lv' := [(0, .ref (ad 0)), (1, iv a1), (3, iv (v3 + 1)), (4, iv v4)]) rfl ?_
          refine g_goto C 24 dR_papers_137 (by decide) ?_
          refine g_locals (lv' := [(0, .ref (ad 0)), (1, iv a1), (3, iv (v3 + 1)), (4, iv v4)]) rfl ?_
          exact hr24 _ _  _ h
  have pL24 : ∀  (X24_140 : Int → gSt → Prop) (hX24_140 : ∀ (v3 : Int) (M : gSt), X24_140 v3 M → gG p l e (rmR 3 66) s m args below meth c Q D cl A (wR ad cI ci) 5 140 [(3, iv v3)] [] M) (n : Nat) (v3 : Int) (v4 : Int) (M : gSt), wL_Rpapers_24 a1 k  X24_140 n v3 v4 M → gG p l e (rmR 3 66) s m args below meth c Q D cl A (wR ad cI ci) 5 24 [(0, .ref (ad 0)), (1, iv a1), (3, iv v3), (4, iv v4)] [] M := by
    intro  X24_140 hX24_140 n
    induction n with
    | zero => intro v3 v4 M h; exact h.elim
    | succ n ih =>
      intro v3 v4 M h
      exact pC24  (wL_Rpapers_24 a1 k  X24_140 n) X24_140 ih hX24_140 v3 v4 M h
  refine g_locals (lv' := [(0, .ref (ad 0)), (1, iv a1)]) rfl ?_
  unfold w_Rpapers at h
  refine g_aload_n C dR_papers_0 rfl ?_
  refine g_iload_n C dR_papers_1 rfl ?_
  refine g_callVi C (nargs := 1) (o := 0) (st := []) (m_Rlacks hci h) rfl (by decide) hci rfl gd_lacks (by decide +kernel) ⟨rfl, rfl⟩ dR_papers_2 ⟨by decide, by decide⟩ rfl rfl (Nat.le_of_ble_eq_true rfl) ?_
  intro r2c M2 h
  refine g_istore_n C dR_papers_5 (by decide) rfl ?_
  refine g_locals (lv' := [(0, .ref (ad 0)), (1, iv a1), (2, iv r2c)]) rfl ?_
  refine g_iload_n C dR_papers_6 rfl ?_
  refine g_if_le C 16 dR_papers_7 (by decide) (fun hc => ?_) (fun hc => ?_)
  · replace h := h.1 hc
    refine g_iconst C dR_papers_16 ?_
    refine g_istore_n C dR_papers_17 (by decide) rfl ?_
    refine g_locals (lv' := [(0, .ref (ad 0)), (1, iv a1), (2, iv r2c), (3, iv 0)]) rfl ?_
    refine g_bipush C dR_papers_18 rfl ?_
    refine g_iload_n C dR_papers_20 rfl ?_
    refine g_imul C dR_papers_21 ?_
    refine g_name (fun x4_22 hx4_22 => ?_)
    replace h := h x4_22 hx4_22
    refine g_istore C dR_papers_22 (by decide) rfl ?_
    refine g_locals (lv' := [(0, .ref (ad 0)), (1, iv a1), (2, iv r2c), (3, iv 0), (4, iv x4_22)]) rfl ?_
    refine g_locals (lv' := [(0, .ref (ad 0)), (1, iv a1), (3, iv 0), (4, iv x4_22)]) rfl ?_
    obtain ⟨n, h⟩ := h
    refine pL24 _ ?_ n _ _ _ h
    · intro u3_24 M24 h
      refine g_iload_n C dR_papers_140 rfl ?_
      exact hR _ _ _ _ dR_papers_141 rfl h
  · replace h := h.2 hc
    refine g_aload_n C dR_papers_10 rfl ?_
    refine g_iload_n C dR_papers_11 rfl ?_
    refine g_callVi C (nargs := 1) (o := 0) (st := []) (m_Rerror hci h) rfl (by decide) hci rfl gd_error (by decide +kernel) ⟨rfl, rfl⟩ dR_papers_12 ⟨by decide, by decide⟩ rfl rfl (Nat.le_of_ble_eq_true rfl) ?_
    intro r12c M12 h
    exact hR _ _ _ _ dR_papers_15 rfl h
def wC_Rjudge_47 (a1 : Int) (a2 : Int) (k : Int → gSt → Prop) (r47 : Int → gSt → Prop) (X47_97 : Int → gSt → Prop) (v4 : Int) (M : gSt) : Prop :=

  (wrap (M 1 0) ≤ wrap v4 →
    X47_97 v4 M) ∧
  (wrap v4 < wrap (M 1 0) →
    (0 ≤ a1 ∧ a1 < 4) ∧ (
    (wrap (M 12 a1) ≤ wrap v4 →
      X47_97 v4 M) ∧
    (wrap v4 < wrap (M 12 a1) →
      (0 ≤ (24 * a1) + v4 ∧ (24 * a1) + v4 < 96) ∧ (w_Rits v4 2 M (fun r85c M85 => 
      (¬ wrap (M 13 ((24 * a1) + v4)) = wrap r85c →
        X47_97 v4 M85) ∧
      (wrap (M 13 ((24 * a1) + v4)) = wrap r85c →
        r47 (v4 + 1) M85))))))
def wL_Rjudge_47 (a1 : Int) (a2 : Int) (k : Int → gSt → Prop)  (X47_97 : Int → gSt → Prop) : Nat → Int → gSt → Prop
  | 0 => fun _ _ => False
  | n + 1 => fun v4 M => wC_Rjudge_47 a1 a2 k  (wL_Rjudge_47 a1 a2 k  X47_97 n) X47_97 v4 M
def wB_Rjudge_97 (a1 : Int) (a2 : Int) (k : Int → gSt → Prop)  (v4 : Int) (M : gSt) : Prop :=
w_Rcarry 3 1 M (fun M105 => k v4 M105)
def wB_Rjudge_17 (a1 : Int) (a2 : Int) (k : Int → gSt → Prop)  (s0 : Int) (M : gSt) : Prop :=

  (wrap s0 ≤ 0 →
    w_Rcarry 1 3 M (fun M36 => w_RgoesBy a2 M36 (fun M41 => ∃ n, wL_Rjudge_47 a1 a2 k  (fun u4_47 M47 =>
      wB_Rjudge_97 a1 a2 k  u4_47 M47) n 0 M41))) ∧
  (0 < wrap s0 →
    w_Rerror s0 M (fun r24c M24 => k r24c M24))
def w_Rjudge (a1 : Int) (a2 : Int) (M : gSt) (k : Int → gSt → Prop) : Prop :=
w_RisHistory a2 M (fun r2c M2 => 
  (wrap r2c = 0 →
    wB_Rjudge_17 a1 a2 k  1 M2) ∧
  (¬ wrap r2c = 0 →
    w_Rlacks a1 M2 (fun r10c M10 => wB_Rjudge_17 a1 a2 k  r10c M10)))
set_option maxHeartbeats 4000000 in
set_option maxRecDepth 100000 in
theorem m_Rjudge {l : Launch} {D : va_G} {cl : List vw_C} {tys : List (ClassId × FieldType)} {ad : Nat → Nat} {cI : ClassId} {ci : Nat} (hci : cl[ci]? = some (RX9, TX9, 23)) {a1 : Int} {a2 : Int} {M : gSt} {k : Int → gSt → Prop} (h : w_Rjudge a1 a2 M k) : MOi l yX9_judge cX9_judge 5 .int (rmR 3 75) D cl ((cI, .int) :: tys) (wR ad cI ci) tR [.ref (ad 0), iv a1, iv a2] M k := by
  refine moi_intro (by decide +kernel) (Nat.le_of_ble_eq_true rfl) wi_301 ?_
  intro p e s m args below meth c A Q C hR
  have pC47 : ∀ (r47 : Int → gSt → Prop) (X47_97 : Int → gSt → Prop) (hr47 : ∀ (v4 : Int) (M : gSt), r47 v4 M → gG p l e (rmR 3 75) s m args below meth c Q D cl A (wR ad cI ci) 5 47 [(0, .ref (ad 0)), (1, iv a1), (4, iv v4)] [] M) (hX47_97 : ∀ (v4 : Int) (M : gSt), X47_97 v4 M → gG p l e (rmR 3 75) s m args below meth c Q D cl A (wR ad cI ci) 5 97 [(0, .ref (ad 0)), (4, iv v4)] [] M) (v4 : Int) (M : gSt), wC_Rjudge_47 a1 a2 k r47 X47_97 v4 M → gG p l e (rmR 3 75) s m args below meth c Q D cl A (wR ad cI ci) 5 47 [(0, .ref (ad 0)), (1, iv a1), (4, iv v4)] [] M := by
    intro r47 X47_97 hr47 hX47_97 v4 M h
    unfold wC_Rjudge_47 at h
    refine g_iload C dR_judge_47 rfl ?_
    refine g_aload_n C dR_judge_49 rfl ?_
    refine rf_s C hci dR_judge_50 ?_
    refine g_iconst C dR_judge_53 ?_
    refine g_iald C (n := 536) dR_judge_54 rfl (by decide) ⟨by decide, by decide⟩ ?_
    refine g_icmp_ge C 97 dR_judge_55 (by decide) (fun hc => ?_) (fun hc => ?_)
    · replace h := h.1 hc
      refine g_locals (lv' := [(0, .ref (ad 0)), (4, iv v4)]) rfl ?_
      exact hX47_97 _  _ h
    · replace h := h.2 hc
      refine g_iload C dR_judge_58 rfl ?_
      refine g_aload_n C dR_judge_60 rfl ?_
      refine rf_sizes C hci dR_judge_61 ?_
      refine g_iload_n C dR_judge_64 rfl ?_
      refine g_iald C (n := 4) dR_judge_65 rfl (by decide) h.1 ?_
      replace h := h.2
      refine g_icmp_ge C 97 dR_judge_66 (by decide) (fun hc => ?_) (fun hc => ?_)
      · replace h := h.1 hc
        refine g_locals (lv' := [(0, .ref (ad 0)), (4, iv v4)]) rfl ?_
        exact hX47_97 _  _ h
      · replace h := h.2 hc
        refine g_aload_n C dR_judge_69 rfl ?_
        refine rf_number C hci dR_judge_70 ?_
        refine g_bipush C dR_judge_73 rfl ?_
        refine g_iload_n C dR_judge_75 rfl ?_
        refine g_imul C dR_judge_76 ?_
        refine g_iload C dR_judge_77 rfl ?_
        refine g_iadd C dR_judge_79 ?_
        refine g_iald C (n := 96) dR_judge_80 rfl (by decide) h.1 ?_
        replace h := h.2
        refine g_aload_n C dR_judge_81 rfl ?_
        refine g_iload C dR_judge_82 rfl ?_
        refine g_iconst C dR_judge_84 ?_
        refine g_callVi C (nargs := 2) (o := 0) (st := [iv (M 13 ((24 * a1) + v4))]) (m_Rits hci h) rfl (by decide) hci rfl gd_its (by decide +kernel) ⟨rfl, rfl⟩ dR_judge_85 ⟨by decide, by decide⟩ rfl rfl (Nat.le_of_ble_eq_true rfl) ?_
        intro r85c M85 h
        refine g_icmp_ne C 97 dR_judge_88 (by decide) (fun hc => ?_) (fun hc => ?_)
        · replace h := h.1 hc
          refine g_locals (lv' := [(0, .ref (ad 0)), (4, iv v4)]) rfl ?_
          exact hX47_97 _  _ h
        · replace h := h.2 hc
          refine g_iinc C dR_judge_91 rfl (by decide) rfl ?_
          refine g_locals (lv' := [(0, .ref (ad 0)), (1, iv a1), (4, iv (v4 + 1))]) rfl ?_
          refine g_goto C 47 dR_judge_94 (by decide) ?_
          refine g_locals (lv' := [(0, .ref (ad 0)), (1, iv a1), (4, iv (v4 + 1))]) rfl ?_
          exact hr47 _  _ h
  have pL47 : ∀  (X47_97 : Int → gSt → Prop) (hX47_97 : ∀ (v4 : Int) (M : gSt), X47_97 v4 M → gG p l e (rmR 3 75) s m args below meth c Q D cl A (wR ad cI ci) 5 97 [(0, .ref (ad 0)), (4, iv v4)] [] M) (n : Nat) (v4 : Int) (M : gSt), wL_Rjudge_47 a1 a2 k  X47_97 n v4 M → gG p l e (rmR 3 75) s m args below meth c Q D cl A (wR ad cI ci) 5 47 [(0, .ref (ad 0)), (1, iv a1), (4, iv v4)] [] M := by
    intro  X47_97 hX47_97 n
    induction n with
    | zero => intro v4 M h; exact h.elim
    | succ n ih =>
      intro v4 M h
      exact pC47  (wL_Rjudge_47 a1 a2 k  X47_97 n) X47_97 ih hX47_97 v4 M h
  have pB97 : ∀   (v4 : Int) (M : gSt), wB_Rjudge_97 a1 a2 k  v4 M → gG p l e (rmR 3 75) s m args below meth c Q D cl A (wR ad cI ci) 5 97 [(0, .ref (ad 0)), (4, iv v4)] [] M := by
    intro   v4 M h
    unfold wB_Rjudge_97 at h
    refine g_aload_n C dR_judge_97 rfl ?_
    refine rf_put C hci dR_judge_98 ?_
    refine g_aload_n C dR_judge_101 rfl ?_
    refine rf_s C hci dR_judge_102 ?_
    refine g_callSv C (nargs := 2) (st := []) (m_Rcarry hci h) gd_carry (by decide +kernel) ⟨rfl, rfl⟩ dR_judge_105 ⟨by decide, by decide⟩ rfl rfl (Nat.le_of_ble_eq_true rfl) ?_
    intro M105 h
    refine g_iload C dR_judge_108 rfl ?_
    exact hR _ _ _ _ dR_judge_110 rfl h
  have pB17 : ∀   (s0 : Int) (M : gSt), wB_Rjudge_17 a1 a2 k  s0 M → gG p l e (rmR 3 75) s m args below meth c Q D cl A (wR ad cI ci) 5 17 [(0, .ref (ad 0)), (1, iv a1), (2, iv a2)] [iv s0] M := by
    intro   s0 M h
    unfold wB_Rjudge_17 at h
    refine g_istore_n C dR_judge_17 (by decide) rfl ?_
    refine g_locals (lv' := [(0, .ref (ad 0)), (1, iv a1), (2, iv a2), (3, iv s0)]) rfl ?_
    refine g_iload_n C dR_judge_18 rfl ?_
    refine g_if_le C 28 dR_judge_19 (by decide) (fun hc => ?_) (fun hc => ?_)
    · replace h := h.1 hc
      refine g_aload_n C dR_judge_28 rfl ?_
      refine rf_s C hci dR_judge_29 ?_
      refine g_aload_n C dR_judge_32 rfl ?_
      refine rf_put C hci dR_judge_33 ?_
      refine g_callSv C (nargs := 2) (st := []) (m_Rcarry hci h) gd_carry (by decide +kernel) ⟨rfl, rfl⟩ dR_judge_36 ⟨by decide, by decide⟩ rfl rfl (Nat.le_of_ble_eq_true rfl) ?_
      intro M36 h
      refine g_aload_n C dR_judge_39 rfl ?_
      refine g_iload_n C dR_judge_40 rfl ?_
      refine g_callVv C (nargs := 1) (o := 0) (st := []) (m_RgoesBy hci h) rfl (by decide) hci rfl gd_goesBy (by decide +kernel) ⟨rfl, rfl⟩ dR_judge_41 ⟨by decide, by decide⟩ rfl rfl (Nat.le_of_ble_eq_true rfl) ?_
      intro M41 h
      refine g_iconst C dR_judge_44 ?_
      refine g_istore C dR_judge_45 (by decide) rfl ?_
      refine g_locals (lv' := [(0, .ref (ad 0)), (1, iv a1), (2, iv a2), (3, iv s0), (4, iv 0)]) rfl ?_
      refine g_locals (lv' := [(0, .ref (ad 0)), (1, iv a1), (4, iv 0)]) rfl ?_
      obtain ⟨n, h⟩ := h
      refine pL47 _ ?_ n _ _ h
      · intro u4_47 M47 h
        refine g_locals (lv' := [(0, .ref (ad 0)), (4, iv u4_47)]) rfl ?_
        exact pB97 _ _ h
    · replace h := h.2 hc
      refine g_aload_n C dR_judge_22 rfl ?_
      refine g_iload_n C dR_judge_23 rfl ?_
      refine g_callVi C (nargs := 1) (o := 0) (st := []) (m_Rerror hci h) rfl (by decide) hci rfl gd_error (by decide +kernel) ⟨rfl, rfl⟩ dR_judge_24 ⟨by decide, by decide⟩ rfl rfl (Nat.le_of_ble_eq_true rfl) ?_
      intro r24c M24 h
      exact hR _ _ _ _ dR_judge_27 rfl h
  refine g_locals (lv' := [(0, .ref (ad 0)), (1, iv a1), (2, iv a2)]) rfl ?_
  unfold w_Rjudge at h
  refine g_aload_n C dR_judge_0 rfl ?_
  refine g_iload_n C dR_judge_1 rfl ?_
  refine g_callVi C (nargs := 1) (o := 0) (st := []) (m_RisHistory hci h) rfl (by decide) hci rfl gd_isHistory (by decide +kernel) ⟨rfl, rfl⟩ dR_judge_2 ⟨by decide, by decide⟩ rfl rfl (Nat.le_of_ble_eq_true rfl) ?_
  intro r2c M2 h
  refine g_if_eq C 16 dR_judge_5 (by decide) (fun hc => ?_) (fun hc => ?_)
  · replace h := h.1 hc
    refine g_iconst C dR_judge_16 ?_
    refine g_locals (lv' := [(0, .ref (ad 0)), (1, iv a1), (2, iv a2)]) rfl ?_
    exact pB17 _ _ h
  · replace h := h.2 hc
    refine g_aload_n C dR_judge_8 rfl ?_
    refine g_iload_n C dR_judge_9 rfl ?_
    refine g_callVi C (nargs := 1) (o := 0) (st := []) (m_Rlacks hci h) rfl (by decide) hci rfl gd_lacks (by decide +kernel) ⟨rfl, rfl⟩ dR_judge_10 ⟨by decide, by decide⟩ rfl rfl (Nat.le_of_ble_eq_true rfl) ?_
    intro r10c M10 h
    refine g_goto C 17 dR_judge_13 (by decide) ?_
    refine g_locals (lv' := [(0, .ref (ad 0)), (1, iv a1), (2, iv a2)]) rfl ?_
    exact pB17 _ _ h
def w_Rimage  (M : gSt) (k : Int → gSt → Prop) : Prop :=
w_Rcarry 1 2 M (fun M8 => ∀ M18 : gSt, M18 = wr M8 0 3 ((M8 0 3) + 1) → (k (M18 0 3) M18))
set_option maxHeartbeats 4000000 in
set_option maxRecDepth 100000 in
theorem m_Rimage {l : Launch} {D : va_G} {cl : List vw_C} {tys : List (ClassId × FieldType)} {ad : Nat → Nat} {cI : ClassId} {ci : Nat} (hci : cl[ci]? = some (RX9, TX9, 23))  {M : gSt} {k : Int → gSt → Prop} (h : w_Rimage  M k) : MOi l yX9_image cX9_image 1 .int (rmR 1 22) D cl ((cI, .int) :: tys) (wR ad cI ci) tR [.ref (ad 0)] M k := by
  refine moi_intro (by decide +kernel) (Nat.le_of_ble_eq_true rfl) wi_303 ?_
  intro p e s m args below meth c A Q C hR
  refine g_locals (lv' := [(0, .ref (ad 0))]) rfl ?_
  unfold w_Rimage at h
  refine g_aload_n C dR_image_0 rfl ?_
  refine rf_s C hci dR_image_1 ?_
  refine g_aload_n C dR_image_4 rfl ?_
  refine rf_kept C hci dR_image_5 ?_
  refine g_callSv C (nargs := 2) (st := []) (m_Rcarry hci h) gd_carry (by decide +kernel) ⟨rfl, rfl⟩ dR_image_8 ⟨by decide, by decide⟩ rfl rfl (Nat.le_of_ble_eq_true rfl) ?_
  intro M8 h
  refine g_aload_n C dR_image_11 rfl ?_
  refine g_dup C dR_image_12 rfl ?_
  refine rf_images C hci dR_image_13 ?_
  refine g_iconst C dR_image_16 ?_
  refine g_iadd C dR_image_17 ?_
  refine rp_images C hci dR_image_18 ?_
  refine g_memname (fun M18 hM18 => ?_)
  replace h := h M18 hM18
  refine g_aload_n C dR_image_21 rfl ?_
  refine rf_images C hci dR_image_22 ?_
  exact hR _ _ _ _ dR_image_25 rfl h
def w_Rrestore  (M : gSt) (k : Int → gSt → Prop) : Prop :=

  (¬ wrap (M 0 3) = 0 →
    w_Rcarry 2 1 M (fun M21 => k (M21 1 5) M21)) ∧
  (wrap (M 0 3) = 0 →
    w_Rerror 2 M (fun r9c M9 => k r9c M9))
set_option maxHeartbeats 4000000 in
set_option maxRecDepth 100000 in
theorem m_Rrestore {l : Launch} {D : va_G} {cl : List vw_C} {tys : List (ClassId × FieldType)} {ad : Nat → Nat} {cI : ClassId} {ci : Nat} (hci : cl[ci]? = some (RX9, TX9, 23))  {M : gSt} {k : Int → gSt → Prop} (h : w_Rrestore  M k) : MOi l yX9_restore cX9_restore 1 .int (rmR 1 22) D cl ((cI, .int) :: tys) (wR ad cI ci) tR [.ref (ad 0)] M k := by
  refine moi_intro (by decide +kernel) (Nat.le_of_ble_eq_true rfl) wi_304 ?_
  intro p e s m args below meth c A Q C hR
  refine g_locals (lv' := [(0, .ref (ad 0))]) rfl ?_
  unfold w_Rrestore at h
  refine g_aload_n C dR_restore_0 rfl ?_
  refine rf_images C hci dR_restore_1 ?_
  refine g_if_ne C 13 dR_restore_4 (by decide) (fun hc => ?_) (fun hc => ?_)
  · replace h := h.1 hc
    refine g_aload_n C dR_restore_13 rfl ?_
    refine rf_kept C hci dR_restore_14 ?_
    refine g_aload_n C dR_restore_17 rfl ?_
    refine rf_s C hci dR_restore_18 ?_
    refine g_callSv C (nargs := 2) (st := []) (m_Rcarry hci h) gd_carry (by decide +kernel) ⟨rfl, rfl⟩ dR_restore_21 ⟨by decide, by decide⟩ rfl rfl (Nat.le_of_ble_eq_true rfl) ?_
    intro M21 h
    refine g_aload_n C dR_restore_24 rfl ?_
    refine rf_s C hci dR_restore_25 ?_
    refine g_iconst C dR_restore_28 ?_
    refine g_iald C (n := 536) dR_restore_29 rfl (by decide) ⟨by decide, by decide⟩ ?_
    exact hR _ _ _ _ dR_restore_30 rfl h
  · replace h := h.2 hc
    refine g_aload_n C dR_restore_7 rfl ?_
    refine g_iconst C dR_restore_8 ?_
    refine g_callVi C (nargs := 1) (o := 0) (st := []) (m_Rerror hci h) rfl (by decide) hci rfl gd_error (by decide +kernel) ⟨rfl, rfl⟩ dR_restore_9 ⟨by decide, by decide⟩ rfl rfl (Nat.le_of_ble_eq_true rfl) ?_
    intro r9c M9 h
    exact hR _ _ _ _ dR_restore_12 rfl h
def w_Rtell (a1 : Int) (M : gSt) (k : Int → gSt → Prop) : Prop :=

  (¬ wrap (M 1 7) = 24 →
    (0 ≤ 512 + (M 1 7) ∧ 512 + (M 1 7) < 536) ∧ (∀ M34 : gSt, M34 = wr M 1 (512 + (M 1 7)) a1 → (∀ M45 : gSt, M45 = wr M34 1 7 ((M34 1 7) + 1) → (k (M45 1 7) M45)))) ∧
  (wrap (M 1 7) = 24 →
    w_Rerror 4 M (fun r14c M14 => k r14c M14))
set_option maxHeartbeats 4000000 in
set_option maxRecDepth 100000 in
theorem m_Rtell {l : Launch} {D : va_G} {cl : List vw_C} {tys : List (ClassId × FieldType)} {ad : Nat → Nat} {cI : ClassId} {ci : Nat} (hci : cl[ci]? = some (RX9, TX9, 23)) {a1 : Int} {M : gSt} {k : Int → gSt → Prop} (h : w_Rtell a1 M k) : MOi l yX9_tell cX9_tell 2 .int (rmR 1 21) D cl ((cI, .int) :: tys) (wR ad cI ci) tR [.ref (ad 0), iv a1] M k := by
  refine moi_intro (by decide +kernel) (Nat.le_of_ble_eq_true rfl) wi_305 ?_
  intro p e s m args below meth c A Q C hR
  refine g_locals (lv' := [(0, .ref (ad 0)), (1, iv a1)]) rfl ?_
  unfold w_Rtell at h
  refine g_aload_n C dR_tell_0 rfl ?_
  refine rf_s C hci dR_tell_1 ?_
  refine g_bipush C dR_tell_4 rfl ?_
  refine g_iald C (n := 536) dR_tell_6 rfl (by decide) ⟨by decide, by decide⟩ ?_
  refine g_bipush C dR_tell_7 rfl ?_
  refine g_icmp_ne C 18 dR_tell_9 (by decide) (fun hc => ?_) (fun hc => ?_)
  · replace h := h.1 hc
    refine g_aload_n C dR_tell_18 rfl ?_
    refine rf_s C hci dR_tell_19 ?_
    refine g_sipush C dR_tell_22 rfl ?_
    refine g_aload_n C dR_tell_25 rfl ?_
    refine rf_s C hci dR_tell_26 ?_
    refine g_bipush C dR_tell_29 rfl ?_
    refine g_iald C (n := 536) dR_tell_31 rfl (by decide) ⟨by decide, by decide⟩ ?_
    refine g_iadd C dR_tell_32 ?_
    refine g_iload_n C dR_tell_33 rfl ?_
    refine g_iast C (n := 536) dR_tell_34 rfl (by decide) h.1 ?_
    replace h := h.2
    refine g_memname (fun M34 hM34 => ?_)
    replace h := h M34 hM34
    refine g_aload_n C dR_tell_35 rfl ?_
    refine rf_s C hci dR_tell_36 ?_
    refine g_bipush C dR_tell_39 rfl ?_
    refine g_dup2 C dR_tell_41 rfl rfl ?_
    refine g_iald C (n := 536) dR_tell_42 rfl (by decide) ⟨by decide, by decide⟩ ?_
    refine g_iconst C dR_tell_43 ?_
    refine g_iadd C dR_tell_44 ?_
    refine g_iast C (n := 536) dR_tell_45 rfl (by decide) ⟨by decide, by decide⟩ ?_
    refine g_memname (fun M45 hM45 => ?_)
    replace h := h M45 hM45
    refine g_aload_n C dR_tell_46 rfl ?_
    refine rf_s C hci dR_tell_47 ?_
    refine g_bipush C dR_tell_50 rfl ?_
    refine g_iald C (n := 536) dR_tell_52 rfl (by decide) ⟨by decide, by decide⟩ ?_
    exact hR _ _ _ _ dR_tell_53 rfl h
  · replace h := h.2 hc
    refine g_aload_n C dR_tell_12 rfl ?_
    refine g_iconst C dR_tell_13 ?_
    refine g_callVi C (nargs := 1) (o := 0) (st := []) (m_Rerror hci h) rfl (by decide) hci rfl gd_error (by decide +kernel) ⟨rfl, rfl⟩ dR_tell_14 ⟨by decide, by decide⟩ rfl rfl (Nat.le_of_ble_eq_true rfl) ?_
    intro r14c M14 h
    exact hR _ _ _ _ dR_tell_17 rfl h
def wC_Rcheck_22  (k : Int → gSt → Prop) (r22 : Int → Int → gSt → Prop) (X22_60 : Int → Int → gSt → Prop) (v1 : Int) (v2 : Int) (M : gSt) : Prop :=

  (wrap v1 ≤ wrap v2 →
    X22_60 v1 v2 M) ∧
  (wrap v2 < wrap v1 →

    (wrap (M 0 13) ≤ wrap v2 →
      X22_60 v1 v2 M) ∧
    (wrap v2 < wrap (M 0 13) →
      (0 ≤ 512 + v2 ∧ 512 + v2 < 536) ∧ ((0 ≤ v2 ∧ v2 < 64) ∧ (
      (¬ wrap (M 1 (512 + v2)) = wrap (M 8 v2) →
        X22_60 v1 v2 M) ∧
      (wrap (M 1 (512 + v2)) = wrap (M 8 v2) →
        r22 v1 (v2 + 1) M)))))
def wL_Rcheck_22  (k : Int → gSt → Prop)  (X22_60 : Int → Int → gSt → Prop) : Nat → Int → Int → gSt → Prop
  | 0 => fun _ _ _ => False
  | n + 1 => fun v1 v2 M => wC_Rcheck_22  k  (wL_Rcheck_22  k  X22_60 n) X22_60 v1 v2 M
def wB_Rcheck_60  (k : Int → gSt → Prop)  (v1 : Int) (v2 : Int) (M : gSt) : Prop :=

  (¬ wrap v2 = wrap v1 →
    k (1 + v2) M) ∧
  (wrap v2 = wrap v1 →

    (¬ wrap v2 = wrap (M 0 13) →
      k (1 + v2) M) ∧
    (wrap v2 = wrap (M 0 13) →
      k 0 M))
def w_Rcheck  (M : gSt) (k : Int → gSt → Prop) : Prop :=
∀ x1_7 : Int, x1_7 = M 1 7 → (∀ M15 : gSt, M15 = wr M 1 7 0 → (w_RfindFits  M15 (fun M17 => ∃ n, wL_Rcheck_22  k  (fun u1_22 u2_22 M22 =>
    wB_Rcheck_60  k  u1_22 u2_22 M22) n x1_7 0 M17)))
set_option maxHeartbeats 4000000 in
set_option maxRecDepth 100000 in
theorem m_Rcheck {l : Launch} {D : va_G} {cl : List vw_C} {tys : List (ClassId × FieldType)} {ad : Nat → Nat} {cI : ClassId} {ci : Nat} (hci : cl[ci]? = some (RX9, TX9, 23))  {M : gSt} {k : Int → gSt → Prop} (h : w_Rcheck  M k) : MOi l yX9_check cX9_check 3 .int (rmR 5 121) D cl ((cI, .int) :: tys) (wR ad cI ci) tR [.ref (ad 0)] M k := by
  refine moi_intro (by decide +kernel) (Nat.le_of_ble_eq_true rfl) wi_306 ?_
  intro p e s m args below meth c A Q C hR
  have pC22 : ∀ (r22 : Int → Int → gSt → Prop) (X22_60 : Int → Int → gSt → Prop) (hr22 : ∀ (v1 : Int) (v2 : Int) (M : gSt), r22 v1 v2 M → gG p l e (rmR 5 121) s m args below meth c Q D cl A (wR ad cI ci) 3 22 [(0, .ref (ad 0)), (1, iv v1), (2, iv v2)] [] M) (hX22_60 : ∀ (v1 : Int) (v2 : Int) (M : gSt), X22_60 v1 v2 M → gG p l e (rmR 5 121) s m args below meth c Q D cl A (wR ad cI ci) 3 60 [(0, .ref (ad 0)), (1, iv v1), (2, iv v2)] [] M) (v1 : Int) (v2 : Int) (M : gSt), wC_Rcheck_22  k r22 X22_60 v1 v2 M → gG p l e (rmR 5 121) s m args below meth c Q D cl A (wR ad cI ci) 3 22 [(0, .ref (ad 0)), (1, iv v1), (2, iv v2)] [] M := by
    intro r22 X22_60 hr22 hX22_60 v1 v2 M h
    unfold wC_Rcheck_22 at h
    refine g_iload_n C dR_check_22 rfl ?_
    refine g_iload_n C dR_check_23 rfl ?_
    refine g_icmp_ge C 60 dR_check_24 (by decide) (fun hc => ?_) (fun hc => ?_)
    · replace h := h.1 hc
      refine g_locals (lv' := [(0, .ref (ad 0)), (1, iv v1), (2, iv v2)]) rfl ?_
      exact hX22_60 _ _  _ h
    · replace h := h.2 hc
      refine g_iload_n C dR_check_27 rfl ?_
      refine g_aload_n C dR_check_28 rfl ?_
      refine rf_many C hci dR_check_29 ?_
      refine g_icmp_ge C 60 dR_check_32 (by decide) (fun hc => ?_) (fun hc => ?_)
      · replace h := h.1 hc
        refine g_locals (lv' := [(0, .ref (ad 0)), (1, iv v1), (2, iv v2)]) rfl ?_
        exact hX22_60 _ _  _ h
      · replace h := h.2 hc
        refine g_aload_n C dR_check_35 rfl ?_
        refine rf_s C hci dR_check_36 ?_
        refine g_sipush C dR_check_39 rfl ?_
        refine g_iload_n C dR_check_42 rfl ?_
        refine g_iadd C dR_check_43 ?_
        refine g_iald C (n := 536) dR_check_44 rfl (by decide) h.1 ?_
        replace h := h.2
        refine g_aload_n C dR_check_45 rfl ?_
        refine rf_fit C hci dR_check_46 ?_
        refine g_iload_n C dR_check_49 rfl ?_
        refine g_iald C (n := 64) dR_check_50 rfl (by decide) h.1 ?_
        replace h := h.2
        refine g_icmp_ne C 60 dR_check_51 (by decide) (fun hc => ?_) (fun hc => ?_)
        · replace h := h.1 hc
          refine g_locals (lv' := [(0, .ref (ad 0)), (1, iv v1), (2, iv v2)]) rfl ?_
          exact hX22_60 _ _  _ h
        · replace h := h.2 hc
          refine g_iinc C dR_check_54 rfl (by decide) rfl ?_
          refine g_locals (lv' := [(0, .ref (ad 0)), (1, iv v1), (2, iv (v2 + 1))]) rfl ?_
          refine g_goto C 22 dR_check_57 (by decide) ?_
          refine g_locals (lv' := [(0, .ref (ad 0)), (1, iv v1), (2, iv (v2 + 1))]) rfl ?_
          exact hr22 _ _  _ h
  have pL22 : ∀  (X22_60 : Int → Int → gSt → Prop) (hX22_60 : ∀ (v1 : Int) (v2 : Int) (M : gSt), X22_60 v1 v2 M → gG p l e (rmR 5 121) s m args below meth c Q D cl A (wR ad cI ci) 3 60 [(0, .ref (ad 0)), (1, iv v1), (2, iv v2)] [] M) (n : Nat) (v1 : Int) (v2 : Int) (M : gSt), wL_Rcheck_22  k  X22_60 n v1 v2 M → gG p l e (rmR 5 121) s m args below meth c Q D cl A (wR ad cI ci) 3 22 [(0, .ref (ad 0)), (1, iv v1), (2, iv v2)] [] M := by
    intro  X22_60 hX22_60 n
    induction n with
    | zero => intro v1 v2 M h; exact h.elim
    | succ n ih =>
      intro v1 v2 M h
      exact pC22  (wL_Rcheck_22  k  X22_60 n) X22_60 ih hX22_60 v1 v2 M h
  have pB60 : ∀   (v1 : Int) (v2 : Int) (M : gSt), wB_Rcheck_60  k  v1 v2 M → gG p l e (rmR 5 121) s m args below meth c Q D cl A (wR ad cI ci) 3 60 [(0, .ref (ad 0)), (1, iv v1), (2, iv v2)] [] M := by
    intro   v1 v2 M h
    unfold wB_Rcheck_60 at h
    refine g_iload_n C dR_check_60 rfl ?_
    refine g_iload_n C dR_check_61 rfl ?_
    refine g_icmp_ne C 77 dR_check_62 (by decide) (fun hc => ?_) (fun hc => ?_)
    · replace h := h.1 hc
      refine g_iconst C dR_check_77 ?_
      refine g_iload_n C dR_check_78 rfl ?_
      refine g_iadd C dR_check_79 ?_
      exact hR _ _ _ _ dR_check_80 rfl h
    · replace h := h.2 hc
      refine g_iload_n C dR_check_65 rfl ?_
      refine g_aload_n C dR_check_66 rfl ?_
      refine rf_many C hci dR_check_67 ?_
      refine g_icmp_ne C 77 dR_check_70 (by decide) (fun hc => ?_) (fun hc => ?_)
      · replace h := h.1 hc
        refine g_iconst C dR_check_77 ?_
        refine g_iload_n C dR_check_78 rfl ?_
        refine g_iadd C dR_check_79 ?_
        exact hR _ _ _ _ dR_check_80 rfl h
      · replace h := h.2 hc
        refine g_iconst C dR_check_73 ?_
        refine g_goto C 80 dR_check_74 (by decide) ?_
        exact hR _ _ _ _ dR_check_80 rfl h
  refine g_locals (lv' := [(0, .ref (ad 0))]) rfl ?_
  unfold w_Rcheck at h
  refine g_aload_n C dR_check_0 rfl ?_
  refine rf_s C hci dR_check_1 ?_
  refine g_bipush C dR_check_4 rfl ?_
  refine g_iald C (n := 536) dR_check_6 rfl (by decide) ⟨by decide, by decide⟩ ?_
  refine g_name (fun x1_7 hx1_7 => ?_)
  replace h := h x1_7 hx1_7
  refine g_istore_n C dR_check_7 (by decide) rfl ?_
  refine g_locals (lv' := [(0, .ref (ad 0)), (1, iv x1_7)]) rfl ?_
  refine g_aload_n C dR_check_8 rfl ?_
  refine rf_s C hci dR_check_9 ?_
  refine g_bipush C dR_check_12 rfl ?_
  refine g_iconst C dR_check_14 ?_
  refine g_iast C (n := 536) dR_check_15 rfl (by decide) ⟨by decide, by decide⟩ ?_
  refine g_memname (fun M15 hM15 => ?_)
  replace h := h M15 hM15
  refine g_aload_n C dR_check_16 rfl ?_
  refine g_callVv C (nargs := 0) (o := 0) (st := []) (m_RfindFits hci h) rfl (by decide) hci rfl gd_findFits (by decide +kernel) ⟨rfl, rfl⟩ dR_check_17 ⟨by decide, by decide⟩ rfl rfl (Nat.le_of_ble_eq_true rfl) ?_
  intro M17 h
  refine g_iconst C dR_check_20 ?_
  refine g_istore_n C dR_check_21 (by decide) rfl ?_
  refine g_locals (lv' := [(0, .ref (ad 0)), (1, iv x1_7), (2, iv 0)]) rfl ?_
  refine g_locals (lv' := [(0, .ref (ad 0)), (1, iv x1_7), (2, iv 0)]) rfl ?_
  obtain ⟨n, h⟩ := h
  refine pL22 _ ?_ n _ _ _ h
  · intro u1_22 u2_22 M22 h
    refine g_locals (lv' := [(0, .ref (ad 0)), (1, iv u1_22), (2, iv u2_22)]) rfl ?_
    exact pB60 _ _ _ h
end
section
def w_Rcount (a1 : Int) (M : gSt) (k : Int → gSt → Prop) : Prop :=

  (wrap a1 = 0 →
    k (M 1 0) M) ∧
  (wrap a1 = 1 →
    k (M 1 1) M) ∧
  (wrap a1 = 2 →
    k (M 1 2) M) ∧
  (wrap a1 = 3 →
    k (M 1 3) M) ∧
  (wrap a1 = 4 →
    k (M 1 4) M) ∧
  (wrap a1 = 5 →
    w_RallGrams  M (fun r96c M96 => k r96c M96)) ∧
  (wrap a1 = 6 →
    k (M 1 5) M) ∧
  (wrap a1 = 7 →
    k (M 1 6) M) ∧
  (wrap a1 = 8 →
    k (M 1 7) M) ∧
  (wrap a1 = 9 →
    k (M 0 16) M) ∧
  (wrap a1 = 10 →
    k (M 1 8) M) ∧
  (¬ wrap a1 = 0 ∧ ¬ wrap a1 = 1 ∧ ¬ wrap a1 = 2 ∧ ¬ wrap a1 = 3 ∧ ¬ wrap a1 = 4 ∧ ¬ wrap a1 = 5 ∧ ¬ wrap a1 = 6 ∧ ¬ wrap a1 = 7 ∧ ¬ wrap a1 = 8 ∧ ¬ wrap a1 = 9 ∧ ¬ wrap a1 = 10 →
    w_Rerror 1 M (fun r138c M138 => k r138c M138))
set_option maxHeartbeats 4000000 in
set_option maxRecDepth 100000 in
theorem m_Rcount {l : Launch} {D : va_G} {cl : List vw_C} {tys : List (ClassId × FieldType)} {ad : Nat → Nat} {cI : ClassId} {ci : Nat} (hci : cl[ci]? = some (RX9, TX9, 23)) {a1 : Int} {M : gSt} {k : Int → gSt → Prop} (h : w_Rcount a1 M k) : MOi l yX9_count cX9_count 2 .int (rmR 2 44) D cl ((cI, .int) :: tys) (wR ad cI ci) tR [.ref (ad 0), iv a1] M k := by
  refine moi_intro (by decide +kernel) (Nat.le_of_ble_eq_true rfl) wi_307 ?_
  intro p e s m args below meth c A Q C hR
  refine g_locals (lv' := [(0, .ref (ad 0)), (1, iv a1)]) rfl ?_
  unfold w_Rcount at h
  refine g_iload_n C dR_count_0 rfl ?_
  by_cases hc0 : wrap a1 = 0
  · refine g_tableIn C 60 dR_count_1 (by omega) (by omega) (by rw [hc0]; rfl) (by decide) ?_
    replace h := h.1 hc0
    refine g_aload_n C dR_count_60 rfl ?_
    refine rf_s C hci dR_count_61 ?_
    refine g_iconst C dR_count_64 ?_
    refine g_iald C (n := 536) dR_count_65 rfl (by decide) ⟨by decide, by decide⟩ ?_
    exact hR _ _ _ _ dR_count_66 rfl h
  · by_cases hc1 : wrap a1 = 1
    · refine g_tableIn C 67 dR_count_1 (by omega) (by omega) (by rw [hc1]; rfl) (by decide) ?_
      replace h := h.2.1 hc1
      refine g_aload_n C dR_count_67 rfl ?_
      refine rf_s C hci dR_count_68 ?_
      refine g_iconst C dR_count_71 ?_
      refine g_iald C (n := 536) dR_count_72 rfl (by decide) ⟨by decide, by decide⟩ ?_
      exact hR _ _ _ _ dR_count_73 rfl h
    · by_cases hc2 : wrap a1 = 2
      · refine g_tableIn C 74 dR_count_1 (by omega) (by omega) (by rw [hc2]; rfl) (by decide) ?_
        replace h := h.2.2.1 hc2
        refine g_aload_n C dR_count_74 rfl ?_
        refine rf_s C hci dR_count_75 ?_
        refine g_iconst C dR_count_78 ?_
        refine g_iald C (n := 536) dR_count_79 rfl (by decide) ⟨by decide, by decide⟩ ?_
        exact hR _ _ _ _ dR_count_80 rfl h
      · by_cases hc3 : wrap a1 = 3
        · refine g_tableIn C 81 dR_count_1 (by omega) (by omega) (by rw [hc3]; rfl) (by decide) ?_
          replace h := h.2.2.2.1 hc3
          refine g_aload_n C dR_count_81 rfl ?_
          refine rf_s C hci dR_count_82 ?_
          refine g_iconst C dR_count_85 ?_
          refine g_iald C (n := 536) dR_count_86 rfl (by decide) ⟨by decide, by decide⟩ ?_
          exact hR _ _ _ _ dR_count_87 rfl h
        · by_cases hc4 : wrap a1 = 4
          · refine g_tableIn C 88 dR_count_1 (by omega) (by omega) (by rw [hc4]; rfl) (by decide) ?_
            replace h := h.2.2.2.2.1 hc4
            refine g_aload_n C dR_count_88 rfl ?_
            refine rf_s C hci dR_count_89 ?_
            refine g_iconst C dR_count_92 ?_
            refine g_iald C (n := 536) dR_count_93 rfl (by decide) ⟨by decide, by decide⟩ ?_
            exact hR _ _ _ _ dR_count_94 rfl h
          · by_cases hc5 : wrap a1 = 5
            · refine g_tableIn C 95 dR_count_1 (by omega) (by omega) (by rw [hc5]; rfl) (by decide) ?_
              replace h := h.2.2.2.2.2.1 hc5
              refine g_aload_n C dR_count_95 rfl ?_
              refine g_callVi C (nargs := 0) (o := 0) (st := []) (m_RallGrams hci h) rfl (by decide) hci rfl gd_allGrams (by decide +kernel) ⟨rfl, rfl⟩ dR_count_96 ⟨by decide, by decide⟩ rfl rfl (Nat.le_of_ble_eq_true rfl) ?_
              intro r96c M96 h
              exact hR _ _ _ _ dR_count_99 rfl h
            · by_cases hc6 : wrap a1 = 6
              · refine g_tableIn C 100 dR_count_1 (by omega) (by omega) (by rw [hc6]; rfl) (by decide) ?_
                replace h := h.2.2.2.2.2.2.1 hc6
                refine g_aload_n C dR_count_100 rfl ?_
                refine rf_s C hci dR_count_101 ?_
                refine g_iconst C dR_count_104 ?_
                refine g_iald C (n := 536) dR_count_105 rfl (by decide) ⟨by decide, by decide⟩ ?_
                exact hR _ _ _ _ dR_count_106 rfl h
              · by_cases hc7 : wrap a1 = 7
                · refine g_tableIn C 107 dR_count_1 (by omega) (by omega) (by rw [hc7]; rfl) (by decide) ?_
                  replace h := h.2.2.2.2.2.2.2.1 hc7
                  refine g_aload_n C dR_count_107 rfl ?_
                  refine rf_s C hci dR_count_108 ?_
                  refine g_bipush C dR_count_111 rfl ?_
                  refine g_iald C (n := 536) dR_count_113 rfl (by decide) ⟨by decide, by decide⟩ ?_
                  exact hR _ _ _ _ dR_count_114 rfl h
                · by_cases hc8 : wrap a1 = 8
                  · refine g_tableIn C 115 dR_count_1 (by omega) (by omega) (by rw [hc8]; rfl) (by decide) ?_
                    replace h := h.2.2.2.2.2.2.2.2.1 hc8
                    refine g_aload_n C dR_count_115 rfl ?_
                    refine rf_s C hci dR_count_116 ?_
                    refine g_bipush C dR_count_119 rfl ?_
                    refine g_iald C (n := 536) dR_count_121 rfl (by decide) ⟨by decide, by decide⟩ ?_
                    exact hR _ _ _ _ dR_count_122 rfl h
                  · by_cases hc9 : wrap a1 = 9
                    · refine g_tableIn C 123 dR_count_1 (by omega) (by omega) (by rw [hc9]; rfl) (by decide) ?_
                      replace h := h.2.2.2.2.2.2.2.2.2.1 hc9
                      refine g_aload_n C dR_count_123 rfl ?_
                      refine rf_traced C hci dR_count_124 ?_
                      exact hR _ _ _ _ dR_count_127 rfl h
                    · by_cases hc10 : wrap a1 = 10
                      · refine g_tableIn C 128 dR_count_1 (by omega) (by omega) (by rw [hc10]; rfl) (by decide) ?_
                        replace h := h.2.2.2.2.2.2.2.2.2.2.1 hc10
                        refine g_aload_n C dR_count_128 rfl ?_
                        refine rf_s C hci dR_count_129 ?_
                        refine g_bipush C dR_count_132 rfl ?_
                        refine g_iald C (n := 536) dR_count_134 rfl (by decide) ⟨by decide, by decide⟩ ?_
                        exact hR _ _ _ _ dR_count_135 rfl h
                      · refine g_tableOut C 136 dR_count_1 (by omega) (by decide) ?_
                        replace h := h.2.2.2.2.2.2.2.2.2.2.2 ⟨hc0, hc1, hc2, hc3, hc4, hc5, hc6, hc7, hc8, hc9, hc10⟩
                        refine g_aload_n C dR_count_136 rfl ?_
                        refine g_iconst C dR_count_137 ?_
                        refine g_callVi C (nargs := 1) (o := 0) (st := []) (m_Rerror hci h) rfl (by decide) hci rfl gd_error (by decide +kernel) ⟨rfl, rfl⟩ dR_count_138 ⟨by decide, by decide⟩ rfl rfl (Nat.le_of_ble_eq_true rfl) ?_
                        intro r138c M138 h
                        exact hR _ _ _ _ dR_count_141 rfl h
def w_Rtold (a1 : Int) (M : gSt) (k : Int → gSt → Prop) : Prop :=
w_Rin a1 1 6 M (fun r4c M4 => 
  (wrap r4c = 0 →
    w_Rerror 1 M4 (fun r21c M21 => k r21c M21)) ∧
  (¬ wrap r4c = 0 →
    (0 ≤ a1 ∧ a1 < 7) ∧ (k (M4 4 a1) M4)))
set_option maxHeartbeats 4000000 in
set_option maxRecDepth 100000 in
theorem m_Rtold {l : Launch} {D : va_G} {cl : List vw_C} {tys : List (ClassId × FieldType)} {ad : Nat → Nat} {cI : ClassId} {ci : Nat} (hci : cl[ci]? = some (RX9, TX9, 23)) {a1 : Int} {M : gSt} {k : Int → gSt → Prop} (h : w_Rtold a1 M k) : MOi l yX9_told cX9_told 2 .int (rmR 1 22) D cl ((cI, .int) :: tys) (wR ad cI ci) tR [.ref (ad 0), iv a1] M k := by
  refine moi_intro (by decide +kernel) (Nat.le_of_ble_eq_true rfl) wi_308 ?_
  intro p e s m args below meth c A Q C hR
  refine g_locals (lv' := [(0, .ref (ad 0)), (1, iv a1)]) rfl ?_
  unfold w_Rtold at h
  refine g_iload_n C dR_told_0 rfl ?_
  refine g_iconst C dR_told_1 ?_
  refine g_bipush C dR_told_2 rfl ?_
  refine g_callSi C (nargs := 3) (st := []) (m_Rin hci h) gd_in (by decide +kernel) ⟨rfl, rfl⟩ dR_told_4 ⟨by decide, by decide⟩ rfl rfl (Nat.le_of_ble_eq_true rfl) ?_
  intro r4c M4 h
  refine g_if_eq C 19 dR_told_7 (by decide) (fun hc => ?_) (fun hc => ?_)
  · replace h := h.1 hc
    refine g_aload_n C dR_told_19 rfl ?_
    refine g_iconst C dR_told_20 ?_
    refine g_callVi C (nargs := 1) (o := 0) (st := []) (m_Rerror hci h) rfl (by decide) hci rfl gd_error (by decide +kernel) ⟨rfl, rfl⟩ dR_told_21 ⟨by decide, by decide⟩ rfl rfl (Nat.le_of_ble_eq_true rfl) ?_
    intro r21c M21 h
    exact hR _ _ _ _ dR_told_24 rfl h
  · replace h := h.2 hc
    refine g_aload_n C dR_told_10 rfl ?_
    refine rf_errors C hci dR_told_11 ?_
    refine g_iload_n C dR_told_14 rfl ?_
    refine g_iald C (n := 7) dR_told_15 rfl (by decide) h.1 ?_
    replace h := h.2
    refine g_goto C 24 dR_told_16 (by decide) ?_
    exact hR _ _ _ _ dR_told_24 rfl h
end
