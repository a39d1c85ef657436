-- the world of places: what each place is, and what it holds by the memory M
abbrev gLC : Type := Nat ⊕ ((Nat × List (Option Nat)) ⊕ List Nat)
def mkf (ad : Nat → Nat) (M : gSt) (o : Nat) : Nat → List (Option Nat) → List Value
  | _, [] => []
  | j, none :: fl => iv (M o j) :: mkf ad M o (j + 1) fl
  | j, some d :: fl => .ref (ad d) :: mkf ad M o (j + 1) fl
def mkc (ad : Nat → Nat) (cI cS : ClassId) (M : gSt) (o : Nat) (y : gLC) : va_E :=
  match y with
  | .inl n => .inl (cI, n, .inl (fun i => Int32.ofInt (M o (i : Int))))
  | .inr (.inl (ci, fl)) => .inr (ci, mkf ad M o 0 fl)
  | .inr (.inr ps) => .inl (cS, ps.length, .inr (.inr (.inr (.inr (fun i => (ps[i]?).map ad)))))
def wld (ad : Nat → Nat) (cI cS : ClassId) (lay : Nat → gLC) (N : Nat) (M : gSt) : va_W := (List.range N).map (fun o => (ad o, mkc ad cI cS M o (lay o)))
theorem wld_get {ad : Nat → Nat} {cI cS : ClassId} {lay : Nat → gLC} {N : Nat} (M : gSt) {o : Nat} (h : o < N) : (wld ad cI cS lay N M)[o]? = some (ad o, mkc ad cI cS M o (lay o)) := by
  simp [wld, h]
theorem wld_len {ad : Nat → Nat} {cI cS : ClassId} {lay : Nat → gLC} {N : Nat} (M : gSt) : (wld ad cI cS lay N M).length = N := by simp [wld]
theorem mkf_other {ad : Nat → Nat} {M : gSt} {o o' : Nat} {i x : Int} (h : o' ≠ o) : ∀ (fl : List (Option Nat)) (j : Nat), mkf ad (wr M o i x) o' j fl = mkf ad M o' j fl
  | [], _ => rfl
  | none :: fl, j => by
    simp only [mkf]
    rw [mkf_other h fl (j + 1)]
    simp [wr, h]
  | some d :: fl, j => by
    simp only [mkf]
    rw [mkf_other h fl (j + 1)]
theorem mkc_other {ad : Nat → Nat} {cI cS : ClassId} {M : gSt} {o o' : Nat} {i x : Int} (h : o' ≠ o) (y : gLC) : mkc ad cI cS (wr M o i x) o' y = mkc ad cI cS M o' y := by
  rcases y with n | ⟨ci, fl⟩ | ps
  · simp [mkc, wr, h]
  · simp only [mkc]
    rw [mkf_other h]
  · rfl
theorem wld_set {ad : Nat → Nat} {cI cS : ClassId} {lay : Nat → gLC} {N : Nat} {M : gSt} {o : Nat} {i x : Int} {e : va_E} (h : mkc ad cI cS (wr M o i x) o (lay o) = e) : (wld ad cI cS lay N M).set o (ad o, e) = wld ad cI cS lay N (wr M o i x) := by
  apply List.ext_getElem?
  intro k
  rw [List.getElem?_set]
  by_cases hk : o = k
  · subst hk
    by_cases hN : o < N
    · simp [wld, hN, h]
    · simp [wld, hN]
  · rw [if_neg hk]
    by_cases hN : k < N
    · rw [wld_get M hN, wld_get _ hN, mkc_other (fun e => hk e.symm)]
    · simp [wld, hN]
theorem wld_ad {ad : Nat → Nat} {cI cS : ClassId} {lay : Nat → gLC} {N : Nat} {M : gSt} {k : Nat} {q : Nat × va_E} (h : (wld ad cI cS lay N M)[k]? = some q) : k < N ∧ q.1 = ad k := by
  have hk : k < N := by
    have := (List.getElem?_eq_some_iff.mp h).1
    rwa [wld_len] at this
  rw [wld_get M hk] at h
  cases h
  exact ⟨hk, rfl⟩
theorem wld_D {ad : Nat → Nat} {cI cS : ClassId} {lay : Nat → gLC} {N : Nat} {M M' : gSt} {A : Nat → Prop} (h : va_D A (wld ad cI cS lay N M)) : va_D A (wld ad cI cS lay N M') := by
  refine ⟨fun i j p q hi hj hpq => ?_, fun k q hk => ?_⟩
  · obtain ⟨h1, e1⟩ := wld_ad hi
    obtain ⟨h2, e2⟩ := wld_ad hj
    exact h.1 i j _ _ (wld_get M h1) (wld_get M h2) (by rw [← e1, ← e2]; exact hpq)
  · obtain ⟨h1, e1⟩ := wld_ad hk
    rw [e1]
    exact h.2 k _ (wld_get M h1)
theorem wld_A {ad : Nat → Nat} {cI cS : ClassId} {lay : Nat → gLC} {N : Nat} {M M' : gSt} {sz q : Nat} (h : va_A (wld ad cI cS lay N M) sz q) : va_A (wld ad cI cS lay N M') sz q := by
  rcases h with ⟨k, e, h⟩ | h
  · obtain ⟨h1, e1⟩ := wld_ad h
    have e1 : q = ad k := e1
    subst e1
    exact va_A.in (wld_get M' h1)
  · exact Or.inr h
/-- facts of the start that a method may ask for (statics, links of nest mates): they last, and frames do not touch them -/
def gZm (Z : (Nat → Prop) → State → Prop) : Prop := (∀ (A A' : Nat → Prop) (s U : State) (locs : List Loc), Z A s → va_S A s.heap U.heap locs → s.WarmedH U.vm → (∀ q, A' q → A q) → Z A' U) ∧ ∀ (A : Nat → Prop) (U : State) (g : JFrame) (mk : MethodId) (a : Array Value), Z A U → Z A (U.calling g mk a)
/-- what stays through a method's walk: machine, code, class, words, the tables' knowledge, the addresses apart -/
def gC (p : Program) (R : Room) (s : State) (m : MethodId) (args : Array Value) (c : Code) (D : va_G) (cl : List vw_C) (tys : List (ClassId × FieldType)) (A : Nat → Prop) (wl : gSt → va_W) (nL : Nat) (cc : ByteArray) (own : String) (Ts : List Cond) (Z : (Nat → Prop) → State → Prop) : Prop :=
  p.tables.exec = Jvm.exec ∧ c.code = cc ∧ c.maxLocals = nL ∧ s.vm.findClass own = some m.cls ∧ (∀ w ∈ Ts, w.before args s = true) ∧ va_K D cl tys s ∧ (∀ M, va_D A (wl M)) ∧ (∀ q : Nat, s.heap.size ≤ q → A q) ∧ Z A s ∧ gZm Z
/-- the walk at a place of the code: from every heap that holds the memory M -/
def gG (p : Program) (l : Launch) (e : Env) (R : Room) (s : State) (m : MethodId) (args : Array Value) (below : List Frame) (meth : Method) (c : Code) (Q : State → Prop) (D : va_G) (cl : List vw_C) (A : Nat → Prop) (wl : gSt → va_W) (nL : Nat) (pc : Nat) (lv : List (Nat × Value)) (st : List Value) (M : gSt) : Prop :=
  ∀ (H : Heap) (locs : List Loc) (ls : Array Slot), va_P D cl (wl M) H → va_S A s.heap H locs → lv_has ls nL lv → W p l e R s m args below meth c H locs 0 0 Q (F0 m pc ls st)
theorem lookup_mem {i : Nat} {v : Value} : ∀ {lv : List (Nat × Value)}, List.lookup i lv = some v → (i, v) ∈ lv
  | [], h => by cases h
  | (a1, a2) :: t, h => by
    simp only [List.lookup] at h
    split at h
    · rename_i he
      have e1 : i = a1 := eq_of_beq he
      have e2 : a2 = v := Option.some.inj h
      rw [e1, e2]
      exact List.mem_cons_self
    · exact List.mem_cons_of_mem _ (lookup_mem h)
section GM
variable {p : Program} {l : Launch} {e : Env} {R : Room} {s : State} {m : MethodId} {args : Array Value} {below : List Frame} {meth : Method} {c : Code} {Q : State → Prop}
variable {D : va_G} {cl : List vw_C} {tys : List (ClassId × FieldType)} {A : Nat → Prop} {wl : gSt → va_W} {nL : Nat} {cc : ByteArray} {own : String} {Ts : List Cond} {Z : (Nat → Prop) → State → Prop}
variable {pc : Nat} {lv lv' : List (Nat × Value)} {st : List Value} {M : gSt}
theorem g_locals (h : lv'.map (fun q => List.lookup q.1 lv) = lv'.map (fun q => some q.2)) (k : gG p l e R s m args below meth c Q D cl A wl nL pc lv' st M) : gG p l e R s m args below meth c Q D cl A wl nL pc lv st M := by
  intro H locs ls hP hS hl
  refine k H locs ls hP hS ⟨hl.1, hl.2.1, fun q hq => ?_⟩
  have h1 : List.lookup q.1 lv = some q.2 := by
    obtain ⟨i, hi⟩ := List.getElem?_of_mem hq
    have h2 := congrArg (fun x => x[i]?) h
    simp only [List.getElem?_map, hi] at h2
    exact Option.some.inj h2
  exact hl.2.2 q (lookup_mem h1)
theorem g_at {ls : Array Slot} {i : Nat} {v : Value} (hl : lv_has ls nL lv) (h : List.lookup i lv = some v) : ls[i]? = some (.val v) := by
  exact hl.2.2 (i, v) (lookup_mem h)
theorem g_name {x : Int} (k : ∀ y : Int, y = x → gG p l e R s m args below meth c Q D cl A wl nL pc lv (iv y :: st) M) : gG p l e R s m args below meth c Q D cl A wl nL pc lv (iv x :: st) M := k x rfl
theorem g_nameL {x : Int} (k : ∀ y : Int, y = x → gG p l e R s m args below meth c Q D cl A wl nL pc lv (jv y :: st) M) : gG p l e R s m args below meth c Q D cl A wl nL pc lv (jv x :: st) M := k x rfl
theorem g_top {x y : Int} (h : x = y) (k : gG p l e R s m args below meth c Q D cl A wl nL pc lv (iv y :: st) M) : gG p l e R s m args below meth c Q D cl A wl nL pc lv (iv x :: st) M := h ▸ k
theorem g_topL {x y : Int} (h : x = y) (k : gG p l e R s m args below meth c Q D cl A wl nL pc lv (jv y :: st) M) : gG p l e R s m args below meth c Q D cl A wl nL pc lv (jv x :: st) M := h ▸ k
theorem g_mem {M' : gSt} (h : M = M') (k : gG p l e R s m args below meth c Q D cl A wl nL pc lv st M') : gG p l e R s m args below meth c Q D cl A wl nL pc lv st M := h ▸ k
theorem g_nop (C : gC p R s m args c D cl tys A wl nL cc own Ts Z) : True := trivial
-- loads
theorem g_iload_n (C : gC p R s m args c D cl tys A wl nL cc own Ts Z) {k : Fin 4} {x : Int} (hd : decode cc pc = .ok (.iload_n k, 1)) (h : List.lookup (k : Nat) lv = some (iv x)) (kk : gG p l e R s m args below meth c Q D cl A wl nL (pc + 1) lv (iv x :: st) M) : gG p l e R s m args below meth c Q D cl A wl nL pc lv st M :=
  fun H locs ls hP hS hl => lv_iload_n C.1 C.2.1 hd rfl (g_at hl h) (kk H locs ls hP hS hl)
theorem g_iload (C : gC p R s m args c D cl tys A wl nL cc own Ts Z) {i : Nat} {x : Int} (hd : decode cc pc = .ok (.iload i, 2)) (h : List.lookup i lv = some (iv x)) (kk : gG p l e R s m args below meth c Q D cl A wl nL (pc + 2) lv (iv x :: st) M) : gG p l e R s m args below meth c Q D cl A wl nL pc lv st M :=
  fun H locs ls hP hS hl => lv_iload C.1 C.2.1 hd (g_at hl h) (kk H locs ls hP hS hl)
theorem g_lload_n (C : gC p R s m args c D cl tys A wl nL cc own Ts Z) {k : Fin 4} {x : Int} (hd : decode cc pc = .ok (.lload_n k, 1)) (h : List.lookup (k : Nat) lv = some (jv x)) (kk : gG p l e R s m args below meth c Q D cl A wl nL (pc + 1) lv (jv x :: st) M) : gG p l e R s m args below meth c Q D cl A wl nL pc lv st M :=
  fun H locs ls hP hS hl => lv_lload_n C.1 C.2.1 hd rfl (g_at hl h) (kk H locs ls hP hS hl)
theorem g_lload (C : gC p R s m args c D cl tys A wl nL cc own Ts Z) {i : Nat} {x : Int} (hd : decode cc pc = .ok (.lload i, 2)) (h : List.lookup i lv = some (jv x)) (kk : gG p l e R s m args below meth c Q D cl A wl nL (pc + 2) lv (jv x :: st) M) : gG p l e R s m args below meth c Q D cl A wl nL pc lv st M :=
  fun H locs ls hP hS hl => lv_lload C.1 C.2.1 hd (g_at hl h) (kk H locs ls hP hS hl)
theorem g_aload_n (C : gC p R s m args c D cl tys A wl nL cc own Ts Z) {k : Fin 4} {x : Nat} (hd : decode cc pc = .ok (.aload_n k, 1)) (h : List.lookup (k : Nat) lv = some (.ref x)) (kk : gG p l e R s m args below meth c Q D cl A wl nL (pc + 1) lv (.ref x :: st) M) : gG p l e R s m args below meth c Q D cl A wl nL pc lv st M :=
  fun H locs ls hP hS hl => lv_aload_n C.1 C.2.1 hd rfl (g_at hl h) (kk H locs ls hP hS hl)
theorem g_aload (C : gC p R s m args c D cl tys A wl nL cc own Ts Z) {i : Nat} {x : Nat} (hd : decode cc pc = .ok (.aload i, 2)) (h : List.lookup i lv = some (.ref x)) (kk : gG p l e R s m args below meth c Q D cl A wl nL (pc + 2) lv (.ref x :: st) M) : gG p l e R s m args below meth c Q D cl A wl nL pc lv st M :=
  fun H locs ls hP hS hl => lv_aload C.1 C.2.1 hd (g_at hl h) (kk H locs ls hP hS hl)
-- stores
def lvs (i : Nat) (v : Value) (lv : List (Nat × Value)) : List (Nat × Value) := (i, v) :: lv.filter (fun q => !(q.1 == i) && !(q.1 + 1 == i && q.2.category == 2))
def lvs2 (i : Nat) (v : Value) (lv : List (Nat × Value)) : List (Nat × Value) := (i, v) :: lv.filter (fun q => !(q.1 == i) && (!(q.1 == i + 1) && !(q.1 + 1 == i && q.2.category == 2)))
theorem g_istore_n (C : gC p R s m args c D cl tys A wl nL cc own Ts Z) {k : Fin 4} {x : Int} (hd : decode cc pc = .ok (.istore_n k, 1)) (hn : (k : Nat) < nL) (hl' : lvs k (iv x) lv = lv') (kk : gG p l e R s m args below meth c Q D cl A wl nL (pc + 1) lv' st M) : gG p l e R s m args below meth c Q D cl A wl nL pc lv (iv x :: st) M :=
  fun H locs ls hP hS hl => lv_istore_n C.1 C.2.1 hd rfl hl hn hl' (fun ls' hl2 => kk H locs ls' hP hS hl2)
theorem g_istore (C : gC p R s m args c D cl tys A wl nL cc own Ts Z) {i : Nat} {x : Int} (hd : decode cc pc = .ok (.istore i, 2)) (hn : i < nL) (hl' : lvs i (iv x) lv = lv') (kk : gG p l e R s m args below meth c Q D cl A wl nL (pc + 2) lv' st M) : gG p l e R s m args below meth c Q D cl A wl nL pc lv (iv x :: st) M :=
  fun H locs ls hP hS hl => lv_istore C.1 C.2.1 hd hl hn hl' (fun ls' hl2 => kk H locs ls' hP hS hl2)
theorem g_lstore_n (C : gC p R s m args c D cl tys A wl nL cc own Ts Z) {k : Fin 4} {x : Int} (hd : decode cc pc = .ok (.lstore_n k, 1)) (hn : (k : Nat) + 1 < nL) (hl' : lvs2 k (jv x) lv = lv') (kk : gG p l e R s m args below meth c Q D cl A wl nL (pc + 1) lv' st M) : gG p l e R s m args below meth c Q D cl A wl nL pc lv (jv x :: st) M :=
  fun H locs ls hP hS hl => lv_lstore_n C.1 C.2.1 hd rfl hl hn hl' (fun ls' hl2 => kk H locs ls' hP hS hl2)
theorem g_lstore (C : gC p R s m args c D cl tys A wl nL cc own Ts Z) {i : Nat} {x : Int} (hd : decode cc pc = .ok (.lstore i, 2)) (hn : i + 1 < nL) (hl' : lvs2 i (jv x) lv = lv') (kk : gG p l e R s m args below meth c Q D cl A wl nL (pc + 2) lv' st M) : gG p l e R s m args below meth c Q D cl A wl nL pc lv (jv x :: st) M :=
  fun H locs ls hP hS hl => lv_lstore C.1 C.2.1 hd hl hn hl' (fun ls' hl2 => kk H locs ls' hP hS hl2)
theorem g_astore_n (C : gC p R s m args c D cl tys A wl nL cc own Ts Z) {k : Fin 4} {x : Nat} (hd : decode cc pc = .ok (.astore_n k, 1)) (hn : (k : Nat) < nL) (hl' : lvs k (.ref x) lv = lv') (kk : gG p l e R s m args below meth c Q D cl A wl nL (pc + 1) lv' st M) : gG p l e R s m args below meth c Q D cl A wl nL pc lv (.ref x :: st) M :=
  fun H locs ls hP hS hl => lv_astore_n C.1 C.2.1 hd rfl hl hn hl' (fun ls' hl2 => kk H locs ls' hP hS hl2)
theorem g_astore (C : gC p R s m args c D cl tys A wl nL cc own Ts Z) {i : Nat} {x : Nat} (hd : decode cc pc = .ok (.astore i, 2)) (hn : i < nL) (hl' : lvs i (.ref x) lv = lv') (kk : gG p l e R s m args below meth c Q D cl A wl nL (pc + 2) lv' st M) : gG p l e R s m args below meth c Q D cl A wl nL pc lv (.ref x :: st) M :=
  fun H locs ls hP hS hl => lv_astore C.1 C.2.1 hd hl hn hl' (fun ls' hl2 => kk H locs ls' hP hS hl2)
theorem g_iinc (C : gC p R s m args c D cl tys A wl nL cc own Ts Z) {i : Nat} {n x : Int} (hd : decode cc pc = .ok (.iinc i n, 3)) (h : List.lookup i lv = some (iv x)) (hn : i < nL) (hl' : lvs i (iv (x + n)) lv = lv') (kk : gG p l e R s m args below meth c Q D cl A wl nL (pc + 3) lv' st M) : gG p l e R s m args below meth c Q D cl A wl nL pc lv st M := by
  intro H locs ls hP hS hl
  have hl0 : lv_has ls nL [(i, iv x)] := ⟨hl.1, hl.2.1, fun q hq => by
    rw [List.mem_singleton] at hq
    subst hq
    exact g_at hl h⟩
  have h2 : (i, iv x) ∈ lv := lookup_mem h
  obtain ⟨k, hk⟩ := List.getElem?_of_mem h2
  exact lv_iinc (k := k) C.1 C.2.1 hd hl hk (v := Int32.ofInt (x + n)) (by rw [Int32.ofInt_add]) hn hl' (fun ls' hl2 => kk H locs ls' hP hS hl2)
-- constants
theorem g_iconst (C : gC p R s m args c D cl tys A wl nL cc own Ts Z) {n : Int} (hd : decode cc pc = .ok (.iconst n, 1)) (kk : gG p l e R s m args below meth c Q D cl A wl nL (pc + 1) lv (iv n :: st) M) : gG p l e R s m args below meth c Q D cl A wl nL pc lv st M :=
  fun H locs ls hP hS hl => lv_iconst C.1 C.2.1 hd rfl (kk H locs ls hP hS hl)
theorem g_bipush (C : gC p R s m args c D cl tys A wl nL cc own Ts Z) {n : Int} (hd : decode cc pc = .ok (.bipush n, 2)) (hv : (Int8.ofInt n).toInt32 = Int32.ofInt n) (kk : gG p l e R s m args below meth c Q D cl A wl nL (pc + 2) lv (iv n :: st) M) : gG p l e R s m args below meth c Q D cl A wl nL pc lv st M :=
  fun H locs ls hP hS hl => lv_bipush C.1 C.2.1 hd hv (kk H locs ls hP hS hl)
theorem g_sipush (C : gC p R s m args c D cl tys A wl nL cc own Ts Z) {n : Int} (hd : decode cc pc = .ok (.sipush n, 3)) (hv : (Int16.ofInt n).toInt32 = Int32.ofInt n) (kk : gG p l e R s m args below meth c Q D cl A wl nL (pc + 3) lv (iv n :: st) M) : gG p l e R s m args below meth c Q D cl A wl nL pc lv st M :=
  fun H locs ls hP hS hl => lv_sipush C.1 C.2.1 hd hv (kk H locs ls hP hS hl)
theorem g_ldc (C : gC p R s m args c D cl tys A wl nL cc own Ts Z) {i : Nat} (n : Int) {v : Int32} (hw : Cond.constant own i v ∈ Ts) (hv : Int32.ofInt n = v) (hd : decode cc pc = .ok (.ldc i, 2)) (kk : gG p l e R s m args below meth c Q D cl A wl nL (pc + 2) lv (iv n :: st) M) : gG p l e R s m args below meth c Q D cl A wl nL pc lv st M :=
  fun H locs ls hP hS hl => lv_ldc C.1 C.2.1 C.2.2.2.1 (C.2.2.2.2.1 _ hw) hd (by rw [← hv]; exact kk H locs ls hP hS hl)
theorem g_ldc2 (C : gC p R s m args c D cl tys A wl nL cc own Ts Z) {i : Nat} (n : Int) {v : Int64} (hw : Cond.constantLong own i v ∈ Ts) (hv : Int64.ofInt n = v) (hd : decode cc pc = .ok (.ldc2_w i, 3)) (kk : gG p l e R s m args below meth c Q D cl A wl nL (pc + 3) lv (jv n :: st) M) : gG p l e R s m args below meth c Q D cl A wl nL pc lv st M :=
  fun H locs ls hP hS hl => lv_ldc2 C.1 C.2.1 C.2.2.2.1 (C.2.2.2.2.1 _ hw) hd (by rw [← hv]; exact kk H locs ls hP hS hl)
theorem g_lconst (C : gC p R s m args c D cl tys A wl nL cc own Ts Z) {k : Fin 2} (n : Int) (hv : Int64.ofNat (k : Nat) = Int64.ofInt n) (hd : decode cc pc = .ok (.lconst k, 1)) (kk : gG p l e R s m args below meth c Q D cl A wl nL (pc + 1) lv (jv n :: st) M) : gG p l e R s m args below meth c Q D cl A wl nL pc lv st M :=
  fun H locs ls hP hS hl => lv_lconst C.1 C.2.1 hd hv (kk H locs ls hP hS hl)
-- the stack
theorem g_dup (C : gC p R s m args c D cl tys A wl nL cc own Ts Z) {v : Value} (hd : decode cc pc = .ok (.dup, 1)) (hc : v.category = 1) (kk : gG p l e R s m args below meth c Q D cl A wl nL (pc + 1) lv (v :: v :: st) M) : gG p l e R s m args below meth c Q D cl A wl nL pc lv (v :: st) M :=
  fun H locs ls hP hS hl => lv_dup C.1 C.2.1 hd hc (kk H locs ls hP hS hl)
theorem g_dup2 (C : gC p R s m args c D cl tys A wl nL cc own Ts Z) {v u : Value} (hd : decode cc pc = .ok (.dup2, 1)) (hc : v.category = 1) (hu : u.category = 1) (kk : gG p l e R s m args below meth c Q D cl A wl nL (pc + 1) lv (v :: u :: v :: u :: st) M) : gG p l e R s m args below meth c Q D cl A wl nL pc lv (v :: u :: st) M :=
  fun H locs ls hP hS hl => lv_dup2_11 C.1 C.2.1 hd hc hu (kk H locs ls hP hS hl)
theorem g_pop (C : gC p R s m args c D cl tys A wl nL cc own Ts Z) {v : Value} (hd : decode cc pc = .ok (.pop, 1)) (hc : v.category = 1) (kk : gG p l e R s m args below meth c Q D cl A wl nL (pc + 1) lv st M) : gG p l e R s m args below meth c Q D cl A wl nL pc lv (v :: st) M :=
  fun H locs ls hP hS hl => lv_pop C.1 C.2.1 hd hc (kk H locs ls hP hS hl)
-- arithmetic
theorem g_iadd (C : gC p R s m args c D cl tys A wl nL cc own Ts Z) {x y : Int} (hd : decode cc pc = .ok (.iadd, 1)) (kk : gG p l e R s m args below meth c Q D cl A wl nL (pc + 1) lv (iv (x + y) :: st) M) : gG p l e R s m args below meth c Q D cl A wl nL pc lv (iv y :: iv x :: st) M :=
  fun H locs ls hP hS hl => lv_iadd C.1 C.2.1 hd (by have h := kk H locs ls hP hS hl; unfold iv at h; rwa [Int32.ofInt_add] at h)
theorem g_isub (C : gC p R s m args c D cl tys A wl nL cc own Ts Z) {x y : Int} (hd : decode cc pc = .ok (.isub, 1)) (kk : gG p l e R s m args below meth c Q D cl A wl nL (pc + 1) lv (iv (x - y) :: st) M) : gG p l e R s m args below meth c Q D cl A wl nL pc lv (iv y :: iv x :: st) M :=
  fun H locs ls hP hS hl => lv_isub C.1 C.2.1 hd (by have h := kk H locs ls hP hS hl; unfold iv at h; rwa [Int32.ofInt_sub] at h)
theorem g_imul (C : gC p R s m args c D cl tys A wl nL cc own Ts Z) {x y : Int} (hd : decode cc pc = .ok (.imul, 1)) (kk : gG p l e R s m args below meth c Q D cl A wl nL (pc + 1) lv (iv (x * y) :: st) M) : gG p l e R s m args below meth c Q D cl A wl nL pc lv (iv y :: iv x :: st) M :=
  fun H locs ls hP hS hl => lv_imul C.1 C.2.1 hd (by have h := kk H locs ls hP hS hl; unfold iv at h; rwa [Int32.ofInt_mul] at h)
theorem g_ineg (C : gC p R s m args c D cl tys A wl nL cc own Ts Z) {x : Int} (hd : decode cc pc = .ok (.ineg, 1)) (kk : gG p l e R s m args below meth c Q D cl A wl nL (pc + 1) lv (iv (-x) :: st) M) : gG p l e R s m args below meth c Q D cl A wl nL pc lv (iv x :: st) M :=
  fun H locs ls hP hS hl => lv_ineg C.1 C.2.1 hd (by have h := kk H locs ls hP hS hl; unfold iv at h; rwa [Int32.ofInt_neg] at h)
theorem ofInt_ne0 {y : Int} (h : wrap y ≠ 0) : ¬ Int32.ofInt y = 0 := by
  intro q
  have : wrap y = wrap 0 := (ofInt_eq_iff y 0).mp q
  exact h this
theorem g_idiv (C : gC p R s m args c D cl tys A wl nL cc own Ts Z) {x y : Int} (hd : decode cc pc = .ok (.idiv, 1)) (hy : wrap y ≠ 0) (kk : gG p l e R s m args below meth c Q D cl A wl nL (pc + 1) lv (iv ((wrap x).tdiv (wrap y)) :: st) M) : gG p l e R s m args below meth c Q D cl A wl nL pc lv (iv y :: iv x :: st) M :=
  fun H locs ls hP hS hl => lv_idiv C.1 C.2.1 hd (ofInt_ne0 hy) (by have h := kk H locs ls hP hS hl; unfold iv at h; rwa [← ofInt_div] at h)
theorem ofInt_rem (x y : Int) : Int32.ofInt x - Int32.ofInt x / Int32.ofInt y * Int32.ofInt y = Int32.ofInt ((wrap x).tmod (wrap y)) := by
  rw [ofInt_div, ← ofInt_wrap x, ← ofInt_wrap y, ← Int32.ofInt_mul, ← Int32.ofInt_sub]
  congr 1
  rw [Int.tmod_def, Int.mul_comm]
theorem g_irem (C : gC p R s m args c D cl tys A wl nL cc own Ts Z) {x y : Int} (hd : decode cc pc = .ok (.irem, 1)) (hy : wrap y ≠ 0) (kk : gG p l e R s m args below meth c Q D cl A wl nL (pc + 1) lv (iv ((wrap x).tmod (wrap y)) :: st) M) : gG p l e R s m args below meth c Q D cl A wl nL pc lv (iv y :: iv x :: st) M :=
  fun H locs ls hP hS hl => lv_irem C.1 C.2.1 hd (ofInt_ne0 hy) (by have h := kk H locs ls hP hS hl; unfold iv at h; rwa [← ofInt_rem] at h)
def xand (x y : Int) : Int := (Int32.ofInt x &&& Int32.ofInt y).toInt
def xor2 (x y : Int) : Int := (Int32.ofInt x ||| Int32.ofInt y).toInt
def xxor (x y : Int) : Int := (Int32.ofInt x ^^^ Int32.ofInt y).toInt
def xshl (x y : Int) : Int := (Int32.ofInt x <<< (Int32.ofInt y &&& 31)).toInt
def xshr (x y : Int) : Int := (Int32.ofInt x >>> (Int32.ofInt y &&& 31)).toInt
def xushr (x y : Int) : Int := (((Int32.ofInt x).toUInt32 >>> ((Int32.ofInt y).toUInt32 &&& Int32.toUInt32 31)).toInt32).toInt
theorem ofInt_back (v : Int32) : Int32.ofInt v.toInt = v := Int32.ofInt_toInt v
theorem ofInt_backL (v : Int64) : Int64.ofInt v.toInt = v := Int64.ofInt_toInt v
theorem g_iand (C : gC p R s m args c D cl tys A wl nL cc own Ts Z) {x y : Int} (hd : decode cc pc = .ok (.iand, 1)) (kk : gG p l e R s m args below meth c Q D cl A wl nL (pc + 1) lv (iv (xand x y) :: st) M) : gG p l e R s m args below meth c Q D cl A wl nL pc lv (iv y :: iv x :: st) M :=
  fun H locs ls hP hS hl => lv_iand C.1 C.2.1 hd (by have h := kk H locs ls hP hS hl; unfold iv xand at h; rwa [ofInt_back] at h)
theorem g_ior (C : gC p R s m args c D cl tys A wl nL cc own Ts Z) {x y : Int} (hd : decode cc pc = .ok (.ior, 1)) (kk : gG p l e R s m args below meth c Q D cl A wl nL (pc + 1) lv (iv (xor2 x y) :: st) M) : gG p l e R s m args below meth c Q D cl A wl nL pc lv (iv y :: iv x :: st) M :=
  fun H locs ls hP hS hl => lv_ior C.1 C.2.1 hd (by have h := kk H locs ls hP hS hl; unfold iv xor2 at h; rwa [ofInt_back] at h)
theorem g_ixor (C : gC p R s m args c D cl tys A wl nL cc own Ts Z) {x y : Int} (hd : decode cc pc = .ok (.ixor, 1)) (kk : gG p l e R s m args below meth c Q D cl A wl nL (pc + 1) lv (iv (xxor x y) :: st) M) : gG p l e R s m args below meth c Q D cl A wl nL pc lv (iv y :: iv x :: st) M :=
  fun H locs ls hP hS hl => lv_ixor C.1 C.2.1 hd (by have h := kk H locs ls hP hS hl; unfold iv xxor at h; rwa [ofInt_back] at h)
theorem g_ishl (C : gC p R s m args c D cl tys A wl nL cc own Ts Z) {x y : Int} (hd : decode cc pc = .ok (.ishl, 1)) (kk : gG p l e R s m args below meth c Q D cl A wl nL (pc + 1) lv (iv (xshl x y) :: st) M) : gG p l e R s m args below meth c Q D cl A wl nL pc lv (iv y :: iv x :: st) M :=
  fun H locs ls hP hS hl => lv_ishl C.1 C.2.1 hd (by have h := kk H locs ls hP hS hl; unfold iv xshl at h; rwa [ofInt_back] at h)
theorem g_ishr (C : gC p R s m args c D cl tys A wl nL cc own Ts Z) {x y : Int} (hd : decode cc pc = .ok (.ishr, 1)) (kk : gG p l e R s m args below meth c Q D cl A wl nL (pc + 1) lv (iv (xshr x y) :: st) M) : gG p l e R s m args below meth c Q D cl A wl nL pc lv (iv y :: iv x :: st) M :=
  fun H locs ls hP hS hl => lv_ishr C.1 C.2.1 hd (by have h := kk H locs ls hP hS hl; unfold iv xshr at h; rwa [ofInt_back] at h)
theorem g_iushr (C : gC p R s m args c D cl tys A wl nL cc own Ts Z) {x y : Int} (hd : decode cc pc = .ok (.iushr, 1)) (kk : gG p l e R s m args below meth c Q D cl A wl nL (pc + 1) lv (iv (xushr x y) :: st) M) : gG p l e R s m args below meth c Q D cl A wl nL pc lv (iv y :: iv x :: st) M :=
  fun H locs ls hP hS hl => lv_iushr C.1 C.2.1 hd (v := Int32.ofInt (xushr x y)) (by unfold xushr; rw [ofInt_back]) (kk H locs ls hP hS hl)
theorem g_i2b (C : gC p R s m args c D cl tys A wl nL cc own Ts Z) {x : Int} (hd : decode cc pc = .ok (.i2b, 1)) (kk : gG p l e R s m args below meth c Q D cl A wl nL (pc + 1) lv (iv ((Int32.ofInt x).toInt8.toInt32.toInt) :: st) M) : gG p l e R s m args below meth c Q D cl A wl nL pc lv (iv x :: st) M :=
  fun H locs ls hP hS hl => lv_i2b C.1 C.2.1 hd rfl (by have h := kk H locs ls hP hS hl; unfold iv at h; rwa [ofInt_back] at h)
theorem g_i2s (C : gC p R s m args c D cl tys A wl nL cc own Ts Z) {x : Int} (hd : decode cc pc = .ok (.i2s, 1)) (kk : gG p l e R s m args below meth c Q D cl A wl nL (pc + 1) lv (iv ((Int32.ofInt x).toInt16.toInt32.toInt) :: st) M) : gG p l e R s m args below meth c Q D cl A wl nL pc lv (iv x :: st) M :=
  fun H locs ls hP hS hl => lv_i2s C.1 C.2.1 hd rfl (by have h := kk H locs ls hP hS hl; unfold iv at h; rwa [ofInt_back] at h)
-- longs
theorem g_ladd (C : gC p R s m args c D cl tys A wl nL cc own Ts Z) {x y : Int} (hd : decode cc pc = .ok (.ladd, 1)) (kk : gG p l e R s m args below meth c Q D cl A wl nL (pc + 1) lv (jv (x + y) :: st) M) : gG p l e R s m args below meth c Q D cl A wl nL pc lv (jv y :: jv x :: st) M :=
  fun H locs ls hP hS hl => lv_ladd C.1 C.2.1 hd (by have h := kk H locs ls hP hS hl; unfold jv at h; rwa [Int64.ofInt_add] at h)
theorem g_lsub (C : gC p R s m args c D cl tys A wl nL cc own Ts Z) {x y : Int} (hd : decode cc pc = .ok (.lsub, 1)) (kk : gG p l e R s m args below meth c Q D cl A wl nL (pc + 1) lv (jv (x - y) :: st) M) : gG p l e R s m args below meth c Q D cl A wl nL pc lv (jv y :: jv x :: st) M :=
  fun H locs ls hP hS hl => lv_lsub C.1 C.2.1 hd (by have h := kk H locs ls hP hS hl; unfold jv at h; rwa [Int64.ofInt_sub] at h)
theorem g_lmul (C : gC p R s m args c D cl tys A wl nL cc own Ts Z) {x y : Int} (hd : decode cc pc = .ok (.lmul, 1)) (kk : gG p l e R s m args below meth c Q D cl A wl nL (pc + 1) lv (jv (x * y) :: st) M) : gG p l e R s m args below meth c Q D cl A wl nL pc lv (jv y :: jv x :: st) M :=
  fun H locs ls hP hS hl => lv_lmul C.1 C.2.1 hd (by have h := kk H locs ls hP hS hl; unfold jv at h; rwa [Int64.ofInt_mul] at h)
theorem ofInt_eq_iffL (x y : Int) : Int64.ofInt x = Int64.ofInt y ↔ wrapL x = wrapL y := by
  rw [← Int64.toInt_inj, ofInt_toIntL, ofInt_toIntL]
theorem ofInt_ne0L {y : Int} (h : wrapL y ≠ 0) : ¬ Int64.ofInt y = 0 := by
  intro q
  have : wrapL y = wrapL 0 := (ofInt_eq_iffL y 0).mp q
  exact h this
theorem ofInt_divL (x y : Int) : Int64.ofInt x / Int64.ofInt y = Int64.ofInt ((wrapL x).tdiv (wrapL y)) := by
  rw [← Int64.toInt_inj, Int64.toInt_div, ofInt_toIntL, ofInt_toIntL, ofInt_toIntL]
  unfold wrapL
  rw [Int.bmod_def]
  split <;> omega
theorem g_ldiv (C : gC p R s m args c D cl tys A wl nL cc own Ts Z) {x y : Int} (hd : decode cc pc = .ok (.ldiv, 1)) (hy : wrapL y ≠ 0) (kk : gG p l e R s m args below meth c Q D cl A wl nL (pc + 1) lv (jv ((wrapL x).tdiv (wrapL y)) :: st) M) : gG p l e R s m args below meth c Q D cl A wl nL pc lv (jv y :: jv x :: st) M :=
  fun H locs ls hP hS hl => lv_ldiv C.1 C.2.1 hd (ofInt_ne0L hy) (by have h := kk H locs ls hP hS hl; unfold jv at h; rwa [← ofInt_divL] at h)
def yand (x y : Int) : Int := (Int64.ofInt x &&& Int64.ofInt y).toInt
def yor (x y : Int) : Int := (Int64.ofInt x ||| Int64.ofInt y).toInt
def yshl (x y : Int) : Int := (Int64.ofInt x <<< ((Int32.ofInt y).toInt64 &&& 63)).toInt
def yshr (x y : Int) : Int := (Int64.ofInt x >>> ((Int32.ofInt y).toInt64 &&& 63)).toInt
theorem g_land (C : gC p R s m args c D cl tys A wl nL cc own Ts Z) {x y : Int} (hd : decode cc pc = .ok (.land, 1)) (kk : gG p l e R s m args below meth c Q D cl A wl nL (pc + 1) lv (jv (yand x y) :: st) M) : gG p l e R s m args below meth c Q D cl A wl nL pc lv (jv y :: jv x :: st) M :=
  fun H locs ls hP hS hl => lv_land C.1 C.2.1 hd (by have h := kk H locs ls hP hS hl; unfold jv yand at h; rwa [ofInt_backL] at h)
theorem g_lor (C : gC p R s m args c D cl tys A wl nL cc own Ts Z) {x y : Int} (hd : decode cc pc = .ok (.lor, 1)) (kk : gG p l e R s m args below meth c Q D cl A wl nL (pc + 1) lv (jv (yor x y) :: st) M) : gG p l e R s m args below meth c Q D cl A wl nL pc lv (jv y :: jv x :: st) M :=
  fun H locs ls hP hS hl => lv_lor C.1 C.2.1 hd (by have h := kk H locs ls hP hS hl; unfold jv yor at h; rwa [ofInt_backL] at h)
theorem g_lshl (C : gC p R s m args c D cl tys A wl nL cc own Ts Z) {x y : Int} (hd : decode cc pc = .ok (.lshl, 1)) (kk : gG p l e R s m args below meth c Q D cl A wl nL (pc + 1) lv (jv (yshl x y) :: st) M) : gG p l e R s m args below meth c Q D cl A wl nL pc lv (iv y :: jv x :: st) M :=
  fun H locs ls hP hS hl => lv_lshl C.1 C.2.1 hd rfl (by have h := kk H locs ls hP hS hl; unfold jv yshl at h; rwa [ofInt_backL] at h)
theorem g_lshr (C : gC p R s m args c D cl tys A wl nL cc own Ts Z) {x y : Int} (hd : decode cc pc = .ok (.lshr, 1)) (kk : gG p l e R s m args below meth c Q D cl A wl nL (pc + 1) lv (jv (yshr x y) :: st) M) : gG p l e R s m args below meth c Q D cl A wl nL pc lv (iv y :: jv x :: st) M :=
  fun H locs ls hP hS hl => lv_lshr C.1 C.2.1 hd rfl (by have h := kk H locs ls hP hS hl; unfold jv yshr at h; rwa [ofInt_backL] at h)
theorem ofInt_i2l (x : Int) : (Int32.ofInt x).toInt64 = Int64.ofInt (wrap x) := by
  rw [← Int64.toInt_inj, Int32.toInt_toInt64, ofInt_toInt, ofInt_toIntL, wrapL_in] <;> (have := wrap_rng x; omega)
theorem ofInt_l2i (x : Int) : (Int64.ofInt x).toInt32 = Int32.ofInt x := by
  rw [← Int32.toInt_inj, Int64.toInt_toInt32, ofInt_toIntL, ofInt_toInt]
  unfold wrap wrapL
  rw [Int.bmod_def]
  split <;> omega
theorem g_i2l (C : gC p R s m args c D cl tys A wl nL cc own Ts Z) {x : Int} (hd : decode cc pc = .ok (.i2l, 1)) (kk : gG p l e R s m args below meth c Q D cl A wl nL (pc + 1) lv (jv (wrap x) :: st) M) : gG p l e R s m args below meth c Q D cl A wl nL pc lv (iv x :: st) M :=
  fun H locs ls hP hS hl => lv_i2l C.1 C.2.1 hd (ofInt_i2l x) (kk H locs ls hP hS hl)
theorem g_l2i (C : gC p R s m args c D cl tys A wl nL cc own Ts Z) {x : Int} (hd : decode cc pc = .ok (.l2i, 1)) (kk : gG p l e R s m args below meth c Q D cl A wl nL (pc + 1) lv (iv x :: st) M) : gG p l e R s m args below meth c Q D cl A wl nL pc lv (jv x :: st) M :=
  fun H locs ls hP hS hl => lv_l2i C.1 C.2.1 hd (ofInt_l2i x) (kk H locs ls hP hS hl)
-- branches
theorem g_goto (C : gC p R s m args c D cl tys A wl nL cc own Ts Z) {off : Int} (tgt : Nat) (hd : decode cc pc = .ok (.goto off, 3)) (ht : (pc : Int) + off = (tgt : Int)) (kk : gG p l e R s m args below meth c Q D cl A wl nL tgt lv st M) : gG p l e R s m args below meth c Q D cl A wl nL pc lv st M :=
  fun H locs ls hP hS hl => lv_goto C.1 C.2.1 hd ht (kk H locs ls hP hS hl)
theorem g_icmp_eq (C : gC p R s m args c D cl tys A wl nL cc own Ts Z) {x y off : Int} (tgt : Nat) (hd : decode cc pc = .ok (.if_icmp .eq off, 3)) (ht : (pc : Int) + off = (tgt : Int)) (kt : wrap x = wrap y → gG p l e R s m args below meth c Q D cl A wl nL tgt lv st M) (kf : ¬ wrap x = wrap y → gG p l e R s m args below meth c Q D cl A wl nL (pc + 3) lv st M) : gG p l e R s m args below meth c Q D cl A wl nL pc lv (iv y :: iv x :: st) M :=
  fun H locs ls hP hS hl => lv_icmp_eq C.1 C.2.1 hd ht (fun h => kt ((ofInt_eq_iff x y).mp h) H locs ls hP hS hl) (fun h => kf (fun q => h ((ofInt_eq_iff x y).mpr q)) H locs ls hP hS hl)
theorem g_icmp_ne (C : gC p R s m args c D cl tys A wl nL cc own Ts Z) {x y off : Int} (tgt : Nat) (hd : decode cc pc = .ok (.if_icmp .ne off, 3)) (ht : (pc : Int) + off = (tgt : Int)) (kt : ¬ wrap x = wrap y → gG p l e R s m args below meth c Q D cl A wl nL tgt lv st M) (kf : wrap x = wrap y → gG p l e R s m args below meth c Q D cl A wl nL (pc + 3) lv st M) : gG p l e R s m args below meth c Q D cl A wl nL pc lv (iv y :: iv x :: st) M :=
  fun H locs ls hP hS hl => lv_icmp_ne C.1 C.2.1 hd ht (fun h => kt (fun q => h ((ofInt_eq_iff x y).mpr q)) H locs ls hP hS hl) (fun h => kf ((ofInt_eq_iff x y).mp (h)) H locs ls hP hS hl)
theorem g_icmp_lt (C : gC p R s m args c D cl tys A wl nL cc own Ts Z) {x y off : Int} (tgt : Nat) (hd : decode cc pc = .ok (.if_icmp .lt off, 3)) (ht : (pc : Int) + off = (tgt : Int)) (kt : wrap x < wrap y → gG p l e R s m args below meth c Q D cl A wl nL tgt lv st M) (kf : wrap y ≤ wrap x → gG p l e R s m args below meth c Q D cl A wl nL (pc + 3) lv st M) : gG p l e R s m args below meth c Q D cl A wl nL pc lv (iv y :: iv x :: st) M :=
  fun H locs ls hP hS hl => lv_icmp_lt C.1 C.2.1 hd ht (fun h => kt ((ofInt_lt_iff x y).mp h) H locs ls hP hS hl) (fun h => kf (Int.not_lt.mp (fun q => h ((ofInt_lt_iff x y).mpr q))) H locs ls hP hS hl)
theorem g_icmp_ge (C : gC p R s m args c D cl tys A wl nL cc own Ts Z) {x y off : Int} (tgt : Nat) (hd : decode cc pc = .ok (.if_icmp .ge off, 3)) (ht : (pc : Int) + off = (tgt : Int)) (kt : wrap y ≤ wrap x → gG p l e R s m args below meth c Q D cl A wl nL tgt lv st M) (kf : wrap x < wrap y → gG p l e R s m args below meth c Q D cl A wl nL (pc + 3) lv st M) : gG p l e R s m args below meth c Q D cl A wl nL pc lv (iv y :: iv x :: st) M :=
  fun H locs ls hP hS hl => lv_icmp_ge C.1 C.2.1 hd ht (fun h => kt ((ofInt_le_iff y x).mp h) H locs ls hP hS hl) (fun h => kf (Int.not_le.mp (fun q => h ((ofInt_le_iff y x).mpr q))) H locs ls hP hS hl)
theorem g_icmp_gt (C : gC p R s m args c D cl tys A wl nL cc own Ts Z) {x y off : Int} (tgt : Nat) (hd : decode cc pc = .ok (.if_icmp .gt off, 3)) (ht : (pc : Int) + off = (tgt : Int)) (kt : wrap y < wrap x → gG p l e R s m args below meth c Q D cl A wl nL tgt lv st M) (kf : wrap x ≤ wrap y → gG p l e R s m args below meth c Q D cl A wl nL (pc + 3) lv st M) : gG p l e R s m args below meth c Q D cl A wl nL pc lv (iv y :: iv x :: st) M :=
  fun H locs ls hP hS hl => lv_icmp_gt C.1 C.2.1 hd ht (fun h => kt ((ofInt_lt_iff y x).mp h) H locs ls hP hS hl) (fun h => kf (Int.not_lt.mp (fun q => h ((ofInt_lt_iff y x).mpr q))) H locs ls hP hS hl)
theorem g_icmp_le (C : gC p R s m args c D cl tys A wl nL cc own Ts Z) {x y off : Int} (tgt : Nat) (hd : decode cc pc = .ok (.if_icmp .le off, 3)) (ht : (pc : Int) + off = (tgt : Int)) (kt : wrap x ≤ wrap y → gG p l e R s m args below meth c Q D cl A wl nL tgt lv st M) (kf : wrap y < wrap x → gG p l e R s m args below meth c Q D cl A wl nL (pc + 3) lv st M) : gG p l e R s m args below meth c Q D cl A wl nL pc lv (iv y :: iv x :: st) M :=
  fun H locs ls hP hS hl => lv_icmp_le C.1 C.2.1 hd ht (fun h => kt ((ofInt_le_iff x y).mp h) H locs ls hP hS hl) (fun h => kf (Int.not_le.mp (fun q => h ((ofInt_le_iff x y).mpr q))) H locs ls hP hS hl)
theorem wrap_0 : wrap 0 = 0 := by decide
theorem ofInt_0 : (0 : Int32) = Int32.ofInt 0 := rfl
theorem g_if_eq (C : gC p R s m args c D cl tys A wl nL cc own Ts Z) {x off : Int} (tgt : Nat) (hd : decode cc pc = .ok (.ifCond .eq off, 3)) (ht : (pc : Int) + off = (tgt : Int)) (kt : wrap x = 0 → gG p l e R s m args below meth c Q D cl A wl nL tgt lv st M) (kf : ¬ wrap x = 0 → gG p l e R s m args below meth c Q D cl A wl nL (pc + 3) lv st M) : gG p l e R s m args below meth c Q D cl A wl nL pc lv (iv x :: st) M :=
  fun H locs ls hP hS hl => lv_if_eq C.1 C.2.1 hd ht (fun h => kt (((ofInt_eq_iff x 0).mp h).trans wrap_0) H locs ls hP hS hl) (fun h => kf (fun q => h ((ofInt_eq_iff x 0).mpr (q.trans wrap_0.symm))) H locs ls hP hS hl)
theorem g_if_ne (C : gC p R s m args c D cl tys A wl nL cc own Ts Z) {x off : Int} (tgt : Nat) (hd : decode cc pc = .ok (.ifCond .ne off, 3)) (ht : (pc : Int) + off = (tgt : Int)) (kt : ¬ wrap x = 0 → gG p l e R s m args below meth c Q D cl A wl nL tgt lv st M) (kf : wrap x = 0 → gG p l e R s m args below meth c Q D cl A wl nL (pc + 3) lv st M) : gG p l e R s m args below meth c Q D cl A wl nL pc lv (iv x :: st) M :=
  fun H locs ls hP hS hl => lv_if_ne C.1 C.2.1 hd ht (fun h => kt (fun q => h ((ofInt_eq_iff x 0).mpr (q.trans wrap_0.symm))) H locs ls hP hS hl) (fun h => kf (((ofInt_eq_iff x 0).mp (h)).trans wrap_0) H locs ls hP hS hl)
theorem g_if_lt (C : gC p R s m args c D cl tys A wl nL cc own Ts Z) {x off : Int} (tgt : Nat) (hd : decode cc pc = .ok (.ifCond .lt off, 3)) (ht : (pc : Int) + off = (tgt : Int)) (kt : wrap x < 0 → gG p l e R s m args below meth c Q D cl A wl nL tgt lv st M) (kf : 0 ≤ wrap x → gG p l e R s m args below meth c Q D cl A wl nL (pc + 3) lv st M) : gG p l e R s m args below meth c Q D cl A wl nL pc lv (iv x :: st) M :=
  fun H locs ls hP hS hl => lv_if_lt C.1 C.2.1 hd ht (fun h => kt (by have := (ofInt_lt_iff x 0).mp h; rwa [wrap_0] at this) H locs ls hP hS hl) (fun h => kf (Int.not_lt.mp (fun q => h ((ofInt_lt_iff x 0).mpr (by rwa [wrap_0])))) H locs ls hP hS hl)
theorem g_if_ge (C : gC p R s m args c D cl tys A wl nL cc own Ts Z) {x off : Int} (tgt : Nat) (hd : decode cc pc = .ok (.ifCond .ge off, 3)) (ht : (pc : Int) + off = (tgt : Int)) (kt : 0 ≤ wrap x → gG p l e R s m args below meth c Q D cl A wl nL tgt lv st M) (kf : wrap x < 0 → gG p l e R s m args below meth c Q D cl A wl nL (pc + 3) lv st M) : gG p l e R s m args below meth c Q D cl A wl nL pc lv (iv x :: st) M :=
  fun H locs ls hP hS hl => lv_if_ge C.1 C.2.1 hd ht (fun h => kt (by have := (ofInt_le_iff 0 x).mp h; rwa [wrap_0] at this) H locs ls hP hS hl) (fun h => kf (Int.not_le.mp (fun q => h ((ofInt_le_iff 0 x).mpr (by rwa [wrap_0])))) H locs ls hP hS hl)
theorem g_if_gt (C : gC p R s m args c D cl tys A wl nL cc own Ts Z) {x off : Int} (tgt : Nat) (hd : decode cc pc = .ok (.ifCond .gt off, 3)) (ht : (pc : Int) + off = (tgt : Int)) (kt : 0 < wrap x → gG p l e R s m args below meth c Q D cl A wl nL tgt lv st M) (kf : wrap x ≤ 0 → gG p l e R s m args below meth c Q D cl A wl nL (pc + 3) lv st M) : gG p l e R s m args below meth c Q D cl A wl nL pc lv (iv x :: st) M :=
  fun H locs ls hP hS hl => lv_if_gt C.1 C.2.1 hd ht (fun h => kt (by have := (ofInt_lt_iff 0 x).mp h; rwa [wrap_0] at this) H locs ls hP hS hl) (fun h => kf (Int.not_lt.mp (fun q => h ((ofInt_lt_iff 0 x).mpr (by rwa [wrap_0])))) H locs ls hP hS hl)
theorem g_if_le (C : gC p R s m args c D cl tys A wl nL cc own Ts Z) {x off : Int} (tgt : Nat) (hd : decode cc pc = .ok (.ifCond .le off, 3)) (ht : (pc : Int) + off = (tgt : Int)) (kt : wrap x ≤ 0 → gG p l e R s m args below meth c Q D cl A wl nL tgt lv st M) (kf : 0 < wrap x → gG p l e R s m args below meth c Q D cl A wl nL (pc + 3) lv st M) : gG p l e R s m args below meth c Q D cl A wl nL pc lv (iv x :: st) M :=
  fun H locs ls hP hS hl => lv_if_le C.1 C.2.1 hd ht (fun h => kt (by have := (ofInt_le_iff x 0).mp h; rwa [wrap_0] at this) H locs ls hP hS hl) (fun h => kf (Int.not_le.mp (fun q => h ((ofInt_le_iff x 0).mpr (by rwa [wrap_0])))) H locs ls hP hS hl)
def ycmp (x y : Int) : Int := if wrapL y < wrapL x then 1 else if wrapL x = wrapL y then 0 else -1
theorem ofInt_cmp (x y : Int) : lg_cmp (Int64.ofInt x) (Int64.ofInt y) = Int32.ofInt (ycmp x y) := by
  have h1 : (Int64.ofInt x > Int64.ofInt y) ↔ wrapL y < wrapL x := by
    show Int64.ofInt y < Int64.ofInt x ↔ _
    rw [Int64.lt_iff_toInt_lt, ofInt_toIntL, ofInt_toIntL]
  have h2 := ofInt_eq_iffL x y
  unfold lg_cmp ycmp
  by_cases q1 : wrapL y < wrapL x
  · rw [if_pos (h1.mpr q1), if_pos q1]; rfl
  · rw [if_neg (fun h => q1 (h1.mp h)), if_neg q1]
    by_cases q2 : wrapL x = wrapL y
    · rw [if_pos (h2.mpr q2), if_pos q2]; rfl
    · rw [if_neg (fun h => q2 (h2.mp h)), if_neg q2]; rfl
theorem g_lcmp (C : gC p R s m args c D cl tys A wl nL cc own Ts Z) {x y : Int} (hd : decode cc pc = .ok (.lcmp, 1)) (kk : gG p l e R s m args below meth c Q D cl A wl nL (pc + 1) lv (iv (ycmp x y) :: st) M) : gG p l e R s m args below meth c Q D cl A wl nL pc lv (jv y :: jv x :: st) M :=
  fun H locs ls hP hS hl => W.lcmp C.1 C.2.1 hd (by have h := kk H locs ls hP hS hl; unfold iv at h; rwa [← ofInt_cmp] at h)
theorem g_tableIn (C : gC p R s m args c D cl tys A wl nL cc own Ts Z) {dflt lo hi off x : Int} {offs : Array Int} {len : Nat} (tgt : Nat) (hd : decode cc pc = .ok (.tableswitch dflt lo hi offs, len)) (h1 : lo ≤ wrap x) (h2 : wrap x ≤ hi) (ho : offs[(wrap x - lo).toNat]? = some off) (ht : (pc : Int) + off = (tgt : Int)) (kk : gG p l e R s m args below meth c Q D cl A wl nL tgt lv st M) : gG p l e R s m args below meth c Q D cl A wl nL pc lv (iv x :: st) M :=
  fun H locs ls hP hS hl => lv_tableIn C.1 C.2.1 hd (by rw [ofInt_toInt]; omega) (by rw [ofInt_toInt]; omega) (by rw [ofInt_toInt]; exact ho) ht (kk H locs ls hP hS hl)
theorem g_tableOut (C : gC p R s m args c D cl tys A wl nL cc own Ts Z) {dflt lo hi x : Int} {offs : Array Int} {len : Nat} (tgt : Nat) (hd : decode cc pc = .ok (.tableswitch dflt lo hi offs, len)) (h : wrap x < lo ∨ hi < wrap x) (ht : (pc : Int) + dflt = (tgt : Int)) (kk : gG p l e R s m args below meth c Q D cl A wl nL tgt lv st M) : gG p l e R s m args below meth c Q D cl A wl nL pc lv (iv x :: st) M :=
  fun H locs ls hP hS hl => lv_tableOut C.1 C.2.1 hd (by rw [ofInt_toInt]; exact h) ht (kk H locs ls hP hS hl)
theorem g_lookup (C : gC p R s m args c D cl tys A wl nL cc own Ts Z) {dflt off x : Int} {ps : Array (Int × Int)} {len : Nat} (tgt : Nat) (hd : decode cc pc = .ok (.lookupswitch dflt ps, len)) (hp : (ps.toList.zip (ps.toList.drop 1)).all (fun (a, next) => a.1 < next.1) = true) (ho : Op.lookupswitch.offset ps.toList dflt (wrap x) = off) (ht : (pc : Int) + off = (tgt : Int)) (kk : gG p l e R s m args below meth c Q D cl A wl nL tgt lv st M) : gG p l e R s m args below meth c Q D cl A wl nL pc lv (iv x :: st) M :=
  fun H locs ls hP hS hl => lv_lookup C.1 C.2.1 hd hp (by rw [ofInt_toInt]; exact ho) ht (kk H locs ls hP hS hl)
end GM
