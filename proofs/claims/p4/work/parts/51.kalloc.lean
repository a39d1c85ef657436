-- constructors: making, first writes, and their contract
def gYm (Y : State → Prop) : Prop := (∀ s U : State, Y s → s.WarmedH U.vm → Y U) ∧ ∀ (U : State) (g : JFrame) (mk : MethodId) (a : Array Value), Y U → Y (U.calling g mk a)
def kPre (D : va_G) (cl : List vw_C) (tys : List (ClassId × FieldType)) (Y : State → Prop) (sz : Nat) (ws : va_W) (U : State) : Prop := U.heap.size = sz ∧ va_P D cl ws U.heap ∧ va_K D cl tys U ∧ va_D (fun _ => True) ws ∧ Y U ∧ gYm Y
def kPost (D : va_G) (cl : List vw_C) (tys : List (ClassId × FieldType)) (A : Nat → Prop) (ws : va_W) (t : State) : Prop := va_P D cl ws t.heap ∧ va_K D cl tys t ∧ va_D A ws
/-- a constructor: from the world ws0 (its own object, nothing set) to F u, u the new cells' addresses -/
def MK (l : Launch) (y : MethodName) (b : ByteArray) (n : Nat) (rm : Room) (D : va_G) (cl : List vw_C) (tys : List (ClassId × FieldType)) (Ts : List Cond) (Y : State → Prop) (vs : List Value) (ws0 : va_W) (mc ms : Nat) (F : (Nat → Nat) → va_W) : Prop :=
  ∀ sz : Nat, Met l y (Cond.code y b n none :: Ts) rm (va_Pc vs (kPre D cl tys Y sz ws0)) (va_Qv (fun (_ : Nat → Nat) => True) (fun u t => kPost D cl tys (va_A ws0 sz) (F u) t) (va_A ws0 sz)) mc ms (va_A ws0 sz)
theorem kPre_blind {D : va_G} {cl : List vw_C} {tys : List (ClassId × FieldType)} {Y : State → Prop} {sz : Nat} {ws : va_W} {vs : List Value} : FrameBlind (va_Pc vs (kPre D cl tys Y sz ws)) := fun a U g mk q => by
  obtain ⟨q0, q1, qP, qK, qD, qY, qm⟩ := q
  exact ⟨q0, q1, qP, va_K.moved (u := U) (U := U.calling g mk a) (Vm.Alike.refl U.vm) qK, qD, qm.2 _ _ _ _ qY, qm⟩
/-- two worlds, of which the second was handed to a callee -/
theorem k_join {A0 : Nat → Prop} {D : va_G} {cl : List vw_C} {wr wc w1 : va_W} {H H1 : Heap} (hP : va_P D cl (wr ++ wc) H) (hD : va_D A0 (wr ++ wc)) (hk : ∀ q : Nat, q < H.size → ¬ va_A wc H.size q → H1[q]? = H[q]?) (hF : ∀ q, va_A wc H.size q → A0 q) (hP1 : va_P D cl w1 H1) (hD1 : va_D (va_A wc H.size) w1) : va_P D cl (wr ++ w1) H1 ∧ va_D A0 (wr ++ w1) := by
  have gl : ∀ (k : Nat) (q : Nat × va_E), wr[k]? = some q → (wr ++ wc)[k]? = some q := fun k q h => by
    rw [List.getElem?_append_left (List.getElem?_eq_some_iff.mp h).1]
    exact h
  have apart : ∀ (k : Nat) (q : Nat × va_E), wr[k]? = some q → q.1 < H.size ∧ ¬ va_A wc H.size q.1 := by
    intro k q hq
    have hl := (hP k q (gl k q hq)).lt
    refine ⟨hl, fun h => ?_⟩
    rcases h with ⟨k2, e, h⟩ | h
    · have hk1 := (List.getElem?_eq_some_iff.mp hq).1
      have h3 : (wr ++ wc)[wr.length + k2]? = some (q.1, e) := by
        rw [List.getElem?_append_right (by omega)]
        rw [show wr.length + k2 - wr.length = k2 from by omega]
        exact h
      have := hD.1 k (wr.length + k2) q (q.1, e) (gl k q hq) h3 rfl
      omega
    · omega
  have hDr : va_D A0 wr := ⟨fun i j p q hi hj h => hD.1 i j p q (gl i p hi) (gl j q hj) h, fun k q h => hD.2 k q (gl k q h)⟩
  refine ⟨va_P.app (fun k q hq => ?_) hP1, va_D.app hDr (hD1.weaken (fun k q _ h => hF q.1 h)) (fun i j x y hx hy hxy => ?_)⟩
  · obtain ⟨g1, g2⟩ := apart k q hq
    exact (hP k q (gl k q hq)).kept (hk q.1 g1 g2)
  · exact (apart i x hx).2 (by rw [hxy]; exact hD1.2 j y hy)
section KA
variable {p : Program} {l : Launch} {e : Env} {R : Room} {s : State} {m : MethodId} {args : Array Value} {below : List Frame} {meth : Method} {c : Code} {Q : State → Prop}
variable {D : va_G} {cl : List vw_C} {tys : List (ClassId × FieldType)} {A : Nat → Prop} {nL kc ks : Nat} {cc : ByteArray} {own : String} {Ts : List Cond}
variable {pc : Nat} {lv lv' : List (Nat × Value)} {st st0 : List Value} {ws ws' wr : va_W} {cI cS : ClassId}
theorem k_new (C : kC p s m args c D cl tys A nL cc own Ts) {Cn : String} {T : u_T} {NF ci idx : Nat} (hin : ∀ w ∈ u_ws Cn T NF, w ∈ Ts) (ty : Nat → FieldType) (hty : ∀ k, k < NF → parseFieldDescriptor (T k).2.2.1 = some (ty k)) (h1 : Cond.classLink own idx Cn ∈ Ts) (h2 : Cond.instantiable Cn NF ∈ Ts) (h3 : Cond.initialized Cn ∈ Ts) (hc : cl[ci]? = some (Cn, T, NF)) {fs : List Value} (hfs : ∀ j, j < NF → defaultValue (ty j) = vp_V fs j) (hr : kc + 1 ≤ R.cells ∧ ks + NF ≤ R.slots) (hd : decode cc pc = .ok (.new idx, 3)) (kk : ∀ q : Nat, gK p l e R s m args below meth c Q D cl A nL (kc + 1) (ks + NF) (pc + 3) lv (.ref q :: st) (ws ++ [(q, .inr (ci, fs))])) : gK p l e R s m args below meth c Q D cl A nL kc ks pc lv st ws := by
  intro H locs ls hP hD hS hl
  have hts := C.2.2.2.2.1
  exact va_new C.1 C.2.1 hts hin ty hty C.2.2.2.1 (hts _ h1) (hts _ h2) (hts _ h3) C.2.2.2.2.2.1 hP hD hS C.2.2.2.2.2.2 hc hfs hr.1 hr.2 hd (fun q H1 hP1 hD1 hS1 => kk q H1 locs ls hP1 hD1 hS1 hl)
theorem k_newa (C : kC p s m args c D cl ((cI, .int) :: tys) A nL cc own Ts) {n : Nat} (h1 : Cond.arrayClass .int ∈ Ts) (hn : n < 100000) (hr : kc + 1 ≤ R.cells ∧ ks + n ≤ R.slots) (hd : decode cc pc = .ok (.newarray .int, 2)) (kk : ∀ q : Nat, gK p l e R s m args below meth c Q D cl A nL (kc + 1) (ks + n) (pc + 2) lv (.ref q :: st) (ws ++ [(q, .inl (cI, n, .inl (fun _ => 0)))])) : gK p l e R s m args below meth c Q D cl A nL kc ks pc lv (iv n :: st) ws := by
  intro H locs ls hP hD hS hl
  have hts := C.2.2.2.2.1
  have hK := C.2.2.2.2.2.1
  have hcl : (Int32.ofInt (n : Int)).toNatClampNeg = n := by rw [ofInt_clamp (by omega) (by omega)]; omega
  refine va_newa (atype := .int) (n := Int32.ofInt n) (N' := n) (a0 := (n, .inl (fun _ => 0))) (ty := .int) C.1 C.2.1 (hts _ h1) rfl hK hP hD hS C.2.2.2.2.2.2 (fun cA => by rw [vp_cell_i]; rfl) (fun h => ?_) hcl (by simp [componentBytes]; omega) hr.1 hr.2 hd (fun q cA H1 hK1 hP1 hD1 hS1 => ?_)
  · rw [Int32.lt_iff_toInt_lt, ofInt_toInt, wrap_in (by omega) (by omega)] at h
    simp at h
    omega
  · have e1 := (hK1.2 0 (cI, .int) rfl).2
    have e2 := (hK1.2 (tys.length + 1) (cA, .int) (by simp)).2
    have e3 : cA = cI := by
      have h1 : s.vm.findClass _ = some cI := e1
      have h2 : s.vm.findClass _ = some cA := e2
      rw [h1] at h2
      exact (Option.some.inj h2).symm
    subst e3
    exact kk q H1 locs ls hP1 hD1 hS1 hl
theorem k_newq (C : kC p s m args c D cl ((cI, .int) :: (cS, .object "OldBronze$Sheet") :: tys) A nL cc own Ts) {n idx : Nat} (h1 : Cond.classLink own idx "OldBronze$Sheet" ∈ Ts) (hA : va_AO "OldBronze$Sheet" s) (hn : n < 100000) (hr : kc + 1 ≤ R.cells ∧ ks + n ≤ R.slots) (hd : decode cc pc = .ok (.anewarray idx, 3)) (kk : ∀ q : Nat, gK p l e R s m args below meth c Q D cl A nL (kc + 1) (ks + n) (pc + 3) lv (.ref q :: st) (ws ++ [(q, .inl (cS, n, .inr (.inr (.inr (.inr (fun _ => none))))))])) : gK p l e R s m args below meth c Q D cl A nL kc ks pc lv (iv n :: st) ws := by
  intro H locs ls hP hD hS hl
  have hts := C.2.2.2.2.1
  have hK := C.2.2.2.2.2.1
  have hcl : (Int32.ofInt (n : Int)).toNatClampNeg = n := by rw [ofInt_clamp (by omega) (by omega)]; omega
  refine va_newq (n := Int32.ofInt n) (N' := n) C.1 C.2.1 C.2.2.2.1 (hts _ h1) hA hK hP hD hS C.2.2.2.2.2.2 (fun h => ?_) hcl (by omega) hr.1 hr.2 hd (fun q cA H1 hK1 hP1 hD1 hS1 => ?_)
  · rw [Int32.lt_iff_toInt_lt, ofInt_toInt, wrap_in (by omega) (by omega)] at h
    simp at h
    omega
  · obtain ⟨-, -, -, -, -, e1⟩ := (hK1.2 1 (cS, .object "OldBronze$Sheet") rfl).2
    obtain ⟨-, -, -, -, -, e2⟩ := (hK1.2 (tys.length + 2) (cA, .object "OldBronze$Sheet") (by simp)).2
    have e3 : cA = cS := by
      rw [e1] at e2
      exact (Option.some.inj e2).symm
    subst e3
    exact kk q H1 locs ls hP1 hD1 hS1 hl
theorem k_putF (C : kC p s m args c D cl tys A nL cc own Ts) {a ci k idx NF : Nat} {fs : List Value} {v : Value} {Cn ref : String} {T : u_T} {ty : FieldType} (q0 : Nat) (he : ws[q0]? = some (a, .inr (ci, fs))) (hc : cl[ci]? = some (Cn, T, NF)) (hk : k < NF) (hin : ∀ w ∈ u_ws Cn T NF, w ∈ Ts) (ty0 : Nat → FieldType) (hty : ∀ k, k < NF → parseFieldDescriptor (T k).2.2.1 = some (ty0 k)) (hnm : ∀ a, a < NF → ∀ b, b < NF → a ≠ b → (T a).2.1 ≠ (T b).2.1) (hw : Cond.fieldLink own idx ref (T k).2.1 (T k).2.2.1 ∈ Ts) (hsame : (T k).1 = ref) (hfin : (T k).2.2.2 = true) (hin2 : meth.name = "<init>") (hdecl : (T k).1 = own) (hdt : parseFieldDescriptor (T k).2.2.1 = some ty) (hn : narrow ty v = v ∧ fits ty v = true) (hlen : k < fs.length) (hd : decode cc pc = .ok (.putfield idx, 3)) (hws : ws.set q0 (a, .inr (ci, fs.set k v)) = ws') (kk : gK p l e R s m args below meth c Q D cl A nL kc ks (pc + 3) lv st ws') : gK p l e R s m args below meth c Q D cl A nL kc ks pc lv (v :: .ref a :: st) ws := by
  subst hws
  intro H locs ls hP hD hS hl
  have hts := C.2.2.2.2.1
  exact va_putF C.1 C.2.1 hts hin ty0 hty hnm C.2.2.2.1 C.2.2.2.2.2.1 hP hD hS q0 he hc k hk (hts _ hw) (fun x h => by rw [hsame] at h; exact h) hfin hin2 hdecl hdt hn.1 hn.2 hlen hd (fun H1 locs1 hP1 hD1 hS1 => kk H1 locs1 ls hP1 hD1 hS1 hl)
theorem k_put (C : kC p s m args c D cl tys A nL cc own Ts) {a ci k idx NF : Nat} {fs : List Value} {v : Value} {Cn ref : String} {T : u_T} {ty : FieldType} (q0 : Nat) (he : ws[q0]? = some (a, .inr (ci, fs))) (hc : cl[ci]? = some (Cn, T, NF)) (hk : k < NF) (hin : ∀ w ∈ u_ws Cn T NF, w ∈ Ts) (ty0 : Nat → FieldType) (hty : ∀ k, k < NF → parseFieldDescriptor (T k).2.2.1 = some (ty0 k)) (hnm : ∀ a, a < NF → ∀ b, b < NF → a ≠ b → (T a).2.1 ≠ (T b).2.1) (hw : Cond.fieldLink own idx ref (T k).2.1 (T k).2.2.1 ∈ Ts) (hsame : (T k).1 = ref) (hfin : (T k).2.2.2 = false) (hdt : parseFieldDescriptor (T k).2.2.1 = some ty) (hn : narrow ty v = v ∧ fits ty v = true) (hlen : k < fs.length) (hd : decode cc pc = .ok (.putfield idx, 3)) (hws : ws.set q0 (a, .inr (ci, fs.set k v)) = ws') (kk : gK p l e R s m args below meth c Q D cl A nL kc ks (pc + 3) lv st ws') : gK p l e R s m args below meth c Q D cl A nL kc ks pc lv (v :: .ref a :: st) ws := by
  subst hws
  intro H locs ls hP hD hS hl
  have hts := C.2.2.2.2.1
  exact va_put C.1 C.2.1 hts hin ty0 hty hnm C.2.2.2.1 C.2.2.2.2.2.1 hP hD hS q0 he hc k hk (hts _ hw) (fun x h => by rw [hsame] at h; exact h) hfin hdt hn.1 hn.2 hlen hd (fun H1 locs1 hP1 hD1 hS1 => kk H1 locs1 ls hP1 hD1 hS1 hl)
theorem k_getf (C : kC p s m args c D cl tys A nL cc own Ts) {a ci k idx NF : Nat} {fs : List Value} {v : Value} {Cn ref : String} {T : u_T} (q0 : Nat) (he : ws[q0]? = some (a, .inr (ci, fs))) (hc : cl[ci]? = some (Cn, T, NF)) (hk : k < NF) (hin : ∀ w ∈ u_ws Cn T NF, w ∈ Ts) (hw : Cond.fieldLink own idx ref (T k).2.1 (T k).2.2.1 ∈ Ts) (hsame : (T k).1 = ref) (hd : decode cc pc = .ok (.getfield idx, 3)) (hv : fs[k]? = some v) (kk : gK p l e R s m args below meth c Q D cl A nL kc ks (pc + 3) lv (v :: st) ws) : gK p l e R s m args below meth c Q D cl A nL kc ks pc lv (.ref a :: st) ws := by
  intro H locs ls hP hD hS hl
  have hts := C.2.2.2.2.1
  exact va_get C.1 C.2.1 hts hin C.2.2.2.1 C.2.2.2.2.2.1 hP q0 he hc k hk (hts _ hw) (fun x h => by rw [hsame] at h; exact h) hv hd (kk H locs ls hP hD hS hl)
theorem k_iast (C : kC p s m args c D cl ((cI, .int) :: tys) A nL cc own Ts) {a n : Nat} {f : Nat → Int32} {i x : Int} (q0 : Nat) (he : ws[q0]? = some (a, .inl (cI, n, .inl f))) (h0 : 0 ≤ i ∧ i < n) (hn : n < 2147483648) (hd : decode cc pc = .ok (.iastore, 1)) (hws : ws.set q0 (a, .inl (cI, n, .inl (upd f i.toNat (Int32.ofInt x)))) = ws') (kk : gK p l e R s m args below meth c Q D cl A nL kc ks (pc + 1) lv st ws') : gK p l e R s m args below meth c Q D cl A nL kc ks pc lv (iv x :: iv i :: .ref a :: st) ws := by
  subst hws
  intro H locs ls hP hD hS hl
  refine va_iast C.1 C.2.1 C.2.2.2.2.2.1 hP hD hS q0 0 he rfl (ofInt_in h0.1 h0.2 hn) hd (fun H1 locs1 hP1 hD1 hS1 => ?_)
  rw [ofInt_clamp h0.1 (by omega)] at hP1 hD1
  exact kk H1 locs1 ls hP1 hD1 hS1 hl
theorem k_aast (C : kC p s m args c D cl ((cI, .int) :: (cS, .object "OldBronze$Sheet") :: tys) A nL cc own Ts) {a n ci v : Nat} {f : Nat → Option Nat} {r : vw_C} {vs : List Value} {i : Int} (q0 qk : Nat) (he : ws[q0]? = some (a, .inl (cS, n, .inr (.inr (.inr (.inr f)))))) (hv : ws[qk]? = some (v, .inr (ci, vs))) (hc : cl[ci]? = some r) (hr : r.1 = "OldBronze$Sheet") (h0 : 0 ≤ i ∧ i < n) (hn : n < 2147483648) (hd : decode cc pc = .ok (.aastore, 1)) (hws : ws.set q0 (a, .inl (cS, n, .inr (.inr (.inr (.inr (va_up f i.toNat (some v))))))) = ws') (kk : gK p l e R s m args below meth c Q D cl A nL kc ks (pc + 1) lv st ws') : gK p l e R s m args below meth c Q D cl A nL kc ks pc lv (.ref v :: iv i :: .ref a :: st) ws := by
  subst hws
  intro H locs ls hP hD hS hl
  refine va_astq C.1 C.2.1 C.2.2.2.2.2.1 hP hD hS q0 1 qk ci he (by rw [hr]; rfl) hv hc (ofInt_in h0.1 h0.2 hn) hd (fun H1 locs1 hP1 hD1 hS1 => ?_)
  rw [ofInt_clamp h0.1 (by omega)] at hP1 hD1
  exact kk H1 locs1 ls hP1 hD1 hS1 hl
theorem k_aalen (C : kC p s m args c D cl ((cI, .int) :: (cS, .object "OldBronze$Sheet") :: tys) A nL cc own Ts) {a n : Nat} {f : Nat → Option Nat} (q0 : Nat) (he : ws[q0]? = some (a, .inl (cS, n, .inr (.inr (.inr (.inr f)))))) (hd : decode cc pc = .ok (.arraylength, 1)) (kk : gK p l e R s m args below meth c Q D cl A nL kc ks (pc + 1) lv (iv n :: st) ws) : gK p l e R s m args below meth c Q D cl A nL kc ks pc lv (.ref a :: st) ws := by
  intro H locs ls hP hD hS hl
  exact va_alen C.1 C.2.1 C.2.2.2.2.2.1 hP q0 1 he rfl (v := Int32.ofInt n) (by rw [Int32.ofInt_eq_ofNat]) hd (kk H locs ls hP hD hS hl)
theorem k_mmax (C : kC p s m args c D cl tys A nL cc own Ts) {idx : Nat} {x y : Int} (hd : decode cc pc = .ok (.invokestatic idx, 3)) (h1 : Cond.methodLink own idx Lib.Math.max.name ∈ Ts) (h2 : Cond.static Lib.Math.max.name ∈ Ts) (h3 : Cond.initialized "java/lang/Math" ∈ Ts) (h4 : Cond.code Lib.Math.max.name Lib.Math.max.code 2 (some .int) ∈ Ts) (hf : 1 ≤ R.frames) (hlo : (st.map fun v => v.category).sum + 13 ≤ R.locals) (hr : kc ≤ R.cells ∧ ks ≤ R.slots) (kk : gK p l e R s m args below meth c Q D cl A nL kc ks (pc + 3) lv (iv (xmax x y) :: st) ws) : gK p l e R s m args below meth c Q D cl A nL kc ks pc lv (iv y :: iv x :: st) ws := by
  intro H locs ls hP hD hS hL
  have hts := C.2.2.2.2.1
  refine va_mmax C.1 C.2.1 (by rw [C.2.2.1]; exact hL.1.symm) C.2.2.2.1 (hts _ h1) (hts _ h2) (hts _ h3) (hts _ h4) hf hlo hr.1 hr.2 hd ?_
  have h := kk H locs ls hP hD hS hL
  unfold xmax at h
  have e := ofInt_lt_iff x y
  by_cases q : wrap x < wrap y
  · rw [if_pos q] at h; rw [if_pos (e.mpr q)]; exact h
  · rw [if_neg q] at h; rw [if_neg (fun z => q (e.mp z))]; exact h
theorem k_objinit (C : kC p s m args c D cl tys A nL cc own Ts) {a idx : Nat} (h1 : Cond.methodLink own idx objectInit ∈ Ts) (h2 : Cond.instanceMethod objectInit ∈ Ts) (h3 : Cond.code objectInit ⟨#[0xb1]⟩ 1 none ∈ Ts) (hd : decode cc pc = .ok (.invokespecial idx, 3)) (hf : 1 ≤ R.frames) (hlo : (st.map fun v => v.category).sum + 12 ≤ R.locals) (kk : gK p l e R s m args below meth c Q D cl A nL kc ks (pc + 3) lv st ws) : gK p l e R s m args below meth c Q D cl A nL kc ks pc lv (.ref a :: st) ws := by
  intro H locs ls hP hD hS hL
  have hts := C.2.2.2.2.1
  refine W.objInit C.1 C.2.1 C.2.2.2.1 (hts _ h1) (hts _ h2) (hts _ h3) rfl (by rw [C.2.2.1]; exact hL.1) rfl hd hf (by show 2 * 0 + _ + 12 ≤ _; omega) ?_
  exact kk H locs ls hP hD hS hL
/-- a constructor is called on the newest cell -/
theorem k_callI (C : kC p s m args c D cl tys A nL cc own Ts) {y : MethodName} {b : ByteArray} {n nargs idx a mc ms : Nat} {rm : Room} {As : List Value} {Y : State → Prop} {e0 : va_E} {F : (Nat → Nat) → va_W} (hY : Y s) (hYm : gYm Y)
    (hM : MK l y b n rm D cl tys Ts Y (.ref a :: As) [(a, e0)] mc ms F)
    (hl : Cond.methodLink own idx y ∈ Ts) (hG : GoodIn Ts (Cond.code y b n none :: Ts)) (hini : Cond.initialized y.cls ∈ Ts) (hins : Cond.instanceMethod y ∈ Ts) (hy1 : y.name = "<init>") (hy : y.cls ≠ "java/lang/invoke/MethodHandle" ∧ y.cls ≠ "java/lang/invoke/VarHandle" ∧ (parseMethodDescriptor y.desc).map (fun d => d.parameters.length) = some nargs) (hrm : rm.cells = mc ∧ rm.slots = ms)
    (hd : decode cc pc = .ok (.invokespecial idx, 3)) (hR : rm.frames + 1 ≤ R.frames ∧ 8 + (n + 11) + rm.locals ≤ R.locals) (hn : As.length = nargs) (hst : st0 = As.reverse ++ .ref a :: st) (hcat : (st.map fun v => v.category).sum ≤ 8) (hr : kc + mc ≤ R.cells ∧ ks + ms ≤ R.slots) (kk : ∀ u : Nat → Nat, gK p l e R s m args below meth c Q D cl A nL (kc + mc) (ks + ms) (pc + 3) lv st (wr ++ F u)) : gK p l e R s m args below meth c Q D cl A nL kc ks pc lv st0 (wr ++ [(a, e0)]) := by
  subst hst
  intro H locs ls hP hD hS hL
  have hK := C.2.2.2.2.2.1
  have hts := C.2.2.2.2.1
  have hPc : va_P D cl [(a, e0)] H := fun k q h => hP (wr.length + k) q (by rw [List.getElem?_append_right (by omega), show wr.length + k - wr.length = k from by omega]; exact h)
  have hDc : va_D (fun _ => True) [(a, e0)] := ⟨fun i j x z hx hz _ => by
    have h1 := (List.getElem?_eq_some_iff.mp hx).1
    have h2 := (List.getElem?_eq_some_iff.mp hz).1
    simp at h1 h2
    omega, fun _ _ _ => trivial⟩
  have hFc : ∀ q, va_A [(a, e0)] H.size q → A q := by
    intro q h
    rcases h with ⟨k, x, h⟩ | h
    · exact hD.2 (wr.length + k) (q, x) (by rw [List.getElem?_append_right (by omega), show wr.length + k - wr.length = k from by omega]; exact h)
    · exact C.2.2.2.2.2.2 q (Nat.le_trans hS.1 h)
  refine va_callv (va_runI (As := As) (rest := st) ⟨C.1, C.2.1, C.2.2.1, C.2.2.2.1, hts⟩ (hM H.size) (cwI nargs hts hG rfl hrm.1 hrm.2 (hts _ hini) (hts _ hl) (hts _ hins) hy1 hy hR) ⟨kPre_blind, fun U hU hW => ⟨rfl, by rw [hU], by rw [hU]; exact hPc, va_K.moved hW.alike hK, hDc, hYm.1 _ _ hY hW, hYm⟩⟩ rfl hn hL.1 rfl (lv_room hcat) hd hr) hS (fun q _ h => hFc q h) hFc (fun u t H1 locs1 ht hvm _ hB hz hk hS1 => ?_)
  obtain ⟨hP1, -, hD1⟩ := hB
  rw [ht] at hP1
  obtain ⟨hP2, hD2⟩ := k_join hP hD hk hFc hP1 hD1
  exact kk u H1 locs1 ls hP2 hD2 hS1 hL
theorem k_callIN (C : kC p s m args c D cl tys A nL cc own Ts) {y : MethodName} {host : String} {b : ByteArray} {n nargs idx a mc ms : Nat} {rm : Room} {As : List Value} {Y : State → Prop} {e0 : va_E} {F : (Nat → Nat) → va_W} (hY : Y s) (hYm : gYm Y)
    (hM : MK l y b n rm D cl tys Ts Y (.ref a :: As) [(a, e0)] mc ms F)
    (hl : ∀ u : State, Y u → va_Nw (.methodLinkNest own idx y host) u) (hG : GoodIn Ts (Cond.code y b n none :: Ts)) (hini : Cond.initialized y.cls ∈ Ts) (hins : Cond.instanceMethod y ∈ Ts) (hy1 : y.name = "<init>") (hy : y.cls ≠ "java/lang/invoke/MethodHandle" ∧ y.cls ≠ "java/lang/invoke/VarHandle" ∧ (parseMethodDescriptor y.desc).map (fun d => d.parameters.length) = some nargs) (hrm : rm.cells = mc ∧ rm.slots = ms)
    (hd : decode cc pc = .ok (.invokespecial idx, 3)) (hR : rm.frames + 1 ≤ R.frames ∧ 8 + (n + 11) + rm.locals ≤ R.locals) (hn : As.length = nargs) (hst : st0 = As.reverse ++ .ref a :: st) (hcat : (st.map fun v => v.category).sum ≤ 8) (hr : kc + mc ≤ R.cells ∧ ks + ms ≤ R.slots) (kk : ∀ u : Nat → Nat, gK p l e R s m args below meth c Q D cl A nL (kc + mc) (ks + ms) (pc + 3) lv st (wr ++ F u)) : gK p l e R s m args below meth c Q D cl A nL kc ks pc lv st0 (wr ++ [(a, e0)]) := by
  subst hst
  intro H locs ls hP hD hS hL
  have hK := C.2.2.2.2.2.1
  have hts := C.2.2.2.2.1
  have hPc : va_P D cl [(a, e0)] H := fun k q h => hP (wr.length + k) q (by rw [List.getElem?_append_right (by omega), show wr.length + k - wr.length = k from by omega]; exact h)
  have hDc : va_D (fun _ => True) [(a, e0)] := ⟨fun i j x z hx hz _ => by
    have h1 := (List.getElem?_eq_some_iff.mp hx).1
    have h2 := (List.getElem?_eq_some_iff.mp hz).1
    simp at h1 h2
    omega, fun _ _ _ => trivial⟩
  have hFc : ∀ q, va_A [(a, e0)] H.size q → A q := by
    intro q h
    rcases h with ⟨k, x, h⟩ | h
    · exact hD.2 (wr.length + k) (q, x) (by rw [List.getElem?_append_right (by omega), show wr.length + k - wr.length = k from by omega]; exact h)
    · exact C.2.2.2.2.2.2 q (Nat.le_trans hS.1 h)
  refine va_callv (va_runIN (As := As) (rest := st) ⟨C.1, C.2.1, C.2.2.1, C.2.2.2.1, hts⟩ (hM H.size) ⟨va_cnB nargs hts hG rfl hrm.1 hrm.2 (hl _ hY) (hts _ hini) hy hR, hy1, hts _ hins⟩ ⟨kPre_blind, fun U hU hW => ⟨rfl, by rw [hU], by rw [hU]; exact hPc, va_K.moved hW.alike hK, hDc, hYm.1 _ _ hY hW, hYm⟩⟩ rfl hn hL.1 rfl (lv_room hcat) hd hr) hS (fun q _ h => hFc q h) hFc (fun u t H1 locs1 ht hvm _ hB hz hk hS1 => ?_)
  obtain ⟨hP1, -, hD1⟩ := hB
  rw [ht] at hP1
  obtain ⟨hP2, hD2⟩ := k_join hP hD hk hFc hP1 hD1
  exact kk u H1 locs1 ls hP2 hD2 hS1 hL
end KA
section KI
variable {l : Launch} {y : MethodName} {b : ByteArray} {n : Nat} {rm : Room} {D : va_G} {cl : List vw_C} {tys : List (ClassId × FieldType)} {Ts : List Cond} {Y : State → Prop} {vs : List Value} {ws0 : va_W} {F : (Nat → Nat) → va_W} {mc ms : Nat}
theorem mk_intro (hy : plainName y.cls = true) (hname : y.name = "<init>") (hfit : (lg_sl vs).length ≤ n) (hrm : rm.cells = mc ∧ rm.slots = ms)
    (body : ∀ (p : Program) (e : Env) (s : State) (m : MethodId) (args : Array Value) (below : List Frame) (meth : Method) (c : Code) (A : Nat → Prop) (Q : State → Prop), kC p s m args c D cl tys A n b y.cls Ts → meth.name = "<init>" → Y s → gYm Y →
      (∀ (pc : Nat) (lv : List (Nat × Value)) (u : Nat → Nat), decode b pc = .ok (.return_, 1) → gK p l e rm s m args below meth c Q D cl A n mc ms pc lv [] (F u)) →
      gK p l e rm s m args below meth c Q D cl A n 0 0 0 (lv_args 0 vs) [] ws0) : MK l y b n rm D cl tys Ts Y vs ws0 mc ms F := by
  intro sz
  refine Met.ofW (cc := b) (maxL := n) (ret := none) hy rfl ?_
  intro p e s m args below meth c s₁ B hml hv
  obtain ⟨rfl, hsz, hP, hK, hD0, hY, hYm⟩ := hv
  have hts := atoms_spec (ws := Cond.code y b n none :: Ts) B.pre
  subst hsz
  have hD := hD0.self (sz := s.heap.size)
  have C : kC p s m vs.toArray c D cl tys (va_A ws0 s.heap.size) n b y.cls Ts :=
    ⟨B.exec, B.bytes, hml, findClass_of_methodNamed B.named, fun w hw => hts w (List.mem_cons_of_mem _ hw), hK, fun q h => Or.inr h⟩
  have hl := lv_entry vs (n := n) hfit
  rw [lg_entry_eq]
  refine body p e s m vs.toArray below meth c (va_A ws0 s.heap.size) _ C ((name_of_methodNamed B.named B.method).1.trans hname) hY hYm ?_ s.heap [] _ hP hD va_S.rf hl
  intro pc lv u hd H locs ls hP' hD' hS' hl'
  have hlocks := B.notSynchronized
  exact W.vret B.exec B.bytes B.returns (fun t ht hW => ⟨⟨u, rfl, trivial, by rw [ht]; exact hP', va_K.moved hW.alike hK, hD'⟩, hS'.F ht⟩) hS'.2.2 hd
end KI
