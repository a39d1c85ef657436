-- the law's machine: two worlds side by side, the script, calls of the one's and the other's methods
theorem va_P_left {D : va_G} {cl : List vw_C} {w1 w2 : va_W} {H : Heap} (h : va_P D cl (w1 ++ w2) H) : va_P D cl w1 H := fun k q hk => h k q (by rw [List.getElem?_append_left (List.getElem?_eq_some_iff.mp hk).1]; exact hk)
theorem va_P_right {D : va_G} {cl : List vw_C} {w1 w2 : va_W} {H : Heap} (h : va_P D cl (w1 ++ w2) H) : va_P D cl w2 H := fun k q hk => h (w1.length + k) q (by rw [List.getElem?_append_right (by omega), show w1.length + k - w1.length = k from by omega]; exact hk)
theorem va_P_swap {D : va_G} {cl : List vw_C} {w1 w2 : va_W} {H : Heap} (h : va_P D cl (w1 ++ w2) H) : va_P D cl (w2 ++ w1) H := (va_P_right h).app (va_P_left h)
theorem va_D_left {A : Nat → Prop} {w1 w2 : va_W} (h : va_D A (w1 ++ w2)) : va_D A w1 := by
  have gl : ∀ (k : Nat) (q : Nat × va_E), w1[k]? = some q → (w1 ++ w2)[k]? = some q := fun k q hk => by
    rw [List.getElem?_append_left (List.getElem?_eq_some_iff.mp hk).1]; exact hk
  exact ⟨fun i j x y hi hj hxy => h.1 i j x y (gl i x hi) (gl j y hj) hxy, fun k q hk => h.2 k q (gl k q hk)⟩
theorem va_D_right {A : Nat → Prop} {w1 w2 : va_W} (h : va_D A (w1 ++ w2)) : va_D A w2 := by
  have gl : ∀ (k : Nat) (q : Nat × va_E), w2[k]? = some q → (w1 ++ w2)[w1.length + k]? = some q := fun k q hk => by
    rw [List.getElem?_append_right (by omega), show w1.length + k - w1.length = k from by omega]; exact hk
  exact ⟨fun i j x y hi hj hxy => by have := h.1 _ _ x y (gl i x hi) (gl j y hj) hxy; omega, fun k q hk => h.2 _ q (gl k q hk)⟩
theorem va_D_swap {A : Nat → Prop} {w1 w2 : va_W} (h : va_D A (w1 ++ w2)) : va_D A (w2 ++ w1) := by
  refine (va_D_right h).app (va_D_left h) (fun i j x y hx hy hxy => ?_)
  have hx' : (w1 ++ w2)[w1.length + i]? = some x := by
    rw [List.getElem?_append_right (by omega), show w1.length + i - w1.length = i from by omega]; exact hx
  have hl := (List.getElem?_eq_some_iff.mp hy).1
  have hy' : (w1 ++ w2)[j]? = some y := by rw [List.getElem?_append_left hl]; exact hy
  have := h.1 _ _ x y hx' hy' hxy
  omega
theorem gV_goodL {T0 Ts : List Cond} (hsub : ∀ w ∈ T0, w ∈ Ts) (hT : ∀ w ∈ T0, goodWord w = true) {own : String} {idx : Nat} {y : MethodName} {b : ByteArray} {n : Nat} {rt : Option FieldType} (h1 : Cond.methodLink own idx y ∈ Ts) (h2 : Cond.instanceMethod y ∈ Ts) (h3 : Cond.selects y.cls y y ∈ Ts) (h4 : Cond.initialized y.cls ∈ Ts) (h5 : Cond.code y b n rt ∈ Ts) (hg : (goodWord (Cond.methodLink own idx y) && goodWord (Cond.instanceMethod y) && goodWord (Cond.selects y.cls y y) && goodWord (Cond.initialized y.cls) && goodWord (Cond.code y b n rt)) = true) : GoodIn Ts (wsV own idx y.cls y (Cond.code y b n rt :: T0)) := by
  simp only [Bool.and_eq_true] at hg
  obtain ⟨⟨⟨⟨g1, g2⟩, g3⟩, g4⟩, g5⟩ := hg
  intro w hw
  simp only [wsV, List.cons_append, List.nil_append, List.mem_cons] at hw
  rcases hw with rfl | rfl | rfl | rfl | rfl | h
  · exact ⟨h1, good_of_word g1⟩
  · exact ⟨h2, good_of_word g2⟩
  · exact ⟨h3, good_of_word g3⟩
  · exact ⟨h4, good_of_word g4⟩
  · exact ⟨h5, good_of_word g5⟩
  · exact ⟨hsub w h, good_of_word (hT w h)⟩
section LM
variable {p : Program} {l : Launch} {e : Env} {R : Room} {s : State} {m : MethodId} {args : Array Value} {below : List Frame} {meth : Method} {c : Code} {Q : State → Prop}
variable {D : va_G} {cl : List vw_C} {tys : List (ClassId × FieldType)} {A : Nat → Prop} {nL kc ks : Nat} {cc : ByteArray} {own : String} {Ts : List Cond}
variable {pc : Nat} {lv lv' : List (Nat × Value)} {st st0 : List Value} {ws ws' wr w1 w2 : va_W}
theorem k_swap (k : gK p l e R s m args below meth c Q D cl A nL kc ks pc lv st (w2 ++ w1)) : gK p l e R s m args below meth c Q D cl A nL kc ks pc lv st (w1 ++ w2) :=
  fun H locs ls hP hD hS hl => k H locs ls (va_P_swap hP) (va_D_swap hD) hS hl
/-- a call of an instance method that lives in the second world -/
theorem k_callW (C : kC p s m args c D cl tys A nL cc own Ts) {y : MethodName} {b : ByteArray} {n nargs idx a ci : Nat} {rt : FieldType} {rm : Room} {As : List Value} {T0 : List Cond} {Z : (Nat → Prop) → State → Prop} {ad : Nat → Nat} {cI cS : ClassId} {lay : Nat → gLC} {N : Nat} {M : gSt} {k1 : Int → gSt → Prop} {fl : List Value} {vc : vw_C} {tys0 : List (ClassId × FieldType)}
    (hZ : Z A s) (hZm : gZm Z) (hty : va_K D cl tys s → va_K D cl tys0 s)
    (hM : MOi l y b n rt rm D cl tys0 (wld ad cI cS lay N) T0 Z (.ref a :: As) M k1)
    (he : (wld ad cI cS lay N M)[0]? = some (a, .inr (ci, fl))) (hc : cl[ci]? = some vc) (hvc : vc.1 = y.cls)
    (hG : GoodIn Ts (wsV own idx y.cls y (Cond.code y b n (some rt) :: T0))) (hy : y.cls ≠ "java/lang/invoke/MethodHandle" ∧ y.cls ≠ "java/lang/invoke/VarHandle" ∧ (parseMethodDescriptor y.desc).map (fun d => d.parameters.length) = some nargs) (hrm : rm.cells = 0 ∧ rm.slots = 0)
    (hd : decode cc pc = .ok (.invokevirtual idx, 3)) (hR : rm.frames + 1 ≤ R.frames ∧ 8 + (n + 11) + rm.locals ≤ R.locals) (hn : As.length = nargs) (hst : st0 = As.reverse ++ .ref a :: st) (hcat : (st.map fun v => v.category).sum ≤ 8) (hr : kc ≤ R.cells ∧ ks ≤ R.slots) (kk : ∀ (r : Int) (M' : gSt), k1 r M' → gK p l e R s m args below meth c Q D cl A nL kc ks (pc + 3) lv (iv r :: st) (wr ++ wld ad cI cS lay N M')) : gK p l e R s m args below meth c Q D cl A nL kc ks pc lv st0 (wr ++ wld ad cI cS lay N M) := by
  subst hst
  intro H locs ls hP hD hS hL
  have hK := C.2.2.2.2.2.1
  have hts := C.2.2.2.2.1
  have hPc := va_P_right hP
  have hDc := va_D_right hD
  have hFc : ∀ q, va_A (wld ad cI cS lay N M) H.size q → A q := by
    intro q h
    rcases h with ⟨k, x, h⟩ | h
    · exact hDc.2 k _ h
    · exact C.2.2.2.2.2.2 q (Nat.le_trans hS.1 h)
  refine va_calli (va_runV (C := y.cls) (As := As) (rest := st) ⟨C.1, C.2.1, C.2.2.1, C.2.2.2.1, hts⟩ (hM H.size) (cwV nargs hts hG rfl hrm.1 hrm.2 ⟨rfl, hy⟩ hR) ⟨gPre_blind, by have h := va_recv hK hPc (ci := ci) (q0 := 0) hc he; rw [hvc] at h; exact h, fun U hU hW => ⟨rfl, by rw [hU], by rw [hU]; exact hPc, va_K.moved hW.alike (hty hK), hDc.weaken (fun _ _ _ _ => trivial), hZm.1 _ _ _ U locs hZ (by rw [hU]; exact hS) hW (fun q h => hFc q h), hZm⟩⟩ rfl hn hL.1 rfl (lv_room hcat) hd ⟨by omega, by omega⟩) hS (fun q _ h => hFc q h) hFc (fun r u t H1 locs1 ht hvm hw hB hz hk hS1 => ?_)
  obtain ⟨rfl, hw2⟩ := hw
  obtain ⟨hP1, -, hD1⟩ := hB
  rw [ht] at hP1
  obtain ⟨hP2, hD2⟩ := k_join hP hD hk hFc hP1 hD1
  exact kk _ _ hw2 H1 locs1 ls hP2 hD2 hS1 hL
/-- the script's number at a place -/
theorem k_sld (C : kC p s m args c D cl tys A nL cc own Ts) {b L : Nat} {xs : Nat → Int32} (hX : va_X b L xs s s.heap) (hbl : b < s.heap.size) (hbA : ¬ A b) (hL : L < 2147483648) {i : Int} {j : Nat} (hi : i = (j : Int)) (hj : j < L) (hd : decode cc pc = .ok (.iaload, 1)) (kk : gK p l e R s m args below meth c Q D cl A nL kc ks (pc + 1) lv (iv (xs j).toInt :: st) ws) : gK p l e R s m args below meth c Q D cl A nL kc ks pc lv (iv i :: .ref b :: st) ws := by
  intro H locs ls hP hD hS hl
  refine va_sld C.1 C.2.1 hX hbl hbA hS (ofInt_in (by omega) (by omega) hL) hd ?_
  have h := kk H locs ls hP hD hS hl
  rw [ofInt_clamp (by omega) (by omega), hi]
  unfold iv at h
  rw [Int32.ofInt_toInt] at h
  exact h
theorem k_slen (C : kC p s m args c D cl tys A nL cc own Ts) {b L : Nat} {xs : Nat → Int32} (hX : va_X b L xs s s.heap) (hbl : b < s.heap.size) (hbA : ¬ A b) (hd : decode cc pc = .ok (.arraylength, 1)) (kk : gK p l e R s m args below meth c Q D cl A nL kc ks (pc + 1) lv (iv L :: st) ws) : gK p l e R s m args below meth c Q D cl A nL kc ks pc lv (.ref b :: st) ws := by
  intro H locs ls hP hD hS hl
  refine va_slen C.1 C.2.1 hX hbl hbA hS hd ?_
  have h := kk H locs ls hP hD hS hl
  unfold iv at h
  rw [Int32.ofInt_eq_ofNat] at h
  exact h
end LM
/-- an equation of the premises, as a value -/
theorem eq_eval {args : Array Value} {s : State} {t : Term} {z : Int32} (h : (Cond.eq t (.int z)).before args s = true) : t.eval args s none [] s = some (.int z) := by
  cases hv : t.eval args s none [] s with
  | none => simp [Cond.before, Cond.holds, Cond.value, hv] at h
  | some w =>
    have hz : (Term.int z).eval args s none [] s = some (.int z) := rfl
    simp only [Cond.before, Cond.holds, Cond.value, hv, hz] at h
    cases w <;> simp_all
theorem in_of_ix {l T : List Cond} {ix : List Nat} (h : ((l.zip ix).all fun q => decide (T[q.2]? = some q.1)) = true) (hn : l.length ≤ ix.length) : ∀ w ∈ l, w ∈ T := by
  intro w hw
  obtain ⟨k, hk⟩ := List.getElem?_of_mem hw
  have hkl : k < l.length := (List.getElem?_eq_some_iff.mp hk).1
  have hz : (l.zip ix)[k]? = some (w, ix[k]'(by omega)) := by
    rw [List.getElem?_zip_eq_some]
    exact ⟨hk, List.getElem?_eq_getElem (by omega)⟩
  have h2 := List.all_eq_true.mp h _ (List.mem_of_getElem? hz)
  exact List.mem_of_getElem? (of_decide_eq_true h2)
theorem goodL {T0 Ts : List Cond} (hsub : ∀ w ∈ T0, w ∈ Ts) (hT : ∀ w ∈ T0, goodWord w = true) {w0 : Cond} (h0 : w0 ∈ Ts) (hg : goodWord w0 = true) : GoodIn Ts (w0 :: T0) := by
  intro w hw
  rcases List.mem_cons.mp hw with rfl | h
  · exact ⟨h0, good_of_word hg⟩
  · exact ⟨hsub w h, good_of_word (hT w h)⟩
section LM2
variable {p : Program} {l : Launch} {e : Env} {R : Room} {s : State} {m : MethodId} {args : Array Value} {below : List Frame} {meth : Method} {c : Code} {Q : State → Prop}
variable {D : va_G} {cl : List vw_C} {tys : List (ClassId × FieldType)} {A : Nat → Prop} {nL kc ks : Nat} {cc : ByteArray} {own : String} {Ts : List Cond}
variable {pc : Nat} {lv lv' : List (Nat × Value)} {st st0 : List Value} {ws ws' wr w1 w2 : va_W}
theorem k_callIL (C : kC p s m args c D cl tys A nL cc own Ts) {y : MethodName} {b : ByteArray} {n nargs idx a mc ms : Nat} {rm : Room} {As : List Value} {Y : State → Prop} {e0 : va_E} {F : (Nat → Nat) → va_W} {T0 : List Cond} {tys0 : List (ClassId × FieldType)} (hY : Y s) (hYm : gYm Y) (hty : va_K D cl tys s → va_K D cl tys0 s)
    (hM : MK l y b n rm D cl tys0 T0 Y (.ref a :: As) [(a, e0)] mc ms F)
    (hl : Cond.methodLink own idx y ∈ Ts) (hG : GoodIn Ts (Cond.code y b n none :: T0)) (hini : Cond.initialized y.cls ∈ Ts) (hins : Cond.instanceMethod y ∈ Ts) (hy1 : y.name = "<init>") (hy : y.cls ≠ "java/lang/invoke/MethodHandle" ∧ y.cls ≠ "java/lang/invoke/VarHandle" ∧ (parseMethodDescriptor y.desc).map (fun d => d.parameters.length) = some nargs) (hrm : rm.cells = mc ∧ rm.slots = ms)
    (hd : decode cc pc = .ok (.invokespecial idx, 3)) (hR : rm.frames + 1 ≤ R.frames ∧ 8 + (n + 11) + rm.locals ≤ R.locals) (hn : As.length = nargs) (hst : st0 = As.reverse ++ .ref a :: st) (hcat : (st.map fun v => v.category).sum ≤ 8) (hr : kc + mc ≤ R.cells ∧ ks + ms ≤ R.slots) (kk : ∀ u : Nat → Nat, gK p l e R s m args below meth c Q D cl A nL (kc + mc) (ks + ms) (pc + 3) lv st (wr ++ F u)) : gK p l e R s m args below meth c Q D cl A nL kc ks pc lv st0 (wr ++ [(a, e0)]) := by
  subst hst
  intro H locs ls hP hD hS hL
  have hK := C.2.2.2.2.2.1
  have hts := C.2.2.2.2.1
  have hPc : va_P D cl [(a, e0)] H := va_P_right hP
  have hDc : va_D (fun _ => True) [(a, e0)] := (va_D_right hD).weaken (fun _ _ _ _ => trivial)
  have hFc : ∀ q, va_A [(a, e0)] H.size q → A q := by
    intro q h
    rcases h with ⟨k, x, h⟩ | h
    · exact (va_D_right hD).2 k (q, x) h
    · exact C.2.2.2.2.2.2 q (Nat.le_trans hS.1 h)
  refine va_callv (va_runI (As := As) (rest := st) ⟨C.1, C.2.1, C.2.2.1, C.2.2.2.1, hts⟩ (hM H.size) (cwI nargs hts hG rfl hrm.1 hrm.2 (hts _ hini) (hts _ hl) (hts _ hins) hy1 hy hR) ⟨kPre_blind, fun U hU hW => ⟨rfl, by rw [hU], by rw [hU]; exact hPc, va_K.moved hW.alike (hty hK), hDc, hYm.1 _ _ hY hW, hYm⟩⟩ rfl hn hL.1 rfl (lv_room hcat) hd hr) hS (fun q _ h => hFc q h) hFc (fun u t H1 locs1 ht hvm _ hB hz hk hS1 => ?_)
  obtain ⟨hP1, -, hD1⟩ := hB
  rw [ht] at hP1
  obtain ⟨hP2, hD2⟩ := k_join hP hD hk hFc hP1 hD1
  exact kk u H1 locs1 ls hP2 hD2 hS1 hL
end LM2
