-- rows that read and write the memory, calls, and a method's contract
theorem lc_arr {ad : Nat → Nat} {cI cS : ClassId} {lay : Nat → gLC} {N : Nat} {M : gSt} {o n : Nat} (hN : o < N) (hl : lay o = .inl n) : (wld ad cI cS lay N M)[o]? = some (ad o, .inl (cI, n, .inl (fun i => Int32.ofInt (M o (i : Int))))) := by
  rw [wld_get M hN, hl]; rfl
theorem lc_obj {ad : Nat → Nat} {cI cS : ClassId} {lay : Nat → gLC} {N : Nat} {M : gSt} {o ci : Nat} {fl : List (Option Nat)} (hN : o < N) (hl : lay o = .inr (.inl (ci, fl))) : (wld ad cI cS lay N M)[o]? = some (ad o, .inr (ci, mkf ad M o 0 fl)) := by
  rw [wld_get M hN, hl]; rfl
theorem mkf_len {ad : Nat → Nat} {M : gSt} {o : Nat} : ∀ (fl : List (Option Nat)) (j : Nat), (mkf ad M o j fl).length = fl.length
  | [], _ => rfl
  | none :: fl, j => by simp [mkf, mkf_len fl]
  | some d :: fl, j => by simp [mkf, mkf_len fl]
theorem mkf_set {ad : Nat → Nat} {M : gSt} {o : Nat} {x : Int} : ∀ (fl : List (Option Nat)) (j k : Nat), fl[k]? = some none → (mkf ad M o j fl).set k (iv x) = mkf ad (wr M o ((j + k : Nat) : Int) x) o j fl
  | [], _, _, h => by simp at h
  | none :: fl, j, 0, _ => by
    simp only [mkf, List.set_cons_zero]
    congr 1
    · simp [wr]
    · have aux : ∀ (fl : List (Option Nat)) (j' : Nat), j < j' → mkf ad M o j' fl = mkf ad (wr M o ((j + 0 : Nat) : Int) x) o j' fl := by
        intro fl
        induction fl with
        | nil => intro j' _; rfl
        | cons a t ih =>
          intro j' hj
          cases a with
          | none =>
            simp only [mkf]
            rw [ih (j' + 1) (by omega)]
            have hne : ¬ ((j' : Int) = ((j + 0 : Nat) : Int)) := by omega
            simp only [wr, hne, and_false, if_false]
          | some d =>
            simp only [mkf]
            rw [ih (j' + 1) (by omega)]
      exact aux fl (j + 1) (by omega)
  | some d :: fl, j, 0, h => by simp at h
  | none :: fl, j, k + 1, h => by
    simp only [mkf, List.set_cons_succ]
    have h' : fl[k]? = some none := by simpa using h
    rw [mkf_set fl (j + 1) k h', show j + 1 + k = j + (k + 1) from by omega]
    congr 1
    have hne : ¬ ((j : Int) = ((j + (k + 1) : Nat) : Int)) := by omega
    simp only [wr, hne, and_false, if_false]
  | some d :: fl, j, k + 1, h => by
    simp only [mkf, List.set_cons_succ]
    have h' : fl[k]? = some none := by simpa using h
    rw [mkf_set fl (j + 1) k h', show j + 1 + k = j + (k + 1) from by omega]
theorem gm_arr_set {M : gSt} {o : Nat} {i x : Int} (h0 : 0 ≤ i) : upd (fun k : Nat => Int32.ofInt (M o (k : Int))) i.toNat (Int32.ofInt x) = fun k : Nat => Int32.ofInt (wr M o i x o (k : Int)) := by
  funext k
  unfold upd wr
  by_cases hk : k = i.toNat
  · have h2 : (k : Int) = i := by omega
    rw [if_pos hk, if_pos ⟨rfl, h2⟩]
  · have h2 : ¬ (k : Int) = i := by omega
    rw [if_neg hk, if_neg (fun h => h2 h.2)]
section GMM
variable {p : Program} {l : Launch} {e : Env} {R : Room} {s : State} {m : MethodId} {args : Array Value} {below : List Frame} {meth : Method} {c : Code} {Q : State → Prop}
variable {D : va_G} {cl : List vw_C} {tys : List (ClassId × FieldType)} {A : Nat → Prop} {nL : Nat} {cc : ByteArray} {own : String} {Ts : List Cond} {Z : (Nat → Prop) → State → Prop}
variable {pc : Nat} {lv lv' : List (Nat × Value)} {st : List Value} {M : gSt}
variable {ad : Nat → Nat} {cI cS : ClassId} {lay : Nat → gLC} {N : Nat}
theorem g_iald (C : gC p R s m args c D cl ((cI, .int) :: tys) A (wld ad cI cS lay N) nL cc own Ts Z) {o n : Nat} {i : Int} (hd : decode cc pc = .ok (.iaload, 1)) (hl : lay o = .inl n) (hi : o < N ∧ n < 2147483648) (h0 : 0 ≤ i ∧ i < n) (kk : gG p l e R s m args below meth c Q D cl A (wld ad cI cS lay N) nL (pc + 1) lv (iv (M o i) :: st) M) : gG p l e R s m args below meth c Q D cl A (wld ad cI cS lay N) nL pc lv (iv i :: .ref (ad o) :: st) M := by
  intro H locs ls hP hS hL
  refine va_iald C.1 C.2.1 C.2.2.2.2.2.1 hP o 0 (lc_arr hi.1 hl) rfl (ofInt_in h0.1 h0.2 hi.2) hd ?_
  have h := kk H locs ls hP hS hL
  rw [ofInt_clamp h0.1 (by omega), Int.toNat_of_nonneg h0.1]
  exact h
theorem g_iast (C : gC p R s m args c D cl ((cI, .int) :: tys) A (wld ad cI cS lay N) nL cc own Ts Z) {o n : Nat} {i x : Int} (hd : decode cc pc = .ok (.iastore, 1)) (hl : lay o = .inl n) (hi : o < N ∧ n < 2147483648) (h0 : 0 ≤ i ∧ i < n) (kk : gG p l e R s m args below meth c Q D cl A (wld ad cI cS lay N) nL (pc + 1) lv st (wr M o i x)) : gG p l e R s m args below meth c Q D cl A (wld ad cI cS lay N) nL pc lv (iv x :: iv i :: .ref (ad o) :: st) M := by
  intro H locs ls hP hS hL
  refine va_iast C.1 C.2.1 C.2.2.2.2.2.1 hP (C.2.2.2.2.2.2.1 M) hS o 0 (lc_arr hi.1 hl) rfl (ofInt_in h0.1 h0.2 hi.2) hd (fun H1 locs1 hP1 _ hS1 => ?_)
  rw [ofInt_clamp h0.1 (by omega)] at hP1
  rw [wld_set (M := M) (o := o) (i := i) (x := x) (by rw [hl]; simp only [mkc]; rw [← gm_arr_set h0.1])] at hP1
  exact kk H1 locs1 ls hP1 hS1 hL
theorem g_alen (C : gC p R s m args c D cl ((cI, .int) :: tys) A (wld ad cI cS lay N) nL cc own Ts Z) {o n : Nat} (hd : decode cc pc = .ok (.arraylength, 1)) (hl : lay o = .inl n) (hi : o < N) (kk : gG p l e R s m args below meth c Q D cl A (wld ad cI cS lay N) nL (pc + 1) lv (iv n :: st) M) : gG p l e R s m args below meth c Q D cl A (wld ad cI cS lay N) nL pc lv (.ref (ad o) :: st) M := by
  intro H locs ls hP hS hL
  exact va_alen C.1 C.2.1 C.2.2.2.2.2.1 hP o 0 (lc_arr hi hl) rfl (v := Int32.ofInt n) (by rw [Int32.ofInt_eq_ofNat]) hd (kk H locs ls hP hS hL)
theorem g_getf (C : gC p R s m args c D cl tys A (wld ad cI cS lay N) nL cc own Ts Z) {o ci k idx NF : Nat} {fl : List (Option Nat)} {v : Value} {Cn ref : String} {T : u_T} (hl : lay o = .inr (.inl (ci, fl))) (hi : o < N) (hc : cl[ci]? = some (Cn, T, NF)) (hk : k < NF) (hin : ∀ w ∈ u_ws Cn T NF, w ∈ Ts) (hw : Cond.fieldLink own idx ref (T k).2.1 (T k).2.2.1 ∈ Ts) (hsame : (T k).1 = ref) (hd : decode cc pc = .ok (.getfield idx, 3)) (hv : (mkf ad M o 0 fl)[k]? = some v) (kk : gG p l e R s m args below meth c Q D cl A (wld ad cI cS lay N) nL (pc + 3) lv (v :: st) M) : gG p l e R s m args below meth c Q D cl A (wld ad cI cS lay N) nL pc lv (.ref (ad o) :: st) M := by
  intro H locs ls hP hS hL
  exact va_get C.1 C.2.1 C.2.2.2.2.1 hin C.2.2.2.1 C.2.2.2.2.2.1 hP o (lc_obj hi hl) hc k hk (C.2.2.2.2.1 _ hw) (fun x h => by rw [hsame] at h; exact h) hv hd (kk H locs ls hP hS hL)
theorem g_putf (C : gC p R s m args c D cl tys A (wld ad cI cS lay N) nL cc own Ts Z) {o ci k idx NF : Nat} {fl : List (Option Nat)} {x : Int} {Cn ref : String} {T : u_T} {ty : FieldType} (hl : lay o = .inr (.inl (ci, fl))) (hi : o < N) (hc : cl[ci]? = some (Cn, T, NF)) (hk : k < NF) (hin : ∀ w ∈ u_ws Cn T NF, w ∈ Ts) (ty0 : Nat → FieldType) (hty : ∀ k, k < NF → parseFieldDescriptor (T k).2.2.1 = some (ty0 k)) (hnm : ∀ a, a < NF → ∀ b, b < NF → a ≠ b → (T a).2.1 ≠ (T b).2.1) (hw : Cond.fieldLink own idx ref (T k).2.1 (T k).2.2.1 ∈ Ts) (hsame : (T k).1 = ref) (hfin : (T k).2.2.2 = false) (hdt : parseFieldDescriptor (T k).2.2.1 = some ty) (hfk : fl[k]? = some none) (hd : decode cc pc = .ok (.putfield idx, 3)) (hn : narrow ty (iv x) = iv x ∧ fits ty (iv x) = true) (kk : gG p l e R s m args below meth c Q D cl A (wld ad cI cS lay N) nL (pc + 3) lv st (wr M o k x)) : gG p l e R s m args below meth c Q D cl A (wld ad cI cS lay N) nL pc lv (iv x :: .ref (ad o) :: st) M := by
  intro H locs ls hP hS hL
  have hlen : k < (mkf ad M o 0 fl).length := by rw [mkf_len]; exact (List.getElem?_eq_some_iff.mp hfk).1
  refine va_put C.1 C.2.1 C.2.2.2.2.1 hin ty0 hty hnm C.2.2.2.1 C.2.2.2.2.2.1 hP (C.2.2.2.2.2.2.1 M) hS o (lc_obj hi hl) hc k hk (C.2.2.2.2.1 _ hw) (fun x h => by rw [hsame] at h; exact h) hfin hdt hn.1 hn.2 hlen hd (fun H1 locs1 hP1 _ hS1 => ?_)
  rw [wld_set (M := M) (o := o) (i := (k : Int)) (x := x) (by rw [hl]; simp only [mkc]; rw [mkf_set fl 0 k hfk, Nat.zero_add])] at hP1
  exact kk H1 locs1 ls hP1 hS1 hL
end GMM
/-- what a method's cells are at its start, at its end -/
def gPre (D : va_G) (cl : List vw_C) (tys : List (ClassId × FieldType)) (wl : gSt → va_W) (Z : (Nat → Prop) → State → Prop) (sz : Nat) (M : gSt) (U : State) : Prop := U.heap.size = sz ∧ va_P D cl (wl M) U.heap ∧ va_K D cl tys U ∧ va_D (fun _ => True) (wl M) ∧ Z (va_A (wl M) sz) U ∧ gZm Z
def gPost (D : va_G) (cl : List vw_C) (tys : List (ClassId × FieldType)) (wl : gSt → va_W) (A : Nat → Prop) (M : gSt) (t : State) : Prop := va_P D cl (wl M) t.heap ∧ va_K D cl tys t ∧ va_D A (wl M)
/-- a method that answers an int (boolean), a void one: from arguments vs and memory M it comes to an answer and a memory of which k holds -/
def MOi (l : Launch) (y : MethodName) (b : ByteArray) (n : Nat) (rt : FieldType) (rm : Room) (D : va_G) (cl : List vw_C) (tys : List (ClassId × FieldType)) (wl : gSt → va_W) (Ts : List Cond) (Z : (Nat → Prop) → State → Prop) (vs : List Value) (M : gSt) (k : Int → gSt → Prop) : Prop :=
  ∀ sz : Nat, Met l y (Cond.code y b n (some rt) :: Ts) rm (va_Pc vs (gPre D cl tys wl Z sz M)) (va_Qi (fun (r : Int32) (u : Int × gSt) => r = Int32.ofInt u.1 ∧ k u.1 u.2) (fun u t => gPost D cl tys wl (va_A (wl M) sz) u.2 t) (va_A (wl M) sz)) 0 0 (va_A (wl M) sz)
def MOv (l : Launch) (y : MethodName) (b : ByteArray) (n : Nat) (rm : Room) (D : va_G) (cl : List vw_C) (tys : List (ClassId × FieldType)) (wl : gSt → va_W) (Ts : List Cond) (Z : (Nat → Prop) → State → Prop) (vs : List Value) (M : gSt) (k : gSt → Prop) : Prop :=
  ∀ sz : Nat, Met l y (Cond.code y b n none :: Ts) rm (va_Pc vs (gPre D cl tys wl Z sz M)) (va_Qv (fun (u : gSt) => k u) (fun u t => gPost D cl tys wl (va_A (wl M) sz) u t) (va_A (wl M) sz)) 0 0 (va_A (wl M) sz)
theorem gPre_blind {D : va_G} {cl : List vw_C} {tys : List (ClassId × FieldType)} {wl : gSt → va_W} {Z : (Nat → Prop) → State → Prop} {sz : Nat} {M : gSt} {vs : List Value} : FrameBlind (va_Pc vs (gPre D cl tys wl Z sz M)) := fun a U g mk q => by
  obtain ⟨q0, q1, qP, qK, qD, qZ, qm⟩ := q
  exact ⟨q0, q1, qP, va_K.moved (u := U) (U := U.calling g mk a) (Vm.Alike.refl U.vm) qK, qD, qm.2 _ _ _ _ _ qZ, qm⟩
section GI
variable {l : Launch} {y : MethodName} {b : ByteArray} {n : Nat} {rm : Room} {D : va_G} {cl : List vw_C} {tys : List (ClassId × FieldType)} {Ts : List Cond} {Z : (Nat → Prop) → State → Prop} {vs : List Value} {M : gSt}
variable {ad : Nat → Nat} {cI cS : ClassId} {lay : Nat → gLC} {N : Nat}
theorem moi_intro {rt : FieldType} {k : Int → gSt → Prop} (hy : plainName y.cls = true) (hfit : (lg_sl vs).length ≤ n) (hself : Cond.code y b n (some rt) ∈ Ts)
    (body : ∀ (p : Program) (e : Env) (s : State) (m : MethodId) (args : Array Value) (below : List Frame) (meth : Method) (c : Code) (A : Nat → Prop) (Q : State → Prop), gC p rm s m args c D cl tys A (wld ad cI cS lay N) n b y.cls Ts Z →
      (∀ (pc : Nat) (lv : List (Nat × Value)) (x : Int) (M' : gSt), decode b pc = .ok (.ireturn, 1) → narrow rt (iv x) = iv x → k x M' → gG p l e rm s m args below meth c Q D cl A (wld ad cI cS lay N) n pc lv [iv x] M') →
      gG p l e rm s m args below meth c Q D cl A (wld ad cI cS lay N) n 0 (lv_args 0 vs) [] M) : MOi l y b n rt rm D cl tys (wld ad cI cS lay N) Ts Z vs M k := by
  intro sz
  refine Met.ofW (cc := b) (maxL := n) (ret := some rt) hy rfl ?_
  intro p e s m args below meth c s₁ B hml hv
  obtain ⟨rfl, hsz, hP, hK, hD0, hZ, hZm⟩ := hv
  have hts := atoms_spec (ws := Cond.code y b n (some rt) :: Ts) B.pre
  subst hsz
  have hD := hD0.self (sz := s.heap.size)
  have C : gC p rm s m vs.toArray c D cl tys (va_A (wld ad cI cS lay N M) s.heap.size) (wld ad cI cS lay N) n b y.cls Ts Z :=
    ⟨B.exec, B.bytes, hml, findClass_of_methodNamed B.named, fun w hw => hts w (List.mem_cons_of_mem _ hw), hK, fun M' => wld_D hD, fun q h => Or.inr h, hZ, hZm⟩
  have hl := lv_entry vs (n := n) hfit
  rw [lg_entry_eq]
  refine body p e s m vs.toArray below meth c (va_A (wld ad cI cS lay N M) s.heap.size) _ C ?_ s.heap [] _ hP va_S.rf hl
  intro pc lv x M' hd hnw hk H locs ls hP' hS' hl'
  have hlocks := B.notSynchronized
  exact W.zret (v := Int32.ofInt x) B.exec B.bytes B.returns hnw (fun t ht hW => ⟨⟨Int32.ofInt x, (x, M'), rfl, ⟨rfl, hk⟩, by rw [ht]; exact hP', va_K.moved hW.alike hK, wld_D hD⟩, hS'.F ht⟩) hS'.2.2 hd
theorem mov_intro {k : gSt → Prop} (hy : plainName y.cls = true) (hfit : (lg_sl vs).length ≤ n) (hself : Cond.code y b n none ∈ Ts)
    (body : ∀ (p : Program) (e : Env) (s : State) (m : MethodId) (args : Array Value) (below : List Frame) (meth : Method) (c : Code) (A : Nat → Prop) (Q : State → Prop), gC p rm s m args c D cl tys A (wld ad cI cS lay N) n b y.cls Ts Z →
      (∀ (pc : Nat) (lv : List (Nat × Value)) (M' : gSt), decode b pc = .ok (.return_, 1) → k M' → gG p l e rm s m args below meth c Q D cl A (wld ad cI cS lay N) n pc lv [] M') →
      gG p l e rm s m args below meth c Q D cl A (wld ad cI cS lay N) n 0 (lv_args 0 vs) [] M) : MOv l y b n rm D cl tys (wld ad cI cS lay N) Ts Z vs M k := by
  intro sz
  refine Met.ofW (cc := b) (maxL := n) (ret := none) hy rfl ?_
  intro p e s m args below meth c s₁ B hml hv
  obtain ⟨rfl, hsz, hP, hK, hD0, hZ, hZm⟩ := hv
  have hts := atoms_spec (ws := Cond.code y b n none :: Ts) B.pre
  subst hsz
  have hD := hD0.self (sz := s.heap.size)
  have C : gC p rm s m vs.toArray c D cl tys (va_A (wld ad cI cS lay N M) s.heap.size) (wld ad cI cS lay N) n b y.cls Ts Z :=
    ⟨B.exec, B.bytes, hml, findClass_of_methodNamed B.named, fun w hw => hts w (List.mem_cons_of_mem _ hw), hK, fun M' => wld_D hD, fun q h => Or.inr h, hZ, hZm⟩
  have hl := lv_entry vs (n := n) hfit
  rw [lg_entry_eq]
  refine body p e s m vs.toArray below meth c (va_A (wld ad cI cS lay N M) s.heap.size) _ C ?_ s.heap [] _ hP va_S.rf hl
  intro pc lv M' hd hk H locs ls hP' hS' hl'
  have hlocks := B.notSynchronized
  exact W.vret B.exec B.bytes B.returns (fun t ht hW => ⟨⟨M', rfl, hk, by rw [ht]; exact hP', va_K.moved hW.alike hK, wld_D hD⟩, hS'.F ht⟩) hS'.2.2 hd
end GI
section GCALL
variable {p : Program} {l : Launch} {e : Env} {R : Room} {s : State} {m : MethodId} {args : Array Value} {below : List Frame} {meth : Method} {c : Code} {Q : State → Prop}
variable {D : va_G} {cl : List vw_C} {tys : List (ClassId × FieldType)} {A : Nat → Prop} {nL : Nat} {cc : ByteArray} {own : String} {Ts : List Cond} {Z : (Nat → Prop) → State → Prop}
variable {pc : Nat} {lv : List (Nat × Value)} {st st0 : List Value} {M : gSt}
variable {ad : Nat → Nat} {cI cS : ClassId} {lay : Nat → gLC} {N : Nat}
theorem wld_free (C : gC p R s m args c D cl tys A (wld ad cI cS lay N) nL cc own Ts Z) {H : Heap} {locs : List Loc} (hS : va_S A s.heap H locs) : ∀ q, va_A (wld ad cI cS lay N M) H.size q → A q := by
  intro q h
  rcases h with ⟨k, e, h⟩ | h
  · exact (C.2.2.2.2.2.2.1 M).2 k _ h
  · exact C.2.2.2.2.2.2.2.1 q (Nat.le_trans hS.1 h)
/-- a call of an instance method, and what its answer leads to -/
theorem g_callVi (C : gC p R s m args c D cl tys A (wld ad cI cS lay N) nL cc own Ts Z) {y : MethodName} {b : ByteArray} {n nargs idx o ci : Nat} {rt : FieldType} {rm : Room} {As : List Value} {k1 : Int → gSt → Prop} {fl : List (Option Nat)} {vc : vw_C}
    (hM : MOi l y b n rt rm D cl tys (wld ad cI cS lay N) Ts Z (.ref (ad o) :: As) M k1)
    (hl : lay o = .inr (.inl (ci, fl))) (hi : o < N) (hc : cl[ci]? = some vc) (hvc : vc.1 = y.cls)
    (hG : GoodIn Ts (wsV own idx y.cls y (Cond.code y b n (some rt) :: Ts))) (hy : y.cls ≠ "java/lang/invoke/MethodHandle" ∧ y.cls ≠ "java/lang/invoke/VarHandle" ∧ (parseMethodDescriptor y.desc).map (fun d => d.parameters.length) = some nargs) (hrm : rm.cells = 0 ∧ rm.slots = 0)
    (hd : decode cc pc = .ok (.invokevirtual idx, 3)) (hR : rm.frames + 1 ≤ R.frames ∧ 8 + (n + 11) + rm.locals ≤ R.locals) (hn : As.length = nargs) (hst : st0 = As.reverse ++ .ref (ad o) :: st) (hcat : (st.map fun v => v.category).sum ≤ 8) (kk : ∀ (r : Int) (M' : gSt), k1 r M' → gG p l e R s m args below meth c Q D cl A (wld ad cI cS lay N) nL (pc + 3) lv (iv r :: st) M') : gG p l e R s m args below meth c Q D cl A (wld ad cI cS lay N) nL pc lv st0 M := by
  subst hst
  intro H locs ls hP hS hL
  have hFc := wld_free (M := M) C hS
  have hK := C.2.2.2.2.2.1
  have hts := C.2.2.2.2.1
  have hown := C.2.2.2.1
  refine va_calli (va_runV (C := y.cls) (As := As) (rest := st) ⟨C.1, C.2.1, C.2.2.1, hown, hts⟩ (hM H.size) (cwV nargs hts hG rfl hrm.1 hrm.2 ⟨rfl, hy⟩ hR) ⟨gPre_blind, by have h := va_recv hK hP (ci := ci) (q0 := o) hc (lc_obj hi hl); rw [hvc] at h; exact h, fun U hU hW => ⟨rfl, by rw [hU], by rw [hU]; exact hP, va_K.moved hW.alike hK, (C.2.2.2.2.2.2.1 M).weaken (fun _ _ _ _ => trivial), C.2.2.2.2.2.2.2.2.2.1 _ _ _ U locs C.2.2.2.2.2.2.2.2.1 (by rw [hU]; exact hS) hW (fun q h => hFc q h), C.2.2.2.2.2.2.2.2.2⟩⟩ rfl hn hL.1 rfl (lv_room hcat) hd ⟨Nat.zero_le _, Nat.zero_le _⟩) hS (fun q _ h => hFc q h) hFc (fun r u t H1 locs1 ht hvm hw hB hz hk hS1 => ?_)
  obtain ⟨rfl, hw2⟩ := hw
  obtain ⟨hP1, -, -⟩ := hB
  rw [ht] at hP1
  exact kk _ _ hw2 H1 locs1 ls hP1 hS1 hL
theorem g_callVv (C : gC p R s m args c D cl tys A (wld ad cI cS lay N) nL cc own Ts Z) {y : MethodName} {b : ByteArray} {n nargs idx o ci : Nat} {rm : Room} {As : List Value} {k1 : gSt → Prop} {fl : List (Option Nat)} {vc : vw_C}
    (hM : MOv l y b n rm D cl tys (wld ad cI cS lay N) Ts Z (.ref (ad o) :: As) M k1)
    (hl : lay o = .inr (.inl (ci, fl))) (hi : o < N) (hc : cl[ci]? = some vc) (hvc : vc.1 = y.cls)
    (hG : GoodIn Ts (wsV own idx y.cls y (Cond.code y b n none :: Ts))) (hy : y.cls ≠ "java/lang/invoke/MethodHandle" ∧ y.cls ≠ "java/lang/invoke/VarHandle" ∧ (parseMethodDescriptor y.desc).map (fun d => d.parameters.length) = some nargs) (hrm : rm.cells = 0 ∧ rm.slots = 0)
    (hd : decode cc pc = .ok (.invokevirtual idx, 3)) (hR : rm.frames + 1 ≤ R.frames ∧ 8 + (n + 11) + rm.locals ≤ R.locals) (hn : As.length = nargs) (hst : st0 = As.reverse ++ .ref (ad o) :: st) (hcat : (st.map fun v => v.category).sum ≤ 8) (kk : ∀ (M' : gSt), k1 M' → gG p l e R s m args below meth c Q D cl A (wld ad cI cS lay N) nL (pc + 3) lv st M') : gG p l e R s m args below meth c Q D cl A (wld ad cI cS lay N) nL pc lv st0 M := by
  subst hst
  intro H locs ls hP hS hL
  have hFc := wld_free (M := M) C hS
  have hK := C.2.2.2.2.2.1
  have hts := C.2.2.2.2.1
  have hown := C.2.2.2.1
  refine va_callv (va_runV (C := y.cls) (As := As) (rest := st) ⟨C.1, C.2.1, C.2.2.1, hown, hts⟩ (hM H.size) (cwV nargs hts hG rfl hrm.1 hrm.2 ⟨rfl, hy⟩ hR) ⟨gPre_blind, by have h := va_recv hK hP (ci := ci) (q0 := o) hc (lc_obj hi hl); rw [hvc] at h; exact h, fun U hU hW => ⟨rfl, by rw [hU], by rw [hU]; exact hP, va_K.moved hW.alike hK, (C.2.2.2.2.2.2.1 M).weaken (fun _ _ _ _ => trivial), C.2.2.2.2.2.2.2.2.2.1 _ _ _ U locs C.2.2.2.2.2.2.2.2.1 (by rw [hU]; exact hS) hW (fun q h => hFc q h), C.2.2.2.2.2.2.2.2.2⟩⟩ rfl hn hL.1 rfl (lv_room hcat) hd ⟨Nat.zero_le _, Nat.zero_le _⟩) hS (fun q _ h => hFc q h) hFc (fun u t H1 locs1 ht hvm hw hB hz hk hS1 => ?_)
  obtain ⟨hP1, -, -⟩ := hB
  rw [ht] at hP1
  exact kk _ hw H1 locs1 ls hP1 hS1 hL
/-- static calls -/
theorem g_callSi (C : gC p R s m args c D cl tys A (wld ad cI cS lay N) nL cc own Ts Z) {y : MethodName} {b : ByteArray} {n nargs idx : Nat} {rt : FieldType} {rm : Room} {As : List Value} {k1 : Int → gSt → Prop}
    (hM : MOi l y b n rt rm D cl tys (wld ad cI cS lay N) Ts Z As M k1)
    (hG : GoodIn Ts (va_wsS own idx y (Cond.code y b n (some rt) :: Ts))) (hy : y.cls ≠ "java/lang/invoke/MethodHandle" ∧ y.cls ≠ "java/lang/invoke/VarHandle" ∧ (parseMethodDescriptor y.desc).map (fun d => d.parameters.length) = some nargs) (hrm : rm.cells = 0 ∧ rm.slots = 0)
    (hd : decode cc pc = .ok (.invokestatic idx, 3)) (hR : rm.frames + 1 ≤ R.frames ∧ 8 + (n + 11) + rm.locals ≤ R.locals) (hn : As.length = nargs) (hst : st0 = As.reverse ++ st) (hcat : (st.map fun v => v.category).sum ≤ 8) (kk : ∀ (r : Int) (M' : gSt), k1 r M' → gG p l e R s m args below meth c Q D cl A (wld ad cI cS lay N) nL (pc + 3) lv (iv r :: st) M') : gG p l e R s m args below meth c Q D cl A (wld ad cI cS lay N) nL pc lv st0 M := by
  subst hst
  intro H locs ls hP hS hL
  have hFc := wld_free (M := M) C hS
  have hK := C.2.2.2.2.2.1
  have hts := C.2.2.2.2.1
  have hown := C.2.2.2.1
  refine va_calli (va_runS (As := As) (rest := st) ⟨C.1, C.2.1, C.2.2.1, hown, hts⟩ (hM H.size) (va_cwS nargs hts hG rfl hrm.1 hrm.2 hy hR) ⟨gPre_blind, fun U hU hW => ⟨rfl, by rw [hU], by rw [hU]; exact hP, va_K.moved hW.alike hK, (C.2.2.2.2.2.2.1 M).weaken (fun _ _ _ _ => trivial), C.2.2.2.2.2.2.2.2.2.1 _ _ _ U locs C.2.2.2.2.2.2.2.2.1 (by rw [hU]; exact hS) hW (fun q h => hFc q h), C.2.2.2.2.2.2.2.2.2⟩⟩ rfl hn hL.1 rfl (lv_room hcat) hd ⟨Nat.zero_le _, Nat.zero_le _⟩) hS (fun q _ h => hFc q h) hFc (fun r u t H1 locs1 ht hvm hw hB hz hk hS1 => ?_)
  obtain ⟨rfl, hw2⟩ := hw
  obtain ⟨hP1, -, -⟩ := hB
  rw [ht] at hP1
  exact kk _ _ hw2 H1 locs1 ls hP1 hS1 hL
theorem g_callSv (C : gC p R s m args c D cl tys A (wld ad cI cS lay N) nL cc own Ts Z) {y : MethodName} {b : ByteArray} {n nargs idx : Nat} {rm : Room} {As : List Value} {k1 : gSt → Prop}
    (hM : MOv l y b n rm D cl tys (wld ad cI cS lay N) Ts Z As M k1)
    (hG : GoodIn Ts (va_wsS own idx y (Cond.code y b n none :: Ts))) (hy : y.cls ≠ "java/lang/invoke/MethodHandle" ∧ y.cls ≠ "java/lang/invoke/VarHandle" ∧ (parseMethodDescriptor y.desc).map (fun d => d.parameters.length) = some nargs) (hrm : rm.cells = 0 ∧ rm.slots = 0)
    (hd : decode cc pc = .ok (.invokestatic idx, 3)) (hR : rm.frames + 1 ≤ R.frames ∧ 8 + (n + 11) + rm.locals ≤ R.locals) (hn : As.length = nargs) (hst : st0 = As.reverse ++ st) (hcat : (st.map fun v => v.category).sum ≤ 8) (kk : ∀ (M' : gSt), k1 M' → gG p l e R s m args below meth c Q D cl A (wld ad cI cS lay N) nL (pc + 3) lv st M') : gG p l e R s m args below meth c Q D cl A (wld ad cI cS lay N) nL pc lv st0 M := by
  subst hst
  intro H locs ls hP hS hL
  have hFc := wld_free (M := M) C hS
  have hK := C.2.2.2.2.2.1
  have hts := C.2.2.2.2.1
  have hown := C.2.2.2.1
  refine va_callv (va_runS (As := As) (rest := st) ⟨C.1, C.2.1, C.2.2.1, hown, hts⟩ (hM H.size) (va_cwS nargs hts hG rfl hrm.1 hrm.2 hy hR) ⟨gPre_blind, fun U hU hW => ⟨rfl, by rw [hU], by rw [hU]; exact hP, va_K.moved hW.alike hK, (C.2.2.2.2.2.2.1 M).weaken (fun _ _ _ _ => trivial), C.2.2.2.2.2.2.2.2.2.1 _ _ _ U locs C.2.2.2.2.2.2.2.2.1 (by rw [hU]; exact hS) hW (fun q h => hFc q h), C.2.2.2.2.2.2.2.2.2⟩⟩ rfl hn hL.1 rfl (lv_room hcat) hd ⟨Nat.zero_le _, Nat.zero_le _⟩) hS (fun q _ h => hFc q h) hFc (fun u t H1 locs1 ht hvm hw hB hz hk hS1 => ?_)
  obtain ⟨hP1, -, -⟩ := hB
  rw [ht] at hP1
  exact kk _ hw H1 locs1 ls hP1 hS1 hL
end GCALL
