/-- a method that answers a reference (a place) or null -/
def MOr (l : Launch) (y : MethodName) (b : ByteArray) (n : Nat) (rt : FieldType) (rm : Room) (D : va_G) (cl : List vw_C) (tys : List (ClassId × FieldType)) (ad : Nat → Nat) (wl : gSt → va_W) (Ts : List Cond) (Z : (Nat → Prop) → State → Prop) (vs : List Value) (M : gSt) (k : Option Nat → gSt → Prop) : Prop :=
  ∀ sz : Nat, Met l y (Cond.code y b n (some rt) :: Ts) rm (va_Pc vs (gPre D cl tys wl Z sz M)) (va_Qq (fun (r : Option Nat) (u : Option Nat × gSt) => r = u.1.map ad ∧ k u.1 u.2) (fun u t => gPost D cl tys wl (va_A (wl M) sz) u.2 t) (va_A (wl M) sz)) 0 0 (va_A (wl M) sz)
def orv (ad : Nat → Nat) (r : Option Nat) : Value := va_rf (r.map ad)
section GI2
variable {l : Launch} {y : MethodName} {b : ByteArray} {n : Nat} {rm : Room} {D : va_G} {cl : List vw_C} {tys : List (ClassId × FieldType)} {Ts : List Cond} {Z : (Nat → Prop) → State → Prop} {vs : List Value} {M : gSt}
variable {ad : Nat → Nat} {cI cS : ClassId} {lay : Nat → gLC} {N : Nat}
theorem mor_intro {rt : FieldType} {k : Option Nat → gSt → Prop} (hy : plainName y.cls = true) (hfit : (lg_sl vs).length ≤ n) (hself : Cond.code y b n (some rt) ∈ Ts) (hrt : (∃ n, rt = .object n) ∨ ∃ t, rt = .array t)
    (body : ∀ (p : Program) (e : Env) (s : State) (m : MethodId) (args : Array Value) (below : List Frame) (meth : Method) (c : Code) (A : Nat → Prop) (Q : State → Prop), gC p rm s m args c D cl tys A (wld ad cI cS lay N) n b y.cls Ts Z →
      (∀ (pc : Nat) (lv : List (Nat × Value)) (r : Option Nat) (v : Value) (M' : gSt), decode b pc = .ok (.areturn, 1) → v = orv ad r → k r M' → gG p l e rm s m args below meth c Q D cl A (wld ad cI cS lay N) n pc lv [v] M') →
      gG p l e rm s m args below meth c Q D cl A (wld ad cI cS lay N) n 0 (lv_args 0 vs) [] M) : MOr l y b n rt rm D cl tys ad (wld ad cI cS lay N) Ts Z vs M k := by
  intro sz
  refine Met.ofW (cc := b) (maxL := n) (ret := some rt) hy rfl ?_
  intro p e s m args below meth c s₁ B hml hv
  obtain ⟨rfl, hsz, hP, hK, hD0, hZ, hZm⟩ := hv
  have hts := atoms_spec (ws := Cond.code y b n (some rt) :: Ts) B.pre
  subst hsz
  have hD := hD0.self (sz := s.heap.size)
  have C : gC p rm s m vs.toArray c D cl tys (va_A (wld ad cI cS lay N M) s.heap.size) (wld ad cI cS lay N) n b y.cls Ts Z :=
    ⟨B.exec, B.bytes, hml, findClass_of_methodNamed B.named, fun w hw => hts w (List.mem_cons_of_mem _ hw), hK, fun M' => wld_D hD, fun q h => Or.inr h, hZ, hZm⟩
  have hl := lv_entry vs (n := n) hfit
  rw [lg_entry_eq]
  refine body p e s m vs.toArray below meth c (va_A (wld ad cI cS lay N M) s.heap.size) _ C ?_ s.heap [] _ hP va_S.rf hl
  intro pc lv r v M' hd hv hk H locs ls hP' hS' hl'
  have hlocks := B.notSynchronized
  subst hv
  exact W.aret (v := orv ad r) B.exec B.bytes B.returns hrt (by cases r with
    | none => exact Or.inl rfl
    | some q => exact Or.inr ⟨ad q, rfl⟩) (fun t ht hW => ⟨⟨r.map ad, (r, M'), rfl, ⟨rfl, hk⟩, by rw [ht]; exact hP', va_K.moved hW.alike hK, wld_D hD⟩, hS'.F ht⟩) hS'.2.2 hd
end GI2
section GCALL2
variable {p : Program} {l : Launch} {e : Env} {R : Room} {s : State} {m : MethodId} {args : Array Value} {below : List Frame} {meth : Method} {c : Code} {Q : State → Prop}
variable {D : va_G} {cl : List vw_C} {tys : List (ClassId × FieldType)} {A : Nat → Prop} {nL : Nat} {cc : ByteArray} {own : String} {Ts : List Cond} {Z : (Nat → Prop) → State → Prop}
variable {pc : Nat} {lv : List (Nat × Value)} {st st0 : List Value} {M : gSt}
variable {ad : Nat → Nat} {cI cS : ClassId} {lay : Nat → gLC} {N : Nat}
theorem g_callVr (C : gC p R s m args c D cl tys A (wld ad cI cS lay N) nL cc own Ts Z) {y : MethodName} {b : ByteArray} {n nargs idx o ci : Nat} {rt : FieldType} {rm : Room} {As : List Value} {k1 : Option Nat → gSt → Prop} {fl : List (Option Nat)} {vc : vw_C}
    (hM : MOr l y b n rt rm D cl tys ad (wld ad cI cS lay N) Ts Z (.ref (ad o) :: As) M k1)
    (hl : lay o = .inr (.inl (ci, fl))) (hi : o < N) (hc : cl[ci]? = some vc) (hvc : vc.1 = y.cls)
    (hG : GoodIn Ts (wsV own idx y.cls y (Cond.code y b n (some rt) :: Ts))) (hy : y.cls ≠ "java/lang/invoke/MethodHandle" ∧ y.cls ≠ "java/lang/invoke/VarHandle" ∧ (parseMethodDescriptor y.desc).map (fun d => d.parameters.length) = some nargs) (hrm : rm.cells = 0 ∧ rm.slots = 0)
    (hd : decode cc pc = .ok (.invokevirtual idx, 3)) (hR : rm.frames + 1 ≤ R.frames ∧ 8 + (n + 11) + rm.locals ≤ R.locals) (hn : As.length = nargs) (hst : st0 = As.reverse ++ .ref (ad o) :: st) (hcat : (st.map fun v => v.category).sum ≤ 8) (kk : ∀ (r : Option Nat) (M' : gSt), k1 r M' → gG p l e R s m args below meth c Q D cl A (wld ad cI cS lay N) nL (pc + 3) lv (orv ad r :: st) M') : gG p l e R s m args below meth c Q D cl A (wld ad cI cS lay N) nL pc lv st0 M := by
  subst hst
  intro H locs ls hP hS hL
  have hFc := wld_free (M := M) C hS
  have hK := C.2.2.2.2.2.1
  have hts := C.2.2.2.2.1
  have hown := C.2.2.2.1
  refine va_callq (va_runV (C := y.cls) (As := As) (rest := st) ⟨C.1, C.2.1, C.2.2.1, hown, hts⟩ (hM H.size) (cwV nargs hts hG rfl hrm.1 hrm.2 ⟨rfl, hy⟩ hR) ⟨gPre_blind, by have h := va_recv hK hP (ci := ci) (q0 := o) hc (lc_obj hi hl); rw [hvc] at h; exact h, fun U hU hW => ⟨rfl, by rw [hU], by rw [hU]; exact hP, va_K.moved hW.alike hK, (C.2.2.2.2.2.2.1 M).weaken (fun _ _ _ _ => trivial), C.2.2.2.2.2.2.2.2.2.1 _ _ _ U locs C.2.2.2.2.2.2.2.2.1 (by rw [hU]; exact hS) hW (fun q h => hFc q h), C.2.2.2.2.2.2.2.2.2⟩⟩ rfl hn hL.1 rfl (lv_room hcat) hd ⟨Nat.zero_le _, Nat.zero_le _⟩) hS (fun q _ h => hFc q h) hFc (fun r u t H1 locs1 ht hvm hw hB hz hk hS1 => ?_)
  obtain ⟨rfl, hw2⟩ := hw
  obtain ⟨hP1, -, -⟩ := hB
  rw [ht] at hP1
  exact kk _ _ hw2 H1 locs1 ls hP1 hS1 hL
/-- a private method of a nest mate: its link is a fact of the start -/
theorem g_callNi (C : gC p R s m args c D cl tys A (wld ad cI cS lay N) nL cc own Ts Z) {y : MethodName} {host : String} {b : ByteArray} {n nargs idx o ci : Nat} {rt : FieldType} {rm : Room} {As : List Value} {k1 : Int → gSt → Prop} {fl : List (Option Nat)} {vc : vw_C}
    (hM : MOi l y b n rt rm D cl tys (wld ad cI cS lay N) Ts Z (.ref (ad o) :: As) M k1)
    (hl : lay o = .inr (.inl (ci, fl))) (hi : o < N) (hc : cl[ci]? = some vc) (hvc : vc.1 = y.cls)
    (hz : ∀ (A : Nat → Prop) (u : State), Z A u → va_Nw (.methodLinkNest own idx y host) u) (hG : GoodIn Ts (Cond.code y b n (some rt) :: Ts)) (hini : Cond.initialized y.cls ∈ Ts) (hins : Cond.instanceMethod y ∈ Ts) (hsel : Cond.selects y.cls y y ∈ Ts) (hy : y.cls ≠ "java/lang/invoke/MethodHandle" ∧ y.cls ≠ "java/lang/invoke/VarHandle" ∧ (parseMethodDescriptor y.desc).map (fun d => d.parameters.length) = some nargs) (hrm : rm.cells = 0 ∧ rm.slots = 0)
    (hd : decode cc pc = .ok (.invokevirtual idx, 3)) (hR : rm.frames + 1 ≤ R.frames ∧ 8 + (n + 11) + rm.locals ≤ R.locals) (hn : As.length = nargs) (hst : st0 = As.reverse ++ .ref (ad o) :: st) (hcat : (st.map fun v => v.category).sum ≤ 8) (kk : ∀ (r : Int) (M' : gSt), k1 r M' → gG p l e R s m args below meth c Q D cl A (wld ad cI cS lay N) nL (pc + 3) lv (iv r :: st) M') : gG p l e R s m args below meth c Q D cl A (wld ad cI cS lay N) nL pc lv st0 M := by
  subst hst
  intro H locs ls hP hS hL
  have hFc := wld_free (M := M) C hS
  have hK := C.2.2.2.2.2.1
  have hts := C.2.2.2.2.1
  have hown := C.2.2.2.1
  refine va_calli (va_runVN (C := y.cls) (As := As) (rest := st) ⟨C.1, C.2.1, C.2.2.1, hown, hts⟩ (hM H.size) ⟨va_cnB nargs hts hG rfl hrm.1 hrm.2 (hz _ _ C.2.2.2.2.2.2.2.2.1) (hts _ hini) hy hR, hts _ hins, hts _ hsel⟩ ⟨gPre_blind, by have h := va_recv hK hP (ci := ci) (q0 := o) hc (lc_obj hi hl); rw [hvc] at h; exact h, fun U hU hW => ⟨rfl, by rw [hU], by rw [hU]; exact hP, va_K.moved hW.alike hK, (C.2.2.2.2.2.2.1 M).weaken (fun _ _ _ _ => trivial), C.2.2.2.2.2.2.2.2.2.1 _ _ _ U locs C.2.2.2.2.2.2.2.2.1 (by rw [hU]; exact hS) hW (fun q h => hFc q h), C.2.2.2.2.2.2.2.2.2⟩⟩ rfl hn hL.1 rfl (lv_room hcat) hd ⟨Nat.zero_le _, Nat.zero_le _⟩) hS (fun q _ h => hFc q h) hFc (fun r u t H1 locs1 ht hvm hw hB hz hk hS1 => ?_)
  obtain ⟨rfl, hw2⟩ := hw
  obtain ⟨hP1, -, -⟩ := hB
  rw [ht] at hP1
  exact kk _ _ hw2 H1 locs1 ls hP1 hS1 hL
theorem g_callNSi (C : gC p R s m args c D cl tys A (wld ad cI cS lay N) nL cc own Ts Z) {y : MethodName} {host : String} {b : ByteArray} {n nargs idx : Nat} {rt : FieldType} {rm : Room} {As : List Value} {k1 : Int → gSt → Prop}
    (hM : MOi l y b n rt rm D cl tys (wld ad cI cS lay N) Ts Z As M k1)
    (hz : ∀ (A : Nat → Prop) (u : State), Z A u → va_Nw (.methodLinkNest own idx y host) u) (hG : GoodIn Ts (Cond.code y b n (some rt) :: Ts)) (hini : Cond.initialized y.cls ∈ Ts) (hsta : Cond.static y ∈ Ts) (hy : y.cls ≠ "java/lang/invoke/MethodHandle" ∧ y.cls ≠ "java/lang/invoke/VarHandle" ∧ (parseMethodDescriptor y.desc).map (fun d => d.parameters.length) = some nargs) (hrm : rm.cells = 0 ∧ rm.slots = 0)
    (hd : decode cc pc = .ok (.invokestatic idx, 3)) (hR : rm.frames + 1 ≤ R.frames ∧ 8 + (n + 11) + rm.locals ≤ R.locals) (hn : As.length = nargs) (hst : st0 = As.reverse ++ st) (hcat : (st.map fun v => v.category).sum ≤ 8) (kk : ∀ (r : Int) (M' : gSt), k1 r M' → gG p l e R s m args below meth c Q D cl A (wld ad cI cS lay N) nL (pc + 3) lv (iv r :: st) M') : gG p l e R s m args below meth c Q D cl A (wld ad cI cS lay N) nL pc lv st0 M := by
  subst hst
  intro H locs ls hP hS hL
  have hFc := wld_free (M := M) C hS
  have hK := C.2.2.2.2.2.1
  have hts := C.2.2.2.2.1
  have hown := C.2.2.2.1
  refine va_calli (va_runSN (As := As) (rest := st) ⟨C.1, C.2.1, C.2.2.1, hown, hts⟩ (hM H.size) ⟨va_cnB nargs hts hG rfl hrm.1 hrm.2 (hz _ _ C.2.2.2.2.2.2.2.2.1) (hts _ hini) hy hR, hts _ hsta, trivial⟩ ⟨gPre_blind, fun U hU hW => ⟨rfl, by rw [hU], by rw [hU]; exact hP, va_K.moved hW.alike hK, (C.2.2.2.2.2.2.1 M).weaken (fun _ _ _ _ => trivial), C.2.2.2.2.2.2.2.2.2.1 _ _ _ U locs C.2.2.2.2.2.2.2.2.1 (by rw [hU]; exact hS) hW (fun q h => hFc q h), C.2.2.2.2.2.2.2.2.2⟩⟩ rfl hn hL.1 rfl (lv_room hcat) hd ⟨Nat.zero_le _, Nat.zero_le _⟩) hS (fun q _ h => hFc q h) hFc (fun r u t H1 locs1 ht hvm hw hB hz hk hS1 => ?_)
  obtain ⟨rfl, hw2⟩ := hw
  obtain ⟨hP1, -, -⟩ := hB
  rw [ht] at hP1
  exact kk _ _ hw2 H1 locs1 ls hP1 hS1 hL
/-- a static table that nobody writes -/
theorem g_getsT (C : gC p R s m args c D cl tys A (wld ad cI cS lay N) nL cc own Ts Z) {Cn nm ref : String} {idx t : Nat} (hz : va_Z Cn nm "[I" (.ref t) A s s.heap) (hw : Cond.fieldLink own idx ref nm "[I" ∈ Ts) (hsame : Cn = ref) (hd : decode cc pc = .ok (.getstatic idx, 3)) (kk : gG p l e R s m args below meth c Q D cl A (wld ad cI cS lay N) nL (pc + 3) lv (.ref t :: st) M) : gG p l e R s m args below meth c Q D cl A (wld ad cI cS lay N) nL pc lv st M := by
  subst hsame
  intro H locs ls hP hS hL
  exact va_gets C.1 C.2.1 hz hS C.2.2.2.1 (C.2.2.2.2.1 _ hw) (fun _ h => h) hd (kk H locs ls hP hS hL)
theorem g_getsTN (C : gC p R s m args c D cl tys A (wld ad cI cS lay N) nL cc own Ts Z) {Cn nm ref host : String} {idx t : Nat} (hz : va_Z Cn nm "[I" (.ref t) A s s.heap) (hw : va_Nw (.fieldLinkNest own idx ref nm "[I" host) s) (hsame : Cn = ref) (hd : decode cc pc = .ok (.getstatic idx, 3)) (kk : gG p l e R s m args below meth c Q D cl A (wld ad cI cS lay N) nL (pc + 3) lv (.ref t :: st) M) : gG p l e R s m args below meth c Q D cl A (wld ad cI cS lay N) nL pc lv st M := by
  subst hsame
  intro H locs ls hP hS hL
  exact va_getsN C.1 C.2.1 hz hS C.2.2.2.1 (va_Nw.use rfl hw) (fun _ h => h) hd (kk H locs ls hP hS hL)
theorem g_tald (C : gC p R s m args c D cl tys A (wld ad cI cS lay N) nL cc own Ts Z) {t n : Nat} {f : Nat → Int} {i : Int} (hd : decode cc pc = .ok (.iaload, 1)) (hT : va_T .int t n (fun j => iv (f j)) A s s.heap) (hn : n < 2147483648) (h0 : 0 ≤ i ∧ i < n) (kk : gG p l e R s m args below meth c Q D cl A (wld ad cI cS lay N) nL (pc + 1) lv (iv (f i.toNat) :: st) M) : gG p l e R s m args below meth c Q D cl A (wld ad cI cS lay N) nL pc lv (iv i :: .ref t :: st) M := by
  intro H locs ls hP hS hL
  exact va_ti C.1 C.2.1 hT hS (ofInt_in h0.1 h0.2 hn) (v := iv (f i.toNat)) (by rw [ofInt_clamp h0.1 (by omega)]) hd (kk H locs ls hP hS hL)
theorem g_talen (C : gC p R s m args c D cl tys A (wld ad cI cS lay N) nL cc own Ts Z) {t n : Nat} {f : Nat → Int} (hd : decode cc pc = .ok (.arraylength, 1)) (hT : va_T .int t n (fun j => iv (f j)) A s s.heap) (kk : gG p l e R s m args below meth c Q D cl A (wld ad cI cS lay N) nL (pc + 1) lv (iv n :: st) M) : gG p l e R s m args below meth c Q D cl A (wld ad cI cS lay N) nL pc lv (.ref t :: st) M := by
  intro H locs ls hP hS hL
  exact va_tlen C.1 C.2.1 hT hS (v := Int32.ofInt n) (by rw [Int32.ofInt_eq_ofNat]) hd (kk H locs ls hP hS hL)
/-- an array of references that stay -/
theorem g_aald (C : gC p R s m args c D cl ((cI, .int) :: (cS, .object "OldBronze$Sheet") :: tys) A (wld ad cI cS lay N) nL cc own Ts Z) {o q : Nat} {ps : List Nat} {i : Int} (hd : decode cc pc = .ok (.aaload, 1)) (hl : lay o = .inr (.inr ps)) (hi : o < N ∧ ps.length < 2147483648) (h0 : 0 ≤ i ∧ i < ps.length) (hq : ps[i.toNat]? = some q) (kk : gG p l e R s m args below meth c Q D cl A (wld ad cI cS lay N) nL (pc + 1) lv (.ref (ad q) :: st) M) : gG p l e R s m args below meth c Q D cl A (wld ad cI cS lay N) nL pc lv (iv i :: .ref (ad o) :: st) M := by
  intro H locs ls hP hS hL
  have e : (wld ad cI cS lay N M)[o]? = some (ad o, .inl (cS, ps.length, .inr (.inr (.inr (.inr (fun i => (ps[i]?).map ad)))))) := by rw [wld_get M hi.1, hl]; rfl
  refine va_aldq C.1 C.2.1 C.2.2.2.2.2.1 hP o 1 e rfl (ofInt_in h0.1 h0.2 hi.2) hd ?_
  rw [ofInt_clamp h0.1 (by omega), hq]
  exact kk H locs ls hP hS hL
theorem g_aalen (C : gC p R s m args c D cl ((cI, .int) :: (cS, .object "OldBronze$Sheet") :: tys) A (wld ad cI cS lay N) nL cc own Ts Z) {o : Nat} {ps : List Nat} (hd : decode cc pc = .ok (.arraylength, 1)) (hl : lay o = .inr (.inr ps)) (hi : o < N) (kk : gG p l e R s m args below meth c Q D cl A (wld ad cI cS lay N) nL (pc + 1) lv (iv ps.length :: st) M) : gG p l e R s m args below meth c Q D cl A (wld ad cI cS lay N) nL pc lv (.ref (ad o) :: st) M := by
  intro H locs ls hP hS hL
  have e : (wld ad cI cS lay N M)[o]? = some (ad o, .inl (cS, ps.length, .inr (.inr (.inr (.inr (fun i => (ps[i]?).map ad)))))) := by rw [wld_get M hi, hl]; rfl
  exact va_alen C.1 C.2.1 C.2.2.2.2.2.1 hP o 1 e rfl (v := Int32.ofInt ps.length) (by rw [Int32.ofInt_eq_ofNat]) hd (kk H locs ls hP hS hL)
/-- memory behind a copy of n numbers of place a from i on to place b from j on -/
def cpy (M : gSt) (a : Nat) (i : Int) (b : Nat) (j n : Int) : gSt := fun o k => if o = b ∧ j ≤ k ∧ k < j + n then M a (i + (k - j)) else M o k
theorem wld_cpy {M : gSt} {a b : Nat} {i j n : Int} {e : va_E} (h : mkc ad cI cS (cpy M a i b j n) b (lay b) = e) : (wld ad cI cS lay N M).set b (ad b, e) = wld ad cI cS lay N (cpy M a i b j n) := by
  apply List.ext_getElem?
  intro k
  rw [List.getElem?_set]
  by_cases hk : b = k
  · subst hk
    by_cases hN : b < N
    · simp [wld, hN, h]
    · simp [wld, hN]
  · rw [if_neg hk]
    by_cases hN : k < N
    · rw [wld_get M hN, wld_get _ hN]
      have hf : ∀ (fl : List (Option Nat)) (z : Nat), mkf ad (cpy M a i b j n) k z fl = mkf ad M k z fl := by
        intro fl
        induction fl with
        | nil => intro z; rfl
        | cons x t ih =>
          intro z
          cases x <;> simp only [mkf, ih] <;> simp [cpy, Ne.symm hk]
      rcases lay k with n' | ⟨ci, fl⟩ | ps
      · simp [mkc, cpy, Ne.symm hk]
      · simp only [mkc, hf]
      · rfl
    · simp [wld, hN]
theorem g_copy (C : gC p R s m args c D cl ((cI, .int) :: tys) A (wld ad cI cS lay N) nL cc own Ts Z) {a b na nb idx : Nat} {i j n : Int} (hd : decode cc pc = .ok (.invokestatic idx, 3)) (hla : lay a = .inl na) (hlb : lay b = .inl nb) (hi : a < N ∧ b < N ∧ na < 2147483648 ∧ nb < 2147483648) (h0 : 0 ≤ i ∧ 0 ≤ j ∧ 0 ≤ n ∧ i + n ≤ na ∧ j + n ≤ nb) (hw : Cond.methodLink own idx arraycopyName ∈ Ts) (hn1 : Cond.native arraycopyName ∈ Ts) (hn2 : Cond.static arraycopyName ∈ Ts) (hn3 : Cond.initialized "java/lang/System" ∈ Ts) (hf : 1 ≤ R.frames) (hlo : (st.map fun v => v.category).sum + (nativeFrameWords "java/lang/System" "arraycopy" 5 + 11) ≤ R.locals) (kk : gG p l e R s m args below meth c Q D cl A (wld ad cI cS lay N) nL (pc + 3) lv st (cpy M a i b j n)) : gG p l e R s m args below meth c Q D cl A (wld ad cI cS lay N) nL pc lv (iv n :: iv j :: .ref (ad b) :: iv i :: .ref (ad a) :: st) M := by
  intro H locs ls hP hS hL
  have hts := C.2.2.2.2.1
  have nn : ∀ z : Int, 0 ≤ z → z < 2147483648 → ¬ Int32.ofInt z < 0 := by
    intro z h1 h2 h
    rw [Int32.lt_iff_toInt_lt, ofInt_toInt, wrap_in (by omega) h2] at h
    simp at h
    omega
  refine va_copyi C.1 C.2.1 (by rw [C.2.2.1]; exact hL.1.symm) C.2.2.2.1 (hts _ hw) (hts _ hn1) (hts _ hn2) (hts _ hn3) C.2.2.2.2.2.1 hP (C.2.2.2.2.2.2.1 M) hS a b 0 0 (lc_arr hi.1 hla) (lc_arr hi.2.1 hlb) rfl rfl rfl (nn i h0.1 (by omega)) (nn j h0.2.1 (by omega)) (nn n h0.2.2.1 (by omega)) (by rw [ofInt_clamp h0.1 (by omega), ofInt_clamp h0.2.2.1 (by omega)]; omega) (by rw [ofInt_clamp h0.2.1 (by omega), ofInt_clamp h0.2.2.1 (by omega)]; omega) (fun _ _ => rfl) hf hlo hd (fun H1 locs1 hP1 _ hS1 => ?_)
  rw [ofInt_clamp h0.1 (by omega), ofInt_clamp h0.2.1 (by omega), ofInt_clamp h0.2.2.1 (by omega)] at hP1
  rw [wld_cpy (M := M) (a := a) (b := b) (i := i) (j := j) (n := n) (by
    rw [hlb]
    simp only [mkc]
    congr 3
    congr 1
    funext k
    unfold va_cpy cpy
    by_cases hk : j.toNat ≤ k ∧ k < j.toNat + n.toNat
    · rw [if_pos hk, if_pos ⟨rfl, by omega, by omega⟩]
      congr 2
      omega
    · rw [if_neg hk, if_neg (fun h => hk ⟨by omega, by omega⟩)])] at hP1
  exact kk H1 locs1 ls hP1 hS1 hL
theorem g_ldcw (C : gC p R s m args c D cl tys A (wld ad cI cS lay N) nL cc own Ts Z) {i : Nat} (n : Int) {v : Int32} (hw : Cond.constant own i v ∈ Ts) (hv : Int32.ofInt n = v) (hd : decode cc pc = .ok (.ldc_w i, 3)) (kk : gG p l e R s m args below meth c Q D cl A (wld ad cI cS lay N) nL (pc + 3) lv (iv n :: st) M) : gG p l e R s m args below meth c Q D cl A (wld ad cI cS lay N) nL pc lv st M :=
  fun H locs ls hP hS hl => lv_ldcw C.1 C.2.1 C.2.2.2.1 (C.2.2.2.2.1 _ hw) hd (by rw [← hv]; exact kk H locs ls hP hS hl)
theorem g_ifnull (C : gC p R s m args c D cl tys A (wld ad cI cS lay N) nL cc own Ts Z) {r : Option Nat} {off : Int} (tgt : Nat) (hd : decode cc pc = .ok (.ifnull off, 3)) (ht : (pc : Int) + off = (tgt : Int)) (kt : r = none → gG p l e R s m args below meth c Q D cl A (wld ad cI cS lay N) nL tgt lv st M) (kf : ∀ q, r = some q → gG p l e R s m args below meth c Q D cl A (wld ad cI cS lay N) nL (pc + 3) lv st M) : gG p l e R s m args below meth c Q D cl A (wld ad cI cS lay N) nL pc lv (orv ad r :: st) M := by
  intro H locs ls hP hS hl
  cases r with
  | none => exact lv_ifnullN C.1 C.2.1 hd ht (kt rfl H locs ls hP hS hl)
  | some q => exact lv_ifnull C.1 C.2.1 hd (kf q rfl H locs ls hP hS hl)
theorem g_ifnonnull (C : gC p R s m args c D cl tys A (wld ad cI cS lay N) nL cc own Ts Z) {r : Option Nat} {off : Int} (tgt : Nat) (hd : decode cc pc = .ok (.ifnonnull off, 3)) (ht : (pc : Int) + off = (tgt : Int)) (kt : ∀ q, r = some q → gG p l e R s m args below meth c Q D cl A (wld ad cI cS lay N) nL tgt lv st M) (kf : r = none → gG p l e R s m args below meth c Q D cl A (wld ad cI cS lay N) nL (pc + 3) lv st M) : gG p l e R s m args below meth c Q D cl A (wld ad cI cS lay N) nL pc lv (orv ad r :: st) M := by
  intro H locs ls hP hS hl
  cases r with
  | none => exact lv_ifnonnullN C.1 C.2.1 hd (kf rfl H locs ls hP hS hl)
  | some q => exact lv_ifnonnull C.1 C.2.1 hd ht (kt q rfl H locs ls hP hS hl)
theorem g_astoreO (C : gC p R s m args c D cl tys A (wld ad cI cS lay N) nL cc own Ts Z) {k : Fin 4} {r : Option Nat} {lv' : List (Nat × Value)} (hd : decode cc pc = .ok (.astore_n k, 1)) (hn : (k : Nat) < nL) (hl' : lvs k (orv ad r) lv = lv') (kk : gG p l e R s m args below meth c Q D cl A (wld ad cI cS lay N) nL (pc + 1) lv' st M) : gG p l e R s m args below meth c Q D cl A (wld ad cI cS lay N) nL pc lv (orv ad r :: st) M := by
  intro H locs ls hP hS hl
  cases r with
  | none => exact lv_astore_nN C.1 C.2.1 hd rfl hl hn hl' (fun ls' hl2 => kk H locs ls' hP hS hl2)
  | some q => exact lv_astore_n C.1 C.2.1 hd rfl hl hn hl' (fun ls' hl2 => kk H locs ls' hP hS hl2)
theorem g_astoreO' (C : gC p R s m args c D cl tys A (wld ad cI cS lay N) nL cc own Ts Z) {k : Nat} {r : Option Nat} {lv' : List (Nat × Value)} (hd : decode cc pc = .ok (.astore k, 2)) (hn : k < nL) (hl' : lvs k (orv ad r) lv = lv') (kk : gG p l e R s m args below meth c Q D cl A (wld ad cI cS lay N) nL (pc + 2) lv' st M) : gG p l e R s m args below meth c Q D cl A (wld ad cI cS lay N) nL pc lv (orv ad r :: st) M := by
  intro H locs ls hP hS hl
  cases r with
  | none => exact lv_astoreN C.1 C.2.1 hd hl hn hl' (fun ls' hl2 => kk H locs ls' hP hS hl2)
  | some q => exact lv_astore C.1 C.2.1 hd hl hn hl' (fun ls' hl2 => kk H locs ls' hP hS hl2)
theorem g_aloadO (C : gC p R s m args c D cl tys A (wld ad cI cS lay N) nL cc own Ts Z) {k : Fin 4} {r : Option Nat} (hd : decode cc pc = .ok (.aload_n k, 1)) (h : List.lookup (k : Nat) lv = some (orv ad r)) (kk : gG p l e R s m args below meth c Q D cl A (wld ad cI cS lay N) nL (pc + 1) lv (orv ad r :: st) M) : gG p l e R s m args below meth c Q D cl A (wld ad cI cS lay N) nL pc lv st M := by
  intro H locs ls hP hS hl
  cases r with
  | none => exact lv_aload_nN C.1 C.2.1 hd rfl (g_at hl h) (kk H locs ls hP hS hl)
  | some q => exact lv_aload_n C.1 C.2.1 hd rfl (g_at hl h) (kk H locs ls hP hS hl)
theorem g_aloadO' (C : gC p R s m args c D cl tys A (wld ad cI cS lay N) nL cc own Ts Z) {k : Nat} {r : Option Nat} (hd : decode cc pc = .ok (.aload k, 2)) (h : List.lookup k lv = some (orv ad r)) (kk : gG p l e R s m args below meth c Q D cl A (wld ad cI cS lay N) nL (pc + 2) lv (orv ad r :: st) M) : gG p l e R s m args below meth c Q D cl A (wld ad cI cS lay N) nL pc lv st M := by
  intro H locs ls hP hS hl
  cases r with
  | none => exact lv_aloadN C.1 C.2.1 hd (g_at hl h) (kk H locs ls hP hS hl)
  | some q => exact lv_aload C.1 C.2.1 hd (g_at hl h) (kk H locs ls hP hS hl)
end GCALL2
section GN
variable {p : Program} {l : Launch} {e : Env} {R : Room} {s : State} {m : MethodId} {args : Array Value} {below : List Frame} {meth : Method} {c : Code} {Q : State → Prop}
variable {D : va_G} {cl : List vw_C} {tys : List (ClassId × FieldType)} {A : Nat → Prop} {nL : Nat} {cc : ByteArray} {own : String} {Ts : List Cond} {Z : (Nat → Prop) → State → Prop}
variable {pc : Nat} {lv : List (Nat × Value)} {st : List Value} {M : gSt} {wl : gSt → va_W} {ad : Nat → Nat}
theorem g_aconst_null (C : gC p R s m args c D cl tys A wl nL cc own Ts Z) (hd : decode cc pc = .ok (.aconst_null, 1)) (kk : gG p l e R s m args below meth c Q D cl A wl nL (pc + 1) lv (orv ad none :: st) M) : gG p l e R s m args below meth c Q D cl A wl nL pc lv st M :=
  fun H locs ls hP hS hl => lv_null C.1 C.2.1 hd (kk H locs ls hP hS hl)
end GN
def xmax (x y : Int) : Int := if wrap x < wrap y then y else x
def xmin (x y : Int) : Int := if wrap y < wrap x then y else x
def xabs (x : Int) : Int := if 0 ≤ wrap x then x else 0 - x
section GMATH
variable {p : Program} {l : Launch} {e : Env} {R : Room} {s : State} {m : MethodId} {args : Array Value} {below : List Frame} {meth : Method} {c : Code} {Q : State → Prop}
variable {D : va_G} {cl : List vw_C} {tys : List (ClassId × FieldType)} {A : Nat → Prop} {nL : Nat} {cc : ByteArray} {own : String} {Ts : List Cond} {Z : (Nat → Prop) → State → Prop}
variable {pc : Nat} {lv : List (Nat × Value)} {st : List Value} {M : gSt} {wl : gSt → va_W}
theorem g_mmax (C : gC p R s m args c D cl tys A wl nL cc own Ts Z) {idx : Nat} {x y : Int} (hd : decode cc pc = .ok (.invokestatic idx, 3)) (h1 : Cond.methodLink own idx Lib.Math.max.name ∈ Ts) (h2 : Cond.static Lib.Math.max.name ∈ Ts) (h3 : Cond.initialized "java/lang/Math" ∈ Ts) (h4 : Cond.code Lib.Math.max.name Lib.Math.max.code 2 (some .int) ∈ Ts) (hf : 1 ≤ R.frames) (hlo : (st.map fun v => v.category).sum + 13 ≤ R.locals) (kk : gG p l e R s m args below meth c Q D cl A wl nL (pc + 3) lv (iv (xmax x y) :: st) M) : gG p l e R s m args below meth c Q D cl A wl nL pc lv (iv y :: iv x :: st) M := by
  intro H locs ls hP hS hL
  have hts := C.2.2.2.2.1
  refine va_mmax C.1 C.2.1 (by rw [C.2.2.1]; exact hL.1.symm) C.2.2.2.1 (hts _ h1) (hts _ h2) (hts _ h3) (hts _ h4) hf hlo (Nat.zero_le _) (Nat.zero_le _) hd ?_
  have h := kk H locs ls hP hS hL
  unfold xmax at h
  have e := ofInt_lt_iff x y
  by_cases q : wrap x < wrap y
  · rw [if_pos q] at h; rw [if_pos (e.mpr q)]; exact h
  · rw [if_neg q] at h; rw [if_neg (fun z => q (e.mp z))]; exact h
theorem g_mmin (C : gC p R s m args c D cl tys A wl nL cc own Ts Z) {idx : Nat} {x y : Int} (hd : decode cc pc = .ok (.invokestatic idx, 3)) (h1 : Cond.methodLink own idx Lib.Math.min.name ∈ Ts) (h2 : Cond.static Lib.Math.min.name ∈ Ts) (h3 : Cond.initialized "java/lang/Math" ∈ Ts) (h4 : Cond.code Lib.Math.min.name Lib.Math.min.code 2 (some .int) ∈ Ts) (hf : 1 ≤ R.frames) (hlo : (st.map fun v => v.category).sum + 13 ≤ R.locals) (kk : gG p l e R s m args below meth c Q D cl A wl nL (pc + 3) lv (iv (xmin x y) :: st) M) : gG p l e R s m args below meth c Q D cl A wl nL pc lv (iv y :: iv x :: st) M := by
  intro H locs ls hP hS hL
  have hts := C.2.2.2.2.1
  refine va_mmin C.1 C.2.1 (by rw [C.2.2.1]; exact hL.1.symm) C.2.2.2.1 (hts _ h1) (hts _ h2) (hts _ h3) (hts _ h4) hf hlo (Nat.zero_le _) (Nat.zero_le _) hd ?_
  have h := kk H locs ls hP hS hL
  unfold xmin at h
  have e := ofInt_lt_iff y x
  by_cases q : wrap y < wrap x
  · rw [if_pos q] at h; rw [if_pos (e.mpr q)]; exact h
  · rw [if_neg q] at h; rw [if_neg (fun z => q (e.mp z))]; exact h
theorem g_mabs (C : gC p R s m args c D cl tys A wl nL cc own Ts Z) {idx : Nat} {x : Int} (hd : decode cc pc = .ok (.invokestatic idx, 3)) (h1 : Cond.methodLink own idx Lib.Math.abs.name ∈ Ts) (h2 : Cond.static Lib.Math.abs.name ∈ Ts) (h3 : Cond.initialized "java/lang/Math" ∈ Ts) (h4 : Cond.code Lib.Math.abs.name Lib.Math.abs.code 1 (some .int) ∈ Ts) (hf : 1 ≤ R.frames) (hlo : (st.map fun v => v.category).sum + 13 ≤ R.locals) (kk : gG p l e R s m args below meth c Q D cl A wl nL (pc + 3) lv (iv (xabs x) :: st) M) : gG p l e R s m args below meth c Q D cl A wl nL pc lv (iv x :: st) M := by
  intro H locs ls hP hS hL
  have hts := C.2.2.2.2.1
  refine va_mabs C.1 C.2.1 (by rw [C.2.2.1]; exact hL.1.symm) C.2.2.2.1 (hts _ h1) (hts _ h2) (hts _ h3) (hts _ h4) hf hlo (Nat.zero_le _) (Nat.zero_le _) hd ?_
  have h := kk H locs ls hP hS hL
  unfold xabs at h
  have e : (0 : Int32) ≤ Int32.ofInt x ↔ 0 ≤ wrap x := by
    have h0 := ofInt_le_iff 0 x
    rw [wrap_0] at h0
    exact h0
  by_cases q : 0 ≤ wrap x
  · rw [if_pos q] at h; rw [if_pos (e.mpr q)]; exact h
  · rw [if_neg q] at h; rw [if_neg (fun z => q (e.mp z))]
    unfold iv at h
    rw [Int32.ofInt_sub] at h
    exact h
end GMATH
