section
-- the law's cases, one call of the class and one of the reference each
def R_law : String := "OldBronzeLaw"
def LC (p : Program) (s : State) (m : MethodId) (c : Code) (b L : Nat) (xs : Nat → Int32) (D : va_G) (cI cS : ClassId) (A : Nat → Prop) : Prop := kC p s m #[.ref b] c D clC [(cI, .int), (cS, .object "OldBronze$Sheet")] A 4 code R_law lw_tbl ∧ va_X b L xs s s.heap ∧ b < s.heap.size ∧ ¬ A b ∧ L < 2147483648 ∧ zC A s
theorem zTr : gZm (fun _ _ => True) := ⟨fun _ _ _ _ _ _ _ _ _ => trivial, fun _ _ _ _ _ _ => trivial⟩
abbrev gL (p : Program) (l : Launch) (e : Env) (s : State) (m : MethodId) (below : List Frame) (meth : Method) (c : Code) (Q : State → Prop) (D : va_G) (A : Nat → Prop) (b : Nat) (ad bd : Nat → Nat) (cI cS : ClassId) (pc : Nat) (i : Nat) (st : List Value) (Mc Mr : gSt) : Prop := gK p l e room_1 s m #[.ref b] below meth c Q D clC A 4 80 4648 pc [(0, .ref b), (1, .ref (ad 0)), (2, .ref (bd 0)), (3, iv (i : Int))] st (wC ad cI cS Mc ++ wR bd cI 9 Mr)
section LO
variable {p : Program} {l : Launch} {e : Env} {s : State} {m : MethodId} {below : List Frame} {meth : Method} {c : Code} {Q : State → Prop} {D : va_G} {A : Nat → Prop} {b L : Nat} {xs : Nat → Int32} {ad bd : Nat → Nat} {cI cS : ClassId}
theorem gl_13 : GoodIn lw_tbl (wsV R_law 13 yX8_thing.cls yX8_thing (Cond.code yX8_thing cX8_thing 3 (some .int) :: tC)) := gV_goodL in_tC tC_good (List.mem_append_right _ (List.mem_append_left _ (List.mem_of_getElem? (l := tables_1_1) (i := 236) rfl))) (List.mem_append_right _ (List.mem_append_left _ (List.mem_of_getElem? (l := tables_1_1) (i := 237) rfl))) (List.mem_append_right _ (List.mem_append_left _ (List.mem_of_getElem? (l := tables_1_1) (i := 238) rfl))) (List.mem_append_right _ (List.mem_append_left _ (List.mem_of_getElem? (l := tables_1_1) (i := 1) rfl))) (List.mem_append_right _ (List.mem_append_left _ (List.mem_of_getElem? (l := tables_1_1) (i := 239) rfl))) (by decide +kernel)
theorem gl_17 : GoodIn lw_tbl (wsV R_law 17 yX9_thing.cls yX9_thing (Cond.code yX9_thing cX9_thing 4 (some .int) :: tR)) := gV_goodL in_tR tR_good (List.mem_append_right _ (List.mem_append_right _ (List.mem_append_right _ (List.mem_append_right _ (List.mem_append_left _ (List.mem_of_getElem? (l := tables_1_4) (i := 211) rfl)))))) (List.mem_append_right _ (List.mem_append_right _ (List.mem_append_right _ (List.mem_append_right _ (List.mem_append_left _ (List.mem_of_getElem? (l := tables_1_4) (i := 212) rfl)))))) (List.mem_append_right _ (List.mem_append_right _ (List.mem_append_right _ (List.mem_append_right _ (List.mem_append_left _ (List.mem_of_getElem? (l := tables_1_4) (i := 213) rfl)))))) (List.mem_append_right _ (List.mem_append_left _ (List.mem_of_getElem? (l := tables_1_1) (i := 11) rfl))) (List.mem_append_right _ (List.mem_append_right _ (List.mem_append_right _ (List.mem_append_right _ (List.mem_append_left _ (List.mem_of_getElem? (l := tables_1_4) (i := 214) rfl)))))) (by decide +kernel)
theorem gl_18 : GoodIn lw_tbl (wsV R_law 18 yX8_thingIs.cls yX8_thingIs (Cond.code yX8_thingIs cX8_thingIs 3 (some .int) :: tC)) := gV_goodL in_tC tC_good (List.mem_append_right _ (List.mem_append_right _ (List.mem_append_left _ (List.mem_of_getElem? (l := tables_1_2) (i := 37) rfl)))) (List.mem_append_right _ (List.mem_append_right _ (List.mem_append_left _ (List.mem_of_getElem? (l := tables_1_2) (i := 38) rfl)))) (List.mem_append_right _ (List.mem_append_right _ (List.mem_append_left _ (List.mem_of_getElem? (l := tables_1_2) (i := 39) rfl)))) (List.mem_append_right _ (List.mem_append_left _ (List.mem_of_getElem? (l := tables_1_1) (i := 1) rfl))) (List.mem_append_right _ (List.mem_append_right _ (List.mem_append_left _ (List.mem_of_getElem? (l := tables_1_2) (i := 40) rfl)))) (by decide +kernel)
theorem gl_21 : GoodIn lw_tbl (wsV R_law 21 yX9_thingIs.cls yX9_thingIs (Cond.code yX9_thingIs cX9_thingIs 3 (some .int) :: tR)) := gV_goodL in_tR tR_good (List.mem_append_right _ (List.mem_append_right _ (List.mem_append_right _ (List.mem_append_right _ (List.mem_append_left _ (List.mem_of_getElem? (l := tables_1_4) (i := 233) rfl)))))) (List.mem_append_right _ (List.mem_append_right _ (List.mem_append_right _ (List.mem_append_right _ (List.mem_append_left _ (List.mem_of_getElem? (l := tables_1_4) (i := 234) rfl)))))) (List.mem_append_right _ (List.mem_append_right _ (List.mem_append_right _ (List.mem_append_right _ (List.mem_append_left _ (List.mem_of_getElem? (l := tables_1_4) (i := 235) rfl)))))) (List.mem_append_right _ (List.mem_append_left _ (List.mem_of_getElem? (l := tables_1_1) (i := 11) rfl))) (List.mem_append_right _ (List.mem_append_right _ (List.mem_append_right _ (List.mem_append_right _ (List.mem_append_left _ (List.mem_of_getElem? (l := tables_1_4) (i := 236) rfl)))))) (by decide +kernel)
theorem gl_22 : GoodIn lw_tbl (wsV R_law 22 yX8_as.cls yX8_as (Cond.code yX8_as cX8_as 3 (some .int) :: tC)) := gV_goodL in_tC tC_good (List.mem_append_right _ (List.mem_append_right _ (List.mem_append_left _ (List.mem_of_getElem? (l := tables_1_2) (i := 96) rfl)))) (List.mem_append_right _ (List.mem_append_right _ (List.mem_append_left _ (List.mem_of_getElem? (l := tables_1_2) (i := 97) rfl)))) (List.mem_append_right _ (List.mem_append_right _ (List.mem_append_left _ (List.mem_of_getElem? (l := tables_1_2) (i := 98) rfl)))) (List.mem_append_right _ (List.mem_append_left _ (List.mem_of_getElem? (l := tables_1_1) (i := 1) rfl))) (List.mem_append_right _ (List.mem_append_right _ (List.mem_append_left _ (List.mem_of_getElem? (l := tables_1_2) (i := 99) rfl)))) (by decide +kernel)
theorem gl_25 : GoodIn lw_tbl (wsV R_law 25 yX9_as.cls yX9_as (Cond.code yX9_as cX9_as 3 (some .int) :: tR)) := gV_goodL in_tR tR_good (List.mem_append_right _ (List.mem_append_right _ (List.mem_append_right _ (List.mem_append_right _ (List.mem_append_right _ (List.mem_append_left _ (List.mem_of_getElem? (l := tables_1_5) (i := 38) rfl))))))) (List.mem_append_right _ (List.mem_append_right _ (List.mem_append_right _ (List.mem_append_right _ (List.mem_append_right _ (List.mem_append_left _ (List.mem_of_getElem? (l := tables_1_5) (i := 39) rfl))))))) (List.mem_append_right _ (List.mem_append_right _ (List.mem_append_right _ (List.mem_append_right _ (List.mem_append_right _ (List.mem_append_left _ (List.mem_of_getElem? (l := tables_1_5) (i := 40) rfl))))))) (List.mem_append_right _ (List.mem_append_left _ (List.mem_of_getElem? (l := tables_1_1) (i := 11) rfl))) (List.mem_append_right _ (List.mem_append_right _ (List.mem_append_right _ (List.mem_append_right _ (List.mem_append_right _ (List.mem_append_left _ (List.mem_of_getElem? (l := tables_1_5) (i := 41) rfl))))))) (by decide +kernel)
theorem gl_26 : GoodIn lw_tbl (wsV R_law 26 yX8_set.cls yX8_set (Cond.code yX8_set cX8_set 5 (some .int) :: tC)) := gV_goodL in_tC tC_good (List.mem_append_right _ (List.mem_append_right _ (List.mem_append_left _ (List.mem_of_getElem? (l := tables_1_2) (i := 109) rfl)))) (List.mem_append_right _ (List.mem_append_right _ (List.mem_append_left _ (List.mem_of_getElem? (l := tables_1_2) (i := 110) rfl)))) (List.mem_append_right _ (List.mem_append_right _ (List.mem_append_left _ (List.mem_of_getElem? (l := tables_1_2) (i := 111) rfl)))) (List.mem_append_right _ (List.mem_append_left _ (List.mem_of_getElem? (l := tables_1_1) (i := 1) rfl))) (List.mem_append_right _ (List.mem_append_right _ (List.mem_append_left _ (List.mem_of_getElem? (l := tables_1_2) (i := 112) rfl)))) (by decide +kernel)
theorem gl_30 : GoodIn lw_tbl (wsV R_law 30 yX9_set.cls yX9_set (Cond.code yX9_set cX9_set 5 (some .int) :: tR)) := gV_goodL in_tR tR_good (List.mem_append_right _ (List.mem_append_right _ (List.mem_append_right _ (List.mem_append_right _ (List.mem_append_right _ (List.mem_append_left _ (List.mem_of_getElem? (l := tables_1_5) (i := 45) rfl))))))) (List.mem_append_right _ (List.mem_append_right _ (List.mem_append_right _ (List.mem_append_right _ (List.mem_append_right _ (List.mem_append_left _ (List.mem_of_getElem? (l := tables_1_5) (i := 46) rfl))))))) (List.mem_append_right _ (List.mem_append_right _ (List.mem_append_right _ (List.mem_append_right _ (List.mem_append_right _ (List.mem_append_left _ (List.mem_of_getElem? (l := tables_1_5) (i := 47) rfl))))))) (List.mem_append_right _ (List.mem_append_left _ (List.mem_of_getElem? (l := tables_1_1) (i := 11) rfl))) (List.mem_append_right _ (List.mem_append_right _ (List.mem_append_right _ (List.mem_append_right _ (List.mem_append_right _ (List.mem_append_left _ (List.mem_of_getElem? (l := tables_1_5) (i := 48) rfl))))))) (by decide +kernel)
theorem gl_31 : GoodIn lw_tbl (wsV R_law 31 yX8_melt.cls yX8_melt (Cond.code yX8_melt cX8_melt 3 (some .int) :: tC)) := gV_goodL in_tC tC_good (List.mem_append_right _ (List.mem_append_right _ (List.mem_append_left _ (List.mem_of_getElem? (l := tables_1_2) (i := 120) rfl)))) (List.mem_append_right _ (List.mem_append_right _ (List.mem_append_left _ (List.mem_of_getElem? (l := tables_1_2) (i := 121) rfl)))) (List.mem_append_right _ (List.mem_append_right _ (List.mem_append_left _ (List.mem_of_getElem? (l := tables_1_2) (i := 122) rfl)))) (List.mem_append_right _ (List.mem_append_left _ (List.mem_of_getElem? (l := tables_1_1) (i := 1) rfl))) (List.mem_append_right _ (List.mem_append_right _ (List.mem_append_left _ (List.mem_of_getElem? (l := tables_1_2) (i := 123) rfl)))) (by decide +kernel)
theorem gl_34 : GoodIn lw_tbl (wsV R_law 34 yX9_melt.cls yX9_melt (Cond.code yX9_melt cX9_melt 3 (some .int) :: tR)) := gV_goodL in_tR tR_good (List.mem_append_right _ (List.mem_append_right _ (List.mem_append_right _ (List.mem_append_right _ (List.mem_append_right _ (List.mem_append_left _ (List.mem_of_getElem? (l := tables_1_5) (i := 49) rfl))))))) (List.mem_append_right _ (List.mem_append_right _ (List.mem_append_right _ (List.mem_append_right _ (List.mem_append_right _ (List.mem_append_left _ (List.mem_of_getElem? (l := tables_1_5) (i := 50) rfl))))))) (List.mem_append_right _ (List.mem_append_right _ (List.mem_append_right _ (List.mem_append_right _ (List.mem_append_right _ (List.mem_append_left _ (List.mem_of_getElem? (l := tables_1_5) (i := 51) rfl))))))) (List.mem_append_right _ (List.mem_append_left _ (List.mem_of_getElem? (l := tables_1_1) (i := 11) rfl))) (List.mem_append_right _ (List.mem_append_right _ (List.mem_append_right _ (List.mem_append_right _ (List.mem_append_right _ (List.mem_append_left _ (List.mem_of_getElem? (l := tables_1_5) (i := 52) rfl))))))) (by decide +kernel)
theorem gl_35 : GoodIn lw_tbl (wsV R_law 35 yX8_crucible.cls yX8_crucible (Cond.code yX8_crucible cX8_crucible 2 (some .int) :: tC)) := gV_goodL in_tC tC_good (List.mem_append_right _ (List.mem_append_right _ (List.mem_append_left _ (List.mem_of_getElem? (l := tables_1_2) (i := 139) rfl)))) (List.mem_append_right _ (List.mem_append_right _ (List.mem_append_left _ (List.mem_of_getElem? (l := tables_1_2) (i := 140) rfl)))) (List.mem_append_right _ (List.mem_append_right _ (List.mem_append_left _ (List.mem_of_getElem? (l := tables_1_2) (i := 141) rfl)))) (List.mem_append_right _ (List.mem_append_left _ (List.mem_of_getElem? (l := tables_1_1) (i := 1) rfl))) (List.mem_append_right _ (List.mem_append_right _ (List.mem_append_left _ (List.mem_of_getElem? (l := tables_1_2) (i := 142) rfl)))) (by decide +kernel)
theorem gl_39 : GoodIn lw_tbl (wsV R_law 39 yX9_crucible.cls yX9_crucible (Cond.code yX9_crucible cX9_crucible 2 (some .int) :: tR)) := gV_goodL in_tR tR_good (List.mem_append_right _ (List.mem_append_right _ (List.mem_append_right _ (List.mem_append_right _ (List.mem_append_right _ (List.mem_append_left _ (List.mem_of_getElem? (l := tables_1_5) (i := 59) rfl))))))) (List.mem_append_right _ (List.mem_append_right _ (List.mem_append_right _ (List.mem_append_right _ (List.mem_append_right _ (List.mem_append_left _ (List.mem_of_getElem? (l := tables_1_5) (i := 60) rfl))))))) (List.mem_append_right _ (List.mem_append_right _ (List.mem_append_right _ (List.mem_append_right _ (List.mem_append_right _ (List.mem_append_left _ (List.mem_of_getElem? (l := tables_1_5) (i := 61) rfl))))))) (List.mem_append_right _ (List.mem_append_left _ (List.mem_of_getElem? (l := tables_1_1) (i := 11) rfl))) (List.mem_append_right _ (List.mem_append_right _ (List.mem_append_right _ (List.mem_append_right _ (List.mem_append_right _ (List.mem_append_left _ (List.mem_of_getElem? (l := tables_1_5) (i := 62) rfl))))))) (by decide +kernel)
theorem gl_40 : GoodIn lw_tbl (wsV R_law 40 yX8_cast.cls yX8_cast (Cond.code yX8_cast cX8_cast 6 (some .int) :: tC)) := gV_goodL in_tC tC_good (List.mem_append_right _ (List.mem_append_right _ (List.mem_append_left _ (List.mem_of_getElem? (l := tables_1_2) (i := 143) rfl)))) (List.mem_append_right _ (List.mem_append_right _ (List.mem_append_left _ (List.mem_of_getElem? (l := tables_1_2) (i := 144) rfl)))) (List.mem_append_right _ (List.mem_append_right _ (List.mem_append_left _ (List.mem_of_getElem? (l := tables_1_2) (i := 145) rfl)))) (List.mem_append_right _ (List.mem_append_left _ (List.mem_of_getElem? (l := tables_1_1) (i := 1) rfl))) (List.mem_append_right _ (List.mem_append_right _ (List.mem_append_left _ (List.mem_of_getElem? (l := tables_1_2) (i := 146) rfl)))) (by decide +kernel)
theorem gl_43 : GoodIn lw_tbl (wsV R_law 43 yX9_cast.cls yX9_cast (Cond.code yX9_cast cX9_cast 16 (some .int) :: tR)) := gV_goodL in_tR tR_good (List.mem_append_right _ (List.mem_append_right _ (List.mem_append_right _ (List.mem_append_right _ (List.mem_append_right _ (List.mem_append_left _ (List.mem_of_getElem? (l := tables_1_5) (i := 63) rfl))))))) (List.mem_append_right _ (List.mem_append_right _ (List.mem_append_right _ (List.mem_append_right _ (List.mem_append_right _ (List.mem_append_left _ (List.mem_of_getElem? (l := tables_1_5) (i := 64) rfl))))))) (List.mem_append_right _ (List.mem_append_right _ (List.mem_append_right _ (List.mem_append_right _ (List.mem_append_right _ (List.mem_append_left _ (List.mem_of_getElem? (l := tables_1_5) (i := 65) rfl))))))) (List.mem_append_right _ (List.mem_append_left _ (List.mem_of_getElem? (l := tables_1_1) (i := 11) rfl))) (List.mem_append_right _ (List.mem_append_right _ (List.mem_append_right _ (List.mem_append_right _ (List.mem_append_right _ (List.mem_append_left _ (List.mem_of_getElem? (l := tables_1_5) (i := 66) rfl))))))) (by decide +kernel)
theorem gl_44 : GoodIn lw_tbl (wsV R_law 44 yX8_years.cls yX8_years (Cond.code yX8_years cX8_years 2 (some .int) :: tC)) := gV_goodL in_tC tC_good (List.mem_append_right _ (List.mem_append_right _ (List.mem_append_left _ (List.mem_of_getElem? (l := tables_1_2) (i := 156) rfl)))) (List.mem_append_right _ (List.mem_append_right _ (List.mem_append_left _ (List.mem_of_getElem? (l := tables_1_2) (i := 157) rfl)))) (List.mem_append_right _ (List.mem_append_right _ (List.mem_append_left _ (List.mem_of_getElem? (l := tables_1_2) (i := 158) rfl)))) (List.mem_append_right _ (List.mem_append_left _ (List.mem_of_getElem? (l := tables_1_1) (i := 1) rfl))) (List.mem_append_right _ (List.mem_append_right _ (List.mem_append_left _ (List.mem_of_getElem? (l := tables_1_2) (i := 159) rfl)))) (by decide +kernel)
theorem gl_47 : GoodIn lw_tbl (wsV R_law 47 yX9_years.cls yX9_years (Cond.code yX9_years cX9_years 2 (some .int) :: tR)) := gV_goodL in_tR tR_good (List.mem_append_right _ (List.mem_append_right _ (List.mem_append_right _ (List.mem_append_right _ (List.mem_append_right _ (List.mem_append_left _ (List.mem_of_getElem? (l := tables_1_5) (i := 67) rfl))))))) (List.mem_append_right _ (List.mem_append_right _ (List.mem_append_right _ (List.mem_append_right _ (List.mem_append_right _ (List.mem_append_left _ (List.mem_of_getElem? (l := tables_1_5) (i := 68) rfl))))))) (List.mem_append_right _ (List.mem_append_right _ (List.mem_append_right _ (List.mem_append_right _ (List.mem_append_right _ (List.mem_append_left _ (List.mem_of_getElem? (l := tables_1_5) (i := 69) rfl))))))) (List.mem_append_right _ (List.mem_append_left _ (List.mem_of_getElem? (l := tables_1_1) (i := 11) rfl))) (List.mem_append_right _ (List.mem_append_right _ (List.mem_append_right _ (List.mem_append_right _ (List.mem_append_right _ (List.mem_append_left _ (List.mem_of_getElem? (l := tables_1_5) (i := 70) rfl))))))) (by decide +kernel)
theorem gl_48 : GoodIn lw_tbl (wsV R_law 48 yX8_then.cls yX8_then (Cond.code yX8_then cX8_then 4 (some .int) :: tC)) := gV_goodL in_tC tC_good (List.mem_append_right _ (List.mem_append_right _ (List.mem_append_left _ (List.mem_of_getElem? (l := tables_1_2) (i := 177) rfl)))) (List.mem_append_right _ (List.mem_append_right _ (List.mem_append_left _ (List.mem_of_getElem? (l := tables_1_2) (i := 178) rfl)))) (List.mem_append_right _ (List.mem_append_right _ (List.mem_append_left _ (List.mem_of_getElem? (l := tables_1_2) (i := 179) rfl)))) (List.mem_append_right _ (List.mem_append_left _ (List.mem_of_getElem? (l := tables_1_1) (i := 1) rfl))) (List.mem_append_right _ (List.mem_append_right _ (List.mem_append_left _ (List.mem_of_getElem? (l := tables_1_2) (i := 180) rfl)))) (by decide +kernel)
theorem gl_51 : GoodIn lw_tbl (wsV R_law 51 yX9_then.cls yX9_then (Cond.code yX9_then cX9_then 5 (some .int) :: tR)) := gV_goodL in_tR tR_good (List.mem_append_right _ (List.mem_append_right _ (List.mem_append_right _ (List.mem_append_right _ (List.mem_append_right _ (List.mem_append_left _ (List.mem_of_getElem? (l := tables_1_5) (i := 88) rfl))))))) (List.mem_append_right _ (List.mem_append_right _ (List.mem_append_right _ (List.mem_append_right _ (List.mem_append_right _ (List.mem_append_left _ (List.mem_of_getElem? (l := tables_1_5) (i := 89) rfl))))))) (List.mem_append_right _ (List.mem_append_right _ (List.mem_append_right _ (List.mem_append_right _ (List.mem_append_right _ (List.mem_append_left _ (List.mem_of_getElem? (l := tables_1_5) (i := 90) rfl))))))) (List.mem_append_right _ (List.mem_append_left _ (List.mem_of_getElem? (l := tables_1_1) (i := 11) rfl))) (List.mem_append_right _ (List.mem_append_right _ (List.mem_append_right _ (List.mem_append_right _ (List.mem_append_right _ (List.mem_append_left _ (List.mem_of_getElem? (l := tables_1_5) (i := 91) rfl))))))) (by decide +kernel)
theorem gl_52 : GoodIn lw_tbl (wsV R_law 52 yX8_seed.cls yX8_seed (Cond.code yX8_seed cX8_seed 2 (some .int) :: tC)) := gV_goodL in_tC tC_good (List.mem_append_right _ (List.mem_append_right _ (List.mem_append_left _ (List.mem_of_getElem? (l := tables_1_2) (i := 188) rfl)))) (List.mem_append_right _ (List.mem_append_right _ (List.mem_append_left _ (List.mem_of_getElem? (l := tables_1_2) (i := 189) rfl)))) (List.mem_append_right _ (List.mem_append_right _ (List.mem_append_left _ (List.mem_of_getElem? (l := tables_1_2) (i := 190) rfl)))) (List.mem_append_right _ (List.mem_append_left _ (List.mem_of_getElem? (l := tables_1_1) (i := 1) rfl))) (List.mem_append_right _ (List.mem_append_right _ (List.mem_append_left _ (List.mem_of_getElem? (l := tables_1_2) (i := 191) rfl)))) (by decide +kernel)
theorem gl_55 : GoodIn lw_tbl (wsV R_law 55 yX9_seed.cls yX9_seed (Cond.code yX9_seed cX9_seed 3 (some .int) :: tR)) := gV_goodL in_tR tR_good (List.mem_append_right _ (List.mem_append_right _ (List.mem_append_right _ (List.mem_append_right _ (List.mem_append_right _ (List.mem_append_left _ (List.mem_of_getElem? (l := tables_1_5) (i := 95) rfl))))))) (List.mem_append_right _ (List.mem_append_right _ (List.mem_append_right _ (List.mem_append_right _ (List.mem_append_right _ (List.mem_append_left _ (List.mem_of_getElem? (l := tables_1_5) (i := 96) rfl))))))) (List.mem_append_right _ (List.mem_append_right _ (List.mem_append_right _ (List.mem_append_right _ (List.mem_append_right _ (List.mem_append_left _ (List.mem_of_getElem? (l := tables_1_5) (i := 97) rfl))))))) (List.mem_append_right _ (List.mem_append_left _ (List.mem_of_getElem? (l := tables_1_1) (i := 11) rfl))) (List.mem_append_right _ (List.mem_append_right _ (List.mem_append_right _ (List.mem_append_right _ (List.mem_append_right _ (List.mem_append_left _ (List.mem_of_getElem? (l := tables_1_5) (i := 98) rfl))))))) (by decide +kernel)
theorem gl_58 : GoodIn lw_tbl (wsV R_law 58 yX8_feed.cls yX8_feed (Cond.code yX8_feed cX8_feed 5 (some .int) :: tC)) := gV_goodL in_tC tC_good (List.mem_append_right _ (List.mem_append_right _ (List.mem_append_left _ (List.mem_of_getElem? (l := tables_1_2) (i := 196) rfl)))) (List.mem_append_right _ (List.mem_append_right _ (List.mem_append_left _ (List.mem_of_getElem? (l := tables_1_2) (i := 197) rfl)))) (List.mem_append_right _ (List.mem_append_right _ (List.mem_append_left _ (List.mem_of_getElem? (l := tables_1_2) (i := 198) rfl)))) (List.mem_append_right _ (List.mem_append_left _ (List.mem_of_getElem? (l := tables_1_1) (i := 1) rfl))) (List.mem_append_right _ (List.mem_append_right _ (List.mem_append_left _ (List.mem_of_getElem? (l := tables_1_2) (i := 199) rfl)))) (by decide +kernel)
theorem gl_62 : GoodIn lw_tbl (wsV R_law 62 yX9_feed.cls yX9_feed (Cond.code yX9_feed cX9_feed 5 (some .int) :: tR)) := gV_goodL in_tR tR_good (List.mem_append_right _ (List.mem_append_right _ (List.mem_append_right _ (List.mem_append_right _ (List.mem_append_right _ (List.mem_append_left _ (List.mem_of_getElem? (l := tables_1_5) (i := 99) rfl))))))) (List.mem_append_right _ (List.mem_append_right _ (List.mem_append_right _ (List.mem_append_right _ (List.mem_append_right _ (List.mem_append_left _ (List.mem_of_getElem? (l := tables_1_5) (i := 100) rfl))))))) (List.mem_append_right _ (List.mem_append_right _ (List.mem_append_right _ (List.mem_append_right _ (List.mem_append_right _ (List.mem_append_left _ (List.mem_of_getElem? (l := tables_1_5) (i := 101) rfl))))))) (List.mem_append_right _ (List.mem_append_left _ (List.mem_of_getElem? (l := tables_1_1) (i := 11) rfl))) (List.mem_append_right _ (List.mem_append_right _ (List.mem_append_right _ (List.mem_append_right _ (List.mem_append_right _ (List.mem_append_left _ (List.mem_of_getElem? (l := tables_1_5) (i := 102) rfl))))))) (by decide +kernel)
theorem gl_63 : GoodIn lw_tbl (wsV R_law 63 yX8_text.cls yX8_text (Cond.code yX8_text cX8_text 3 (some .int) :: tC)) := gV_goodL in_tC tC_good (List.mem_append_right _ (List.mem_append_right _ (List.mem_append_left _ (List.mem_of_getElem? (l := tables_1_2) (i := 214) rfl)))) (List.mem_append_right _ (List.mem_append_right _ (List.mem_append_left _ (List.mem_of_getElem? (l := tables_1_2) (i := 215) rfl)))) (List.mem_append_right _ (List.mem_append_right _ (List.mem_append_left _ (List.mem_of_getElem? (l := tables_1_2) (i := 216) rfl)))) (List.mem_append_right _ (List.mem_append_left _ (List.mem_of_getElem? (l := tables_1_1) (i := 1) rfl))) (List.mem_append_right _ (List.mem_append_right _ (List.mem_append_left _ (List.mem_of_getElem? (l := tables_1_2) (i := 217) rfl)))) (by decide +kernel)
theorem gl_66 : GoodIn lw_tbl (wsV R_law 66 yX9_text.cls yX9_text (Cond.code yX9_text cX9_text 5 (some .int) :: tR)) := gV_goodL in_tR tR_good (List.mem_append_right _ (List.mem_append_right _ (List.mem_append_right _ (List.mem_append_right _ (List.mem_append_right _ (List.mem_append_left _ (List.mem_of_getElem? (l := tables_1_5) (i := 104) rfl))))))) (List.mem_append_right _ (List.mem_append_right _ (List.mem_append_right _ (List.mem_append_right _ (List.mem_append_right _ (List.mem_append_left _ (List.mem_of_getElem? (l := tables_1_5) (i := 105) rfl))))))) (List.mem_append_right _ (List.mem_append_right _ (List.mem_append_right _ (List.mem_append_right _ (List.mem_append_right _ (List.mem_append_left _ (List.mem_of_getElem? (l := tables_1_5) (i := 106) rfl))))))) (List.mem_append_right _ (List.mem_append_left _ (List.mem_of_getElem? (l := tables_1_1) (i := 11) rfl))) (List.mem_append_right _ (List.mem_append_right _ (List.mem_append_right _ (List.mem_append_right _ (List.mem_append_right _ (List.mem_append_left _ (List.mem_of_getElem? (l := tables_1_5) (i := 107) rfl))))))) (by decide +kernel)
theorem gl_67 : GoodIn lw_tbl (wsV R_law 67 yX8_untell.cls yX8_untell (Cond.code yX8_untell cX8_untell 3 (some .int) :: tC)) := gV_goodL in_tC tC_good (List.mem_append_right _ (List.mem_append_right _ (List.mem_append_right _ (List.mem_append_left _ (List.mem_of_getElem? (l := tables_1_3) (i := 39) rfl))))) (List.mem_append_right _ (List.mem_append_right _ (List.mem_append_right _ (List.mem_append_left _ (List.mem_of_getElem? (l := tables_1_3) (i := 40) rfl))))) (List.mem_append_right _ (List.mem_append_right _ (List.mem_append_right _ (List.mem_append_left _ (List.mem_of_getElem? (l := tables_1_3) (i := 41) rfl))))) (List.mem_append_right _ (List.mem_append_left _ (List.mem_of_getElem? (l := tables_1_1) (i := 1) rfl))) (List.mem_append_right _ (List.mem_append_right _ (List.mem_append_right _ (List.mem_append_left _ (List.mem_of_getElem? (l := tables_1_3) (i := 42) rfl))))) (by decide +kernel)
theorem gl_70 : GoodIn lw_tbl (wsV R_law 70 yX9_untell.cls yX9_untell (Cond.code yX9_untell cX9_untell 3 (some .int) :: tR)) := gV_goodL in_tR tR_good (List.mem_append_right _ (List.mem_append_right _ (List.mem_append_right _ (List.mem_append_right _ (List.mem_append_right _ (List.mem_append_left _ (List.mem_of_getElem? (l := tables_1_5) (i := 148) rfl))))))) (List.mem_append_right _ (List.mem_append_right _ (List.mem_append_right _ (List.mem_append_right _ (List.mem_append_right _ (List.mem_append_left _ (List.mem_of_getElem? (l := tables_1_5) (i := 149) rfl))))))) (List.mem_append_right _ (List.mem_append_right _ (List.mem_append_right _ (List.mem_append_right _ (List.mem_append_right _ (List.mem_append_left _ (List.mem_of_getElem? (l := tables_1_5) (i := 150) rfl))))))) (List.mem_append_right _ (List.mem_append_left _ (List.mem_of_getElem? (l := tables_1_1) (i := 11) rfl))) (List.mem_append_right _ (List.mem_append_right _ (List.mem_append_right _ (List.mem_append_right _ (List.mem_append_right _ (List.mem_append_left _ (List.mem_of_getElem? (l := tables_1_5) (i := 151) rfl))))))) (by decide +kernel)
theorem gl_71 : GoodIn lw_tbl (wsV R_law 71 yX8_claim.cls yX8_claim (Cond.code yX8_claim cX8_claim 3 (some .int) :: tC)) := gV_goodL in_tC tC_good (List.mem_append_right _ (List.mem_append_right _ (List.mem_append_right _ (List.mem_append_left _ (List.mem_of_getElem? (l := tables_1_3) (i := 43) rfl))))) (List.mem_append_right _ (List.mem_append_right _ (List.mem_append_right _ (List.mem_append_left _ (List.mem_of_getElem? (l := tables_1_3) (i := 44) rfl))))) (List.mem_append_right _ (List.mem_append_right _ (List.mem_append_right _ (List.mem_append_left _ (List.mem_of_getElem? (l := tables_1_3) (i := 45) rfl))))) (List.mem_append_right _ (List.mem_append_left _ (List.mem_of_getElem? (l := tables_1_1) (i := 1) rfl))) (List.mem_append_right _ (List.mem_append_right _ (List.mem_append_right _ (List.mem_append_left _ (List.mem_of_getElem? (l := tables_1_3) (i := 46) rfl))))) (by decide +kernel)
theorem gl_74 : GoodIn lw_tbl (wsV R_law 74 yX9_claim.cls yX9_claim (Cond.code yX9_claim cX9_claim 3 (some .int) :: tR)) := gV_goodL in_tR tR_good (List.mem_append_right _ (List.mem_append_right _ (List.mem_append_right _ (List.mem_append_right _ (List.mem_append_right _ (List.mem_append_left _ (List.mem_of_getElem? (l := tables_1_5) (i := 152) rfl))))))) (List.mem_append_right _ (List.mem_append_right _ (List.mem_append_right _ (List.mem_append_right _ (List.mem_append_right _ (List.mem_append_left _ (List.mem_of_getElem? (l := tables_1_5) (i := 153) rfl))))))) (List.mem_append_right _ (List.mem_append_right _ (List.mem_append_right _ (List.mem_append_right _ (List.mem_append_right _ (List.mem_append_left _ (List.mem_of_getElem? (l := tables_1_5) (i := 154) rfl))))))) (List.mem_append_right _ (List.mem_append_left _ (List.mem_of_getElem? (l := tables_1_1) (i := 11) rfl))) (List.mem_append_right _ (List.mem_append_right _ (List.mem_append_right _ (List.mem_append_right _ (List.mem_append_right _ (List.mem_append_left _ (List.mem_of_getElem? (l := tables_1_5) (i := 155) rfl))))))) (by decide +kernel)
theorem gl_75 : GoodIn lw_tbl (wsV R_law 75 yX8_claimIs.cls yX8_claimIs (Cond.code yX8_claimIs cX8_claimIs 3 (some .int) :: tC)) := gV_goodL in_tC tC_good (List.mem_append_right _ (List.mem_append_right _ (List.mem_append_right _ (List.mem_append_left _ (List.mem_of_getElem? (l := tables_1_3) (i := 48) rfl))))) (List.mem_append_right _ (List.mem_append_right _ (List.mem_append_right _ (List.mem_append_left _ (List.mem_of_getElem? (l := tables_1_3) (i := 49) rfl))))) (List.mem_append_right _ (List.mem_append_right _ (List.mem_append_right _ (List.mem_append_left _ (List.mem_of_getElem? (l := tables_1_3) (i := 50) rfl))))) (List.mem_append_right _ (List.mem_append_left _ (List.mem_of_getElem? (l := tables_1_1) (i := 1) rfl))) (List.mem_append_right _ (List.mem_append_right _ (List.mem_append_right _ (List.mem_append_left _ (List.mem_of_getElem? (l := tables_1_3) (i := 51) rfl))))) (by decide +kernel)
theorem gl_78 : GoodIn lw_tbl (wsV R_law 78 yX9_claimIs.cls yX9_claimIs (Cond.code yX9_claimIs cX9_claimIs 3 (some .int) :: tR)) := gV_goodL in_tR tR_good (List.mem_append_right _ (List.mem_append_right _ (List.mem_append_right _ (List.mem_append_right _ (List.mem_append_right _ (List.mem_append_left _ (List.mem_of_getElem? (l := tables_1_5) (i := 157) rfl))))))) (List.mem_append_right _ (List.mem_append_right _ (List.mem_append_right _ (List.mem_append_right _ (List.mem_append_right _ (List.mem_append_left _ (List.mem_of_getElem? (l := tables_1_5) (i := 158) rfl))))))) (List.mem_append_right _ (List.mem_append_right _ (List.mem_append_right _ (List.mem_append_right _ (List.mem_append_right _ (List.mem_append_left _ (List.mem_of_getElem? (l := tables_1_5) (i := 159) rfl))))))) (List.mem_append_right _ (List.mem_append_left _ (List.mem_of_getElem? (l := tables_1_1) (i := 11) rfl))) (List.mem_append_right _ (List.mem_append_right _ (List.mem_append_right _ (List.mem_append_right _ (List.mem_append_right _ (List.mem_append_left _ (List.mem_of_getElem? (l := tables_1_5) (i := 160) rfl))))))) (by decide +kernel)
theorem gl_79 : GoodIn lw_tbl (wsV R_law 79 yX8_share.cls yX8_share (Cond.code yX8_share cX8_share 3 (some .int) :: tC)) := gV_goodL in_tC tC_good (List.mem_append_right _ (List.mem_append_right _ (List.mem_append_right _ (List.mem_append_left _ (List.mem_of_getElem? (l := tables_1_3) (i := 63) rfl))))) (List.mem_append_right _ (List.mem_append_right _ (List.mem_append_right _ (List.mem_append_left _ (List.mem_of_getElem? (l := tables_1_3) (i := 64) rfl))))) (List.mem_append_right _ (List.mem_append_right _ (List.mem_append_right _ (List.mem_append_left _ (List.mem_of_getElem? (l := tables_1_3) (i := 65) rfl))))) (List.mem_append_right _ (List.mem_append_left _ (List.mem_of_getElem? (l := tables_1_1) (i := 1) rfl))) (List.mem_append_right _ (List.mem_append_right _ (List.mem_append_right _ (List.mem_append_left _ (List.mem_of_getElem? (l := tables_1_3) (i := 66) rfl))))) (by decide +kernel)
theorem gl_82 : GoodIn lw_tbl (wsV R_law 82 yX9_share.cls yX9_share (Cond.code yX9_share cX9_share 3 (some .int) :: tR)) := gV_goodL in_tR tR_good (List.mem_append_right _ (List.mem_append_right _ (List.mem_append_right _ (List.mem_append_right _ (List.mem_append_right _ (List.mem_append_left _ (List.mem_of_getElem? (l := tables_1_5) (i := 177) rfl))))))) (List.mem_append_right _ (List.mem_append_right _ (List.mem_append_right _ (List.mem_append_right _ (List.mem_append_right _ (List.mem_append_left _ (List.mem_of_getElem? (l := tables_1_5) (i := 178) rfl))))))) (List.mem_append_right _ (List.mem_append_right _ (List.mem_append_right _ (List.mem_append_right _ (List.mem_append_right _ (List.mem_append_left _ (List.mem_of_getElem? (l := tables_1_5) (i := 179) rfl))))))) (List.mem_append_right _ (List.mem_append_left _ (List.mem_of_getElem? (l := tables_1_1) (i := 11) rfl))) (List.mem_append_right _ (List.mem_append_right _ (List.mem_append_right _ (List.mem_append_right _ (List.mem_append_right _ (List.mem_append_left _ (List.mem_of_getElem? (l := tables_1_5) (i := 180) rfl))))))) (by decide +kernel)
theorem gl_83 : GoodIn lw_tbl (wsV R_law 83 yX8_left.cls yX8_left (Cond.code yX8_left cX8_left 3 (some .int) :: tC)) := gV_goodL in_tC tC_good (List.mem_append_right _ (List.mem_append_right _ (List.mem_append_right _ (List.mem_append_left _ (List.mem_of_getElem? (l := tables_1_3) (i := 76) rfl))))) (List.mem_append_right _ (List.mem_append_right _ (List.mem_append_right _ (List.mem_append_left _ (List.mem_of_getElem? (l := tables_1_3) (i := 77) rfl))))) (List.mem_append_right _ (List.mem_append_right _ (List.mem_append_right _ (List.mem_append_left _ (List.mem_of_getElem? (l := tables_1_3) (i := 78) rfl))))) (List.mem_append_right _ (List.mem_append_left _ (List.mem_of_getElem? (l := tables_1_1) (i := 1) rfl))) (List.mem_append_right _ (List.mem_append_right _ (List.mem_append_right _ (List.mem_append_left _ (List.mem_of_getElem? (l := tables_1_3) (i := 79) rfl))))) (by decide +kernel)
theorem gl_86 : GoodIn lw_tbl (wsV R_law 86 yX9_left.cls yX9_left (Cond.code yX9_left cX9_left 5 (some .int) :: tR)) := gV_goodL in_tR tR_good (List.mem_append_right _ (List.mem_append_right _ (List.mem_append_right _ (List.mem_append_right _ (List.mem_append_right _ (List.mem_append_left _ (List.mem_of_getElem? (l := tables_1_5) (i := 192) rfl))))))) (List.mem_append_right _ (List.mem_append_right _ (List.mem_append_right _ (List.mem_append_right _ (List.mem_append_right _ (List.mem_append_left _ (List.mem_of_getElem? (l := tables_1_5) (i := 193) rfl))))))) (List.mem_append_right _ (List.mem_append_right _ (List.mem_append_right _ (List.mem_append_right _ (List.mem_append_right _ (List.mem_append_left _ (List.mem_of_getElem? (l := tables_1_5) (i := 194) rfl))))))) (List.mem_append_right _ (List.mem_append_left _ (List.mem_of_getElem? (l := tables_1_1) (i := 11) rfl))) (List.mem_append_right _ (List.mem_append_right _ (List.mem_append_right _ (List.mem_append_right _ (List.mem_append_right _ (List.mem_append_left _ (List.mem_of_getElem? (l := tables_1_5) (i := 195) rfl))))))) (by decide +kernel)
theorem gl_87 : GoodIn lw_tbl (wsV R_law 87 yX8_paper.cls yX8_paper (Cond.code yX8_paper cX8_paper 4 (some .int) :: tC)) := gV_goodL in_tC tC_good (List.mem_append_right _ (List.mem_append_right _ (List.mem_append_right _ (List.mem_append_left _ (List.mem_of_getElem? (l := tables_1_3) (i := 85) rfl))))) (List.mem_append_right _ (List.mem_append_right _ (List.mem_append_right _ (List.mem_append_left _ (List.mem_of_getElem? (l := tables_1_3) (i := 86) rfl))))) (List.mem_append_right _ (List.mem_append_right _ (List.mem_append_right _ (List.mem_append_left _ (List.mem_of_getElem? (l := tables_1_3) (i := 87) rfl))))) (List.mem_append_right _ (List.mem_append_left _ (List.mem_of_getElem? (l := tables_1_1) (i := 1) rfl))) (List.mem_append_right _ (List.mem_append_right _ (List.mem_append_right _ (List.mem_append_left _ (List.mem_of_getElem? (l := tables_1_3) (i := 88) rfl))))) (by decide +kernel)
theorem gl_90 : GoodIn lw_tbl (wsV R_law 90 yX9_paper.cls yX9_paper (Cond.code yX9_paper cX9_paper 4 (some .int) :: tR)) := gV_goodL in_tR tR_good (List.mem_append_right _ (List.mem_append_right _ (List.mem_append_right _ (List.mem_append_right _ (List.mem_append_right _ (List.mem_append_left _ (List.mem_of_getElem? (l := tables_1_5) (i := 196) rfl))))))) (List.mem_append_right _ (List.mem_append_right _ (List.mem_append_right _ (List.mem_append_right _ (List.mem_append_right _ (List.mem_append_left _ (List.mem_of_getElem? (l := tables_1_5) (i := 197) rfl))))))) (List.mem_append_right _ (List.mem_append_right _ (List.mem_append_right _ (List.mem_append_right _ (List.mem_append_right _ (List.mem_append_left _ (List.mem_of_getElem? (l := tables_1_5) (i := 198) rfl))))))) (List.mem_append_right _ (List.mem_append_left _ (List.mem_of_getElem? (l := tables_1_1) (i := 11) rfl))) (List.mem_append_right _ (List.mem_append_right _ (List.mem_append_right _ (List.mem_append_right _ (List.mem_append_right _ (List.mem_append_left _ (List.mem_of_getElem? (l := tables_1_5) (i := 199) rfl))))))) (by decide +kernel)
theorem gl_91 : GoodIn lw_tbl (wsV R_law 91 yX8_weigh.cls yX8_weigh (Cond.code yX8_weigh cX8_weigh 4 (some .int) :: tC)) := gV_goodL in_tC tC_good (List.mem_append_right _ (List.mem_append_right _ (List.mem_append_right _ (List.mem_append_left _ (List.mem_of_getElem? (l := tables_1_3) (i := 93) rfl))))) (List.mem_append_right _ (List.mem_append_right _ (List.mem_append_right _ (List.mem_append_left _ (List.mem_of_getElem? (l := tables_1_3) (i := 94) rfl))))) (List.mem_append_right _ (List.mem_append_right _ (List.mem_append_right _ (List.mem_append_left _ (List.mem_of_getElem? (l := tables_1_3) (i := 95) rfl))))) (List.mem_append_right _ (List.mem_append_left _ (List.mem_of_getElem? (l := tables_1_1) (i := 1) rfl))) (List.mem_append_right _ (List.mem_append_right _ (List.mem_append_right _ (List.mem_append_left _ (List.mem_of_getElem? (l := tables_1_3) (i := 96) rfl))))) (by decide +kernel)
theorem gl_94 : GoodIn lw_tbl (wsV R_law 94 yX9_weigh.cls yX9_weigh (Cond.code yX9_weigh cX9_weigh 5 (some .int) :: tR)) := gV_goodL in_tR tR_good (List.mem_append_right _ (List.mem_append_right _ (List.mem_append_right _ (List.mem_append_right _ (List.mem_append_right _ (List.mem_append_left _ (List.mem_of_getElem? (l := tables_1_5) (i := 208) rfl))))))) (List.mem_append_right _ (List.mem_append_right _ (List.mem_append_right _ (List.mem_append_right _ (List.mem_append_right _ (List.mem_append_left _ (List.mem_of_getElem? (l := tables_1_5) (i := 209) rfl))))))) (List.mem_append_right _ (List.mem_append_right _ (List.mem_append_right _ (List.mem_append_right _ (List.mem_append_right _ (List.mem_append_left _ (List.mem_of_getElem? (l := tables_1_5) (i := 210) rfl))))))) (List.mem_append_right _ (List.mem_append_left _ (List.mem_of_getElem? (l := tables_1_1) (i := 11) rfl))) (List.mem_append_right _ (List.mem_append_right _ (List.mem_append_right _ (List.mem_append_right _ (List.mem_append_right _ (List.mem_append_left _ (List.mem_of_getElem? (l := tables_1_5) (i := 211) rfl))))))) (by decide +kernel)
theorem gl_95 : GoodIn lw_tbl (wsV R_law 95 yX8_forget.cls yX8_forget (Cond.code yX8_forget cX8_forget 4 (some .int) :: tC)) := gV_goodL in_tC tC_good (List.mem_append_right _ (List.mem_append_right _ (List.mem_append_right _ (List.mem_append_left _ (List.mem_of_getElem? (l := tables_1_3) (i := 97) rfl))))) (List.mem_append_right _ (List.mem_append_right _ (List.mem_append_right _ (List.mem_append_left _ (List.mem_of_getElem? (l := tables_1_3) (i := 98) rfl))))) (List.mem_append_right _ (List.mem_append_right _ (List.mem_append_right _ (List.mem_append_left _ (List.mem_of_getElem? (l := tables_1_3) (i := 99) rfl))))) (List.mem_append_right _ (List.mem_append_left _ (List.mem_of_getElem? (l := tables_1_1) (i := 1) rfl))) (List.mem_append_right _ (List.mem_append_right _ (List.mem_append_right _ (List.mem_append_left _ (List.mem_of_getElem? (l := tables_1_3) (i := 100) rfl))))) (by decide +kernel)
theorem gl_98 : GoodIn lw_tbl (wsV R_law 98 yX9_forget.cls yX9_forget (Cond.code yX9_forget cX9_forget 3 (some .int) :: tR)) := gV_goodL in_tR tR_good (List.mem_append_right _ (List.mem_append_right _ (List.mem_append_right _ (List.mem_append_right _ (List.mem_append_right _ (List.mem_append_left _ (List.mem_of_getElem? (l := tables_1_5) (i := 212) rfl))))))) (List.mem_append_right _ (List.mem_append_right _ (List.mem_append_right _ (List.mem_append_right _ (List.mem_append_right _ (List.mem_append_left _ (List.mem_of_getElem? (l := tables_1_5) (i := 213) rfl))))))) (List.mem_append_right _ (List.mem_append_right _ (List.mem_append_right _ (List.mem_append_right _ (List.mem_append_right _ (List.mem_append_left _ (List.mem_of_getElem? (l := tables_1_5) (i := 214) rfl))))))) (List.mem_append_right _ (List.mem_append_left _ (List.mem_of_getElem? (l := tables_1_1) (i := 11) rfl))) (List.mem_append_right _ (List.mem_append_right _ (List.mem_append_right _ (List.mem_append_right _ (List.mem_append_right _ (List.mem_append_left _ (List.mem_of_getElem? (l := tables_1_5) (i := 215) rfl))))))) (by decide +kernel)
theorem gl_99 : GoodIn lw_tbl (wsV R_law 99 yX8_by.cls yX8_by (Cond.code yX8_by cX8_by 4 (some .int) :: tC)) := gV_goodL in_tC tC_good (List.mem_append_right _ (List.mem_append_right _ (List.mem_append_right _ (List.mem_append_left _ (List.mem_of_getElem? (l := tables_1_3) (i := 101) rfl))))) (List.mem_append_right _ (List.mem_append_right _ (List.mem_append_right _ (List.mem_append_left _ (List.mem_of_getElem? (l := tables_1_3) (i := 102) rfl))))) (List.mem_append_right _ (List.mem_append_right _ (List.mem_append_right _ (List.mem_append_left _ (List.mem_of_getElem? (l := tables_1_3) (i := 103) rfl))))) (List.mem_append_right _ (List.mem_append_left _ (List.mem_of_getElem? (l := tables_1_1) (i := 1) rfl))) (List.mem_append_right _ (List.mem_append_right _ (List.mem_append_right _ (List.mem_append_left _ (List.mem_of_getElem? (l := tables_1_3) (i := 104) rfl))))) (by decide +kernel)
theorem gl_102 : GoodIn lw_tbl (wsV R_law 102 yX9_by.cls yX9_by (Cond.code yX9_by cX9_by 4 (some .int) :: tR)) := gV_goodL in_tR tR_good (List.mem_append_right _ (List.mem_append_right _ (List.mem_append_right _ (List.mem_append_right _ (List.mem_append_right _ (List.mem_append_left _ (List.mem_of_getElem? (l := tables_1_5) (i := 216) rfl))))))) (List.mem_append_right _ (List.mem_append_right _ (List.mem_append_right _ (List.mem_append_right _ (List.mem_append_right _ (List.mem_append_left _ (List.mem_of_getElem? (l := tables_1_5) (i := 217) rfl))))))) (List.mem_append_right _ (List.mem_append_right _ (List.mem_append_right _ (List.mem_append_right _ (List.mem_append_right _ (List.mem_append_left _ (List.mem_of_getElem? (l := tables_1_5) (i := 218) rfl))))))) (List.mem_append_right _ (List.mem_append_left _ (List.mem_of_getElem? (l := tables_1_1) (i := 11) rfl))) (List.mem_append_right _ (List.mem_append_right _ (List.mem_append_right _ (List.mem_append_right _ (List.mem_append_right _ (List.mem_append_left _ (List.mem_of_getElem? (l := tables_1_5) (i := 219) rfl))))))) (by decide +kernel)
theorem gl_103 : GoodIn lw_tbl (wsV R_law 103 yX8_fits.cls yX8_fits (Cond.code yX8_fits cX8_fits 3 (some .int) :: tC)) := gV_goodL in_tC tC_good (List.mem_append_right _ (List.mem_append_right _ (List.mem_append_right _ (List.mem_append_left _ (List.mem_of_getElem? (l := tables_1_3) (i := 126) rfl))))) (List.mem_append_right _ (List.mem_append_right _ (List.mem_append_right _ (List.mem_append_left _ (List.mem_of_getElem? (l := tables_1_3) (i := 127) rfl))))) (List.mem_append_right _ (List.mem_append_right _ (List.mem_append_right _ (List.mem_append_left _ (List.mem_of_getElem? (l := tables_1_3) (i := 128) rfl))))) (List.mem_append_right _ (List.mem_append_left _ (List.mem_of_getElem? (l := tables_1_1) (i := 1) rfl))) (List.mem_append_right _ (List.mem_append_right _ (List.mem_append_right _ (List.mem_append_left _ (List.mem_of_getElem? (l := tables_1_3) (i := 129) rfl))))) (by decide +kernel)
theorem gl_106 : GoodIn lw_tbl (wsV R_law 106 yX9_fits.cls yX9_fits (Cond.code yX9_fits cX9_fits 6 (some .int) :: tR)) := gV_goodL in_tR tR_good (List.mem_append_right _ (List.mem_append_right _ (List.mem_append_right _ (List.mem_append_right _ (List.mem_append_right _ (List.mem_append_left _ (List.mem_of_getElem? (l := tables_1_5) (i := 236) rfl))))))) (List.mem_append_right _ (List.mem_append_right _ (List.mem_append_right _ (List.mem_append_right _ (List.mem_append_right _ (List.mem_append_left _ (List.mem_of_getElem? (l := tables_1_5) (i := 237) rfl))))))) (List.mem_append_right _ (List.mem_append_right _ (List.mem_append_right _ (List.mem_append_right _ (List.mem_append_right _ (List.mem_append_left _ (List.mem_of_getElem? (l := tables_1_5) (i := 238) rfl))))))) (List.mem_append_right _ (List.mem_append_left _ (List.mem_of_getElem? (l := tables_1_1) (i := 11) rfl))) (List.mem_append_right _ (List.mem_append_right _ (List.mem_append_right _ (List.mem_append_right _ (List.mem_append_right _ (List.mem_append_left _ (List.mem_of_getElem? (l := tables_1_5) (i := 239) rfl))))))) (by decide +kernel)
theorem gl_107 : GoodIn lw_tbl (wsV R_law 107 yX8_span.cls yX8_span (Cond.code yX8_span cX8_span 4 (some .int) :: tC)) := gV_goodL in_tC tC_good (List.mem_append_right _ (List.mem_append_right _ (List.mem_append_right _ (List.mem_append_left _ (List.mem_of_getElem? (l := tables_1_3) (i := 176) rfl))))) (List.mem_append_right _ (List.mem_append_right _ (List.mem_append_right _ (List.mem_append_left _ (List.mem_of_getElem? (l := tables_1_3) (i := 177) rfl))))) (List.mem_append_right _ (List.mem_append_right _ (List.mem_append_right _ (List.mem_append_left _ (List.mem_of_getElem? (l := tables_1_3) (i := 178) rfl))))) (List.mem_append_right _ (List.mem_append_left _ (List.mem_of_getElem? (l := tables_1_1) (i := 1) rfl))) (List.mem_append_right _ (List.mem_append_right _ (List.mem_append_right _ (List.mem_append_left _ (List.mem_of_getElem? (l := tables_1_3) (i := 179) rfl))))) (by decide +kernel)
theorem gl_110 : GoodIn lw_tbl (wsV R_law 110 yX9_span.cls yX9_span (Cond.code yX9_span cX9_span 7 (some .int) :: tR)) := gV_goodL in_tR tR_good (List.mem_append_right _ (List.mem_append_right _ (List.mem_append_right _ (List.mem_append_right _ (List.mem_append_right _ (List.mem_append_right _ (List.mem_of_getElem? (l := tables_1_6) (i := 11) rfl))))))) (List.mem_append_right _ (List.mem_append_right _ (List.mem_append_right _ (List.mem_append_right _ (List.mem_append_right _ (List.mem_append_right _ (List.mem_of_getElem? (l := tables_1_6) (i := 12) rfl))))))) (List.mem_append_right _ (List.mem_append_right _ (List.mem_append_right _ (List.mem_append_right _ (List.mem_append_right _ (List.mem_append_right _ (List.mem_of_getElem? (l := tables_1_6) (i := 13) rfl))))))) (List.mem_append_right _ (List.mem_append_left _ (List.mem_of_getElem? (l := tables_1_1) (i := 11) rfl))) (List.mem_append_right _ (List.mem_append_right _ (List.mem_append_right _ (List.mem_append_right _ (List.mem_append_right _ (List.mem_append_right _ (List.mem_of_getElem? (l := tables_1_6) (i := 14) rfl))))))) (by decide +kernel)
theorem gl_111 : GoodIn lw_tbl (wsV R_law 111 yX8_next.cls yX8_next (Cond.code yX8_next cX8_next 1 (some .int) :: tC)) := gV_goodL in_tC tC_good (List.mem_append_right _ (List.mem_append_right _ (List.mem_append_right _ (List.mem_append_left _ (List.mem_of_getElem? (l := tables_1_3) (i := 184) rfl))))) (List.mem_append_right _ (List.mem_append_right _ (List.mem_append_right _ (List.mem_append_left _ (List.mem_of_getElem? (l := tables_1_3) (i := 185) rfl))))) (List.mem_append_right _ (List.mem_append_right _ (List.mem_append_right _ (List.mem_append_left _ (List.mem_of_getElem? (l := tables_1_3) (i := 186) rfl))))) (List.mem_append_right _ (List.mem_append_left _ (List.mem_of_getElem? (l := tables_1_1) (i := 1) rfl))) (List.mem_append_right _ (List.mem_append_right _ (List.mem_append_right _ (List.mem_append_left _ (List.mem_of_getElem? (l := tables_1_3) (i := 187) rfl))))) (by decide +kernel)
theorem gl_115 : GoodIn lw_tbl (wsV R_law 115 yX9_next.cls yX9_next (Cond.code yX9_next cX9_next 3 (some .int) :: tR)) := gV_goodL in_tR tR_good (List.mem_append_right _ (List.mem_append_right _ (List.mem_append_right _ (List.mem_append_right _ (List.mem_append_right _ (List.mem_append_right _ (List.mem_of_getElem? (l := tables_1_6) (i := 15) rfl))))))) (List.mem_append_right _ (List.mem_append_right _ (List.mem_append_right _ (List.mem_append_right _ (List.mem_append_right _ (List.mem_append_right _ (List.mem_of_getElem? (l := tables_1_6) (i := 16) rfl))))))) (List.mem_append_right _ (List.mem_append_right _ (List.mem_append_right _ (List.mem_append_right _ (List.mem_append_right _ (List.mem_append_right _ (List.mem_of_getElem? (l := tables_1_6) (i := 17) rfl))))))) (List.mem_append_right _ (List.mem_append_left _ (List.mem_of_getElem? (l := tables_1_1) (i := 11) rfl))) (List.mem_append_right _ (List.mem_append_right _ (List.mem_append_right _ (List.mem_append_right _ (List.mem_append_right _ (List.mem_append_right _ (List.mem_of_getElem? (l := tables_1_6) (i := 18) rfl))))))) (by decide +kernel)
theorem gl_116 : GoodIn lw_tbl (wsV R_law 116 yX8_most.cls yX8_most (Cond.code yX8_most cX8_most 5 (some .int) :: tC)) := gV_goodL in_tC tC_good (List.mem_append_right _ (List.mem_append_right _ (List.mem_append_right _ (List.mem_append_left _ (List.mem_of_getElem? (l := tables_1_3) (i := 204) rfl))))) (List.mem_append_right _ (List.mem_append_right _ (List.mem_append_right _ (List.mem_append_left _ (List.mem_of_getElem? (l := tables_1_3) (i := 205) rfl))))) (List.mem_append_right _ (List.mem_append_right _ (List.mem_append_right _ (List.mem_append_left _ (List.mem_of_getElem? (l := tables_1_3) (i := 206) rfl))))) (List.mem_append_right _ (List.mem_append_left _ (List.mem_of_getElem? (l := tables_1_1) (i := 1) rfl))) (List.mem_append_right _ (List.mem_append_right _ (List.mem_append_right _ (List.mem_append_left _ (List.mem_of_getElem? (l := tables_1_3) (i := 207) rfl))))) (by decide +kernel)
theorem gl_119 : GoodIn lw_tbl (wsV R_law 119 yX9_most.cls yX9_most (Cond.code yX9_most cX9_most 7 (some .int) :: tR)) := gV_goodL in_tR tR_good (List.mem_append_right _ (List.mem_append_right _ (List.mem_append_right _ (List.mem_append_right _ (List.mem_append_right _ (List.mem_append_right _ (List.mem_of_getElem? (l := tables_1_6) (i := 23) rfl))))))) (List.mem_append_right _ (List.mem_append_right _ (List.mem_append_right _ (List.mem_append_right _ (List.mem_append_right _ (List.mem_append_right _ (List.mem_of_getElem? (l := tables_1_6) (i := 24) rfl))))))) (List.mem_append_right _ (List.mem_append_right _ (List.mem_append_right _ (List.mem_append_right _ (List.mem_append_right _ (List.mem_append_right _ (List.mem_of_getElem? (l := tables_1_6) (i := 25) rfl))))))) (List.mem_append_right _ (List.mem_append_left _ (List.mem_of_getElem? (l := tables_1_1) (i := 11) rfl))) (List.mem_append_right _ (List.mem_append_right _ (List.mem_append_right _ (List.mem_append_right _ (List.mem_append_right _ (List.mem_append_right _ (List.mem_of_getElem? (l := tables_1_6) (i := 26) rfl))))))) (by decide +kernel)
theorem gl_120 : GoodIn lw_tbl (wsV R_law 120 yX8_voice.cls yX8_voice (Cond.code yX8_voice cX8_voice 5 (some .int) :: tC)) := gV_goodL in_tC tC_good (List.mem_append_right _ (List.mem_append_right _ (List.mem_append_right _ (List.mem_append_left _ (List.mem_of_getElem? (l := tables_1_3) (i := 219) rfl))))) (List.mem_append_right _ (List.mem_append_right _ (List.mem_append_right _ (List.mem_append_left _ (List.mem_of_getElem? (l := tables_1_3) (i := 220) rfl))))) (List.mem_append_right _ (List.mem_append_right _ (List.mem_append_right _ (List.mem_append_left _ (List.mem_of_getElem? (l := tables_1_3) (i := 221) rfl))))) (List.mem_append_right _ (List.mem_append_left _ (List.mem_of_getElem? (l := tables_1_1) (i := 1) rfl))) (List.mem_append_right _ (List.mem_append_right _ (List.mem_append_right _ (List.mem_append_left _ (List.mem_of_getElem? (l := tables_1_3) (i := 222) rfl))))) (by decide +kernel)
theorem gl_123 : GoodIn lw_tbl (wsV R_law 123 yX9_voice.cls yX9_voice (Cond.code yX9_voice cX9_voice 6 (some .int) :: tR)) := gV_goodL in_tR tR_good (List.mem_append_right _ (List.mem_append_right _ (List.mem_append_right _ (List.mem_append_right _ (List.mem_append_right _ (List.mem_append_right _ (List.mem_of_getElem? (l := tables_1_6) (i := 35) rfl))))))) (List.mem_append_right _ (List.mem_append_right _ (List.mem_append_right _ (List.mem_append_right _ (List.mem_append_right _ (List.mem_append_right _ (List.mem_of_getElem? (l := tables_1_6) (i := 36) rfl))))))) (List.mem_append_right _ (List.mem_append_right _ (List.mem_append_right _ (List.mem_append_right _ (List.mem_append_right _ (List.mem_append_right _ (List.mem_of_getElem? (l := tables_1_6) (i := 37) rfl))))))) (List.mem_append_right _ (List.mem_append_left _ (List.mem_of_getElem? (l := tables_1_1) (i := 11) rfl))) (List.mem_append_right _ (List.mem_append_right _ (List.mem_append_right _ (List.mem_append_right _ (List.mem_append_right _ (List.mem_append_right _ (List.mem_of_getElem? (l := tables_1_6) (i := 38) rfl))))))) (by decide +kernel)
theorem gl_124 : GoodIn lw_tbl (wsV R_law 124 yX8_body.cls yX8_body (Cond.code yX8_body cX8_body 2 (some .int) :: tC)) := gV_goodL in_tC tC_good (List.mem_append_right _ (List.mem_append_right _ (List.mem_append_right _ (List.mem_append_right _ (List.mem_append_left _ (List.mem_of_getElem? (l := tables_1_4) (i := 16) rfl)))))) (List.mem_append_right _ (List.mem_append_right _ (List.mem_append_right _ (List.mem_append_right _ (List.mem_append_left _ (List.mem_of_getElem? (l := tables_1_4) (i := 17) rfl)))))) (List.mem_append_right _ (List.mem_append_right _ (List.mem_append_right _ (List.mem_append_right _ (List.mem_append_left _ (List.mem_of_getElem? (l := tables_1_4) (i := 18) rfl)))))) (List.mem_append_right _ (List.mem_append_left _ (List.mem_of_getElem? (l := tables_1_1) (i := 1) rfl))) (List.mem_append_right _ (List.mem_append_right _ (List.mem_append_right _ (List.mem_append_right _ (List.mem_append_left _ (List.mem_of_getElem? (l := tables_1_4) (i := 19) rfl)))))) (by decide +kernel)
theorem gl_127 : GoodIn lw_tbl (wsV R_law 127 yX9_body.cls yX9_body (Cond.code yX9_body cX9_body 2 (some .int) :: tR)) := gV_goodL in_tR tR_good (List.mem_append_right _ (List.mem_append_right _ (List.mem_append_right _ (List.mem_append_right _ (List.mem_append_right _ (List.mem_append_right _ (List.mem_of_getElem? (l := tables_1_6) (i := 70) rfl))))))) (List.mem_append_right _ (List.mem_append_right _ (List.mem_append_right _ (List.mem_append_right _ (List.mem_append_right _ (List.mem_append_right _ (List.mem_of_getElem? (l := tables_1_6) (i := 71) rfl))))))) (List.mem_append_right _ (List.mem_append_right _ (List.mem_append_right _ (List.mem_append_right _ (List.mem_append_right _ (List.mem_append_right _ (List.mem_of_getElem? (l := tables_1_6) (i := 72) rfl))))))) (List.mem_append_right _ (List.mem_append_left _ (List.mem_of_getElem? (l := tables_1_1) (i := 11) rfl))) (List.mem_append_right _ (List.mem_append_right _ (List.mem_append_right _ (List.mem_append_right _ (List.mem_append_right _ (List.mem_append_right _ (List.mem_of_getElem? (l := tables_1_6) (i := 73) rfl))))))) (by decide +kernel)
theorem gl_128 : GoodIn lw_tbl (wsV R_law 128 yX8_sheet.cls yX8_sheet (Cond.code yX8_sheet cX8_sheet 5 (some .int) :: tC)) := gV_goodL in_tC tC_good (List.mem_append_right _ (List.mem_append_right _ (List.mem_append_right _ (List.mem_append_right _ (List.mem_append_left _ (List.mem_of_getElem? (l := tables_1_4) (i := 24) rfl)))))) (List.mem_append_right _ (List.mem_append_right _ (List.mem_append_right _ (List.mem_append_right _ (List.mem_append_left _ (List.mem_of_getElem? (l := tables_1_4) (i := 25) rfl)))))) (List.mem_append_right _ (List.mem_append_right _ (List.mem_append_right _ (List.mem_append_right _ (List.mem_append_left _ (List.mem_of_getElem? (l := tables_1_4) (i := 26) rfl)))))) (List.mem_append_right _ (List.mem_append_left _ (List.mem_of_getElem? (l := tables_1_1) (i := 1) rfl))) (List.mem_append_right _ (List.mem_append_right _ (List.mem_append_right _ (List.mem_append_right _ (List.mem_append_left _ (List.mem_of_getElem? (l := tables_1_4) (i := 27) rfl)))))) (by decide +kernel)
theorem gl_131 : GoodIn lw_tbl (wsV R_law 131 yX9_sheet.cls yX9_sheet (Cond.code yX9_sheet cX9_sheet 5 (some .int) :: tR)) := gV_goodL in_tR tR_good (List.mem_append_right _ (List.mem_append_right _ (List.mem_append_right _ (List.mem_append_right _ (List.mem_append_right _ (List.mem_append_right _ (List.mem_of_getElem? (l := tables_1_6) (i := 74) rfl))))))) (List.mem_append_right _ (List.mem_append_right _ (List.mem_append_right _ (List.mem_append_right _ (List.mem_append_right _ (List.mem_append_right _ (List.mem_of_getElem? (l := tables_1_6) (i := 75) rfl))))))) (List.mem_append_right _ (List.mem_append_right _ (List.mem_append_right _ (List.mem_append_right _ (List.mem_append_right _ (List.mem_append_right _ (List.mem_of_getElem? (l := tables_1_6) (i := 76) rfl))))))) (List.mem_append_right _ (List.mem_append_left _ (List.mem_of_getElem? (l := tables_1_1) (i := 11) rfl))) (List.mem_append_right _ (List.mem_append_right _ (List.mem_append_right _ (List.mem_append_right _ (List.mem_append_right _ (List.mem_append_right _ (List.mem_of_getElem? (l := tables_1_6) (i := 77) rfl))))))) (by decide +kernel)
theorem gl_132 : GoodIn lw_tbl (wsV R_law 132 yX8_put.cls yX8_put (Cond.code yX8_put cX8_put 5 (some .int) :: tC)) := gV_goodL in_tC tC_good (List.mem_append_right _ (List.mem_append_right _ (List.mem_append_right _ (List.mem_append_right _ (List.mem_append_left _ (List.mem_of_getElem? (l := tables_1_4) (i := 41) rfl)))))) (List.mem_append_right _ (List.mem_append_right _ (List.mem_append_right _ (List.mem_append_right _ (List.mem_append_left _ (List.mem_of_getElem? (l := tables_1_4) (i := 42) rfl)))))) (List.mem_append_right _ (List.mem_append_right _ (List.mem_append_right _ (List.mem_append_right _ (List.mem_append_left _ (List.mem_of_getElem? (l := tables_1_4) (i := 43) rfl)))))) (List.mem_append_right _ (List.mem_append_left _ (List.mem_of_getElem? (l := tables_1_1) (i := 1) rfl))) (List.mem_append_right _ (List.mem_append_right _ (List.mem_append_right _ (List.mem_append_right _ (List.mem_append_left _ (List.mem_of_getElem? (l := tables_1_4) (i := 44) rfl)))))) (by decide +kernel)
theorem gl_135 : GoodIn lw_tbl (wsV R_law 135 yX9_put.cls yX9_put (Cond.code yX9_put cX9_put 5 (some .int) :: tR)) := gV_goodL in_tR tR_good (List.mem_append_right _ (List.mem_append_right _ (List.mem_append_right _ (List.mem_append_right _ (List.mem_append_right _ (List.mem_append_right _ (List.mem_of_getElem? (l := tables_1_6) (i := 81) rfl))))))) (List.mem_append_right _ (List.mem_append_right _ (List.mem_append_right _ (List.mem_append_right _ (List.mem_append_right _ (List.mem_append_right _ (List.mem_of_getElem? (l := tables_1_6) (i := 82) rfl))))))) (List.mem_append_right _ (List.mem_append_right _ (List.mem_append_right _ (List.mem_append_right _ (List.mem_append_right _ (List.mem_append_right _ (List.mem_of_getElem? (l := tables_1_6) (i := 83) rfl))))))) (List.mem_append_right _ (List.mem_append_left _ (List.mem_of_getElem? (l := tables_1_1) (i := 11) rfl))) (List.mem_append_right _ (List.mem_append_right _ (List.mem_append_right _ (List.mem_append_right _ (List.mem_append_right _ (List.mem_append_right _ (List.mem_of_getElem? (l := tables_1_6) (i := 84) rfl))))))) (by decide +kernel)
theorem gl_136 : GoodIn lw_tbl (wsV R_law 136 yX8_move.cls yX8_move (Cond.code yX8_move cX8_move 8 (some .int) :: tC)) := gV_goodL in_tC tC_good (List.mem_append_right _ (List.mem_append_right _ (List.mem_append_right _ (List.mem_append_right _ (List.mem_append_left _ (List.mem_of_getElem? (l := tables_1_4) (i := 58) rfl)))))) (List.mem_append_right _ (List.mem_append_right _ (List.mem_append_right _ (List.mem_append_right _ (List.mem_append_left _ (List.mem_of_getElem? (l := tables_1_4) (i := 59) rfl)))))) (List.mem_append_right _ (List.mem_append_right _ (List.mem_append_right _ (List.mem_append_right _ (List.mem_append_left _ (List.mem_of_getElem? (l := tables_1_4) (i := 60) rfl)))))) (List.mem_append_right _ (List.mem_append_left _ (List.mem_of_getElem? (l := tables_1_1) (i := 1) rfl))) (List.mem_append_right _ (List.mem_append_right _ (List.mem_append_right _ (List.mem_append_right _ (List.mem_append_left _ (List.mem_of_getElem? (l := tables_1_4) (i := 61) rfl)))))) (by decide +kernel)
theorem gl_140 : GoodIn lw_tbl (wsV R_law 140 yX9_move.cls yX9_move (Cond.code yX9_move cX9_move 7 (some .int) :: tR)) := gV_goodL in_tR tR_good (List.mem_append_right _ (List.mem_append_right _ (List.mem_append_right _ (List.mem_append_right _ (List.mem_append_right _ (List.mem_append_right _ (List.mem_of_getElem? (l := tables_1_6) (i := 85) rfl))))))) (List.mem_append_right _ (List.mem_append_right _ (List.mem_append_right _ (List.mem_append_right _ (List.mem_append_right _ (List.mem_append_right _ (List.mem_of_getElem? (l := tables_1_6) (i := 86) rfl))))))) (List.mem_append_right _ (List.mem_append_right _ (List.mem_append_right _ (List.mem_append_right _ (List.mem_append_right _ (List.mem_append_right _ (List.mem_of_getElem? (l := tables_1_6) (i := 87) rfl))))))) (List.mem_append_right _ (List.mem_append_left _ (List.mem_of_getElem? (l := tables_1_1) (i := 11) rfl))) (List.mem_append_right _ (List.mem_append_right _ (List.mem_append_right _ (List.mem_append_right _ (List.mem_append_right _ (List.mem_append_right _ (List.mem_of_getElem? (l := tables_1_6) (i := 88) rfl))))))) (by decide +kernel)
theorem gl_141 : GoodIn lw_tbl (wsV R_law 141 yX8_papers.cls yX8_papers (Cond.code yX8_papers cX8_papers 5 (some .int) :: tC)) := gV_goodL in_tC tC_good (List.mem_append_right _ (List.mem_append_right _ (List.mem_append_right _ (List.mem_append_right _ (List.mem_append_left _ (List.mem_of_getElem? (l := tables_1_4) (i := 76) rfl)))))) (List.mem_append_right _ (List.mem_append_right _ (List.mem_append_right _ (List.mem_append_right _ (List.mem_append_left _ (List.mem_of_getElem? (l := tables_1_4) (i := 77) rfl)))))) (List.mem_append_right _ (List.mem_append_right _ (List.mem_append_right _ (List.mem_append_right _ (List.mem_append_left _ (List.mem_of_getElem? (l := tables_1_4) (i := 78) rfl)))))) (List.mem_append_right _ (List.mem_append_left _ (List.mem_of_getElem? (l := tables_1_1) (i := 1) rfl))) (List.mem_append_right _ (List.mem_append_right _ (List.mem_append_right _ (List.mem_append_right _ (List.mem_append_left _ (List.mem_of_getElem? (l := tables_1_4) (i := 79) rfl)))))) (by decide +kernel)
theorem gl_144 : GoodIn lw_tbl (wsV R_law 144 yX9_papers.cls yX9_papers (Cond.code yX9_papers cX9_papers 5 (some .int) :: tR)) := gV_goodL in_tR tR_good (List.mem_append_right _ (List.mem_append_right _ (List.mem_append_right _ (List.mem_append_right _ (List.mem_append_right _ (List.mem_append_right _ (List.mem_of_getElem? (l := tables_1_6) (i := 89) rfl))))))) (List.mem_append_right _ (List.mem_append_right _ (List.mem_append_right _ (List.mem_append_right _ (List.mem_append_right _ (List.mem_append_right _ (List.mem_of_getElem? (l := tables_1_6) (i := 90) rfl))))))) (List.mem_append_right _ (List.mem_append_right _ (List.mem_append_right _ (List.mem_append_right _ (List.mem_append_right _ (List.mem_append_right _ (List.mem_of_getElem? (l := tables_1_6) (i := 91) rfl))))))) (List.mem_append_right _ (List.mem_append_left _ (List.mem_of_getElem? (l := tables_1_1) (i := 11) rfl))) (List.mem_append_right _ (List.mem_append_right _ (List.mem_append_right _ (List.mem_append_right _ (List.mem_append_right _ (List.mem_append_right _ (List.mem_of_getElem? (l := tables_1_6) (i := 92) rfl))))))) (by decide +kernel)
theorem gl_145 : GoodIn lw_tbl (wsV R_law 145 yX8_judge.cls yX8_judge (Cond.code yX8_judge cX8_judge 6 (some .int) :: tC)) := gV_goodL in_tC tC_good (List.mem_append_right _ (List.mem_append_right _ (List.mem_append_right _ (List.mem_append_right _ (List.mem_append_left _ (List.mem_of_getElem? (l := tables_1_4) (i := 88) rfl)))))) (List.mem_append_right _ (List.mem_append_right _ (List.mem_append_right _ (List.mem_append_right _ (List.mem_append_left _ (List.mem_of_getElem? (l := tables_1_4) (i := 89) rfl)))))) (List.mem_append_right _ (List.mem_append_right _ (List.mem_append_right _ (List.mem_append_right _ (List.mem_append_left _ (List.mem_of_getElem? (l := tables_1_4) (i := 90) rfl)))))) (List.mem_append_right _ (List.mem_append_left _ (List.mem_of_getElem? (l := tables_1_1) (i := 1) rfl))) (List.mem_append_right _ (List.mem_append_right _ (List.mem_append_right _ (List.mem_append_right _ (List.mem_append_left _ (List.mem_of_getElem? (l := tables_1_4) (i := 91) rfl)))))) (by decide +kernel)
theorem gl_148 : GoodIn lw_tbl (wsV R_law 148 yX9_judge.cls yX9_judge (Cond.code yX9_judge cX9_judge 5 (some .int) :: tR)) := gV_goodL in_tR tR_good (List.mem_append_right _ (List.mem_append_right _ (List.mem_append_right _ (List.mem_append_right _ (List.mem_append_right _ (List.mem_append_right _ (List.mem_of_getElem? (l := tables_1_6) (i := 97) rfl))))))) (List.mem_append_right _ (List.mem_append_right _ (List.mem_append_right _ (List.mem_append_right _ (List.mem_append_right _ (List.mem_append_right _ (List.mem_of_getElem? (l := tables_1_6) (i := 98) rfl))))))) (List.mem_append_right _ (List.mem_append_right _ (List.mem_append_right _ (List.mem_append_right _ (List.mem_append_right _ (List.mem_append_right _ (List.mem_of_getElem? (l := tables_1_6) (i := 99) rfl))))))) (List.mem_append_right _ (List.mem_append_left _ (List.mem_of_getElem? (l := tables_1_1) (i := 11) rfl))) (List.mem_append_right _ (List.mem_append_right _ (List.mem_append_right _ (List.mem_append_right _ (List.mem_append_right _ (List.mem_append_right _ (List.mem_of_getElem? (l := tables_1_6) (i := 100) rfl))))))) (by decide +kernel)
theorem gl_149 : GoodIn lw_tbl (wsV R_law 149 yX8_image.cls yX8_image (Cond.code yX8_image cX8_image 1 (some .int) :: tC)) := gV_goodL in_tC tC_good (List.mem_append_right _ (List.mem_append_right _ (List.mem_append_right _ (List.mem_append_right _ (List.mem_append_left _ (List.mem_of_getElem? (l := tables_1_4) (i := 92) rfl)))))) (List.mem_append_right _ (List.mem_append_right _ (List.mem_append_right _ (List.mem_append_right _ (List.mem_append_left _ (List.mem_of_getElem? (l := tables_1_4) (i := 93) rfl)))))) (List.mem_append_right _ (List.mem_append_right _ (List.mem_append_right _ (List.mem_append_right _ (List.mem_append_left _ (List.mem_of_getElem? (l := tables_1_4) (i := 94) rfl)))))) (List.mem_append_right _ (List.mem_append_left _ (List.mem_of_getElem? (l := tables_1_1) (i := 1) rfl))) (List.mem_append_right _ (List.mem_append_right _ (List.mem_append_right _ (List.mem_append_right _ (List.mem_append_left _ (List.mem_of_getElem? (l := tables_1_4) (i := 95) rfl)))))) (by decide +kernel)
theorem gl_152 : GoodIn lw_tbl (wsV R_law 152 yX9_image.cls yX9_image (Cond.code yX9_image cX9_image 1 (some .int) :: tR)) := gV_goodL in_tR tR_good (List.mem_append_right _ (List.mem_append_right _ (List.mem_append_right _ (List.mem_append_right _ (List.mem_append_right _ (List.mem_append_right _ (List.mem_of_getElem? (l := tables_1_6) (i := 101) rfl))))))) (List.mem_append_right _ (List.mem_append_right _ (List.mem_append_right _ (List.mem_append_right _ (List.mem_append_right _ (List.mem_append_right _ (List.mem_of_getElem? (l := tables_1_6) (i := 102) rfl))))))) (List.mem_append_right _ (List.mem_append_right _ (List.mem_append_right _ (List.mem_append_right _ (List.mem_append_right _ (List.mem_append_right _ (List.mem_of_getElem? (l := tables_1_6) (i := 103) rfl))))))) (List.mem_append_right _ (List.mem_append_left _ (List.mem_of_getElem? (l := tables_1_1) (i := 11) rfl))) (List.mem_append_right _ (List.mem_append_right _ (List.mem_append_right _ (List.mem_append_right _ (List.mem_append_right _ (List.mem_append_right _ (List.mem_of_getElem? (l := tables_1_6) (i := 104) rfl))))))) (by decide +kernel)
theorem gl_153 : GoodIn lw_tbl (wsV R_law 153 yX8_restore.cls yX8_restore (Cond.code yX8_restore cX8_restore 1 (some .int) :: tC)) := gV_goodL in_tC tC_good (List.mem_append_right _ (List.mem_append_right _ (List.mem_append_right _ (List.mem_append_right _ (List.mem_append_left _ (List.mem_of_getElem? (l := tables_1_4) (i := 102) rfl)))))) (List.mem_append_right _ (List.mem_append_right _ (List.mem_append_right _ (List.mem_append_right _ (List.mem_append_left _ (List.mem_of_getElem? (l := tables_1_4) (i := 103) rfl)))))) (List.mem_append_right _ (List.mem_append_right _ (List.mem_append_right _ (List.mem_append_right _ (List.mem_append_left _ (List.mem_of_getElem? (l := tables_1_4) (i := 104) rfl)))))) (List.mem_append_right _ (List.mem_append_left _ (List.mem_of_getElem? (l := tables_1_1) (i := 1) rfl))) (List.mem_append_right _ (List.mem_append_right _ (List.mem_append_right _ (List.mem_append_right _ (List.mem_append_left _ (List.mem_of_getElem? (l := tables_1_4) (i := 105) rfl)))))) (by decide +kernel)
theorem gl_156 : GoodIn lw_tbl (wsV R_law 156 yX9_restore.cls yX9_restore (Cond.code yX9_restore cX9_restore 1 (some .int) :: tR)) := gV_goodL in_tR tR_good (List.mem_append_right _ (List.mem_append_right _ (List.mem_append_right _ (List.mem_append_right _ (List.mem_append_right _ (List.mem_append_right _ (List.mem_of_getElem? (l := tables_1_6) (i := 105) rfl))))))) (List.mem_append_right _ (List.mem_append_right _ (List.mem_append_right _ (List.mem_append_right _ (List.mem_append_right _ (List.mem_append_right _ (List.mem_of_getElem? (l := tables_1_6) (i := 106) rfl))))))) (List.mem_append_right _ (List.mem_append_right _ (List.mem_append_right _ (List.mem_append_right _ (List.mem_append_right _ (List.mem_append_right _ (List.mem_of_getElem? (l := tables_1_6) (i := 107) rfl))))))) (List.mem_append_right _ (List.mem_append_left _ (List.mem_of_getElem? (l := tables_1_1) (i := 11) rfl))) (List.mem_append_right _ (List.mem_append_right _ (List.mem_append_right _ (List.mem_append_right _ (List.mem_append_right _ (List.mem_append_right _ (List.mem_of_getElem? (l := tables_1_6) (i := 108) rfl))))))) (by decide +kernel)
theorem gl_157 : GoodIn lw_tbl (wsV R_law 157 yX8_tell.cls yX8_tell (Cond.code yX8_tell cX8_tell 2 (some .int) :: tC)) := gV_goodL in_tC tC_good (List.mem_append_right _ (List.mem_append_right _ (List.mem_append_right _ (List.mem_append_right _ (List.mem_append_left _ (List.mem_of_getElem? (l := tables_1_4) (i := 106) rfl)))))) (List.mem_append_right _ (List.mem_append_right _ (List.mem_append_right _ (List.mem_append_right _ (List.mem_append_left _ (List.mem_of_getElem? (l := tables_1_4) (i := 107) rfl)))))) (List.mem_append_right _ (List.mem_append_right _ (List.mem_append_right _ (List.mem_append_right _ (List.mem_append_left _ (List.mem_of_getElem? (l := tables_1_4) (i := 108) rfl)))))) (List.mem_append_right _ (List.mem_append_left _ (List.mem_of_getElem? (l := tables_1_1) (i := 1) rfl))) (List.mem_append_right _ (List.mem_append_right _ (List.mem_append_right _ (List.mem_append_right _ (List.mem_append_left _ (List.mem_of_getElem? (l := tables_1_4) (i := 109) rfl)))))) (by decide +kernel)
theorem gl_160 : GoodIn lw_tbl (wsV R_law 160 yX9_tell.cls yX9_tell (Cond.code yX9_tell cX9_tell 2 (some .int) :: tR)) := gV_goodL in_tR tR_good (List.mem_append_right _ (List.mem_append_right _ (List.mem_append_right _ (List.mem_append_right _ (List.mem_append_right _ (List.mem_append_right _ (List.mem_of_getElem? (l := tables_1_6) (i := 109) rfl))))))) (List.mem_append_right _ (List.mem_append_right _ (List.mem_append_right _ (List.mem_append_right _ (List.mem_append_right _ (List.mem_append_right _ (List.mem_of_getElem? (l := tables_1_6) (i := 110) rfl))))))) (List.mem_append_right _ (List.mem_append_right _ (List.mem_append_right _ (List.mem_append_right _ (List.mem_append_right _ (List.mem_append_right _ (List.mem_of_getElem? (l := tables_1_6) (i := 111) rfl))))))) (List.mem_append_right _ (List.mem_append_left _ (List.mem_of_getElem? (l := tables_1_1) (i := 11) rfl))) (List.mem_append_right _ (List.mem_append_right _ (List.mem_append_right _ (List.mem_append_right _ (List.mem_append_right _ (List.mem_append_right _ (List.mem_of_getElem? (l := tables_1_6) (i := 112) rfl))))))) (by decide +kernel)
theorem gl_161 : GoodIn lw_tbl (wsV R_law 161 yX8_check.cls yX8_check (Cond.code yX8_check cX8_check 2 (some .int) :: tC)) := gV_goodL in_tC tC_good (List.mem_append_right _ (List.mem_append_right _ (List.mem_append_right _ (List.mem_append_right _ (List.mem_append_left _ (List.mem_of_getElem? (l := tables_1_4) (i := 110) rfl)))))) (List.mem_append_right _ (List.mem_append_right _ (List.mem_append_right _ (List.mem_append_right _ (List.mem_append_left _ (List.mem_of_getElem? (l := tables_1_4) (i := 111) rfl)))))) (List.mem_append_right _ (List.mem_append_right _ (List.mem_append_right _ (List.mem_append_right _ (List.mem_append_left _ (List.mem_of_getElem? (l := tables_1_4) (i := 112) rfl)))))) (List.mem_append_right _ (List.mem_append_left _ (List.mem_of_getElem? (l := tables_1_1) (i := 1) rfl))) (List.mem_append_right _ (List.mem_append_right _ (List.mem_append_right _ (List.mem_append_right _ (List.mem_append_left _ (List.mem_of_getElem? (l := tables_1_4) (i := 113) rfl)))))) (by decide +kernel)
theorem gl_164 : GoodIn lw_tbl (wsV R_law 164 yX9_check.cls yX9_check (Cond.code yX9_check cX9_check 3 (some .int) :: tR)) := gV_goodL in_tR tR_good (List.mem_append_right _ (List.mem_append_right _ (List.mem_append_right _ (List.mem_append_right _ (List.mem_append_right _ (List.mem_append_right _ (List.mem_of_getElem? (l := tables_1_6) (i := 113) rfl))))))) (List.mem_append_right _ (List.mem_append_right _ (List.mem_append_right _ (List.mem_append_right _ (List.mem_append_right _ (List.mem_append_right _ (List.mem_of_getElem? (l := tables_1_6) (i := 114) rfl))))))) (List.mem_append_right _ (List.mem_append_right _ (List.mem_append_right _ (List.mem_append_right _ (List.mem_append_right _ (List.mem_append_right _ (List.mem_of_getElem? (l := tables_1_6) (i := 115) rfl))))))) (List.mem_append_right _ (List.mem_append_left _ (List.mem_of_getElem? (l := tables_1_1) (i := 11) rfl))) (List.mem_append_right _ (List.mem_append_right _ (List.mem_append_right _ (List.mem_append_right _ (List.mem_append_right _ (List.mem_append_right _ (List.mem_of_getElem? (l := tables_1_6) (i := 116) rfl))))))) (by decide +kernel)
theorem gl_165 : GoodIn lw_tbl (wsV R_law 165 yX8_count.cls yX8_count (Cond.code yX8_count cX8_count 2 (some .int) :: tC)) := gV_goodL in_tC tC_good (List.mem_append_right _ (List.mem_append_right _ (List.mem_append_right _ (List.mem_append_right _ (List.mem_append_left _ (List.mem_of_getElem? (l := tables_1_4) (i := 119) rfl)))))) (List.mem_append_right _ (List.mem_append_right _ (List.mem_append_right _ (List.mem_append_right _ (List.mem_append_left _ (List.mem_of_getElem? (l := tables_1_4) (i := 120) rfl)))))) (List.mem_append_right _ (List.mem_append_right _ (List.mem_append_right _ (List.mem_append_right _ (List.mem_append_left _ (List.mem_of_getElem? (l := tables_1_4) (i := 121) rfl)))))) (List.mem_append_right _ (List.mem_append_left _ (List.mem_of_getElem? (l := tables_1_1) (i := 1) rfl))) (List.mem_append_right _ (List.mem_append_right _ (List.mem_append_right _ (List.mem_append_right _ (List.mem_append_left _ (List.mem_of_getElem? (l := tables_1_4) (i := 122) rfl)))))) (by decide +kernel)
theorem gl_168 : GoodIn lw_tbl (wsV R_law 168 yX9_count.cls yX9_count (Cond.code yX9_count cX9_count 2 (some .int) :: tR)) := gV_goodL in_tR tR_good (List.mem_append_right _ (List.mem_append_right _ (List.mem_append_right _ (List.mem_append_right _ (List.mem_append_right _ (List.mem_append_right _ (List.mem_of_getElem? (l := tables_1_6) (i := 117) rfl))))))) (List.mem_append_right _ (List.mem_append_right _ (List.mem_append_right _ (List.mem_append_right _ (List.mem_append_right _ (List.mem_append_right _ (List.mem_of_getElem? (l := tables_1_6) (i := 118) rfl))))))) (List.mem_append_right _ (List.mem_append_right _ (List.mem_append_right _ (List.mem_append_right _ (List.mem_append_right _ (List.mem_append_right _ (List.mem_of_getElem? (l := tables_1_6) (i := 119) rfl))))))) (List.mem_append_right _ (List.mem_append_left _ (List.mem_of_getElem? (l := tables_1_1) (i := 11) rfl))) (List.mem_append_right _ (List.mem_append_right _ (List.mem_append_right _ (List.mem_append_right _ (List.mem_append_right _ (List.mem_append_right _ (List.mem_of_getElem? (l := tables_1_6) (i := 120) rfl))))))) (by decide +kernel)
theorem gl_169 : GoodIn lw_tbl (wsV R_law 169 yX8_told.cls yX8_told (Cond.code yX8_told cX8_told 2 (some .int) :: tC)) := gV_goodL in_tC tC_good (List.mem_append_right _ (List.mem_append_right _ (List.mem_append_right _ (List.mem_append_right _ (List.mem_append_left _ (List.mem_of_getElem? (l := tables_1_4) (i := 131) rfl)))))) (List.mem_append_right _ (List.mem_append_right _ (List.mem_append_right _ (List.mem_append_right _ (List.mem_append_left _ (List.mem_of_getElem? (l := tables_1_4) (i := 132) rfl)))))) (List.mem_append_right _ (List.mem_append_right _ (List.mem_append_right _ (List.mem_append_right _ (List.mem_append_left _ (List.mem_of_getElem? (l := tables_1_4) (i := 133) rfl)))))) (List.mem_append_right _ (List.mem_append_left _ (List.mem_of_getElem? (l := tables_1_1) (i := 1) rfl))) (List.mem_append_right _ (List.mem_append_right _ (List.mem_append_right _ (List.mem_append_right _ (List.mem_append_left _ (List.mem_of_getElem? (l := tables_1_4) (i := 134) rfl)))))) (by decide +kernel)
theorem gl_172 : GoodIn lw_tbl (wsV R_law 172 yX9_told.cls yX9_told (Cond.code yX9_told cX9_told 2 (some .int) :: tR)) := gV_goodL in_tR tR_good (List.mem_append_right _ (List.mem_append_right _ (List.mem_append_right _ (List.mem_append_right _ (List.mem_append_right _ (List.mem_append_right _ (List.mem_of_getElem? (l := tables_1_6) (i := 121) rfl))))))) (List.mem_append_right _ (List.mem_append_right _ (List.mem_append_right _ (List.mem_append_right _ (List.mem_append_right _ (List.mem_append_right _ (List.mem_of_getElem? (l := tables_1_6) (i := 122) rfl))))))) (List.mem_append_right _ (List.mem_append_right _ (List.mem_append_right _ (List.mem_append_right _ (List.mem_append_right _ (List.mem_append_right _ (List.mem_of_getElem? (l := tables_1_6) (i := 123) rfl))))))) (List.mem_append_right _ (List.mem_append_left _ (List.mem_of_getElem? (l := tables_1_1) (i := 11) rfl))) (List.mem_append_right _ (List.mem_append_right _ (List.mem_append_right _ (List.mem_append_right _ (List.mem_append_right _ (List.mem_append_right _ (List.mem_of_getElem? (l := tables_1_6) (i := 124) rfl))))))) (by decide +kernel)
set_option maxRecDepth 100000 in
set_option maxHeartbeats 2000000 in
theorem lo_0 (h0 : LC p s m c b L xs D cI cS A) {i : Nat} (hi : i + 5 < L) {Mc Mr : gSt} (h : w_X8_thing (xs (i + 1)).toInt (xs (i + 2)).toInt Mc (fun r Mc' => w_Rthing (xs (i + 1)).toInt (xs (i + 2)).toInt Mr (fun r' Mr' => gL p l e s m below meth c Q D A b ad bd cI cS 1424 i [] Mc' Mr'))) : gL p l e s m below meth c Q D A b ad bd cI cS 200 i [] Mc Mr := by
  obtain ⟨C, hX, hbl, hbA, hL, -⟩ := id h0
  refine k_aload_n C dL_200 rfl ?_
  refine k_aload_n C dL_201 rfl ?_
  refine k_iload_n C dL_202 rfl ?_
  refine k_iconst C dL_203 ?_
  refine k_iadd C dL_204 ?_
  refine k_sld C hX hbl hbA hL (j := i + 1) (by omega) (by omega) dL_205 ?_
  refine k_aload_n C dL_206 rfl ?_
  refine k_iload_n C dL_207 rfl ?_
  refine k_iconst C dL_208 ?_
  refine k_iadd C dL_209 ?_
  refine k_sld C hX hbl hbA hL (j := i + 2) (by omega) (by omega) dL_210 ?_
  refine k_swap ?_
  refine k_callW C (nargs := 2) (ci := 8) (st := []) h0.2.2.2.2.2 zC_m (fun q => q) (m_X8_thing h) (wld_get Mc (by decide)) rfl rfl gl_13 (by decide +kernel) ⟨rfl, rfl⟩ dL_211 (by decide) rfl rfl (Nat.le_of_ble_eq_true rfl) (by decide) (fun r Mc' h => ?_)
  refine k_swap ?_
  refine k_pop C dL_214 rfl ?_
  refine k_aload_n C dL_215 rfl ?_
  refine k_aload_n C dL_216 rfl ?_
  refine k_iload_n C dL_217 rfl ?_
  refine k_iconst C dL_218 ?_
  refine k_iadd C dL_219 ?_
  refine k_sld C hX hbl hbA hL (j := i + 1) (by omega) (by omega) dL_220 ?_
  refine k_aload_n C dL_221 rfl ?_
  refine k_iload_n C dL_222 rfl ?_
  refine k_iconst C dL_223 ?_
  refine k_iadd C dL_224 ?_
  refine k_sld C hX hbl hbA hL (j := i + 2) (by omega) (by omega) dL_225 ?_
  refine k_callW C (nargs := 2) (ci := 9) (st := []) (Z := (fun _ _ => True)) trivial zTr (fun q => q) (m_Rthing rfl h) (wld_get Mr (by decide)) rfl rfl gl_17 (by decide +kernel) ⟨rfl, rfl⟩ dL_226 (by decide) rfl rfl (Nat.le_of_ble_eq_true rfl) (by decide) (fun r' Mr' h => ?_)
  refine k_pop C dL_229 rfl ?_
  exact k_goto C 1424 dL_230 (by decide) h
set_option maxRecDepth 100000 in
set_option maxHeartbeats 2000000 in
theorem lo_1 (h0 : LC p s m c b L xs D cI cS A) {i : Nat} (hi : i + 5 < L) {Mc Mr : gSt} (h : w_X8_thingIs (xs (i + 1)).toInt (xs (i + 2)).toInt Mc (fun r Mc' => w_RthingIs (xs (i + 1)).toInt (xs (i + 2)).toInt Mr (fun r' Mr' => gL p l e s m below meth c Q D A b ad bd cI cS 1424 i [] Mc' Mr'))) : gL p l e s m below meth c Q D A b ad bd cI cS 233 i [] Mc Mr := by
  obtain ⟨C, hX, hbl, hbA, hL, -⟩ := id h0
  refine k_aload_n C dL_233 rfl ?_
  refine k_aload_n C dL_234 rfl ?_
  refine k_iload_n C dL_235 rfl ?_
  refine k_iconst C dL_236 ?_
  refine k_iadd C dL_237 ?_
  refine k_sld C hX hbl hbA hL (j := i + 1) (by omega) (by omega) dL_238 ?_
  refine k_aload_n C dL_239 rfl ?_
  refine k_iload_n C dL_240 rfl ?_
  refine k_iconst C dL_241 ?_
  refine k_iadd C dL_242 ?_
  refine k_sld C hX hbl hbA hL (j := i + 2) (by omega) (by omega) dL_243 ?_
  refine k_swap ?_
  refine k_callW C (nargs := 2) (ci := 8) (st := []) h0.2.2.2.2.2 zC_m (fun q => q) (m_X8_thingIs h) (wld_get Mc (by decide)) rfl rfl gl_18 (by decide +kernel) ⟨rfl, rfl⟩ dL_244 (by decide) rfl rfl (Nat.le_of_ble_eq_true rfl) (by decide) (fun r Mc' h => ?_)
  refine k_swap ?_
  refine k_pop C dL_247 rfl ?_
  refine k_aload_n C dL_248 rfl ?_
  refine k_aload_n C dL_249 rfl ?_
  refine k_iload_n C dL_250 rfl ?_
  refine k_iconst C dL_251 ?_
  refine k_iadd C dL_252 ?_
  refine k_sld C hX hbl hbA hL (j := i + 1) (by omega) (by omega) dL_253 ?_
  refine k_aload_n C dL_254 rfl ?_
  refine k_iload_n C dL_255 rfl ?_
  refine k_iconst C dL_256 ?_
  refine k_iadd C dL_257 ?_
  refine k_sld C hX hbl hbA hL (j := i + 2) (by omega) (by omega) dL_258 ?_
  refine k_callW C (nargs := 2) (ci := 9) (st := []) (Z := (fun _ _ => True)) trivial zTr (fun q => q) (m_RthingIs rfl h) (wld_get Mr (by decide)) rfl rfl gl_21 (by decide +kernel) ⟨rfl, rfl⟩ dL_259 (by decide) rfl rfl (Nat.le_of_ble_eq_true rfl) (by decide) (fun r' Mr' h => ?_)
  refine k_pop C dL_262 rfl ?_
  exact k_goto C 1424 dL_263 (by decide) h
set_option maxRecDepth 100000 in
set_option maxHeartbeats 2000000 in
theorem lo_2 (h0 : LC p s m c b L xs D cI cS A) {i : Nat} (hi : i + 5 < L) {Mc Mr : gSt} (h : w_X8_as (xs (i + 1)).toInt (xs (i + 2)).toInt Mc (fun r Mc' => w_Ras (xs (i + 1)).toInt (xs (i + 2)).toInt Mr (fun r' Mr' => gL p l e s m below meth c Q D A b ad bd cI cS 1424 i [] Mc' Mr'))) : gL p l e s m below meth c Q D A b ad bd cI cS 266 i [] Mc Mr := by
  obtain ⟨C, hX, hbl, hbA, hL, -⟩ := id h0
  refine k_aload_n C dL_266 rfl ?_
  refine k_aload_n C dL_267 rfl ?_
  refine k_iload_n C dL_268 rfl ?_
  refine k_iconst C dL_269 ?_
  refine k_iadd C dL_270 ?_
  refine k_sld C hX hbl hbA hL (j := i + 1) (by omega) (by omega) dL_271 ?_
  refine k_aload_n C dL_272 rfl ?_
  refine k_iload_n C dL_273 rfl ?_
  refine k_iconst C dL_274 ?_
  refine k_iadd C dL_275 ?_
  refine k_sld C hX hbl hbA hL (j := i + 2) (by omega) (by omega) dL_276 ?_
  refine k_swap ?_
  refine k_callW C (nargs := 2) (ci := 8) (st := []) h0.2.2.2.2.2 zC_m (fun q => q) (m_X8_as h) (wld_get Mc (by decide)) rfl rfl gl_22 (by decide +kernel) ⟨rfl, rfl⟩ dL_277 (by decide) rfl rfl (Nat.le_of_ble_eq_true rfl) (by decide) (fun r Mc' h => ?_)
  refine k_swap ?_
  refine k_pop C dL_280 rfl ?_
  refine k_aload_n C dL_281 rfl ?_
  refine k_aload_n C dL_282 rfl ?_
  refine k_iload_n C dL_283 rfl ?_
  refine k_iconst C dL_284 ?_
  refine k_iadd C dL_285 ?_
  refine k_sld C hX hbl hbA hL (j := i + 1) (by omega) (by omega) dL_286 ?_
  refine k_aload_n C dL_287 rfl ?_
  refine k_iload_n C dL_288 rfl ?_
  refine k_iconst C dL_289 ?_
  refine k_iadd C dL_290 ?_
  refine k_sld C hX hbl hbA hL (j := i + 2) (by omega) (by omega) dL_291 ?_
  refine k_callW C (nargs := 2) (ci := 9) (st := []) (Z := (fun _ _ => True)) trivial zTr (fun q => q) (m_Ras rfl h) (wld_get Mr (by decide)) rfl rfl gl_25 (by decide +kernel) ⟨rfl, rfl⟩ dL_292 (by decide) rfl rfl (Nat.le_of_ble_eq_true rfl) (by decide) (fun r' Mr' h => ?_)
  refine k_pop C dL_295 rfl ?_
  exact k_goto C 1424 dL_296 (by decide) h
set_option maxRecDepth 100000 in
set_option maxHeartbeats 2000000 in
theorem lo_3 (h0 : LC p s m c b L xs D cI cS A) {i : Nat} (hi : i + 5 < L) {Mc Mr : gSt} (h : w_X8_set (xs (i + 1)).toInt (xs (i + 2)).toInt (xs (i + 3)).toInt Mc (fun r Mc' => w_Rset (xs (i + 1)).toInt (xs (i + 2)).toInt (xs (i + 3)).toInt Mr (fun r' Mr' => gL p l e s m below meth c Q D A b ad bd cI cS 1424 i [] Mc' Mr'))) : gL p l e s m below meth c Q D A b ad bd cI cS 299 i [] Mc Mr := by
  obtain ⟨C, hX, hbl, hbA, hL, -⟩ := id h0
  refine k_aload_n C dL_299 rfl ?_
  refine k_aload_n C dL_300 rfl ?_
  refine k_iload_n C dL_301 rfl ?_
  refine k_iconst C dL_302 ?_
  refine k_iadd C dL_303 ?_
  refine k_sld C hX hbl hbA hL (j := i + 1) (by omega) (by omega) dL_304 ?_
  refine k_aload_n C dL_305 rfl ?_
  refine k_iload_n C dL_306 rfl ?_
  refine k_iconst C dL_307 ?_
  refine k_iadd C dL_308 ?_
  refine k_sld C hX hbl hbA hL (j := i + 2) (by omega) (by omega) dL_309 ?_
  refine k_aload_n C dL_310 rfl ?_
  refine k_iload_n C dL_311 rfl ?_
  refine k_iconst C dL_312 ?_
  refine k_iadd C dL_313 ?_
  refine k_sld C hX hbl hbA hL (j := i + 3) (by omega) (by omega) dL_314 ?_
  refine k_swap ?_
  refine k_callW C (nargs := 3) (ci := 8) (st := []) h0.2.2.2.2.2 zC_m (fun q => q) (m_X8_set h) (wld_get Mc (by decide)) rfl rfl gl_26 (by decide +kernel) ⟨rfl, rfl⟩ dL_315 (by decide) rfl rfl (Nat.le_of_ble_eq_true rfl) (by decide) (fun r Mc' h => ?_)
  refine k_swap ?_
  refine k_pop C dL_318 rfl ?_
  refine k_aload_n C dL_319 rfl ?_
  refine k_aload_n C dL_320 rfl ?_
  refine k_iload_n C dL_321 rfl ?_
  refine k_iconst C dL_322 ?_
  refine k_iadd C dL_323 ?_
  refine k_sld C hX hbl hbA hL (j := i + 1) (by omega) (by omega) dL_324 ?_
  refine k_aload_n C dL_325 rfl ?_
  refine k_iload_n C dL_326 rfl ?_
  refine k_iconst C dL_327 ?_
  refine k_iadd C dL_328 ?_
  refine k_sld C hX hbl hbA hL (j := i + 2) (by omega) (by omega) dL_329 ?_
  refine k_aload_n C dL_330 rfl ?_
  refine k_iload_n C dL_331 rfl ?_
  refine k_iconst C dL_332 ?_
  refine k_iadd C dL_333 ?_
  refine k_sld C hX hbl hbA hL (j := i + 3) (by omega) (by omega) dL_334 ?_
  refine k_callW C (nargs := 3) (ci := 9) (st := []) (Z := (fun _ _ => True)) trivial zTr (fun q => q) (m_Rset rfl h) (wld_get Mr (by decide)) rfl rfl gl_30 (by decide +kernel) ⟨rfl, rfl⟩ dL_335 (by decide) rfl rfl (Nat.le_of_ble_eq_true rfl) (by decide) (fun r' Mr' h => ?_)
  refine k_pop C dL_338 rfl ?_
  exact k_goto C 1424 dL_339 (by decide) h
set_option maxRecDepth 100000 in
set_option maxHeartbeats 2000000 in
theorem lo_4 (h0 : LC p s m c b L xs D cI cS A) {i : Nat} (hi : i + 5 < L) {Mc Mr : gSt} (h : w_X8_melt (xs (i + 1)).toInt (xs (i + 2)).toInt Mc (fun r Mc' => w_Rmelt (xs (i + 1)).toInt (xs (i + 2)).toInt Mr (fun r' Mr' => gL p l e s m below meth c Q D A b ad bd cI cS 1424 i [] Mc' Mr'))) : gL p l e s m below meth c Q D A b ad bd cI cS 342 i [] Mc Mr := by
  obtain ⟨C, hX, hbl, hbA, hL, -⟩ := id h0
  refine k_aload_n C dL_342 rfl ?_
  refine k_aload_n C dL_343 rfl ?_
  refine k_iload_n C dL_344 rfl ?_
  refine k_iconst C dL_345 ?_
  refine k_iadd C dL_346 ?_
  refine k_sld C hX hbl hbA hL (j := i + 1) (by omega) (by omega) dL_347 ?_
  refine k_aload_n C dL_348 rfl ?_
  refine k_iload_n C dL_349 rfl ?_
  refine k_iconst C dL_350 ?_
  refine k_iadd C dL_351 ?_
  refine k_sld C hX hbl hbA hL (j := i + 2) (by omega) (by omega) dL_352 ?_
  refine k_swap ?_
  refine k_callW C (nargs := 2) (ci := 8) (st := []) h0.2.2.2.2.2 zC_m (fun q => q) (m_X8_melt h) (wld_get Mc (by decide)) rfl rfl gl_31 (by decide +kernel) ⟨rfl, rfl⟩ dL_353 (by decide) rfl rfl (Nat.le_of_ble_eq_true rfl) (by decide) (fun r Mc' h => ?_)
  refine k_swap ?_
  refine k_pop C dL_356 rfl ?_
  refine k_aload_n C dL_357 rfl ?_
  refine k_aload_n C dL_358 rfl ?_
  refine k_iload_n C dL_359 rfl ?_
  refine k_iconst C dL_360 ?_
  refine k_iadd C dL_361 ?_
  refine k_sld C hX hbl hbA hL (j := i + 1) (by omega) (by omega) dL_362 ?_
  refine k_aload_n C dL_363 rfl ?_
  refine k_iload_n C dL_364 rfl ?_
  refine k_iconst C dL_365 ?_
  refine k_iadd C dL_366 ?_
  refine k_sld C hX hbl hbA hL (j := i + 2) (by omega) (by omega) dL_367 ?_
  refine k_callW C (nargs := 2) (ci := 9) (st := []) (Z := (fun _ _ => True)) trivial zTr (fun q => q) (m_Rmelt rfl h) (wld_get Mr (by decide)) rfl rfl gl_34 (by decide +kernel) ⟨rfl, rfl⟩ dL_368 (by decide) rfl rfl (Nat.le_of_ble_eq_true rfl) (by decide) (fun r' Mr' h => ?_)
  refine k_pop C dL_371 rfl ?_
  exact k_goto C 1424 dL_372 (by decide) h
set_option maxRecDepth 100000 in
set_option maxHeartbeats 2000000 in
theorem lo_5 (h0 : LC p s m c b L xs D cI cS A) {i : Nat} (hi : i + 5 < L) {Mc Mr : gSt} (h : w_X8_crucible (xs (i + 1)).toInt Mc (fun r Mc' => w_Rcrucible (xs (i + 1)).toInt Mr (fun r' Mr' => gL p l e s m below meth c Q D A b ad bd cI cS 1424 i [] Mc' Mr'))) : gL p l e s m below meth c Q D A b ad bd cI cS 375 i [] Mc Mr := by
  obtain ⟨C, hX, hbl, hbA, hL, -⟩ := id h0
  refine k_aload_n C dL_375 rfl ?_
  refine k_aload_n C dL_376 rfl ?_
  refine k_iload_n C dL_377 rfl ?_
  refine k_iconst C dL_378 ?_
  refine k_iadd C dL_379 ?_
  refine k_sld C hX hbl hbA hL (j := i + 1) (by omega) (by omega) dL_380 ?_
  refine k_swap ?_
  refine k_callW C (nargs := 1) (ci := 8) (st := []) h0.2.2.2.2.2 zC_m (fun q => q) (m_X8_crucible h) (wld_get Mc (by decide)) rfl rfl gl_35 (by decide +kernel) ⟨rfl, rfl⟩ dL_381 (by decide) rfl rfl (Nat.le_of_ble_eq_true rfl) (by decide) (fun r Mc' h => ?_)
  refine k_swap ?_
  refine k_pop C dL_384 rfl ?_
  refine k_aload_n C dL_385 rfl ?_
  refine k_aload_n C dL_386 rfl ?_
  refine k_iload_n C dL_387 rfl ?_
  refine k_iconst C dL_388 ?_
  refine k_iadd C dL_389 ?_
  refine k_sld C hX hbl hbA hL (j := i + 1) (by omega) (by omega) dL_390 ?_
  refine k_callW C (nargs := 1) (ci := 9) (st := []) (Z := (fun _ _ => True)) trivial zTr (fun q => q) (m_Rcrucible rfl h) (wld_get Mr (by decide)) rfl rfl gl_39 (by decide +kernel) ⟨rfl, rfl⟩ dL_391 (by decide) rfl rfl (Nat.le_of_ble_eq_true rfl) (by decide) (fun r' Mr' h => ?_)
  refine k_pop C dL_394 rfl ?_
  exact k_goto C 1424 dL_395 (by decide) h
set_option maxRecDepth 100000 in
set_option maxHeartbeats 2000000 in
theorem lo_6 (h0 : LC p s m c b L xs D cI cS A) {i : Nat} (hi : i + 5 < L) {Mc Mr : gSt} (h : w_X8_cast (xs (i + 1)).toInt (xs (i + 2)).toInt (xs (i + 3)).toInt Mc (fun r Mc' => w_Rcast (xs (i + 1)).toInt (xs (i + 2)).toInt (xs (i + 3)).toInt Mr (fun r' Mr' => gL p l e s m below meth c Q D A b ad bd cI cS 1424 i [] Mc' Mr'))) : gL p l e s m below meth c Q D A b ad bd cI cS 398 i [] Mc Mr := by
  obtain ⟨C, hX, hbl, hbA, hL, -⟩ := id h0
  refine k_aload_n C dL_398 rfl ?_
  refine k_aload_n C dL_399 rfl ?_
  refine k_iload_n C dL_400 rfl ?_
  refine k_iconst C dL_401 ?_
  refine k_iadd C dL_402 ?_
  refine k_sld C hX hbl hbA hL (j := i + 1) (by omega) (by omega) dL_403 ?_
  refine k_aload_n C dL_404 rfl ?_
  refine k_iload_n C dL_405 rfl ?_
  refine k_iconst C dL_406 ?_
  refine k_iadd C dL_407 ?_
  refine k_sld C hX hbl hbA hL (j := i + 2) (by omega) (by omega) dL_408 ?_
  refine k_aload_n C dL_409 rfl ?_
  refine k_iload_n C dL_410 rfl ?_
  refine k_iconst C dL_411 ?_
  refine k_iadd C dL_412 ?_
  refine k_sld C hX hbl hbA hL (j := i + 3) (by omega) (by omega) dL_413 ?_
  refine k_swap ?_
  refine k_callW C (nargs := 3) (ci := 8) (st := []) h0.2.2.2.2.2 zC_m (fun q => q) (m_X8_cast h) (wld_get Mc (by decide)) rfl rfl gl_40 (by decide +kernel) ⟨rfl, rfl⟩ dL_414 (by decide) rfl rfl (Nat.le_of_ble_eq_true rfl) (by decide) (fun r Mc' h => ?_)
  refine k_swap ?_
  refine k_pop C dL_417 rfl ?_
  refine k_aload_n C dL_418 rfl ?_
  refine k_aload_n C dL_419 rfl ?_
  refine k_iload_n C dL_420 rfl ?_
  refine k_iconst C dL_421 ?_
  refine k_iadd C dL_422 ?_
  refine k_sld C hX hbl hbA hL (j := i + 1) (by omega) (by omega) dL_423 ?_
  refine k_aload_n C dL_424 rfl ?_
  refine k_iload_n C dL_425 rfl ?_
  refine k_iconst C dL_426 ?_
  refine k_iadd C dL_427 ?_
  refine k_sld C hX hbl hbA hL (j := i + 2) (by omega) (by omega) dL_428 ?_
  refine k_aload_n C dL_429 rfl ?_
  refine k_iload_n C dL_430 rfl ?_
  refine k_iconst C dL_431 ?_
  refine k_iadd C dL_432 ?_
  refine k_sld C hX hbl hbA hL (j := i + 3) (by omega) (by omega) dL_433 ?_
  refine k_callW C (nargs := 3) (ci := 9) (st := []) (Z := (fun _ _ => True)) trivial zTr (fun q => q) (m_Rcast rfl h) (wld_get Mr (by decide)) rfl rfl gl_43 (by decide +kernel) ⟨rfl, rfl⟩ dL_434 (by decide) rfl rfl (Nat.le_of_ble_eq_true rfl) (by decide) (fun r' Mr' h => ?_)
  refine k_pop C dL_437 rfl ?_
  exact k_goto C 1424 dL_438 (by decide) h
set_option maxRecDepth 100000 in
set_option maxHeartbeats 2000000 in
theorem lo_7 (h0 : LC p s m c b L xs D cI cS A) {i : Nat} (hi : i + 5 < L) {Mc Mr : gSt} (h : w_X8_years (xs (i + 1)).toInt Mc (fun r Mc' => w_Ryears (xs (i + 1)).toInt Mr (fun r' Mr' => gL p l e s m below meth c Q D A b ad bd cI cS 1424 i [] Mc' Mr'))) : gL p l e s m below meth c Q D A b ad bd cI cS 441 i [] Mc Mr := by
  obtain ⟨C, hX, hbl, hbA, hL, -⟩ := id h0
  refine k_aload_n C dL_441 rfl ?_
  refine k_aload_n C dL_442 rfl ?_
  refine k_iload_n C dL_443 rfl ?_
  refine k_iconst C dL_444 ?_
  refine k_iadd C dL_445 ?_
  refine k_sld C hX hbl hbA hL (j := i + 1) (by omega) (by omega) dL_446 ?_
  refine k_swap ?_
  refine k_callW C (nargs := 1) (ci := 8) (st := []) h0.2.2.2.2.2 zC_m (fun q => q) (m_X8_years h) (wld_get Mc (by decide)) rfl rfl gl_44 (by decide +kernel) ⟨rfl, rfl⟩ dL_447 (by decide) rfl rfl (Nat.le_of_ble_eq_true rfl) (by decide) (fun r Mc' h => ?_)
  refine k_swap ?_
  refine k_pop C dL_450 rfl ?_
  refine k_aload_n C dL_451 rfl ?_
  refine k_aload_n C dL_452 rfl ?_
  refine k_iload_n C dL_453 rfl ?_
  refine k_iconst C dL_454 ?_
  refine k_iadd C dL_455 ?_
  refine k_sld C hX hbl hbA hL (j := i + 1) (by omega) (by omega) dL_456 ?_
  refine k_callW C (nargs := 1) (ci := 9) (st := []) (Z := (fun _ _ => True)) trivial zTr (fun q => q) (m_Ryears rfl h) (wld_get Mr (by decide)) rfl rfl gl_47 (by decide +kernel) ⟨rfl, rfl⟩ dL_457 (by decide) rfl rfl (Nat.le_of_ble_eq_true rfl) (by decide) (fun r' Mr' h => ?_)
  refine k_pop C dL_460 rfl ?_
  exact k_goto C 1424 dL_461 (by decide) h
set_option maxRecDepth 100000 in
set_option maxHeartbeats 2000000 in
theorem lo_8 (h0 : LC p s m c b L xs D cI cS A) {i : Nat} (hi : i + 5 < L) {Mc Mr : gSt} (h : w_X8_then (xs (i + 1)).toInt (xs (i + 2)).toInt (xs (i + 3)).toInt Mc (fun r Mc' => w_Rthen (xs (i + 1)).toInt (xs (i + 2)).toInt (xs (i + 3)).toInt Mr (fun r' Mr' => gL p l e s m below meth c Q D A b ad bd cI cS 1424 i [] Mc' Mr'))) : gL p l e s m below meth c Q D A b ad bd cI cS 464 i [] Mc Mr := by
  obtain ⟨C, hX, hbl, hbA, hL, -⟩ := id h0
  refine k_aload_n C dL_464 rfl ?_
  refine k_aload_n C dL_465 rfl ?_
  refine k_iload_n C dL_466 rfl ?_
  refine k_iconst C dL_467 ?_
  refine k_iadd C dL_468 ?_
  refine k_sld C hX hbl hbA hL (j := i + 1) (by omega) (by omega) dL_469 ?_
  refine k_aload_n C dL_470 rfl ?_
  refine k_iload_n C dL_471 rfl ?_
  refine k_iconst C dL_472 ?_
  refine k_iadd C dL_473 ?_
  refine k_sld C hX hbl hbA hL (j := i + 2) (by omega) (by omega) dL_474 ?_
  refine k_aload_n C dL_475 rfl ?_
  refine k_iload_n C dL_476 rfl ?_
  refine k_iconst C dL_477 ?_
  refine k_iadd C dL_478 ?_
  refine k_sld C hX hbl hbA hL (j := i + 3) (by omega) (by omega) dL_479 ?_
  refine k_swap ?_
  refine k_callW C (nargs := 3) (ci := 8) (st := []) h0.2.2.2.2.2 zC_m (fun q => q) (m_X8_then h) (wld_get Mc (by decide)) rfl rfl gl_48 (by decide +kernel) ⟨rfl, rfl⟩ dL_480 (by decide) rfl rfl (Nat.le_of_ble_eq_true rfl) (by decide) (fun r Mc' h => ?_)
  refine k_swap ?_
  refine k_pop C dL_483 rfl ?_
  refine k_aload_n C dL_484 rfl ?_
  refine k_aload_n C dL_485 rfl ?_
  refine k_iload_n C dL_486 rfl ?_
  refine k_iconst C dL_487 ?_
  refine k_iadd C dL_488 ?_
  refine k_sld C hX hbl hbA hL (j := i + 1) (by omega) (by omega) dL_489 ?_
  refine k_aload_n C dL_490 rfl ?_
  refine k_iload_n C dL_491 rfl ?_
  refine k_iconst C dL_492 ?_
  refine k_iadd C dL_493 ?_
  refine k_sld C hX hbl hbA hL (j := i + 2) (by omega) (by omega) dL_494 ?_
  refine k_aload_n C dL_495 rfl ?_
  refine k_iload_n C dL_496 rfl ?_
  refine k_iconst C dL_497 ?_
  refine k_iadd C dL_498 ?_
  refine k_sld C hX hbl hbA hL (j := i + 3) (by omega) (by omega) dL_499 ?_
  refine k_callW C (nargs := 3) (ci := 9) (st := []) (Z := (fun _ _ => True)) trivial zTr (fun q => q) (m_Rthen rfl h) (wld_get Mr (by decide)) rfl rfl gl_51 (by decide +kernel) ⟨rfl, rfl⟩ dL_500 (by decide) rfl rfl (Nat.le_of_ble_eq_true rfl) (by decide) (fun r' Mr' h => ?_)
  refine k_pop C dL_503 rfl ?_
  exact k_goto C 1424 dL_504 (by decide) h
set_option maxRecDepth 100000 in
set_option maxHeartbeats 2000000 in
theorem lo_9 (h0 : LC p s m c b L xs D cI cS A) {i : Nat} (hi : i + 5 < L) {Mc Mr : gSt} (h : w_X8_seed (xs (i + 1)).toInt Mc (fun r Mc' => w_Rseed (xs (i + 1)).toInt Mr (fun r' Mr' => gL p l e s m below meth c Q D A b ad bd cI cS 1424 i [] Mc' Mr'))) : gL p l e s m below meth c Q D A b ad bd cI cS 507 i [] Mc Mr := by
  obtain ⟨C, hX, hbl, hbA, hL, -⟩ := id h0
  refine k_aload_n C dL_507 rfl ?_
  refine k_aload_n C dL_508 rfl ?_
  refine k_iload_n C dL_509 rfl ?_
  refine k_iconst C dL_510 ?_
  refine k_iadd C dL_511 ?_
  refine k_sld C hX hbl hbA hL (j := i + 1) (by omega) (by omega) dL_512 ?_
  refine k_swap ?_
  refine k_callW C (nargs := 1) (ci := 8) (st := []) h0.2.2.2.2.2 zC_m (fun q => q) (m_X8_seed h) (wld_get Mc (by decide)) rfl rfl gl_52 (by decide +kernel) ⟨rfl, rfl⟩ dL_513 (by decide) rfl rfl (Nat.le_of_ble_eq_true rfl) (by decide) (fun r Mc' h => ?_)
  refine k_swap ?_
  refine k_pop C dL_516 rfl ?_
  refine k_aload_n C dL_517 rfl ?_
  refine k_aload_n C dL_518 rfl ?_
  refine k_iload_n C dL_519 rfl ?_
  refine k_iconst C dL_520 ?_
  refine k_iadd C dL_521 ?_
  refine k_sld C hX hbl hbA hL (j := i + 1) (by omega) (by omega) dL_522 ?_
  refine k_callW C (nargs := 1) (ci := 9) (st := []) (Z := (fun _ _ => True)) trivial zTr (fun q => q) (m_Rseed rfl h) (wld_get Mr (by decide)) rfl rfl gl_55 (by decide +kernel) ⟨rfl, rfl⟩ dL_523 (by decide) rfl rfl (Nat.le_of_ble_eq_true rfl) (by decide) (fun r' Mr' h => ?_)
  refine k_pop C dL_526 rfl ?_
  exact k_goto C 1424 dL_527 (by decide) h
set_option maxRecDepth 100000 in
set_option maxHeartbeats 2000000 in
theorem lo_10 (h0 : LC p s m c b L xs D cI cS A) {i : Nat} (hi : i + 5 < L) {Mc Mr : gSt} (h : w_X8_feed (yor (yshl (wrap (xs (i + 1)).toInt) 32) (yand (wrap (xs (i + 2)).toInt) 4294967295)) (xs (i + 3)).toInt Mc (fun r Mc' => w_Rfeed (yor (yshl (wrap (xs (i + 1)).toInt) 32) (yand (wrap (xs (i + 2)).toInt) 4294967295)) (xs (i + 3)).toInt Mr (fun r' Mr' => gL p l e s m below meth c Q D A b ad bd cI cS 1424 i [] Mc' Mr'))) : gL p l e s m below meth c Q D A b ad bd cI cS 530 i [] Mc Mr := by
  obtain ⟨C, hX, hbl, hbA, hL, -⟩ := id h0
  refine k_aload_n C dL_530 rfl ?_
  refine k_aload_n C dL_531 rfl ?_
  refine k_iload_n C dL_532 rfl ?_
  refine k_iconst C dL_533 ?_
  refine k_iadd C dL_534 ?_
  refine k_sld C hX hbl hbA hL (j := i + 1) (by omega) (by omega) dL_535 ?_
  refine k_i2l C dL_536 ?_
  refine k_bipush C dL_537 rfl ?_
  refine k_lshl C dL_539 ?_
  refine k_aload_n C dL_540 rfl ?_
  refine k_iload_n C dL_541 rfl ?_
  refine k_iconst C dL_542 ?_
  refine k_iadd C dL_543 ?_
  refine k_sld C hX hbl hbA hL (j := i + 2) (by omega) (by omega) dL_544 ?_
  refine k_i2l C dL_545 ?_
  refine k_ldc2 C 4294967295 (List.mem_append_right _ (List.mem_append_right _ (List.mem_append_right _ (List.mem_append_right _ (List.mem_append_right _ (List.mem_append_right _ (List.mem_of_getElem? (l := tables_1_6) (i := 125) rfl))))))) rfl dL_546 ?_
  refine k_land C dL_549 ?_
  refine k_lor C dL_550 ?_
  refine k_aload_n C dL_551 rfl ?_
  refine k_iload_n C dL_552 rfl ?_
  refine k_iconst C dL_553 ?_
  refine k_iadd C dL_554 ?_
  refine k_sld C hX hbl hbA hL (j := i + 3) (by omega) (by omega) dL_555 ?_
  refine k_swap ?_
  refine k_callW C (nargs := 2) (ci := 8) (st := []) h0.2.2.2.2.2 zC_m (fun q => q) (m_X8_feed h) (wld_get Mc (by decide)) rfl rfl gl_58 (by decide +kernel) ⟨rfl, rfl⟩ dL_556 (by decide) rfl rfl (Nat.le_of_ble_eq_true rfl) (by decide) (fun r Mc' h => ?_)
  refine k_swap ?_
  refine k_pop C dL_559 rfl ?_
  refine k_aload_n C dL_560 rfl ?_
  refine k_aload_n C dL_561 rfl ?_
  refine k_iload_n C dL_562 rfl ?_
  refine k_iconst C dL_563 ?_
  refine k_iadd C dL_564 ?_
  refine k_sld C hX hbl hbA hL (j := i + 1) (by omega) (by omega) dL_565 ?_
  refine k_i2l C dL_566 ?_
  refine k_bipush C dL_567 rfl ?_
  refine k_lshl C dL_569 ?_
  refine k_aload_n C dL_570 rfl ?_
  refine k_iload_n C dL_571 rfl ?_
  refine k_iconst C dL_572 ?_
  refine k_iadd C dL_573 ?_
  refine k_sld C hX hbl hbA hL (j := i + 2) (by omega) (by omega) dL_574 ?_
  refine k_i2l C dL_575 ?_
  refine k_ldc2 C 4294967295 (List.mem_append_right _ (List.mem_append_right _ (List.mem_append_right _ (List.mem_append_right _ (List.mem_append_right _ (List.mem_append_right _ (List.mem_of_getElem? (l := tables_1_6) (i := 125) rfl))))))) rfl dL_576 ?_
  refine k_land C dL_579 ?_
  refine k_lor C dL_580 ?_
  refine k_aload_n C dL_581 rfl ?_
  refine k_iload_n C dL_582 rfl ?_
  refine k_iconst C dL_583 ?_
  refine k_iadd C dL_584 ?_
  refine k_sld C hX hbl hbA hL (j := i + 3) (by omega) (by omega) dL_585 ?_
  refine k_callW C (nargs := 2) (ci := 9) (st := []) (Z := (fun _ _ => True)) trivial zTr (fun q => q) (m_Rfeed rfl h) (wld_get Mr (by decide)) rfl rfl gl_62 (by decide +kernel) ⟨rfl, rfl⟩ dL_586 (by decide) rfl rfl (Nat.le_of_ble_eq_true rfl) (by decide) (fun r' Mr' h => ?_)
  refine k_pop C dL_589 rfl ?_
  exact k_goto C 1424 dL_590 (by decide) h
set_option maxRecDepth 100000 in
set_option maxHeartbeats 2000000 in
theorem lo_11 (h0 : LC p s m c b L xs D cI cS A) {i : Nat} (hi : i + 5 < L) {Mc Mr : gSt} (h : w_X8_text (xs (i + 1)).toInt Mc (fun r Mc' => w_Rtext (xs (i + 1)).toInt Mr (fun r' Mr' => gL p l e s m below meth c Q D A b ad bd cI cS 1424 i [] Mc' Mr'))) : gL p l e s m below meth c Q D A b ad bd cI cS 593 i [] Mc Mr := by
  obtain ⟨C, hX, hbl, hbA, hL, -⟩ := id h0
  refine k_aload_n C dL_593 rfl ?_
  refine k_aload_n C dL_594 rfl ?_
  refine k_iload_n C dL_595 rfl ?_
  refine k_iconst C dL_596 ?_
  refine k_iadd C dL_597 ?_
  refine k_sld C hX hbl hbA hL (j := i + 1) (by omega) (by omega) dL_598 ?_
  refine k_swap ?_
  refine k_callW C (nargs := 1) (ci := 8) (st := []) h0.2.2.2.2.2 zC_m (fun q => q) (m_X8_text h) (wld_get Mc (by decide)) rfl rfl gl_63 (by decide +kernel) ⟨rfl, rfl⟩ dL_599 (by decide) rfl rfl (Nat.le_of_ble_eq_true rfl) (by decide) (fun r Mc' h => ?_)
  refine k_swap ?_
  refine k_pop C dL_602 rfl ?_
  refine k_aload_n C dL_603 rfl ?_
  refine k_aload_n C dL_604 rfl ?_
  refine k_iload_n C dL_605 rfl ?_
  refine k_iconst C dL_606 ?_
  refine k_iadd C dL_607 ?_
  refine k_sld C hX hbl hbA hL (j := i + 1) (by omega) (by omega) dL_608 ?_
  refine k_callW C (nargs := 1) (ci := 9) (st := []) (Z := (fun _ _ => True)) trivial zTr (fun q => q) (m_Rtext rfl h) (wld_get Mr (by decide)) rfl rfl gl_66 (by decide +kernel) ⟨rfl, rfl⟩ dL_609 (by decide) rfl rfl (Nat.le_of_ble_eq_true rfl) (by decide) (fun r' Mr' h => ?_)
  refine k_pop C dL_612 rfl ?_
  exact k_goto C 1424 dL_613 (by decide) h
set_option maxRecDepth 100000 in
set_option maxHeartbeats 2000000 in
theorem lo_12 (h0 : LC p s m c b L xs D cI cS A) {i : Nat} (hi : i + 5 < L) {Mc Mr : gSt} (h : w_X8_untell (xs (i + 1)).toInt Mc (fun r Mc' => w_Runtell (xs (i + 1)).toInt Mr (fun r' Mr' => gL p l e s m below meth c Q D A b ad bd cI cS 1424 i [] Mc' Mr'))) : gL p l e s m below meth c Q D A b ad bd cI cS 616 i [] Mc Mr := by
  obtain ⟨C, hX, hbl, hbA, hL, -⟩ := id h0
  refine k_aload_n C dL_616 rfl ?_
  refine k_aload_n C dL_617 rfl ?_
  refine k_iload_n C dL_618 rfl ?_
  refine k_iconst C dL_619 ?_
  refine k_iadd C dL_620 ?_
  refine k_sld C hX hbl hbA hL (j := i + 1) (by omega) (by omega) dL_621 ?_
  refine k_swap ?_
  refine k_callW C (nargs := 1) (ci := 8) (st := []) h0.2.2.2.2.2 zC_m (fun q => q) (m_X8_untell h) (wld_get Mc (by decide)) rfl rfl gl_67 (by decide +kernel) ⟨rfl, rfl⟩ dL_622 (by decide) rfl rfl (Nat.le_of_ble_eq_true rfl) (by decide) (fun r Mc' h => ?_)
  refine k_swap ?_
  refine k_pop C dL_625 rfl ?_
  refine k_aload_n C dL_626 rfl ?_
  refine k_aload_n C dL_627 rfl ?_
  refine k_iload_n C dL_628 rfl ?_
  refine k_iconst C dL_629 ?_
  refine k_iadd C dL_630 ?_
  refine k_sld C hX hbl hbA hL (j := i + 1) (by omega) (by omega) dL_631 ?_
  refine k_callW C (nargs := 1) (ci := 9) (st := []) (Z := (fun _ _ => True)) trivial zTr (fun q => q) (m_Runtell rfl h) (wld_get Mr (by decide)) rfl rfl gl_70 (by decide +kernel) ⟨rfl, rfl⟩ dL_632 (by decide) rfl rfl (Nat.le_of_ble_eq_true rfl) (by decide) (fun r' Mr' h => ?_)
  refine k_pop C dL_635 rfl ?_
  exact k_goto C 1424 dL_636 (by decide) h
set_option maxRecDepth 100000 in
set_option maxHeartbeats 2000000 in
theorem lo_13 (h0 : LC p s m c b L xs D cI cS A) {i : Nat} (hi : i + 5 < L) {Mc Mr : gSt} (h : w_X8_claim (xs (i + 1)).toInt (xs (i + 2)).toInt Mc (fun r Mc' => w_Rclaim (xs (i + 1)).toInt (xs (i + 2)).toInt Mr (fun r' Mr' => gL p l e s m below meth c Q D A b ad bd cI cS 1424 i [] Mc' Mr'))) : gL p l e s m below meth c Q D A b ad bd cI cS 639 i [] Mc Mr := by
  obtain ⟨C, hX, hbl, hbA, hL, -⟩ := id h0
  refine k_aload_n C dL_639 rfl ?_
  refine k_aload_n C dL_640 rfl ?_
  refine k_iload_n C dL_641 rfl ?_
  refine k_iconst C dL_642 ?_
  refine k_iadd C dL_643 ?_
  refine k_sld C hX hbl hbA hL (j := i + 1) (by omega) (by omega) dL_644 ?_
  refine k_aload_n C dL_645 rfl ?_
  refine k_iload_n C dL_646 rfl ?_
  refine k_iconst C dL_647 ?_
  refine k_iadd C dL_648 ?_
  refine k_sld C hX hbl hbA hL (j := i + 2) (by omega) (by omega) dL_649 ?_
  refine k_swap ?_
  refine k_callW C (nargs := 2) (ci := 8) (st := []) h0.2.2.2.2.2 zC_m (fun q => q) (m_X8_claim h) (wld_get Mc (by decide)) rfl rfl gl_71 (by decide +kernel) ⟨rfl, rfl⟩ dL_650 (by decide) rfl rfl (Nat.le_of_ble_eq_true rfl) (by decide) (fun r Mc' h => ?_)
  refine k_swap ?_
  refine k_pop C dL_653 rfl ?_
  refine k_aload_n C dL_654 rfl ?_
  refine k_aload_n C dL_655 rfl ?_
  refine k_iload_n C dL_656 rfl ?_
  refine k_iconst C dL_657 ?_
  refine k_iadd C dL_658 ?_
  refine k_sld C hX hbl hbA hL (j := i + 1) (by omega) (by omega) dL_659 ?_
  refine k_aload_n C dL_660 rfl ?_
  refine k_iload_n C dL_661 rfl ?_
  refine k_iconst C dL_662 ?_
  refine k_iadd C dL_663 ?_
  refine k_sld C hX hbl hbA hL (j := i + 2) (by omega) (by omega) dL_664 ?_
  refine k_callW C (nargs := 2) (ci := 9) (st := []) (Z := (fun _ _ => True)) trivial zTr (fun q => q) (m_Rclaim rfl h) (wld_get Mr (by decide)) rfl rfl gl_74 (by decide +kernel) ⟨rfl, rfl⟩ dL_665 (by decide) rfl rfl (Nat.le_of_ble_eq_true rfl) (by decide) (fun r' Mr' h => ?_)
  refine k_pop C dL_668 rfl ?_
  exact k_goto C 1424 dL_669 (by decide) h
set_option maxRecDepth 100000 in
set_option maxHeartbeats 2000000 in
theorem lo_14 (h0 : LC p s m c b L xs D cI cS A) {i : Nat} (hi : i + 5 < L) {Mc Mr : gSt} (h : w_X8_claimIs (xs (i + 1)).toInt (xs (i + 2)).toInt Mc (fun r Mc' => w_RclaimIs (xs (i + 1)).toInt (xs (i + 2)).toInt Mr (fun r' Mr' => gL p l e s m below meth c Q D A b ad bd cI cS 1424 i [] Mc' Mr'))) : gL p l e s m below meth c Q D A b ad bd cI cS 672 i [] Mc Mr := by
  obtain ⟨C, hX, hbl, hbA, hL, -⟩ := id h0
  refine k_aload_n C dL_672 rfl ?_
  refine k_aload_n C dL_673 rfl ?_
  refine k_iload_n C dL_674 rfl ?_
  refine k_iconst C dL_675 ?_
  refine k_iadd C dL_676 ?_
  refine k_sld C hX hbl hbA hL (j := i + 1) (by omega) (by omega) dL_677 ?_
  refine k_aload_n C dL_678 rfl ?_
  refine k_iload_n C dL_679 rfl ?_
  refine k_iconst C dL_680 ?_
  refine k_iadd C dL_681 ?_
  refine k_sld C hX hbl hbA hL (j := i + 2) (by omega) (by omega) dL_682 ?_
  refine k_swap ?_
  refine k_callW C (nargs := 2) (ci := 8) (st := []) h0.2.2.2.2.2 zC_m (fun q => q) (m_X8_claimIs h) (wld_get Mc (by decide)) rfl rfl gl_75 (by decide +kernel) ⟨rfl, rfl⟩ dL_683 (by decide) rfl rfl (Nat.le_of_ble_eq_true rfl) (by decide) (fun r Mc' h => ?_)
  refine k_swap ?_
  refine k_pop C dL_686 rfl ?_
  refine k_aload_n C dL_687 rfl ?_
  refine k_aload_n C dL_688 rfl ?_
  refine k_iload_n C dL_689 rfl ?_
  refine k_iconst C dL_690 ?_
  refine k_iadd C dL_691 ?_
  refine k_sld C hX hbl hbA hL (j := i + 1) (by omega) (by omega) dL_692 ?_
  refine k_aload_n C dL_693 rfl ?_
  refine k_iload_n C dL_694 rfl ?_
  refine k_iconst C dL_695 ?_
  refine k_iadd C dL_696 ?_
  refine k_sld C hX hbl hbA hL (j := i + 2) (by omega) (by omega) dL_697 ?_
  refine k_callW C (nargs := 2) (ci := 9) (st := []) (Z := (fun _ _ => True)) trivial zTr (fun q => q) (m_RclaimIs rfl h) (wld_get Mr (by decide)) rfl rfl gl_78 (by decide +kernel) ⟨rfl, rfl⟩ dL_698 (by decide) rfl rfl (Nat.le_of_ble_eq_true rfl) (by decide) (fun r' Mr' h => ?_)
  refine k_pop C dL_701 rfl ?_
  exact k_goto C 1424 dL_702 (by decide) h
set_option maxRecDepth 100000 in
set_option maxHeartbeats 2000000 in
theorem lo_15 (h0 : LC p s m c b L xs D cI cS A) {i : Nat} (hi : i + 5 < L) {Mc Mr : gSt} (h : w_X8_share (xs (i + 1)).toInt (xs (i + 2)).toInt Mc (fun r Mc' => w_Rshare (xs (i + 1)).toInt (xs (i + 2)).toInt Mr (fun r' Mr' => gL p l e s m below meth c Q D A b ad bd cI cS 1424 i [] Mc' Mr'))) : gL p l e s m below meth c Q D A b ad bd cI cS 705 i [] Mc Mr := by
  obtain ⟨C, hX, hbl, hbA, hL, -⟩ := id h0
  refine k_aload_n C dL_705 rfl ?_
  refine k_aload_n C dL_706 rfl ?_
  refine k_iload_n C dL_707 rfl ?_
  refine k_iconst C dL_708 ?_
  refine k_iadd C dL_709 ?_
  refine k_sld C hX hbl hbA hL (j := i + 1) (by omega) (by omega) dL_710 ?_
  refine k_aload_n C dL_711 rfl ?_
  refine k_iload_n C dL_712 rfl ?_
  refine k_iconst C dL_713 ?_
  refine k_iadd C dL_714 ?_
  refine k_sld C hX hbl hbA hL (j := i + 2) (by omega) (by omega) dL_715 ?_
  refine k_swap ?_
  refine k_callW C (nargs := 2) (ci := 8) (st := []) h0.2.2.2.2.2 zC_m (fun q => q) (m_X8_share h) (wld_get Mc (by decide)) rfl rfl gl_79 (by decide +kernel) ⟨rfl, rfl⟩ dL_716 (by decide) rfl rfl (Nat.le_of_ble_eq_true rfl) (by decide) (fun r Mc' h => ?_)
  refine k_swap ?_
  refine k_pop C dL_719 rfl ?_
  refine k_aload_n C dL_720 rfl ?_
  refine k_aload_n C dL_721 rfl ?_
  refine k_iload_n C dL_722 rfl ?_
  refine k_iconst C dL_723 ?_
  refine k_iadd C dL_724 ?_
  refine k_sld C hX hbl hbA hL (j := i + 1) (by omega) (by omega) dL_725 ?_
  refine k_aload_n C dL_726 rfl ?_
  refine k_iload_n C dL_727 rfl ?_
  refine k_iconst C dL_728 ?_
  refine k_iadd C dL_729 ?_
  refine k_sld C hX hbl hbA hL (j := i + 2) (by omega) (by omega) dL_730 ?_
  refine k_callW C (nargs := 2) (ci := 9) (st := []) (Z := (fun _ _ => True)) trivial zTr (fun q => q) (m_Rshare rfl h) (wld_get Mr (by decide)) rfl rfl gl_82 (by decide +kernel) ⟨rfl, rfl⟩ dL_731 (by decide) rfl rfl (Nat.le_of_ble_eq_true rfl) (by decide) (fun r' Mr' h => ?_)
  refine k_pop C dL_734 rfl ?_
  exact k_goto C 1424 dL_735 (by decide) h
set_option maxRecDepth 100000 in
set_option maxHeartbeats 2000000 in
theorem lo_16 (h0 : LC p s m c b L xs D cI cS A) {i : Nat} (hi : i + 5 < L) {Mc Mr : gSt} (h : w_X8_left (xs (i + 1)).toInt (xs (i + 2)).toInt Mc (fun r Mc' => w_Rleft (xs (i + 1)).toInt (xs (i + 2)).toInt Mr (fun r' Mr' => gL p l e s m below meth c Q D A b ad bd cI cS 1424 i [] Mc' Mr'))) : gL p l e s m below meth c Q D A b ad bd cI cS 738 i [] Mc Mr := by
  obtain ⟨C, hX, hbl, hbA, hL, -⟩ := id h0
  refine k_aload_n C dL_738 rfl ?_
  refine k_aload_n C dL_739 rfl ?_
  refine k_iload_n C dL_740 rfl ?_
  refine k_iconst C dL_741 ?_
  refine k_iadd C dL_742 ?_
  refine k_sld C hX hbl hbA hL (j := i + 1) (by omega) (by omega) dL_743 ?_
  refine k_aload_n C dL_744 rfl ?_
  refine k_iload_n C dL_745 rfl ?_
  refine k_iconst C dL_746 ?_
  refine k_iadd C dL_747 ?_
  refine k_sld C hX hbl hbA hL (j := i + 2) (by omega) (by omega) dL_748 ?_
  refine k_swap ?_
  refine k_callW C (nargs := 2) (ci := 8) (st := []) h0.2.2.2.2.2 zC_m (fun q => q) (m_X8_left h) (wld_get Mc (by decide)) rfl rfl gl_83 (by decide +kernel) ⟨rfl, rfl⟩ dL_749 (by decide) rfl rfl (Nat.le_of_ble_eq_true rfl) (by decide) (fun r Mc' h => ?_)
  refine k_swap ?_
  refine k_pop C dL_752 rfl ?_
  refine k_aload_n C dL_753 rfl ?_
  refine k_aload_n C dL_754 rfl ?_
  refine k_iload_n C dL_755 rfl ?_
  refine k_iconst C dL_756 ?_
  refine k_iadd C dL_757 ?_
  refine k_sld C hX hbl hbA hL (j := i + 1) (by omega) (by omega) dL_758 ?_
  refine k_aload_n C dL_759 rfl ?_
  refine k_iload_n C dL_760 rfl ?_
  refine k_iconst C dL_761 ?_
  refine k_iadd C dL_762 ?_
  refine k_sld C hX hbl hbA hL (j := i + 2) (by omega) (by omega) dL_763 ?_
  refine k_callW C (nargs := 2) (ci := 9) (st := []) (Z := (fun _ _ => True)) trivial zTr (fun q => q) (m_Rleft rfl h) (wld_get Mr (by decide)) rfl rfl gl_86 (by decide +kernel) ⟨rfl, rfl⟩ dL_764 (by decide) rfl rfl (Nat.le_of_ble_eq_true rfl) (by decide) (fun r' Mr' h => ?_)
  refine k_pop C dL_767 rfl ?_
  exact k_goto C 1424 dL_768 (by decide) h
set_option maxRecDepth 100000 in
set_option maxHeartbeats 2000000 in
theorem lo_17 (h0 : LC p s m c b L xs D cI cS A) {i : Nat} (hi : i + 5 < L) {Mc Mr : gSt} (h : w_X8_paper (xs (i + 1)).toInt (xs (i + 2)).toInt (xs (i + 3)).toInt Mc (fun r Mc' => w_Rpaper (xs (i + 1)).toInt (xs (i + 2)).toInt (xs (i + 3)).toInt Mr (fun r' Mr' => gL p l e s m below meth c Q D A b ad bd cI cS 1424 i [] Mc' Mr'))) : gL p l e s m below meth c Q D A b ad bd cI cS 771 i [] Mc Mr := by
  obtain ⟨C, hX, hbl, hbA, hL, -⟩ := id h0
  refine k_aload_n C dL_771 rfl ?_
  refine k_aload_n C dL_772 rfl ?_
  refine k_iload_n C dL_773 rfl ?_
  refine k_iconst C dL_774 ?_
  refine k_iadd C dL_775 ?_
  refine k_sld C hX hbl hbA hL (j := i + 1) (by omega) (by omega) dL_776 ?_
  refine k_aload_n C dL_777 rfl ?_
  refine k_iload_n C dL_778 rfl ?_
  refine k_iconst C dL_779 ?_
  refine k_iadd C dL_780 ?_
  refine k_sld C hX hbl hbA hL (j := i + 2) (by omega) (by omega) dL_781 ?_
  refine k_aload_n C dL_782 rfl ?_
  refine k_iload_n C dL_783 rfl ?_
  refine k_iconst C dL_784 ?_
  refine k_iadd C dL_785 ?_
  refine k_sld C hX hbl hbA hL (j := i + 3) (by omega) (by omega) dL_786 ?_
  refine k_swap ?_
  refine k_callW C (nargs := 3) (ci := 8) (st := []) h0.2.2.2.2.2 zC_m (fun q => q) (m_X8_paper h) (wld_get Mc (by decide)) rfl rfl gl_87 (by decide +kernel) ⟨rfl, rfl⟩ dL_787 (by decide) rfl rfl (Nat.le_of_ble_eq_true rfl) (by decide) (fun r Mc' h => ?_)
  refine k_swap ?_
  refine k_pop C dL_790 rfl ?_
  refine k_aload_n C dL_791 rfl ?_
  refine k_aload_n C dL_792 rfl ?_
  refine k_iload_n C dL_793 rfl ?_
  refine k_iconst C dL_794 ?_
  refine k_iadd C dL_795 ?_
  refine k_sld C hX hbl hbA hL (j := i + 1) (by omega) (by omega) dL_796 ?_
  refine k_aload_n C dL_797 rfl ?_
  refine k_iload_n C dL_798 rfl ?_
  refine k_iconst C dL_799 ?_
  refine k_iadd C dL_800 ?_
  refine k_sld C hX hbl hbA hL (j := i + 2) (by omega) (by omega) dL_801 ?_
  refine k_aload_n C dL_802 rfl ?_
  refine k_iload_n C dL_803 rfl ?_
  refine k_iconst C dL_804 ?_
  refine k_iadd C dL_805 ?_
  refine k_sld C hX hbl hbA hL (j := i + 3) (by omega) (by omega) dL_806 ?_
  refine k_callW C (nargs := 3) (ci := 9) (st := []) (Z := (fun _ _ => True)) trivial zTr (fun q => q) (m_Rpaper rfl h) (wld_get Mr (by decide)) rfl rfl gl_90 (by decide +kernel) ⟨rfl, rfl⟩ dL_807 (by decide) rfl rfl (Nat.le_of_ble_eq_true rfl) (by decide) (fun r' Mr' h => ?_)
  refine k_pop C dL_810 rfl ?_
  exact k_goto C 1424 dL_811 (by decide) h
set_option maxRecDepth 100000 in
set_option maxHeartbeats 2000000 in
theorem lo_18 (h0 : LC p s m c b L xs D cI cS A) {i : Nat} (hi : i + 5 < L) {Mc Mr : gSt} (h : w_X8_weigh (xs (i + 1)).toInt (xs (i + 2)).toInt (xs (i + 3)).toInt Mc (fun r Mc' => w_Rweigh (xs (i + 1)).toInt (xs (i + 2)).toInt (xs (i + 3)).toInt Mr (fun r' Mr' => gL p l e s m below meth c Q D A b ad bd cI cS 1424 i [] Mc' Mr'))) : gL p l e s m below meth c Q D A b ad bd cI cS 814 i [] Mc Mr := by
  obtain ⟨C, hX, hbl, hbA, hL, -⟩ := id h0
  refine k_aload_n C dL_814 rfl ?_
  refine k_aload_n C dL_815 rfl ?_
  refine k_iload_n C dL_816 rfl ?_
  refine k_iconst C dL_817 ?_
  refine k_iadd C dL_818 ?_
  refine k_sld C hX hbl hbA hL (j := i + 1) (by omega) (by omega) dL_819 ?_
  refine k_aload_n C dL_820 rfl ?_
  refine k_iload_n C dL_821 rfl ?_
  refine k_iconst C dL_822 ?_
  refine k_iadd C dL_823 ?_
  refine k_sld C hX hbl hbA hL (j := i + 2) (by omega) (by omega) dL_824 ?_
  refine k_aload_n C dL_825 rfl ?_
  refine k_iload_n C dL_826 rfl ?_
  refine k_iconst C dL_827 ?_
  refine k_iadd C dL_828 ?_
  refine k_sld C hX hbl hbA hL (j := i + 3) (by omega) (by omega) dL_829 ?_
  refine k_swap ?_
  refine k_callW C (nargs := 3) (ci := 8) (st := []) h0.2.2.2.2.2 zC_m (fun q => q) (m_X8_weigh h) (wld_get Mc (by decide)) rfl rfl gl_91 (by decide +kernel) ⟨rfl, rfl⟩ dL_830 (by decide) rfl rfl (Nat.le_of_ble_eq_true rfl) (by decide) (fun r Mc' h => ?_)
  refine k_swap ?_
  refine k_pop C dL_833 rfl ?_
  refine k_aload_n C dL_834 rfl ?_
  refine k_aload_n C dL_835 rfl ?_
  refine k_iload_n C dL_836 rfl ?_
  refine k_iconst C dL_837 ?_
  refine k_iadd C dL_838 ?_
  refine k_sld C hX hbl hbA hL (j := i + 1) (by omega) (by omega) dL_839 ?_
  refine k_aload_n C dL_840 rfl ?_
  refine k_iload_n C dL_841 rfl ?_
  refine k_iconst C dL_842 ?_
  refine k_iadd C dL_843 ?_
  refine k_sld C hX hbl hbA hL (j := i + 2) (by omega) (by omega) dL_844 ?_
  refine k_aload_n C dL_845 rfl ?_
  refine k_iload_n C dL_846 rfl ?_
  refine k_iconst C dL_847 ?_
  refine k_iadd C dL_848 ?_
  refine k_sld C hX hbl hbA hL (j := i + 3) (by omega) (by omega) dL_849 ?_
  refine k_callW C (nargs := 3) (ci := 9) (st := []) (Z := (fun _ _ => True)) trivial zTr (fun q => q) (m_Rweigh rfl h) (wld_get Mr (by decide)) rfl rfl gl_94 (by decide +kernel) ⟨rfl, rfl⟩ dL_850 (by decide) rfl rfl (Nat.le_of_ble_eq_true rfl) (by decide) (fun r' Mr' h => ?_)
  refine k_pop C dL_853 rfl ?_
  exact k_goto C 1424 dL_854 (by decide) h
set_option maxRecDepth 100000 in
set_option maxHeartbeats 2000000 in
theorem lo_19 (h0 : LC p s m c b L xs D cI cS A) {i : Nat} (hi : i + 5 < L) {Mc Mr : gSt} (h : w_X8_forget (xs (i + 1)).toInt Mc (fun r Mc' => w_Rforget (xs (i + 1)).toInt Mr (fun r' Mr' => gL p l e s m below meth c Q D A b ad bd cI cS 1424 i [] Mc' Mr'))) : gL p l e s m below meth c Q D A b ad bd cI cS 857 i [] Mc Mr := by
  obtain ⟨C, hX, hbl, hbA, hL, -⟩ := id h0
  refine k_aload_n C dL_857 rfl ?_
  refine k_aload_n C dL_858 rfl ?_
  refine k_iload_n C dL_859 rfl ?_
  refine k_iconst C dL_860 ?_
  refine k_iadd C dL_861 ?_
  refine k_sld C hX hbl hbA hL (j := i + 1) (by omega) (by omega) dL_862 ?_
  refine k_swap ?_
  refine k_callW C (nargs := 1) (ci := 8) (st := []) h0.2.2.2.2.2 zC_m (fun q => q) (m_X8_forget h) (wld_get Mc (by decide)) rfl rfl gl_95 (by decide +kernel) ⟨rfl, rfl⟩ dL_863 (by decide) rfl rfl (Nat.le_of_ble_eq_true rfl) (by decide) (fun r Mc' h => ?_)
  refine k_swap ?_
  refine k_pop C dL_866 rfl ?_
  refine k_aload_n C dL_867 rfl ?_
  refine k_aload_n C dL_868 rfl ?_
  refine k_iload_n C dL_869 rfl ?_
  refine k_iconst C dL_870 ?_
  refine k_iadd C dL_871 ?_
  refine k_sld C hX hbl hbA hL (j := i + 1) (by omega) (by omega) dL_872 ?_
  refine k_callW C (nargs := 1) (ci := 9) (st := []) (Z := (fun _ _ => True)) trivial zTr (fun q => q) (m_Rforget rfl h) (wld_get Mr (by decide)) rfl rfl gl_98 (by decide +kernel) ⟨rfl, rfl⟩ dL_873 (by decide) rfl rfl (Nat.le_of_ble_eq_true rfl) (by decide) (fun r' Mr' h => ?_)
  refine k_pop C dL_876 rfl ?_
  exact k_goto C 1424 dL_877 (by decide) h
set_option maxRecDepth 100000 in
set_option maxHeartbeats 2000000 in
theorem lo_20 (h0 : LC p s m c b L xs D cI cS A) {i : Nat} (hi : i + 5 < L) {Mc Mr : gSt} (h : w_X8_by (xs (i + 1)).toInt (xs (i + 2)).toInt (xs (i + 3)).toInt Mc (fun r Mc' => w_Rby (xs (i + 1)).toInt (xs (i + 2)).toInt (xs (i + 3)).toInt Mr (fun r' Mr' => gL p l e s m below meth c Q D A b ad bd cI cS 1424 i [] Mc' Mr'))) : gL p l e s m below meth c Q D A b ad bd cI cS 880 i [] Mc Mr := by
  obtain ⟨C, hX, hbl, hbA, hL, -⟩ := id h0
  refine k_aload_n C dL_880 rfl ?_
  refine k_aload_n C dL_881 rfl ?_
  refine k_iload_n C dL_882 rfl ?_
  refine k_iconst C dL_883 ?_
  refine k_iadd C dL_884 ?_
  refine k_sld C hX hbl hbA hL (j := i + 1) (by omega) (by omega) dL_885 ?_
  refine k_aload_n C dL_886 rfl ?_
  refine k_iload_n C dL_887 rfl ?_
  refine k_iconst C dL_888 ?_
  refine k_iadd C dL_889 ?_
  refine k_sld C hX hbl hbA hL (j := i + 2) (by omega) (by omega) dL_890 ?_
  refine k_aload_n C dL_891 rfl ?_
  refine k_iload_n C dL_892 rfl ?_
  refine k_iconst C dL_893 ?_
  refine k_iadd C dL_894 ?_
  refine k_sld C hX hbl hbA hL (j := i + 3) (by omega) (by omega) dL_895 ?_
  refine k_swap ?_
  refine k_callW C (nargs := 3) (ci := 8) (st := []) h0.2.2.2.2.2 zC_m (fun q => q) (m_X8_by h) (wld_get Mc (by decide)) rfl rfl gl_99 (by decide +kernel) ⟨rfl, rfl⟩ dL_896 (by decide) rfl rfl (Nat.le_of_ble_eq_true rfl) (by decide) (fun r Mc' h => ?_)
  refine k_swap ?_
  refine k_pop C dL_899 rfl ?_
  refine k_aload_n C dL_900 rfl ?_
  refine k_aload_n C dL_901 rfl ?_
  refine k_iload_n C dL_902 rfl ?_
  refine k_iconst C dL_903 ?_
  refine k_iadd C dL_904 ?_
  refine k_sld C hX hbl hbA hL (j := i + 1) (by omega) (by omega) dL_905 ?_
  refine k_aload_n C dL_906 rfl ?_
  refine k_iload_n C dL_907 rfl ?_
  refine k_iconst C dL_908 ?_
  refine k_iadd C dL_909 ?_
  refine k_sld C hX hbl hbA hL (j := i + 2) (by omega) (by omega) dL_910 ?_
  refine k_aload_n C dL_911 rfl ?_
  refine k_iload_n C dL_912 rfl ?_
  refine k_iconst C dL_913 ?_
  refine k_iadd C dL_914 ?_
  refine k_sld C hX hbl hbA hL (j := i + 3) (by omega) (by omega) dL_915 ?_
  refine k_callW C (nargs := 3) (ci := 9) (st := []) (Z := (fun _ _ => True)) trivial zTr (fun q => q) (m_Rby rfl h) (wld_get Mr (by decide)) rfl rfl gl_102 (by decide +kernel) ⟨rfl, rfl⟩ dL_916 (by decide) rfl rfl (Nat.le_of_ble_eq_true rfl) (by decide) (fun r' Mr' h => ?_)
  refine k_pop C dL_919 rfl ?_
  exact k_goto C 1424 dL_920 (by decide) h
set_option maxRecDepth 100000 in
set_option maxHeartbeats 2000000 in
theorem lo_21 (h0 : LC p s m c b L xs D cI cS A) {i : Nat} (hi : i + 5 < L) {Mc Mr : gSt} (h : w_X8_fits (xs (i + 1)).toInt Mc (fun r Mc' => w_Rfits (xs (i + 1)).toInt Mr (fun r' Mr' => gL p l e s m below meth c Q D A b ad bd cI cS 1424 i [] Mc' Mr'))) : gL p l e s m below meth c Q D A b ad bd cI cS 923 i [] Mc Mr := by
  obtain ⟨C, hX, hbl, hbA, hL, -⟩ := id h0
  refine k_aload_n C dL_923 rfl ?_
  refine k_aload_n C dL_924 rfl ?_
  refine k_iload_n C dL_925 rfl ?_
  refine k_iconst C dL_926 ?_
  refine k_iadd C dL_927 ?_
  refine k_sld C hX hbl hbA hL (j := i + 1) (by omega) (by omega) dL_928 ?_
  refine k_swap ?_
  refine k_callW C (nargs := 1) (ci := 8) (st := []) h0.2.2.2.2.2 zC_m (fun q => q) (m_X8_fits h) (wld_get Mc (by decide)) rfl rfl gl_103 (by decide +kernel) ⟨rfl, rfl⟩ dL_929 (by decide) rfl rfl (Nat.le_of_ble_eq_true rfl) (by decide) (fun r Mc' h => ?_)
  refine k_swap ?_
  refine k_pop C dL_932 rfl ?_
  refine k_aload_n C dL_933 rfl ?_
  refine k_aload_n C dL_934 rfl ?_
  refine k_iload_n C dL_935 rfl ?_
  refine k_iconst C dL_936 ?_
  refine k_iadd C dL_937 ?_
  refine k_sld C hX hbl hbA hL (j := i + 1) (by omega) (by omega) dL_938 ?_
  refine k_callW C (nargs := 1) (ci := 9) (st := []) (Z := (fun _ _ => True)) trivial zTr (fun q => q) (m_Rfits rfl h) (wld_get Mr (by decide)) rfl rfl gl_106 (by decide +kernel) ⟨rfl, rfl⟩ dL_939 (by decide) rfl rfl (Nat.le_of_ble_eq_true rfl) (by decide) (fun r' Mr' h => ?_)
  refine k_pop C dL_942 rfl ?_
  exact k_goto C 1424 dL_943 (by decide) h
set_option maxRecDepth 100000 in
set_option maxHeartbeats 2000000 in
theorem lo_22 (h0 : LC p s m c b L xs D cI cS A) {i : Nat} (hi : i + 5 < L) {Mc Mr : gSt} (h : w_X8_span (xs (i + 1)).toInt (xs (i + 2)).toInt (xs (i + 3)).toInt Mc (fun r Mc' => w_Rspan (xs (i + 1)).toInt (xs (i + 2)).toInt (xs (i + 3)).toInt Mr (fun r' Mr' => gL p l e s m below meth c Q D A b ad bd cI cS 1424 i [] Mc' Mr'))) : gL p l e s m below meth c Q D A b ad bd cI cS 946 i [] Mc Mr := by
  obtain ⟨C, hX, hbl, hbA, hL, -⟩ := id h0
  refine k_aload_n C dL_946 rfl ?_
  refine k_aload_n C dL_947 rfl ?_
  refine k_iload_n C dL_948 rfl ?_
  refine k_iconst C dL_949 ?_
  refine k_iadd C dL_950 ?_
  refine k_sld C hX hbl hbA hL (j := i + 1) (by omega) (by omega) dL_951 ?_
  refine k_aload_n C dL_952 rfl ?_
  refine k_iload_n C dL_953 rfl ?_
  refine k_iconst C dL_954 ?_
  refine k_iadd C dL_955 ?_
  refine k_sld C hX hbl hbA hL (j := i + 2) (by omega) (by omega) dL_956 ?_
  refine k_aload_n C dL_957 rfl ?_
  refine k_iload_n C dL_958 rfl ?_
  refine k_iconst C dL_959 ?_
  refine k_iadd C dL_960 ?_
  refine k_sld C hX hbl hbA hL (j := i + 3) (by omega) (by omega) dL_961 ?_
  refine k_swap ?_
  refine k_callW C (nargs := 3) (ci := 8) (st := []) h0.2.2.2.2.2 zC_m (fun q => q) (m_X8_span h) (wld_get Mc (by decide)) rfl rfl gl_107 (by decide +kernel) ⟨rfl, rfl⟩ dL_962 (by decide) rfl rfl (Nat.le_of_ble_eq_true rfl) (by decide) (fun r Mc' h => ?_)
  refine k_swap ?_
  refine k_pop C dL_965 rfl ?_
  refine k_aload_n C dL_966 rfl ?_
  refine k_aload_n C dL_967 rfl ?_
  refine k_iload_n C dL_968 rfl ?_
  refine k_iconst C dL_969 ?_
  refine k_iadd C dL_970 ?_
  refine k_sld C hX hbl hbA hL (j := i + 1) (by omega) (by omega) dL_971 ?_
  refine k_aload_n C dL_972 rfl ?_
  refine k_iload_n C dL_973 rfl ?_
  refine k_iconst C dL_974 ?_
  refine k_iadd C dL_975 ?_
  refine k_sld C hX hbl hbA hL (j := i + 2) (by omega) (by omega) dL_976 ?_
  refine k_aload_n C dL_977 rfl ?_
  refine k_iload_n C dL_978 rfl ?_
  refine k_iconst C dL_979 ?_
  refine k_iadd C dL_980 ?_
  refine k_sld C hX hbl hbA hL (j := i + 3) (by omega) (by omega) dL_981 ?_
  refine k_callW C (nargs := 3) (ci := 9) (st := []) (Z := (fun _ _ => True)) trivial zTr (fun q => q) (m_Rspan rfl h) (wld_get Mr (by decide)) rfl rfl gl_110 (by decide +kernel) ⟨rfl, rfl⟩ dL_982 (by decide) rfl rfl (Nat.le_of_ble_eq_true rfl) (by decide) (fun r' Mr' h => ?_)
  refine k_pop C dL_985 rfl ?_
  exact k_goto C 1424 dL_986 (by decide) h
set_option maxRecDepth 100000 in
set_option maxHeartbeats 2000000 in
theorem lo_23 (h0 : LC p s m c b L xs D cI cS A) {i : Nat} (hi : i + 5 < L) {Mc Mr : gSt} (h : w_X8_next  Mc (fun r Mc' => w_Rnext  Mr (fun r' Mr' => gL p l e s m below meth c Q D A b ad bd cI cS 1424 i [] Mc' Mr'))) : gL p l e s m below meth c Q D A b ad bd cI cS 989 i [] Mc Mr := by
  obtain ⟨C, hX, hbl, hbA, hL, -⟩ := id h0
  refine k_aload_n C dL_989 rfl ?_
  refine k_swap ?_
  refine k_callW C (nargs := 0) (ci := 8) (st := []) h0.2.2.2.2.2 zC_m (fun q => q) (m_X8_next h) (wld_get Mc (by decide)) rfl rfl gl_111 (by decide +kernel) ⟨rfl, rfl⟩ dL_990 (by decide) rfl rfl (Nat.le_of_ble_eq_true rfl) (by decide) (fun r Mc' h => ?_)
  refine k_swap ?_
  refine k_pop C dL_993 rfl ?_
  refine k_aload_n C dL_994 rfl ?_
  refine k_callW C (nargs := 0) (ci := 9) (st := []) (Z := (fun _ _ => True)) trivial zTr (fun q => q) (m_Rnext rfl h) (wld_get Mr (by decide)) rfl rfl gl_115 (by decide +kernel) ⟨rfl, rfl⟩ dL_995 (by decide) rfl rfl (Nat.le_of_ble_eq_true rfl) (by decide) (fun r' Mr' h => ?_)
  refine k_pop C dL_998 rfl ?_
  exact k_goto C 1424 dL_999 (by decide) h
set_option maxRecDepth 100000 in
set_option maxHeartbeats 2000000 in
theorem lo_24 (h0 : LC p s m c b L xs D cI cS A) {i : Nat} (hi : i + 5 < L) {Mc Mr : gSt} (h : w_X8_most (xs (i + 1)).toInt (xs (i + 2)).toInt (xs (i + 3)).toInt Mc (fun r Mc' => w_Rmost (xs (i + 1)).toInt (xs (i + 2)).toInt (xs (i + 3)).toInt Mr (fun r' Mr' => gL p l e s m below meth c Q D A b ad bd cI cS 1424 i [] Mc' Mr'))) : gL p l e s m below meth c Q D A b ad bd cI cS 1002 i [] Mc Mr := by
  obtain ⟨C, hX, hbl, hbA, hL, -⟩ := id h0
  refine k_aload_n C dL_1002 rfl ?_
  refine k_aload_n C dL_1003 rfl ?_
  refine k_iload_n C dL_1004 rfl ?_
  refine k_iconst C dL_1005 ?_
  refine k_iadd C dL_1006 ?_
  refine k_sld C hX hbl hbA hL (j := i + 1) (by omega) (by omega) dL_1007 ?_
  refine k_aload_n C dL_1008 rfl ?_
  refine k_iload_n C dL_1009 rfl ?_
  refine k_iconst C dL_1010 ?_
  refine k_iadd C dL_1011 ?_
  refine k_sld C hX hbl hbA hL (j := i + 2) (by omega) (by omega) dL_1012 ?_
  refine k_aload_n C dL_1013 rfl ?_
  refine k_iload_n C dL_1014 rfl ?_
  refine k_iconst C dL_1015 ?_
  refine k_iadd C dL_1016 ?_
  refine k_sld C hX hbl hbA hL (j := i + 3) (by omega) (by omega) dL_1017 ?_
  refine k_swap ?_
  refine k_callW C (nargs := 3) (ci := 8) (st := []) h0.2.2.2.2.2 zC_m (fun q => q) (m_X8_most h) (wld_get Mc (by decide)) rfl rfl gl_116 (by decide +kernel) ⟨rfl, rfl⟩ dL_1018 (by decide) rfl rfl (Nat.le_of_ble_eq_true rfl) (by decide) (fun r Mc' h => ?_)
  refine k_swap ?_
  refine k_pop C dL_1021 rfl ?_
  refine k_aload_n C dL_1022 rfl ?_
  refine k_aload_n C dL_1023 rfl ?_
  refine k_iload_n C dL_1024 rfl ?_
  refine k_iconst C dL_1025 ?_
  refine k_iadd C dL_1026 ?_
  refine k_sld C hX hbl hbA hL (j := i + 1) (by omega) (by omega) dL_1027 ?_
  refine k_aload_n C dL_1028 rfl ?_
  refine k_iload_n C dL_1029 rfl ?_
  refine k_iconst C dL_1030 ?_
  refine k_iadd C dL_1031 ?_
  refine k_sld C hX hbl hbA hL (j := i + 2) (by omega) (by omega) dL_1032 ?_
  refine k_aload_n C dL_1033 rfl ?_
  refine k_iload_n C dL_1034 rfl ?_
  refine k_iconst C dL_1035 ?_
  refine k_iadd C dL_1036 ?_
  refine k_sld C hX hbl hbA hL (j := i + 3) (by omega) (by omega) dL_1037 ?_
  refine k_callW C (nargs := 3) (ci := 9) (st := []) (Z := (fun _ _ => True)) trivial zTr (fun q => q) (m_Rmost rfl h) (wld_get Mr (by decide)) rfl rfl gl_119 (by decide +kernel) ⟨rfl, rfl⟩ dL_1038 (by decide) rfl rfl (Nat.le_of_ble_eq_true rfl) (by decide) (fun r' Mr' h => ?_)
  refine k_pop C dL_1041 rfl ?_
  exact k_goto C 1424 dL_1042 (by decide) h
set_option maxRecDepth 100000 in
set_option maxHeartbeats 2000000 in
theorem lo_25 (h0 : LC p s m c b L xs D cI cS A) {i : Nat} (hi : i + 5 < L) {Mc Mr : gSt} (h : w_X8_voice (xs (i + 1)).toInt (xs (i + 2)).toInt (xs (i + 3)).toInt Mc (fun r Mc' => w_Rvoice (xs (i + 1)).toInt (xs (i + 2)).toInt (xs (i + 3)).toInt Mr (fun r' Mr' => gL p l e s m below meth c Q D A b ad bd cI cS 1424 i [] Mc' Mr'))) : gL p l e s m below meth c Q D A b ad bd cI cS 1045 i [] Mc Mr := by
  obtain ⟨C, hX, hbl, hbA, hL, -⟩ := id h0
  refine k_aload_n C dL_1045 rfl ?_
  refine k_aload_n C dL_1046 rfl ?_
  refine k_iload_n C dL_1047 rfl ?_
  refine k_iconst C dL_1048 ?_
  refine k_iadd C dL_1049 ?_
  refine k_sld C hX hbl hbA hL (j := i + 1) (by omega) (by omega) dL_1050 ?_
  refine k_aload_n C dL_1051 rfl ?_
  refine k_iload_n C dL_1052 rfl ?_
  refine k_iconst C dL_1053 ?_
  refine k_iadd C dL_1054 ?_
  refine k_sld C hX hbl hbA hL (j := i + 2) (by omega) (by omega) dL_1055 ?_
  refine k_aload_n C dL_1056 rfl ?_
  refine k_iload_n C dL_1057 rfl ?_
  refine k_iconst C dL_1058 ?_
  refine k_iadd C dL_1059 ?_
  refine k_sld C hX hbl hbA hL (j := i + 3) (by omega) (by omega) dL_1060 ?_
  refine k_swap ?_
  refine k_callW C (nargs := 3) (ci := 8) (st := []) h0.2.2.2.2.2 zC_m (fun q => q) (m_X8_voice h) (wld_get Mc (by decide)) rfl rfl gl_120 (by decide +kernel) ⟨rfl, rfl⟩ dL_1061 (by decide) rfl rfl (Nat.le_of_ble_eq_true rfl) (by decide) (fun r Mc' h => ?_)
  refine k_swap ?_
  refine k_pop C dL_1064 rfl ?_
  refine k_aload_n C dL_1065 rfl ?_
  refine k_aload_n C dL_1066 rfl ?_
  refine k_iload_n C dL_1067 rfl ?_
  refine k_iconst C dL_1068 ?_
  refine k_iadd C dL_1069 ?_
  refine k_sld C hX hbl hbA hL (j := i + 1) (by omega) (by omega) dL_1070 ?_
  refine k_aload_n C dL_1071 rfl ?_
  refine k_iload_n C dL_1072 rfl ?_
  refine k_iconst C dL_1073 ?_
  refine k_iadd C dL_1074 ?_
  refine k_sld C hX hbl hbA hL (j := i + 2) (by omega) (by omega) dL_1075 ?_
  refine k_aload_n C dL_1076 rfl ?_
  refine k_iload_n C dL_1077 rfl ?_
  refine k_iconst C dL_1078 ?_
  refine k_iadd C dL_1079 ?_
  refine k_sld C hX hbl hbA hL (j := i + 3) (by omega) (by omega) dL_1080 ?_
  refine k_callW C (nargs := 3) (ci := 9) (st := []) (Z := (fun _ _ => True)) trivial zTr (fun q => q) (m_Rvoice rfl h) (wld_get Mr (by decide)) rfl rfl gl_123 (by decide +kernel) ⟨rfl, rfl⟩ dL_1081 (by decide) rfl rfl (Nat.le_of_ble_eq_true rfl) (by decide) (fun r' Mr' h => ?_)
  refine k_pop C dL_1084 rfl ?_
  exact k_goto C 1424 dL_1085 (by decide) h
set_option maxRecDepth 100000 in
set_option maxHeartbeats 2000000 in
theorem lo_26 (h0 : LC p s m c b L xs D cI cS A) {i : Nat} (hi : i + 5 < L) {Mc Mr : gSt} (h : w_X8_body (xs (i + 1)).toInt Mc (fun r Mc' => w_Rbody (xs (i + 1)).toInt Mr (fun r' Mr' => gL p l e s m below meth c Q D A b ad bd cI cS 1424 i [] Mc' Mr'))) : gL p l e s m below meth c Q D A b ad bd cI cS 1088 i [] Mc Mr := by
  obtain ⟨C, hX, hbl, hbA, hL, -⟩ := id h0
  refine k_aload_n C dL_1088 rfl ?_
  refine k_aload_n C dL_1089 rfl ?_
  refine k_iload_n C dL_1090 rfl ?_
  refine k_iconst C dL_1091 ?_
  refine k_iadd C dL_1092 ?_
  refine k_sld C hX hbl hbA hL (j := i + 1) (by omega) (by omega) dL_1093 ?_
  refine k_swap ?_
  refine k_callW C (nargs := 1) (ci := 8) (st := []) h0.2.2.2.2.2 zC_m (fun q => q) (m_X8_body h) (wld_get Mc (by decide)) rfl rfl gl_124 (by decide +kernel) ⟨rfl, rfl⟩ dL_1094 (by decide) rfl rfl (Nat.le_of_ble_eq_true rfl) (by decide) (fun r Mc' h => ?_)
  refine k_swap ?_
  refine k_pop C dL_1097 rfl ?_
  refine k_aload_n C dL_1098 rfl ?_
  refine k_aload_n C dL_1099 rfl ?_
  refine k_iload_n C dL_1100 rfl ?_
  refine k_iconst C dL_1101 ?_
  refine k_iadd C dL_1102 ?_
  refine k_sld C hX hbl hbA hL (j := i + 1) (by omega) (by omega) dL_1103 ?_
  refine k_callW C (nargs := 1) (ci := 9) (st := []) (Z := (fun _ _ => True)) trivial zTr (fun q => q) (m_Rbody rfl h) (wld_get Mr (by decide)) rfl rfl gl_127 (by decide +kernel) ⟨rfl, rfl⟩ dL_1104 (by decide) rfl rfl (Nat.le_of_ble_eq_true rfl) (by decide) (fun r' Mr' h => ?_)
  refine k_pop C dL_1107 rfl ?_
  exact k_goto C 1424 dL_1108 (by decide) h
set_option maxRecDepth 100000 in
set_option maxHeartbeats 2000000 in
theorem lo_27 (h0 : LC p s m c b L xs D cI cS A) {i : Nat} (hi : i + 5 < L) {Mc Mr : gSt} (h : w_X8_sheet (xs (i + 1)).toInt (xs (i + 2)).toInt (xs (i + 3)).toInt Mc (fun r Mc' => w_Rsheet (xs (i + 1)).toInt (xs (i + 2)).toInt (xs (i + 3)).toInt Mr (fun r' Mr' => gL p l e s m below meth c Q D A b ad bd cI cS 1424 i [] Mc' Mr'))) : gL p l e s m below meth c Q D A b ad bd cI cS 1111 i [] Mc Mr := by
  obtain ⟨C, hX, hbl, hbA, hL, -⟩ := id h0
  refine k_aload_n C dL_1111 rfl ?_
  refine k_aload_n C dL_1112 rfl ?_
  refine k_iload_n C dL_1113 rfl ?_
  refine k_iconst C dL_1114 ?_
  refine k_iadd C dL_1115 ?_
  refine k_sld C hX hbl hbA hL (j := i + 1) (by omega) (by omega) dL_1116 ?_
  refine k_aload_n C dL_1117 rfl ?_
  refine k_iload_n C dL_1118 rfl ?_
  refine k_iconst C dL_1119 ?_
  refine k_iadd C dL_1120 ?_
  refine k_sld C hX hbl hbA hL (j := i + 2) (by omega) (by omega) dL_1121 ?_
  refine k_aload_n C dL_1122 rfl ?_
  refine k_iload_n C dL_1123 rfl ?_
  refine k_iconst C dL_1124 ?_
  refine k_iadd C dL_1125 ?_
  refine k_sld C hX hbl hbA hL (j := i + 3) (by omega) (by omega) dL_1126 ?_
  refine k_swap ?_
  refine k_callW C (nargs := 3) (ci := 8) (st := []) h0.2.2.2.2.2 zC_m (fun q => q) (m_X8_sheet h) (wld_get Mc (by decide)) rfl rfl gl_128 (by decide +kernel) ⟨rfl, rfl⟩ dL_1127 (by decide) rfl rfl (Nat.le_of_ble_eq_true rfl) (by decide) (fun r Mc' h => ?_)
  refine k_swap ?_
  refine k_pop C dL_1130 rfl ?_
  refine k_aload_n C dL_1131 rfl ?_
  refine k_aload_n C dL_1132 rfl ?_
  refine k_iload_n C dL_1133 rfl ?_
  refine k_iconst C dL_1134 ?_
  refine k_iadd C dL_1135 ?_
  refine k_sld C hX hbl hbA hL (j := i + 1) (by omega) (by omega) dL_1136 ?_
  refine k_aload_n C dL_1137 rfl ?_
  refine k_iload_n C dL_1138 rfl ?_
  refine k_iconst C dL_1139 ?_
  refine k_iadd C dL_1140 ?_
  refine k_sld C hX hbl hbA hL (j := i + 2) (by omega) (by omega) dL_1141 ?_
  refine k_aload_n C dL_1142 rfl ?_
  refine k_iload_n C dL_1143 rfl ?_
  refine k_iconst C dL_1144 ?_
  refine k_iadd C dL_1145 ?_
  refine k_sld C hX hbl hbA hL (j := i + 3) (by omega) (by omega) dL_1146 ?_
  refine k_callW C (nargs := 3) (ci := 9) (st := []) (Z := (fun _ _ => True)) trivial zTr (fun q => q) (m_Rsheet rfl h) (wld_get Mr (by decide)) rfl rfl gl_131 (by decide +kernel) ⟨rfl, rfl⟩ dL_1147 (by decide) rfl rfl (Nat.le_of_ble_eq_true rfl) (by decide) (fun r' Mr' h => ?_)
  refine k_pop C dL_1150 rfl ?_
  exact k_goto C 1424 dL_1151 (by decide) h
set_option maxRecDepth 100000 in
set_option maxHeartbeats 2000000 in
theorem lo_28 (h0 : LC p s m c b L xs D cI cS A) {i : Nat} (hi : i + 5 < L) {Mc Mr : gSt} (h : w_X8_put (xs (i + 1)).toInt (xs (i + 2)).toInt (xs (i + 3)).toInt Mc (fun r Mc' => w_Rput (xs (i + 1)).toInt (xs (i + 2)).toInt (xs (i + 3)).toInt Mr (fun r' Mr' => gL p l e s m below meth c Q D A b ad bd cI cS 1424 i [] Mc' Mr'))) : gL p l e s m below meth c Q D A b ad bd cI cS 1154 i [] Mc Mr := by
  obtain ⟨C, hX, hbl, hbA, hL, -⟩ := id h0
  refine k_aload_n C dL_1154 rfl ?_
  refine k_aload_n C dL_1155 rfl ?_
  refine k_iload_n C dL_1156 rfl ?_
  refine k_iconst C dL_1157 ?_
  refine k_iadd C dL_1158 ?_
  refine k_sld C hX hbl hbA hL (j := i + 1) (by omega) (by omega) dL_1159 ?_
  refine k_aload_n C dL_1160 rfl ?_
  refine k_iload_n C dL_1161 rfl ?_
  refine k_iconst C dL_1162 ?_
  refine k_iadd C dL_1163 ?_
  refine k_sld C hX hbl hbA hL (j := i + 2) (by omega) (by omega) dL_1164 ?_
  refine k_aload_n C dL_1165 rfl ?_
  refine k_iload_n C dL_1166 rfl ?_
  refine k_iconst C dL_1167 ?_
  refine k_iadd C dL_1168 ?_
  refine k_sld C hX hbl hbA hL (j := i + 3) (by omega) (by omega) dL_1169 ?_
  refine k_swap ?_
  refine k_callW C (nargs := 3) (ci := 8) (st := []) h0.2.2.2.2.2 zC_m (fun q => q) (m_X8_put h) (wld_get Mc (by decide)) rfl rfl gl_132 (by decide +kernel) ⟨rfl, rfl⟩ dL_1170 (by decide) rfl rfl (Nat.le_of_ble_eq_true rfl) (by decide) (fun r Mc' h => ?_)
  refine k_swap ?_
  refine k_pop C dL_1173 rfl ?_
  refine k_aload_n C dL_1174 rfl ?_
  refine k_aload_n C dL_1175 rfl ?_
  refine k_iload_n C dL_1176 rfl ?_
  refine k_iconst C dL_1177 ?_
  refine k_iadd C dL_1178 ?_
  refine k_sld C hX hbl hbA hL (j := i + 1) (by omega) (by omega) dL_1179 ?_
  refine k_aload_n C dL_1180 rfl ?_
  refine k_iload_n C dL_1181 rfl ?_
  refine k_iconst C dL_1182 ?_
  refine k_iadd C dL_1183 ?_
  refine k_sld C hX hbl hbA hL (j := i + 2) (by omega) (by omega) dL_1184 ?_
  refine k_aload_n C dL_1185 rfl ?_
  refine k_iload_n C dL_1186 rfl ?_
  refine k_iconst C dL_1187 ?_
  refine k_iadd C dL_1188 ?_
  refine k_sld C hX hbl hbA hL (j := i + 3) (by omega) (by omega) dL_1189 ?_
  refine k_callW C (nargs := 3) (ci := 9) (st := []) (Z := (fun _ _ => True)) trivial zTr (fun q => q) (m_Rput rfl h) (wld_get Mr (by decide)) rfl rfl gl_135 (by decide +kernel) ⟨rfl, rfl⟩ dL_1190 (by decide) rfl rfl (Nat.le_of_ble_eq_true rfl) (by decide) (fun r' Mr' h => ?_)
  refine k_pop C dL_1193 rfl ?_
  exact k_goto C 1424 dL_1194 (by decide) h
set_option maxRecDepth 100000 in
set_option maxHeartbeats 2000000 in
theorem lo_29 (h0 : LC p s m c b L xs D cI cS A) {i : Nat} (hi : i + 5 < L) {Mc Mr : gSt} (h : w_X8_move (xs (i + 1)).toInt (xs (i + 2)).toInt (xs (i + 3)).toInt (xs (i + 4)).toInt (xs (i + 5)).toInt Mc (fun r Mc' => w_Rmove (xs (i + 1)).toInt (xs (i + 2)).toInt (xs (i + 3)).toInt (xs (i + 4)).toInt (xs (i + 5)).toInt Mr (fun r' Mr' => gL p l e s m below meth c Q D A b ad bd cI cS 1424 i [] Mc' Mr'))) : gL p l e s m below meth c Q D A b ad bd cI cS 1197 i [] Mc Mr := by
  obtain ⟨C, hX, hbl, hbA, hL, -⟩ := id h0
  refine k_aload_n C dL_1197 rfl ?_
  refine k_aload_n C dL_1198 rfl ?_
  refine k_iload_n C dL_1199 rfl ?_
  refine k_iconst C dL_1200 ?_
  refine k_iadd C dL_1201 ?_
  refine k_sld C hX hbl hbA hL (j := i + 1) (by omega) (by omega) dL_1202 ?_
  refine k_aload_n C dL_1203 rfl ?_
  refine k_iload_n C dL_1204 rfl ?_
  refine k_iconst C dL_1205 ?_
  refine k_iadd C dL_1206 ?_
  refine k_sld C hX hbl hbA hL (j := i + 2) (by omega) (by omega) dL_1207 ?_
  refine k_aload_n C dL_1208 rfl ?_
  refine k_iload_n C dL_1209 rfl ?_
  refine k_iconst C dL_1210 ?_
  refine k_iadd C dL_1211 ?_
  refine k_sld C hX hbl hbA hL (j := i + 3) (by omega) (by omega) dL_1212 ?_
  refine k_aload_n C dL_1213 rfl ?_
  refine k_iload_n C dL_1214 rfl ?_
  refine k_iconst C dL_1215 ?_
  refine k_iadd C dL_1216 ?_
  refine k_sld C hX hbl hbA hL (j := i + 4) (by omega) (by omega) dL_1217 ?_
  refine k_aload_n C dL_1218 rfl ?_
  refine k_iload_n C dL_1219 rfl ?_
  refine k_iconst C dL_1220 ?_
  refine k_iadd C dL_1221 ?_
  refine k_sld C hX hbl hbA hL (j := i + 5) (by omega) (by omega) dL_1222 ?_
  refine k_swap ?_
  refine k_callW C (nargs := 5) (ci := 8) (st := []) h0.2.2.2.2.2 zC_m (fun q => q) (m_X8_move h) (wld_get Mc (by decide)) rfl rfl gl_136 (by decide +kernel) ⟨rfl, rfl⟩ dL_1223 (by decide) rfl rfl (Nat.le_of_ble_eq_true rfl) (by decide) (fun r Mc' h => ?_)
  refine k_swap ?_
  refine k_pop C dL_1226 rfl ?_
  refine k_aload_n C dL_1227 rfl ?_
  refine k_aload_n C dL_1228 rfl ?_
  refine k_iload_n C dL_1229 rfl ?_
  refine k_iconst C dL_1230 ?_
  refine k_iadd C dL_1231 ?_
  refine k_sld C hX hbl hbA hL (j := i + 1) (by omega) (by omega) dL_1232 ?_
  refine k_aload_n C dL_1233 rfl ?_
  refine k_iload_n C dL_1234 rfl ?_
  refine k_iconst C dL_1235 ?_
  refine k_iadd C dL_1236 ?_
  refine k_sld C hX hbl hbA hL (j := i + 2) (by omega) (by omega) dL_1237 ?_
  refine k_aload_n C dL_1238 rfl ?_
  refine k_iload_n C dL_1239 rfl ?_
  refine k_iconst C dL_1240 ?_
  refine k_iadd C dL_1241 ?_
  refine k_sld C hX hbl hbA hL (j := i + 3) (by omega) (by omega) dL_1242 ?_
  refine k_aload_n C dL_1243 rfl ?_
  refine k_iload_n C dL_1244 rfl ?_
  refine k_iconst C dL_1245 ?_
  refine k_iadd C dL_1246 ?_
  refine k_sld C hX hbl hbA hL (j := i + 4) (by omega) (by omega) dL_1247 ?_
  refine k_aload_n C dL_1248 rfl ?_
  refine k_iload_n C dL_1249 rfl ?_
  refine k_iconst C dL_1250 ?_
  refine k_iadd C dL_1251 ?_
  refine k_sld C hX hbl hbA hL (j := i + 5) (by omega) (by omega) dL_1252 ?_
  refine k_callW C (nargs := 5) (ci := 9) (st := []) (Z := (fun _ _ => True)) trivial zTr (fun q => q) (m_Rmove rfl h) (wld_get Mr (by decide)) rfl rfl gl_140 (by decide +kernel) ⟨rfl, rfl⟩ dL_1253 (by decide) rfl rfl (Nat.le_of_ble_eq_true rfl) (by decide) (fun r' Mr' h => ?_)
  refine k_pop C dL_1256 rfl ?_
  exact k_goto C 1424 dL_1257 (by decide) h
set_option maxRecDepth 100000 in
set_option maxHeartbeats 2000000 in
theorem lo_30 (h0 : LC p s m c b L xs D cI cS A) {i : Nat} (hi : i + 5 < L) {Mc Mr : gSt} (h : w_X8_papers (xs (i + 1)).toInt Mc (fun r Mc' => w_Rpapers (xs (i + 1)).toInt Mr (fun r' Mr' => gL p l e s m below meth c Q D A b ad bd cI cS 1424 i [] Mc' Mr'))) : gL p l e s m below meth c Q D A b ad bd cI cS 1260 i [] Mc Mr := by
  obtain ⟨C, hX, hbl, hbA, hL, -⟩ := id h0
  refine k_aload_n C dL_1260 rfl ?_
  refine k_aload_n C dL_1261 rfl ?_
  refine k_iload_n C dL_1262 rfl ?_
  refine k_iconst C dL_1263 ?_
  refine k_iadd C dL_1264 ?_
  refine k_sld C hX hbl hbA hL (j := i + 1) (by omega) (by omega) dL_1265 ?_
  refine k_swap ?_
  refine k_callW C (nargs := 1) (ci := 8) (st := []) h0.2.2.2.2.2 zC_m (fun q => q) (m_X8_papers h) (wld_get Mc (by decide)) rfl rfl gl_141 (by decide +kernel) ⟨rfl, rfl⟩ dL_1266 (by decide) rfl rfl (Nat.le_of_ble_eq_true rfl) (by decide) (fun r Mc' h => ?_)
  refine k_swap ?_
  refine k_pop C dL_1269 rfl ?_
  refine k_aload_n C dL_1270 rfl ?_
  refine k_aload_n C dL_1271 rfl ?_
  refine k_iload_n C dL_1272 rfl ?_
  refine k_iconst C dL_1273 ?_
  refine k_iadd C dL_1274 ?_
  refine k_sld C hX hbl hbA hL (j := i + 1) (by omega) (by omega) dL_1275 ?_
  refine k_callW C (nargs := 1) (ci := 9) (st := []) (Z := (fun _ _ => True)) trivial zTr (fun q => q) (m_Rpapers rfl h) (wld_get Mr (by decide)) rfl rfl gl_144 (by decide +kernel) ⟨rfl, rfl⟩ dL_1276 (by decide) rfl rfl (Nat.le_of_ble_eq_true rfl) (by decide) (fun r' Mr' h => ?_)
  refine k_pop C dL_1279 rfl ?_
  exact k_goto C 1424 dL_1280 (by decide) h
set_option maxRecDepth 100000 in
set_option maxHeartbeats 2000000 in
theorem lo_31 (h0 : LC p s m c b L xs D cI cS A) {i : Nat} (hi : i + 5 < L) {Mc Mr : gSt} (h : w_X8_judge (xs (i + 1)).toInt (xs (i + 2)).toInt Mc (fun r Mc' => w_Rjudge (xs (i + 1)).toInt (xs (i + 2)).toInt Mr (fun r' Mr' => gL p l e s m below meth c Q D A b ad bd cI cS 1424 i [] Mc' Mr'))) : gL p l e s m below meth c Q D A b ad bd cI cS 1283 i [] Mc Mr := by
  obtain ⟨C, hX, hbl, hbA, hL, -⟩ := id h0
  refine k_aload_n C dL_1283 rfl ?_
  refine k_aload_n C dL_1284 rfl ?_
  refine k_iload_n C dL_1285 rfl ?_
  refine k_iconst C dL_1286 ?_
  refine k_iadd C dL_1287 ?_
  refine k_sld C hX hbl hbA hL (j := i + 1) (by omega) (by omega) dL_1288 ?_
  refine k_aload_n C dL_1289 rfl ?_
  refine k_iload_n C dL_1290 rfl ?_
  refine k_iconst C dL_1291 ?_
  refine k_iadd C dL_1292 ?_
  refine k_sld C hX hbl hbA hL (j := i + 2) (by omega) (by omega) dL_1293 ?_
  refine k_swap ?_
  refine k_callW C (nargs := 2) (ci := 8) (st := []) h0.2.2.2.2.2 zC_m (fun q => q) (m_X8_judge h) (wld_get Mc (by decide)) rfl rfl gl_145 (by decide +kernel) ⟨rfl, rfl⟩ dL_1294 (by decide) rfl rfl (Nat.le_of_ble_eq_true rfl) (by decide) (fun r Mc' h => ?_)
  refine k_swap ?_
  refine k_pop C dL_1297 rfl ?_
  refine k_aload_n C dL_1298 rfl ?_
  refine k_aload_n C dL_1299 rfl ?_
  refine k_iload_n C dL_1300 rfl ?_
  refine k_iconst C dL_1301 ?_
  refine k_iadd C dL_1302 ?_
  refine k_sld C hX hbl hbA hL (j := i + 1) (by omega) (by omega) dL_1303 ?_
  refine k_aload_n C dL_1304 rfl ?_
  refine k_iload_n C dL_1305 rfl ?_
  refine k_iconst C dL_1306 ?_
  refine k_iadd C dL_1307 ?_
  refine k_sld C hX hbl hbA hL (j := i + 2) (by omega) (by omega) dL_1308 ?_
  refine k_callW C (nargs := 2) (ci := 9) (st := []) (Z := (fun _ _ => True)) trivial zTr (fun q => q) (m_Rjudge rfl h) (wld_get Mr (by decide)) rfl rfl gl_148 (by decide +kernel) ⟨rfl, rfl⟩ dL_1309 (by decide) rfl rfl (Nat.le_of_ble_eq_true rfl) (by decide) (fun r' Mr' h => ?_)
  refine k_pop C dL_1312 rfl ?_
  exact k_goto C 1424 dL_1313 (by decide) h
set_option maxRecDepth 100000 in
set_option maxHeartbeats 2000000 in
theorem lo_32 (h0 : LC p s m c b L xs D cI cS A) {i : Nat} (hi : i + 5 < L) {Mc Mr : gSt} (h : w_X8_image  Mc (fun r Mc' => w_Rimage  Mr (fun r' Mr' => gL p l e s m below meth c Q D A b ad bd cI cS 1424 i [] Mc' Mr'))) : gL p l e s m below meth c Q D A b ad bd cI cS 1316 i [] Mc Mr := by
  obtain ⟨C, hX, hbl, hbA, hL, -⟩ := id h0
  refine k_aload_n C dL_1316 rfl ?_
  refine k_swap ?_
  refine k_callW C (nargs := 0) (ci := 8) (st := []) h0.2.2.2.2.2 zC_m (fun q => q) (m_X8_image h) (wld_get Mc (by decide)) rfl rfl gl_149 (by decide +kernel) ⟨rfl, rfl⟩ dL_1317 (by decide) rfl rfl (Nat.le_of_ble_eq_true rfl) (by decide) (fun r Mc' h => ?_)
  refine k_swap ?_
  refine k_pop C dL_1320 rfl ?_
  refine k_aload_n C dL_1321 rfl ?_
  refine k_callW C (nargs := 0) (ci := 9) (st := []) (Z := (fun _ _ => True)) trivial zTr (fun q => q) (m_Rimage rfl h) (wld_get Mr (by decide)) rfl rfl gl_152 (by decide +kernel) ⟨rfl, rfl⟩ dL_1322 (by decide) rfl rfl (Nat.le_of_ble_eq_true rfl) (by decide) (fun r' Mr' h => ?_)
  refine k_pop C dL_1325 rfl ?_
  exact k_goto C 1424 dL_1326 (by decide) h
set_option maxRecDepth 100000 in
set_option maxHeartbeats 2000000 in
theorem lo_33 (h0 : LC p s m c b L xs D cI cS A) {i : Nat} (hi : i + 5 < L) {Mc Mr : gSt} (h : w_X8_restore  Mc (fun r Mc' => w_Rrestore  Mr (fun r' Mr' => gL p l e s m below meth c Q D A b ad bd cI cS 1424 i [] Mc' Mr'))) : gL p l e s m below meth c Q D A b ad bd cI cS 1329 i [] Mc Mr := by
  obtain ⟨C, hX, hbl, hbA, hL, -⟩ := id h0
  refine k_aload_n C dL_1329 rfl ?_
  refine k_swap ?_
  refine k_callW C (nargs := 0) (ci := 8) (st := []) h0.2.2.2.2.2 zC_m (fun q => q) (m_X8_restore h) (wld_get Mc (by decide)) rfl rfl gl_153 (by decide +kernel) ⟨rfl, rfl⟩ dL_1330 (by decide) rfl rfl (Nat.le_of_ble_eq_true rfl) (by decide) (fun r Mc' h => ?_)
  refine k_swap ?_
  refine k_pop C dL_1333 rfl ?_
  refine k_aload_n C dL_1334 rfl ?_
  refine k_callW C (nargs := 0) (ci := 9) (st := []) (Z := (fun _ _ => True)) trivial zTr (fun q => q) (m_Rrestore rfl h) (wld_get Mr (by decide)) rfl rfl gl_156 (by decide +kernel) ⟨rfl, rfl⟩ dL_1335 (by decide) rfl rfl (Nat.le_of_ble_eq_true rfl) (by decide) (fun r' Mr' h => ?_)
  refine k_pop C dL_1338 rfl ?_
  exact k_goto C 1424 dL_1339 (by decide) h
set_option maxRecDepth 100000 in
set_option maxHeartbeats 2000000 in
theorem lo_34 (h0 : LC p s m c b L xs D cI cS A) {i : Nat} (hi : i + 5 < L) {Mc Mr : gSt} (h : w_X8_tell (xs (i + 1)).toInt Mc (fun r Mc' => w_Rtell (xs (i + 1)).toInt Mr (fun r' Mr' => gL p l e s m below meth c Q D A b ad bd cI cS 1424 i [] Mc' Mr'))) : gL p l e s m below meth c Q D A b ad bd cI cS 1342 i [] Mc Mr := by
  obtain ⟨C, hX, hbl, hbA, hL, -⟩ := id h0
  refine k_aload_n C dL_1342 rfl ?_
  refine k_aload_n C dL_1343 rfl ?_
  refine k_iload_n C dL_1344 rfl ?_
  refine k_iconst C dL_1345 ?_
  refine k_iadd C dL_1346 ?_
  refine k_sld C hX hbl hbA hL (j := i + 1) (by omega) (by omega) dL_1347 ?_
  refine k_swap ?_
  refine k_callW C (nargs := 1) (ci := 8) (st := []) h0.2.2.2.2.2 zC_m (fun q => q) (m_X8_tell h) (wld_get Mc (by decide)) rfl rfl gl_157 (by decide +kernel) ⟨rfl, rfl⟩ dL_1348 (by decide) rfl rfl (Nat.le_of_ble_eq_true rfl) (by decide) (fun r Mc' h => ?_)
  refine k_swap ?_
  refine k_pop C dL_1351 rfl ?_
  refine k_aload_n C dL_1352 rfl ?_
  refine k_aload_n C dL_1353 rfl ?_
  refine k_iload_n C dL_1354 rfl ?_
  refine k_iconst C dL_1355 ?_
  refine k_iadd C dL_1356 ?_
  refine k_sld C hX hbl hbA hL (j := i + 1) (by omega) (by omega) dL_1357 ?_
  refine k_callW C (nargs := 1) (ci := 9) (st := []) (Z := (fun _ _ => True)) trivial zTr (fun q => q) (m_Rtell rfl h) (wld_get Mr (by decide)) rfl rfl gl_160 (by decide +kernel) ⟨rfl, rfl⟩ dL_1358 (by decide) rfl rfl (Nat.le_of_ble_eq_true rfl) (by decide) (fun r' Mr' h => ?_)
  refine k_pop C dL_1361 rfl ?_
  exact k_goto C 1424 dL_1362 (by decide) h
set_option maxRecDepth 100000 in
set_option maxHeartbeats 2000000 in
theorem lo_35 (h0 : LC p s m c b L xs D cI cS A) {i : Nat} (hi : i + 5 < L) {Mc Mr : gSt} (h : w_X8_check  Mc (fun r Mc' => w_Rcheck  Mr (fun r' Mr' => wrap r = wrap r' ∧ gL p l e s m below meth c Q D A b ad bd cI cS 1424 i [] Mc' Mr'))) : gL p l e s m below meth c Q D A b ad bd cI cS 1365 i [] Mc Mr := by
  obtain ⟨C, hX, hbl, hbA, hL, -⟩ := id h0
  refine k_aload_n C dL_1365 rfl ?_
  refine k_swap ?_
  refine k_callW C (nargs := 0) (ci := 8) (st := []) h0.2.2.2.2.2 zC_m (fun q => q) (m_X8_check h) (wld_get Mc (by decide)) rfl rfl gl_161 (by decide +kernel) ⟨rfl, rfl⟩ dL_1366 (by decide) rfl rfl (Nat.le_of_ble_eq_true rfl) (by decide) (fun r Mc' h => ?_)
  refine k_swap ?_
  refine k_aload_n C dL_1369 rfl ?_
  refine k_callW C (nargs := 0) (ci := 9) (st := [iv r]) (Z := (fun _ _ => True)) trivial zTr (fun q => q) (m_Rcheck rfl h) (wld_get Mr (by decide)) rfl rfl gl_164 (by decide +kernel) ⟨rfl, rfl⟩ dL_1370 (by decide) rfl rfl (Nat.le_of_ble_eq_true rfl) (by decide) (fun r' Mr' h => ?_)
  exact k_icmp_eq C 1424 dL_1373 (by decide) (fun _ => h.2) (fun n => absurd h.1 n)
set_option maxRecDepth 100000 in
set_option maxHeartbeats 2000000 in
theorem lo_36 (h0 : LC p s m c b L xs D cI cS A) {i : Nat} (hi : i + 5 < L) {Mc Mr : gSt} (h : w_X8_count (xs (i + 1)).toInt Mc (fun r Mc' => w_Rcount (xs (i + 1)).toInt Mr (fun r' Mr' => gL p l e s m below meth c Q D A b ad bd cI cS 1424 i [] Mc' Mr'))) : gL p l e s m below meth c Q D A b ad bd cI cS 1378 i [] Mc Mr := by
  obtain ⟨C, hX, hbl, hbA, hL, -⟩ := id h0
  refine k_aload_n C dL_1378 rfl ?_
  refine k_aload_n C dL_1379 rfl ?_
  refine k_iload_n C dL_1380 rfl ?_
  refine k_iconst C dL_1381 ?_
  refine k_iadd C dL_1382 ?_
  refine k_sld C hX hbl hbA hL (j := i + 1) (by omega) (by omega) dL_1383 ?_
  refine k_swap ?_
  refine k_callW C (nargs := 1) (ci := 8) (st := []) h0.2.2.2.2.2 zC_m (fun q => q) (m_X8_count h) (wld_get Mc (by decide)) rfl rfl gl_165 (by decide +kernel) ⟨rfl, rfl⟩ dL_1384 (by decide) rfl rfl (Nat.le_of_ble_eq_true rfl) (by decide) (fun r Mc' h => ?_)
  refine k_swap ?_
  refine k_pop C dL_1387 rfl ?_
  refine k_aload_n C dL_1388 rfl ?_
  refine k_aload_n C dL_1389 rfl ?_
  refine k_iload_n C dL_1390 rfl ?_
  refine k_iconst C dL_1391 ?_
  refine k_iadd C dL_1392 ?_
  refine k_sld C hX hbl hbA hL (j := i + 1) (by omega) (by omega) dL_1393 ?_
  refine k_callW C (nargs := 1) (ci := 9) (st := []) (Z := (fun _ _ => True)) trivial zTr (fun q => q) (m_Rcount rfl h) (wld_get Mr (by decide)) rfl rfl gl_168 (by decide +kernel) ⟨rfl, rfl⟩ dL_1394 (by decide) rfl rfl (Nat.le_of_ble_eq_true rfl) (by decide) (fun r' Mr' h => ?_)
  refine k_pop C dL_1397 rfl ?_
  exact k_goto C 1424 dL_1398 (by decide) h
set_option maxRecDepth 100000 in
set_option maxHeartbeats 2000000 in
theorem lo_37 (h0 : LC p s m c b L xs D cI cS A) {i : Nat} (hi : i + 5 < L) {Mc Mr : gSt} (h : w_X8_told (xs (i + 1)).toInt Mc (fun r Mc' => w_Rtold (xs (i + 1)).toInt Mr (fun r' Mr' => gL p l e s m below meth c Q D A b ad bd cI cS 1424 i [] Mc' Mr'))) : gL p l e s m below meth c Q D A b ad bd cI cS 1401 i [] Mc Mr := by
  obtain ⟨C, hX, hbl, hbA, hL, -⟩ := id h0
  refine k_aload_n C dL_1401 rfl ?_
  refine k_aload_n C dL_1402 rfl ?_
  refine k_iload_n C dL_1403 rfl ?_
  refine k_iconst C dL_1404 ?_
  refine k_iadd C dL_1405 ?_
  refine k_sld C hX hbl hbA hL (j := i + 1) (by omega) (by omega) dL_1406 ?_
  refine k_swap ?_
  refine k_callW C (nargs := 1) (ci := 8) (st := []) h0.2.2.2.2.2 zC_m (fun q => q) (m_X8_told h) (wld_get Mc (by decide)) rfl rfl gl_169 (by decide +kernel) ⟨rfl, rfl⟩ dL_1407 (by decide) rfl rfl (Nat.le_of_ble_eq_true rfl) (by decide) (fun r Mc' h => ?_)
  refine k_swap ?_
  refine k_pop C dL_1410 rfl ?_
  refine k_aload_n C dL_1411 rfl ?_
  refine k_aload_n C dL_1412 rfl ?_
  refine k_iload_n C dL_1413 rfl ?_
  refine k_iconst C dL_1414 ?_
  refine k_iadd C dL_1415 ?_
  refine k_sld C hX hbl hbA hL (j := i + 1) (by omega) (by omega) dL_1416 ?_
  refine k_callW C (nargs := 1) (ci := 9) (st := []) (Z := (fun _ _ => True)) trivial zTr (fun q => q) (m_Rtold rfl h) (wld_get Mr (by decide)) rfl rfl gl_172 (by decide +kernel) ⟨rfl, rfl⟩ dL_1417 (by decide) rfl rfl (Nat.le_of_ble_eq_true rfl) (by decide) (fun r' Mr' h => ?_)
  refine k_pop C dL_1420 rfl ?_
  exact k_goto C 1424 dL_1421 (by decide) h
end LO
end
section
-- the two new objects, as memories; what the tables and the premises say of the start
def M0c : gSt := fun o => match o with
  | 2 => fun i => if i = 4 then 1 else 0
  | 4 => fun i => if i = 0 then 1 else if i = 2 then 60 else 0
  | 6 => fun i => if i = 0 then 2 else if i = 2 then 10 else 0
  | 8 => fun i => if i = 0 then 3 else if i = 2 then 6 else 0
  | 10 => fun i => if i = 0 then 3 else if i = 2 then 8 else 0
  | 12 => fun i => if i = 0 then 1 else if i = 2 then 24 else 0
  | 14 => fun i => if i = 0 then 1 else if i = 2 then 60 else 0
  | 16 => fun i => if i = 0 then 1 else if i = 2 then 60 else 0
  | 21 => fun i => if i = 4 then 1 else 0
  | 23 => fun i => if i = 0 then 1 else if i = 2 then 60 else 0
  | 25 => fun i => if i = 0 then 2 else if i = 2 then 10 else 0
  | 27 => fun i => if i = 0 then 3 else if i = 2 then 6 else 0
  | 29 => fun i => if i = 0 then 3 else if i = 2 then 8 else 0
  | 31 => fun i => if i = 0 then 1 else if i = 2 then 24 else 0
  | 33 => fun i => if i = 0 then 1 else if i = 2 then 60 else 0
  | 35 => fun i => if i = 0 then 1 else if i = 2 then 60 else 0
  | 39 => fun i => if i = 4 then 1 else 0
  | 42 => fun i => if i = 4 then 1 else 0
  | 44 => fun i => if i = 0 then 1 else if i = 2 then 64 else 0
  | 48 => fun i => if i = 0 then 1 else if i = 2 then 60 else 0
  | 50 => fun i => if i = 0 then 1 else if i = 2 then 60 else 0
  | 53 => fun i => if i = 0 then 1 else if i = 2 then 30 else 0
  | _ => fun _ => 0
def M0r : gSt := fun o => match o with
  | 1 => fun i => if i = 8 then 1 else 0
  | _ => fun _ => 0
def adC (a : Nat) (u : Nat → Nat) : Nat → Nat := fun o => if o = 0 then a else if o < 56 then u (o - 1) else if o < 64 then u o else u 55
def adR (a : Nat) (u : Nat → Nat) : Nat → Nat := fun o => if o = 0 then a else u (o - 1)
theorem shF {u : Nat → Nat} {a : Nat} : (fun i : Nat => ([56, 58, 60, 62][i]?).map (adC a u)) = va_up (va_up (va_up (va_up (fun _ => none) 0 (some (u 56))) 1 (some (u 58))) 2 (some (u 60))) 3 (some (u 62)) := by
  funext i
  match i with
  | 0 => rfl
  | 1 => rfl
  | 2 => rfl
  | 3 => rfl
  | n + 4 => simp [va_up]
set_option maxRecDepth 100000 in
def wCl (a : Nat) (u : Nat → Nat) (cI cS : ClassId) (f : Nat → Option Nat) : va_W := [(a, .inr (8, [.ref (u 0), .ref (u 19), .ref (u 38), .ref (u 40), .ref (u 46), .ref (u 51), .ref (u 54), .ref (u 55), iv 0])), (u 0, .inr (1, [.ref (u 1), .ref (u 3), .ref (u 5), .ref (u 7), .ref (u 9), .ref (u 11), .ref (u 13), .ref (u 15), .ref (u 17)])), (u 1, .inr (0, [.ref (u 2), iv 0, iv 0, iv 0, iv 1])), (u 2, .inl (cI, 130, .inl (fun _ => 0))), (u 3, .inr (4, [iv 1, .ref (u 4), iv 60, iv 0])), (u 4, .inl (cI, 60, .inl (fun _ => 0))), (u 5, .inr (4, [iv 2, .ref (u 6), iv 10, iv 0])), (u 6, .inl (cI, 20, .inl (fun _ => 0))), (u 7, .inr (4, [iv 3, .ref (u 8), iv 6, iv 0])), (u 8, .inl (cI, 18, .inl (fun _ => 0))), (u 9, .inr (4, [iv 3, .ref (u 10), iv 8, iv 0])), (u 10, .inl (cI, 24, .inl (fun _ => 0))), (u 11, .inr (4, [iv 1, .ref (u 12), iv 24, iv 0])), (u 12, .inl (cI, 24, .inl (fun _ => 0))), (u 13, .inr (4, [iv 1, .ref (u 14), iv 60, iv 0])), (u 14, .inl (cI, 60, .inl (fun _ => 0))), (u 15, .inr (4, [iv 1, .ref (u 16), iv 60, iv 0])), (u 16, .inl (cI, 60, .inl (fun _ => 0))), (u 17, .inr (7, [.ref (u 18), iv 0])), (u 18, .inl (cI, 60, .inl (fun _ => 0))), (u 19, .inr (1, [.ref (u 20), .ref (u 22), .ref (u 24), .ref (u 26), .ref (u 28), .ref (u 30), .ref (u 32), .ref (u 34), .ref (u 36)])), (u 20, .inr (0, [.ref (u 21), iv 0, iv 0, iv 0, iv 1])), (u 21, .inl (cI, 130, .inl (fun _ => 0))), (u 22, .inr (4, [iv 1, .ref (u 23), iv 60, iv 0])), (u 23, .inl (cI, 60, .inl (fun _ => 0))), (u 24, .inr (4, [iv 2, .ref (u 25), iv 10, iv 0])), (u 25, .inl (cI, 20, .inl (fun _ => 0))), (u 26, .inr (4, [iv 3, .ref (u 27), iv 6, iv 0])), (u 27, .inl (cI, 18, .inl (fun _ => 0))), (u 28, .inr (4, [iv 3, .ref (u 29), iv 8, iv 0])), (u 29, .inl (cI, 24, .inl (fun _ => 0))), (u 30, .inr (4, [iv 1, .ref (u 31), iv 24, iv 0])), (u 31, .inl (cI, 24, .inl (fun _ => 0))), (u 32, .inr (4, [iv 1, .ref (u 33), iv 60, iv 0])), (u 33, .inl (cI, 60, .inl (fun _ => 0))), (u 34, .inr (4, [iv 1, .ref (u 35), iv 60, iv 0])), (u 35, .inl (cI, 60, .inl (fun _ => 0))), (u 36, .inr (7, [.ref (u 37), iv 0])), (u 37, .inl (cI, 60, .inl (fun _ => 0))), (u 38, .inr (0, [.ref (u 39), iv 0, iv 0, iv 0, iv 1])), (u 39, .inl (cI, 130, .inl (fun _ => 0))), (u 40, .inr (2, [.ref (u 41), .ref (u 43), .ref (u 45)])), (u 41, .inr (0, [.ref (u 42), iv 0, iv 0, iv 0, iv 1])), (u 42, .inl (cI, 130, .inl (fun _ => 0))), (u 43, .inr (4, [iv 1, .ref (u 44), iv 64, iv 0])), (u 44, .inl (cI, 64, .inl (fun _ => 0))), (u 45, .inl (cI, 768, .inl (fun _ => 0))), (u 46, .inr (3, [.ref (u 47), .ref (u 49), iv 0, iv 0])), (u 47, .inr (4, [iv 1, .ref (u 48), iv 60, iv 0])), (u 48, .inl (cI, 60, .inl (fun _ => 0))), (u 49, .inr (4, [iv 1, .ref (u 50), iv 60, iv 0])), (u 50, .inl (cI, 60, .inl (fun _ => 0))), (u 51, .inr (6, [.ref (u 52), iv 0, iv 0, iv 0, iv 0])), (u 52, .inr (4, [iv 1, .ref (u 53), iv 30, iv 0])), (u 53, .inl (cI, 30, .inl (fun _ => 0))), (u 54, .inl (cS, 4, .inr (.inr (.inr (.inr f))))), (u 56, .inr (5, [.ref (u 57), iv 0, iv 0])), (u 57, .inl (cI, 24, .inl (fun _ => 0))), (u 58, .inr (5, [.ref (u 59), iv 0, iv 0])), (u 59, .inl (cI, 24, .inl (fun _ => 0))), (u 60, .inr (5, [.ref (u 61), iv 0, iv 0])), (u 61, .inl (cI, 24, .inl (fun _ => 0))), (u 62, .inr (5, [.ref (u 63), iv 0, iv 0])), (u 63, .inl (cI, 24, .inl (fun _ => 0))), (u 55, .inl (cI, 7, .inl (fun _ => 0)))]
set_option maxRecDepth 100000 in
theorem wC0 {a : Nat} {u : Nat → Nat} {cI cS : ClassId} : wC (adC a u) cI cS M0c = wCl a u cI cS (va_up (va_up (va_up (va_up (fun _ => none) 0 (some (u 56))) 1 (some (u 58))) 2 (some (u 60))) 3 (some (u 62))) :=
  congrArg (wCl a u cI cS) shF
theorem upR : (fun i : Nat => Int32.ofInt (M0r 1 (i : Int))) = upd (fun _ => 0) 8 (Int32.ofInt 1) := by
  funext i
  simp only [M0r, upd]
  by_cases h : i = 8
  · rw [if_pos h, if_pos (by omega)]
  · rw [if_neg h, if_neg (by omega)]; rfl
def wRl (a : Nat) (u : Nat → Nat) (cI : ClassId) (f : Nat → Int32) : va_W := [(a, .inr (9, [.ref (u 0), .ref (u 1), .ref (u 2), iv 0, .ref (u 3), iv 0, iv 0, iv 0, iv 0, .ref (u 4), .ref (u 5), .ref (u 6), .ref (u 7), iv 0, .ref (u 8), .ref (u 9), iv 0, iv 0, iv 0, .ref (u 10), .ref (u 11), .ref (u 12), .ref (u 13)])), (u 0, .inl (cI, 536, .inl f)), (u 1, .inl (cI, 536, .inl (fun _ => 0))), (u 2, .inl (cI, 536, .inl (fun _ => 0))), (u 3, .inl (cI, 7, .inl (fun _ => 0))), (u 4, .inl (cI, 124, .inl (fun _ => 0))), (u 5, .inl (cI, 128, .inl (fun _ => 0))), (u 6, .inl (cI, 64, .inl (fun _ => 0))), (u 7, .inl (cI, 64, .inl (fun _ => 0))), (u 8, .inl (cI, 64, .inl (fun _ => 0))), (u 9, .inl (cI, 30, .inl (fun _ => 0))), (u 10, .inl (cI, 4, .inl (fun _ => 0))), (u 11, .inl (cI, 4, .inl (fun _ => 0))), (u 12, .inl (cI, 96, .inl (fun _ => 0))), (u 13, .inl (cI, 24, .inl (fun _ => 0)))]
set_option maxRecDepth 100000 in
theorem wR0 {a : Nat} {u : Nat → Nat} {cI : ClassId} : wR (adR a u) cI 9 M0r = wRl a u cI (upd (fun _ => 0) 8 (Int32.ofInt 1)) :=
  congrArg (wRl a u cI) upR
theorem startK {s : State} {args : Array Value} (hts : ∀ w ∈ lw_tbl, w.before args s = true) : ∃ (D : va_G) (cI cS : ClassId), va_K D clC [(cI, .int), (cS, .object "OldBronze$Sheet")] s := by
  obtain ⟨c0, j0, K0⟩ := u_known (C := RX0) (T := TX0) (N := 5) (n := 5) hts (fun w hw => in_tC w (inX0 w hw)) (hts _ (List.mem_append_right _ (List.mem_append_left _ (List.mem_of_getElem? (l := tables_1_1) (i := 30) rfl))))
  obtain ⟨c1, j1, K1⟩ := u_known (C := RX1) (T := TX1) (N := 9) (n := 9) hts (fun w hw => in_tC w (inX1 w hw)) (hts _ (List.mem_append_right _ (List.mem_append_left _ (List.mem_of_getElem? (l := tables_1_1) (i := 24) rfl))))
  obtain ⟨c2, j2, K2⟩ := u_known (C := RX2) (T := TX2) (N := 3) (n := 3) hts (fun w hw => in_tC w (inX2 w hw)) (hts _ (List.mem_append_right _ (List.mem_append_left _ (List.mem_of_getElem? (l := tables_1_1) (i := 127) rfl))))
  obtain ⟨c3, j3, K3⟩ := u_known (C := RX3) (T := TX3) (N := 4) (n := 4) hts (fun w hw => in_tC w (inX3 w hw)) (hts _ (List.mem_append_right _ (List.mem_append_left _ (List.mem_of_getElem? (l := tables_1_1) (i := 147) rfl))))
  obtain ⟨c4, j4, K4⟩ := u_known (C := RX4) (T := TX4) (N := 4) (n := 4) hts (fun w hw => in_tC w (inX4 w hw)) (hts _ (List.mem_append_right _ (List.mem_append_left _ (List.mem_of_getElem? (l := tables_1_1) (i := 53) rfl))))
  obtain ⟨c5, j5, K5⟩ := u_known (C := RX5) (T := TX5) (N := 3) (n := 3) hts (fun w hw => in_tC w (inX5 w hw)) (hts _ (List.mem_append_right _ (List.mem_append_left _ (List.mem_of_getElem? (l := tables_1_1) (i := 193) rfl))))
  obtain ⟨c6, j6, K6⟩ := u_known (C := RX6) (T := TX6) (N := 5) (n := 5) hts (fun w hw => in_tC w (inX6 w hw)) (hts _ (List.mem_append_right _ (List.mem_append_left _ (List.mem_of_getElem? (l := tables_1_1) (i := 168) rfl))))
  obtain ⟨c7, j7, K7⟩ := u_known (C := RX7) (T := TX7) (N := 2) (n := 2) hts (fun w hw => in_tC w (inX7 w hw)) (hts _ (List.mem_append_right _ (List.mem_append_left _ (List.mem_of_getElem? (l := tables_1_1) (i := 75) rfl))))
  obtain ⟨c8, j8, K8⟩ := u_known (C := RX8) (T := TX8) (N := 9) (n := 9) hts (fun w hw => in_tC w (inX8 w hw)) (hts _ (List.mem_append_right _ (List.mem_append_left _ (List.mem_of_getElem? (l := tables_1_1) (i := 16) rfl))))
  obtain ⟨c9, j9, K9⟩ := u_known (C := RX9) (T := TX9) (N := 23) (n := 23) hts (fun w hw => in_tR w (tR_f w hw)) (hts _ (List.mem_append_right _ (List.mem_append_right _ (List.mem_append_right _ (List.mem_append_right _ (List.mem_append_left _ (List.mem_of_getElem? (l := tables_1_4) (i := 136) rfl)))))))
  obtain ⟨cA, kA, comp, hf, hk, hkind⟩ := Cond.arrayClass_spec (hts (.arrayClass .int) (List.mem_append_right _ (List.mem_append_left _ (List.mem_of_getElem? (l := tables_1_1) (i := 51) rfl))))
  obtain ⟨comp2, cB, kB, g1, g2, g3, g4, g5⟩ := Cond.arrayOver_spec (hts (.arrayOver (.object "OldBronze$Sheet")) (List.mem_append_right _ (List.mem_append_left _ (List.mem_of_getElem? (l := tables_1_1) (i := 192) rfl))))
  refine ⟨(fun k => [c0, c1, c2, c3, c4, c5, c6, c7, c8, c9].getD k c0, fun k => [j0, j1, j2, j3, j4, j5, j6, j7, j8, j9].getD k j0), cA, cB, fun k q hq => ?_, fun k q hq => ?_⟩
  · match k, hq with
    | 0, hq => cases hq; exact K0
    | 1, hq => cases hq; exact K1
    | 2, hq => cases hq; exact K2
    | 3, hq => cases hq; exact K3
    | 4, hq => cases hq; exact K4
    | 5, hq => cases hq; exact K5
    | 6, hq => cases hq; exact K6
    | 7, hq => cases hq; exact K7
    | 8, hq => cases hq; exact K8
    | 9, hq => cases hq; exact K9
    | k + 10, hq => simp [clC] at hq
  · match k, hq with
    | 0, hq =>
      cases hq
      exact ⟨fun n z => ⟨(fun k h => by cases h), kA, hk, comp, hkind⟩, hf⟩
    | 1, hq =>
      cases hq
      exact ⟨fun n z => ⟨(fun k h => by cases h), kB, g3, comp2, g4⟩, kB, comp2, g3, g4, g1, g5⟩
    | k + 2, hq => simp at hq
theorem st_ABOVE {s : State} {b : Nat} (hts : ∀ w ∈ lw_tbl, w.before #[Value.ref b] s = true) (hg : (Jvm.Cond.and given_1 narrow_1).before #[Value.ref b] s = true) : ∃ t : Nat, va_Z "OldBronze" "ABOVE" "[I" (.ref t) (fun q => s.heap.size ≤ q) s s.heap ∧ va_T .int t 7 (fun j => iv (fb_ABOVE j)) (fun q => s.heap.size ≤ q) s s.heap := by
  have hA : ∀ a : Nat, a < s.heap.size → ¬ (fun q : Nat => s.heap.size ≤ q) a := fun a h => Nat.not_le.mpr h
  have hs := flat_of_before _ hg
  obtain ⟨t, h1, h2⟩ := va_Tof (tm := .static "OldBronze" "ABOVE" "[I") (ty := .int) (N := 7) (f := fun j => iv (fb_ABOVE j)) (A := fun q : Nat => s.heap.size ≤ q) (by decide) (hs _ (by decide +kernel)) (eq_eval (z := 7) (hs _ (by decide +kernel))) (fun j hj => by
    match j, hj with
    | 0, _ => exact eq_eval (hs _ (by decide +kernel))
    | 1, _ => exact eq_eval (hs _ (by decide +kernel))
    | 2, _ => exact eq_eval (hs _ (by decide +kernel))
    | 3, _ => exact eq_eval (hs _ (by decide +kernel))
    | 4, _ => exact eq_eval (hs _ (by decide +kernel))
    | 5, _ => exact eq_eval (hs _ (by decide +kernel))
    | 6, _ => exact eq_eval (hs _ (by decide +kernel))
    | j + 7, hj => omega) hA
  exact ⟨t, va_Zref (hts _ (List.mem_append_right _ (List.mem_append_right _ (List.mem_append_left _ (List.mem_of_getElem? (l := tables_1_2) (i := 108) rfl))))) (hts _ (List.mem_append_right _ (List.mem_append_left _ (List.mem_of_getElem? (l := tables_1_1) (i := 1) rfl)))) h1 hA, h2⟩
theorem st_NAMES {s : State} {b : Nat} (hts : ∀ w ∈ lw_tbl, w.before #[Value.ref b] s = true) (hg : (Jvm.Cond.and given_1 narrow_1).before #[Value.ref b] s = true) : ∃ t : Nat, va_Z "OldBronze" "NAMES" "[I" (.ref t) (fun q => s.heap.size ≤ q) s s.heap ∧ va_T .int t 6 (fun j => iv (fb_NAMES j)) (fun q => s.heap.size ≤ q) s s.heap := by
  have hA : ∀ a : Nat, a < s.heap.size → ¬ (fun q : Nat => s.heap.size ≤ q) a := fun a h => Nat.not_le.mpr h
  have hs := flat_of_before _ hg
  obtain ⟨t, h1, h2⟩ := va_Tof (tm := .static "OldBronze" "NAMES" "[I") (ty := .int) (N := 6) (f := fun j => iv (fb_NAMES j)) (A := fun q : Nat => s.heap.size ≤ q) (by decide) (hs _ (by decide +kernel)) (eq_eval (z := 6) (hs _ (by decide +kernel))) (fun j hj => by
    match j, hj with
    | 0, _ => exact eq_eval (hs _ (by decide +kernel))
    | 1, _ => exact eq_eval (hs _ (by decide +kernel))
    | 2, _ => exact eq_eval (hs _ (by decide +kernel))
    | 3, _ => exact eq_eval (hs _ (by decide +kernel))
    | 4, _ => exact eq_eval (hs _ (by decide +kernel))
    | 5, _ => exact eq_eval (hs _ (by decide +kernel))
    | j + 6, hj => omega) hA
  exact ⟨t, va_Zref (hts _ (List.mem_append_right _ (List.mem_append_right _ (List.mem_append_right _ (List.mem_append_left _ (List.mem_of_getElem? (l := tables_1_3) (i := 25) rfl)))))) (hts _ (List.mem_append_right _ (List.mem_append_left _ (List.mem_of_getElem? (l := tables_1_1) (i := 1) rfl)))) h1 hA, h2⟩
theorem st_BODIES {s : State} {b : Nat} (hts : ∀ w ∈ lw_tbl, w.before #[Value.ref b] s = true) (hg : (Jvm.Cond.and given_1 narrow_1).before #[Value.ref b] s = true) : ∃ t : Nat, va_Z "OldBronze" "BODIES" "[I" (.ref t) (fun q => s.heap.size ≤ q) s s.heap ∧ va_T .int t 28 (fun j => iv (fb_BODIES j)) (fun q => s.heap.size ≤ q) s s.heap := by
  have hA : ∀ a : Nat, a < s.heap.size → ¬ (fun q : Nat => s.heap.size ≤ q) a := fun a h => Nat.not_le.mpr h
  have hs := flat_of_before _ hg
  obtain ⟨t, h1, h2⟩ := va_Tof (tm := .static "OldBronze" "BODIES" "[I") (ty := .int) (N := 28) (f := fun j => iv (fb_BODIES j)) (A := fun q : Nat => s.heap.size ≤ q) (by decide) (hs _ (by decide +kernel)) (eq_eval (z := 28) (hs _ (by decide +kernel))) (fun j hj => by
    match j, hj with
    | 0, _ => exact eq_eval (hs _ (by decide +kernel))
    | 1, _ => exact eq_eval (hs _ (by decide +kernel))
    | 2, _ => exact eq_eval (hs _ (by decide +kernel))
    | 3, _ => exact eq_eval (hs _ (by decide +kernel))
    | 4, _ => exact eq_eval (hs _ (by decide +kernel))
    | 5, _ => exact eq_eval (hs _ (by decide +kernel))
    | 6, _ => exact eq_eval (hs _ (by decide +kernel))
    | 7, _ => exact eq_eval (hs _ (by decide +kernel))
    | 8, _ => exact eq_eval (hs _ (by decide +kernel))
    | 9, _ => exact eq_eval (hs _ (by decide +kernel))
    | 10, _ => exact eq_eval (hs _ (by decide +kernel))
    | 11, _ => exact eq_eval (hs _ (by decide +kernel))
    | 12, _ => exact eq_eval (hs _ (by decide +kernel))
    | 13, _ => exact eq_eval (hs _ (by decide +kernel))
    | 14, _ => exact eq_eval (hs _ (by decide +kernel))
    | 15, _ => exact eq_eval (hs _ (by decide +kernel))
    | 16, _ => exact eq_eval (hs _ (by decide +kernel))
    | 17, _ => exact eq_eval (hs _ (by decide +kernel))
    | 18, _ => exact eq_eval (hs _ (by decide +kernel))
    | 19, _ => exact eq_eval (hs _ (by decide +kernel))
    | 20, _ => exact eq_eval (hs _ (by decide +kernel))
    | 21, _ => exact eq_eval (hs _ (by decide +kernel))
    | 22, _ => exact eq_eval (hs _ (by decide +kernel))
    | 23, _ => exact eq_eval (hs _ (by decide +kernel))
    | 24, _ => exact eq_eval (hs _ (by decide +kernel))
    | 25, _ => exact eq_eval (hs _ (by decide +kernel))
    | 26, _ => exact eq_eval (hs _ (by decide +kernel))
    | 27, _ => exact eq_eval (hs _ (by decide +kernel))
    | j + 28, hj => omega) hA
  exact ⟨t, va_Zref (hts _ (List.mem_append_right _ (List.mem_append_right _ (List.mem_append_right _ (List.mem_append_right _ (List.mem_append_left _ (List.mem_of_getElem? (l := tables_1_4) (i := 0) rfl))))))) (hts _ (List.mem_append_right _ (List.mem_append_left _ (List.mem_of_getElem? (l := tables_1_1) (i := 1) rfl)))) h1 hA, h2⟩
theorem startN {s : State} {args : Array Value} (hts : ∀ w ∈ lw_tbl, w.before args s = true) : zN s := ⟨va_Nw.of rfl (hts _ (List.mem_append_right _ (List.mem_append_right _ (List.mem_append_left _ (List.mem_of_getElem? (l := tables_1_2) (i := 117) rfl))))), va_Nw.of rfl (hts _ (List.mem_append_right _ (List.mem_append_right _ (List.mem_append_left _ (List.mem_of_getElem? (l := tables_1_2) (i := 132) rfl))))), va_Nw.of rfl (hts _ (List.mem_append_right _ (List.mem_append_left _ (List.mem_of_getElem? (l := tables_1_1) (i := 31) rfl)))), va_Nw.of rfl (hts _ (List.mem_append_right _ (List.mem_append_left _ (List.mem_of_getElem? (l := tables_1_1) (i := 76) rfl)))), va_Nw.of rfl (hts _ (List.mem_append_right _ (List.mem_append_right _ (List.mem_append_left _ (List.mem_of_getElem? (l := tables_1_2) (i := 58) rfl))))), va_Nw.of rfl (hts _ (List.mem_append_right _ (List.mem_append_left _ (List.mem_of_getElem? (l := tables_1_1) (i := 133) rfl)))), va_Nw.of rfl (hts _ (List.mem_append_right _ (List.mem_append_right _ (List.mem_append_right _ (List.mem_append_right _ (List.mem_append_left _ (List.mem_of_getElem? (l := tables_1_4) (i := 1) rfl))))))), va_Nw.of rfl (hts _ (List.mem_append_right _ (List.mem_append_left _ (List.mem_of_getElem? (l := tables_1_1) (i := 25) rfl)))), va_Nw.of rfl (hts _ (List.mem_append_right _ (List.mem_append_left _ (List.mem_of_getElem? (l := tables_1_1) (i := 125) rfl)))), va_Nw.of rfl (hts _ (List.mem_append_right _ (List.mem_append_left _ (List.mem_of_getElem? (l := tables_1_1) (i := 128) rfl)))), va_Nw.of rfl (hts _ (List.mem_append_right _ (List.mem_append_left _ (List.mem_of_getElem? (l := tables_1_1) (i := 148) rfl)))), va_Nw.of rfl (hts _ (List.mem_append_right _ (List.mem_append_left _ (List.mem_of_getElem? (l := tables_1_1) (i := 169) rfl)))), va_Nw.of rfl (hts _ (List.mem_append_right _ (List.mem_append_left _ (List.mem_of_getElem? (l := tables_1_1) (i := 194) rfl)))), va_Nw.of rfl (hts _ (List.mem_append_right _ (List.mem_append_right _ (List.mem_append_right _ (List.mem_append_left _ (List.mem_of_getElem? (l := tables_1_3) (i := 228) rfl)))))), va_Nw.of rfl (hts _ (List.mem_append_right _ (List.mem_append_right _ (List.mem_append_right _ (List.mem_append_left _ (List.mem_of_getElem? (l := tables_1_3) (i := 24) rfl)))))), va_Nw.of rfl (hts _ (List.mem_append_right _ (List.mem_append_right _ (List.mem_append_right _ (List.mem_append_left _ (List.mem_of_getElem? (l := tables_1_3) (i := 239) rfl))))))⟩
theorem startY {s : State} {args : Array Value} (hts : ∀ w ∈ lw_tbl, w.before args s = true) : yC s := ⟨startN hts, va_AO.of (hts (.arrayOver (.object "OldBronze$Sheet")) (List.mem_append_right _ (List.mem_append_left _ (List.mem_of_getElem? (l := tables_1_1) (i := 192) rfl))))⟩
theorem k_perm {p : Program} {l : Launch} {e : Env} {R : Room} {s : State} {m : MethodId} {args : Array Value} {below : List Frame} {meth : Method} {c : Code} {Q : State → Prop} {D : va_G} {cl : List vw_C} {A : Nat → Prop} {nL kc ks pc : Nat} {lv : List (Nat × Value)} {st : List Value} {ws ws' : va_W} (is : List Nat) (hn : va_nd is = true) (h1 : is.filterMap (fun i => ws[i]?) = ws') (h2 : is.map (fun i => ws[i]?) = ws'.map some) (k : gK p l e R s m args below meth c Q D cl A nL kc ks pc lv st ws') : gK p l e R s m args below meth c Q D cl A nL kc ks pc lv st ws :=
  fun H locs ls hP hD hS hl => k H locs ls (hP.sub is h1) (hD.sub is hn h2) hS hl
end
section
-- the law's loop, for any relation of the two memories that every case keeps
def lawP_thing (N : Nat) (Rel : Nat → gSt → gSt → Prop) : Prop := ∀ (i : Nat) (x : Nat → Int32) (Mc Mr : gSt) (K : gSt → gSt → Prop), i + 6 ≤ N → Rel i Mc Mr → (∀ Mc' Mr', Rel (i + 6) Mc' Mr' → K Mc' Mr') → w_X8_thing (x 1).toInt (x 2).toInt Mc (fun r Mc' => w_Rthing (x 1).toInt (x 2).toInt Mr (fun r' Mr' => K Mc' Mr'))
def lawP_thingIs (N : Nat) (Rel : Nat → gSt → gSt → Prop) : Prop := ∀ (i : Nat) (x : Nat → Int32) (Mc Mr : gSt) (K : gSt → gSt → Prop), i + 6 ≤ N → Rel i Mc Mr → (∀ Mc' Mr', Rel (i + 6) Mc' Mr' → K Mc' Mr') → w_X8_thingIs (x 1).toInt (x 2).toInt Mc (fun r Mc' => w_RthingIs (x 1).toInt (x 2).toInt Mr (fun r' Mr' => K Mc' Mr'))
def lawP_as (N : Nat) (Rel : Nat → gSt → gSt → Prop) : Prop := ∀ (i : Nat) (x : Nat → Int32) (Mc Mr : gSt) (K : gSt → gSt → Prop), i + 6 ≤ N → Rel i Mc Mr → (∀ Mc' Mr', Rel (i + 6) Mc' Mr' → K Mc' Mr') → w_X8_as (x 1).toInt (x 2).toInt Mc (fun r Mc' => w_Ras (x 1).toInt (x 2).toInt Mr (fun r' Mr' => K Mc' Mr'))
def lawP_set (N : Nat) (Rel : Nat → gSt → gSt → Prop) : Prop := ∀ (i : Nat) (x : Nat → Int32) (Mc Mr : gSt) (K : gSt → gSt → Prop), i + 6 ≤ N → Rel i Mc Mr → (∀ Mc' Mr', Rel (i + 6) Mc' Mr' → K Mc' Mr') → w_X8_set (x 1).toInt (x 2).toInt (x 3).toInt Mc (fun r Mc' => w_Rset (x 1).toInt (x 2).toInt (x 3).toInt Mr (fun r' Mr' => K Mc' Mr'))
def lawP_melt (N : Nat) (Rel : Nat → gSt → gSt → Prop) : Prop := ∀ (i : Nat) (x : Nat → Int32) (Mc Mr : gSt) (K : gSt → gSt → Prop), i + 6 ≤ N → Rel i Mc Mr → (∀ Mc' Mr', Rel (i + 6) Mc' Mr' → K Mc' Mr') → w_X8_melt (x 1).toInt (x 2).toInt Mc (fun r Mc' => w_Rmelt (x 1).toInt (x 2).toInt Mr (fun r' Mr' => K Mc' Mr'))
def lawP_crucible (N : Nat) (Rel : Nat → gSt → gSt → Prop) : Prop := ∀ (i : Nat) (x : Nat → Int32) (Mc Mr : gSt) (K : gSt → gSt → Prop), i + 6 ≤ N → Rel i Mc Mr → (∀ Mc' Mr', Rel (i + 6) Mc' Mr' → K Mc' Mr') → w_X8_crucible (x 1).toInt Mc (fun r Mc' => w_Rcrucible (x 1).toInt Mr (fun r' Mr' => K Mc' Mr'))
def lawP_cast (N : Nat) (Rel : Nat → gSt → gSt → Prop) : Prop := ∀ (i : Nat) (x : Nat → Int32) (Mc Mr : gSt) (K : gSt → gSt → Prop), i + 6 ≤ N → Rel i Mc Mr → (∀ Mc' Mr', Rel (i + 6) Mc' Mr' → K Mc' Mr') → w_X8_cast (x 1).toInt (x 2).toInt (x 3).toInt Mc (fun r Mc' => w_Rcast (x 1).toInt (x 2).toInt (x 3).toInt Mr (fun r' Mr' => K Mc' Mr'))
def lawP_years (N : Nat) (Rel : Nat → gSt → gSt → Prop) : Prop := ∀ (i : Nat) (x : Nat → Int32) (Mc Mr : gSt) (K : gSt → gSt → Prop), i + 6 ≤ N → Rel i Mc Mr → (∀ Mc' Mr', Rel (i + 6) Mc' Mr' → K Mc' Mr') → w_X8_years (x 1).toInt Mc (fun r Mc' => w_Ryears (x 1).toInt Mr (fun r' Mr' => K Mc' Mr'))
def lawP_then (N : Nat) (Rel : Nat → gSt → gSt → Prop) : Prop := ∀ (i : Nat) (x : Nat → Int32) (Mc Mr : gSt) (K : gSt → gSt → Prop), i + 6 ≤ N → Rel i Mc Mr → (∀ Mc' Mr', Rel (i + 6) Mc' Mr' → K Mc' Mr') → w_X8_then (x 1).toInt (x 2).toInt (x 3).toInt Mc (fun r Mc' => w_Rthen (x 1).toInt (x 2).toInt (x 3).toInt Mr (fun r' Mr' => K Mc' Mr'))
def lawP_seed (N : Nat) (Rel : Nat → gSt → gSt → Prop) : Prop := ∀ (i : Nat) (x : Nat → Int32) (Mc Mr : gSt) (K : gSt → gSt → Prop), i + 6 ≤ N → Rel i Mc Mr → (∀ Mc' Mr', Rel (i + 6) Mc' Mr' → K Mc' Mr') → w_X8_seed (x 1).toInt Mc (fun r Mc' => w_Rseed (x 1).toInt Mr (fun r' Mr' => K Mc' Mr'))
def lawP_feed (N : Nat) (Rel : Nat → gSt → gSt → Prop) : Prop := ∀ (i : Nat) (x : Nat → Int32) (Mc Mr : gSt) (K : gSt → gSt → Prop), i + 6 ≤ N → Rel i Mc Mr → (∀ Mc' Mr', Rel (i + 6) Mc' Mr' → K Mc' Mr') → w_X8_feed (yor (yshl (wrap (x 1).toInt) 32) (yand (wrap (x 2).toInt) 4294967295)) (x 3).toInt Mc (fun r Mc' => w_Rfeed (yor (yshl (wrap (x 1).toInt) 32) (yand (wrap (x 2).toInt) 4294967295)) (x 3).toInt Mr (fun r' Mr' => K Mc' Mr'))
def lawP_text (N : Nat) (Rel : Nat → gSt → gSt → Prop) : Prop := ∀ (i : Nat) (x : Nat → Int32) (Mc Mr : gSt) (K : gSt → gSt → Prop), i + 6 ≤ N → Rel i Mc Mr → (∀ Mc' Mr', Rel (i + 6) Mc' Mr' → K Mc' Mr') → w_X8_text (x 1).toInt Mc (fun r Mc' => w_Rtext (x 1).toInt Mr (fun r' Mr' => K Mc' Mr'))
def lawP_untell (N : Nat) (Rel : Nat → gSt → gSt → Prop) : Prop := ∀ (i : Nat) (x : Nat → Int32) (Mc Mr : gSt) (K : gSt → gSt → Prop), i + 6 ≤ N → Rel i Mc Mr → (∀ Mc' Mr', Rel (i + 6) Mc' Mr' → K Mc' Mr') → w_X8_untell (x 1).toInt Mc (fun r Mc' => w_Runtell (x 1).toInt Mr (fun r' Mr' => K Mc' Mr'))
def lawP_claim (N : Nat) (Rel : Nat → gSt → gSt → Prop) : Prop := ∀ (i : Nat) (x : Nat → Int32) (Mc Mr : gSt) (K : gSt → gSt → Prop), i + 6 ≤ N → Rel i Mc Mr → (∀ Mc' Mr', Rel (i + 6) Mc' Mr' → K Mc' Mr') → w_X8_claim (x 1).toInt (x 2).toInt Mc (fun r Mc' => w_Rclaim (x 1).toInt (x 2).toInt Mr (fun r' Mr' => K Mc' Mr'))
def lawP_claimIs (N : Nat) (Rel : Nat → gSt → gSt → Prop) : Prop := ∀ (i : Nat) (x : Nat → Int32) (Mc Mr : gSt) (K : gSt → gSt → Prop), i + 6 ≤ N → Rel i Mc Mr → (∀ Mc' Mr', Rel (i + 6) Mc' Mr' → K Mc' Mr') → w_X8_claimIs (x 1).toInt (x 2).toInt Mc (fun r Mc' => w_RclaimIs (x 1).toInt (x 2).toInt Mr (fun r' Mr' => K Mc' Mr'))
def lawP_share (N : Nat) (Rel : Nat → gSt → gSt → Prop) : Prop := ∀ (i : Nat) (x : Nat → Int32) (Mc Mr : gSt) (K : gSt → gSt → Prop), i + 6 ≤ N → Rel i Mc Mr → (∀ Mc' Mr', Rel (i + 6) Mc' Mr' → K Mc' Mr') → w_X8_share (x 1).toInt (x 2).toInt Mc (fun r Mc' => w_Rshare (x 1).toInt (x 2).toInt Mr (fun r' Mr' => K Mc' Mr'))
def lawP_left (N : Nat) (Rel : Nat → gSt → gSt → Prop) : Prop := ∀ (i : Nat) (x : Nat → Int32) (Mc Mr : gSt) (K : gSt → gSt → Prop), i + 6 ≤ N → Rel i Mc Mr → (∀ Mc' Mr', Rel (i + 6) Mc' Mr' → K Mc' Mr') → w_X8_left (x 1).toInt (x 2).toInt Mc (fun r Mc' => w_Rleft (x 1).toInt (x 2).toInt Mr (fun r' Mr' => K Mc' Mr'))
def lawP_paper (N : Nat) (Rel : Nat → gSt → gSt → Prop) : Prop := ∀ (i : Nat) (x : Nat → Int32) (Mc Mr : gSt) (K : gSt → gSt → Prop), i + 6 ≤ N → Rel i Mc Mr → (∀ Mc' Mr', Rel (i + 6) Mc' Mr' → K Mc' Mr') → w_X8_paper (x 1).toInt (x 2).toInt (x 3).toInt Mc (fun r Mc' => w_Rpaper (x 1).toInt (x 2).toInt (x 3).toInt Mr (fun r' Mr' => K Mc' Mr'))
def lawP_weigh (N : Nat) (Rel : Nat → gSt → gSt → Prop) : Prop := ∀ (i : Nat) (x : Nat → Int32) (Mc Mr : gSt) (K : gSt → gSt → Prop), i + 6 ≤ N → Rel i Mc Mr → (∀ Mc' Mr', Rel (i + 6) Mc' Mr' → K Mc' Mr') → w_X8_weigh (x 1).toInt (x 2).toInt (x 3).toInt Mc (fun r Mc' => w_Rweigh (x 1).toInt (x 2).toInt (x 3).toInt Mr (fun r' Mr' => K Mc' Mr'))
def lawP_forget (N : Nat) (Rel : Nat → gSt → gSt → Prop) : Prop := ∀ (i : Nat) (x : Nat → Int32) (Mc Mr : gSt) (K : gSt → gSt → Prop), i + 6 ≤ N → Rel i Mc Mr → (∀ Mc' Mr', Rel (i + 6) Mc' Mr' → K Mc' Mr') → w_X8_forget (x 1).toInt Mc (fun r Mc' => w_Rforget (x 1).toInt Mr (fun r' Mr' => K Mc' Mr'))
def lawP_by (N : Nat) (Rel : Nat → gSt → gSt → Prop) : Prop := ∀ (i : Nat) (x : Nat → Int32) (Mc Mr : gSt) (K : gSt → gSt → Prop), i + 6 ≤ N → Rel i Mc Mr → (∀ Mc' Mr', Rel (i + 6) Mc' Mr' → K Mc' Mr') → w_X8_by (x 1).toInt (x 2).toInt (x 3).toInt Mc (fun r Mc' => w_Rby (x 1).toInt (x 2).toInt (x 3).toInt Mr (fun r' Mr' => K Mc' Mr'))
def lawP_fits (N : Nat) (Rel : Nat → gSt → gSt → Prop) : Prop := ∀ (i : Nat) (x : Nat → Int32) (Mc Mr : gSt) (K : gSt → gSt → Prop), i + 6 ≤ N → Rel i Mc Mr → (∀ Mc' Mr', Rel (i + 6) Mc' Mr' → K Mc' Mr') → w_X8_fits (x 1).toInt Mc (fun r Mc' => w_Rfits (x 1).toInt Mr (fun r' Mr' => K Mc' Mr'))
def lawP_span (N : Nat) (Rel : Nat → gSt → gSt → Prop) : Prop := ∀ (i : Nat) (x : Nat → Int32) (Mc Mr : gSt) (K : gSt → gSt → Prop), i + 6 ≤ N → Rel i Mc Mr → (∀ Mc' Mr', Rel (i + 6) Mc' Mr' → K Mc' Mr') → w_X8_span (x 1).toInt (x 2).toInt (x 3).toInt Mc (fun r Mc' => w_Rspan (x 1).toInt (x 2).toInt (x 3).toInt Mr (fun r' Mr' => K Mc' Mr'))
def lawP_next (N : Nat) (Rel : Nat → gSt → gSt → Prop) : Prop := ∀ (i : Nat) (x : Nat → Int32) (Mc Mr : gSt) (K : gSt → gSt → Prop), i + 6 ≤ N → Rel i Mc Mr → (∀ Mc' Mr', Rel (i + 6) Mc' Mr' → K Mc' Mr') → w_X8_next  Mc (fun r Mc' => w_Rnext  Mr (fun r' Mr' => K Mc' Mr'))
def lawP_most (N : Nat) (Rel : Nat → gSt → gSt → Prop) : Prop := ∀ (i : Nat) (x : Nat → Int32) (Mc Mr : gSt) (K : gSt → gSt → Prop), i + 6 ≤ N → Rel i Mc Mr → (∀ Mc' Mr', Rel (i + 6) Mc' Mr' → K Mc' Mr') → w_X8_most (x 1).toInt (x 2).toInt (x 3).toInt Mc (fun r Mc' => w_Rmost (x 1).toInt (x 2).toInt (x 3).toInt Mr (fun r' Mr' => K Mc' Mr'))
def lawP_voice (N : Nat) (Rel : Nat → gSt → gSt → Prop) : Prop := ∀ (i : Nat) (x : Nat → Int32) (Mc Mr : gSt) (K : gSt → gSt → Prop), i + 6 ≤ N → Rel i Mc Mr → (∀ Mc' Mr', Rel (i + 6) Mc' Mr' → K Mc' Mr') → w_X8_voice (x 1).toInt (x 2).toInt (x 3).toInt Mc (fun r Mc' => w_Rvoice (x 1).toInt (x 2).toInt (x 3).toInt Mr (fun r' Mr' => K Mc' Mr'))
def lawP_body (N : Nat) (Rel : Nat → gSt → gSt → Prop) : Prop := ∀ (i : Nat) (x : Nat → Int32) (Mc Mr : gSt) (K : gSt → gSt → Prop), i + 6 ≤ N → Rel i Mc Mr → (∀ Mc' Mr', Rel (i + 6) Mc' Mr' → K Mc' Mr') → w_X8_body (x 1).toInt Mc (fun r Mc' => w_Rbody (x 1).toInt Mr (fun r' Mr' => K Mc' Mr'))
def lawP_sheet (N : Nat) (Rel : Nat → gSt → gSt → Prop) : Prop := ∀ (i : Nat) (x : Nat → Int32) (Mc Mr : gSt) (K : gSt → gSt → Prop), i + 6 ≤ N → Rel i Mc Mr → (∀ Mc' Mr', Rel (i + 6) Mc' Mr' → K Mc' Mr') → w_X8_sheet (x 1).toInt (x 2).toInt (x 3).toInt Mc (fun r Mc' => w_Rsheet (x 1).toInt (x 2).toInt (x 3).toInt Mr (fun r' Mr' => K Mc' Mr'))
def lawP_put (N : Nat) (Rel : Nat → gSt → gSt → Prop) : Prop := ∀ (i : Nat) (x : Nat → Int32) (Mc Mr : gSt) (K : gSt → gSt → Prop), i + 6 ≤ N → Rel i Mc Mr → (∀ Mc' Mr', Rel (i + 6) Mc' Mr' → K Mc' Mr') → w_X8_put (x 1).toInt (x 2).toInt (x 3).toInt Mc (fun r Mc' => w_Rput (x 1).toInt (x 2).toInt (x 3).toInt Mr (fun r' Mr' => K Mc' Mr'))
def lawP_move (N : Nat) (Rel : Nat → gSt → gSt → Prop) : Prop := ∀ (i : Nat) (x : Nat → Int32) (Mc Mr : gSt) (K : gSt → gSt → Prop), i + 6 ≤ N → Rel i Mc Mr → (∀ Mc' Mr', Rel (i + 6) Mc' Mr' → K Mc' Mr') → w_X8_move (x 1).toInt (x 2).toInt (x 3).toInt (x 4).toInt (x 5).toInt Mc (fun r Mc' => w_Rmove (x 1).toInt (x 2).toInt (x 3).toInt (x 4).toInt (x 5).toInt Mr (fun r' Mr' => K Mc' Mr'))
def lawP_papers (N : Nat) (Rel : Nat → gSt → gSt → Prop) : Prop := ∀ (i : Nat) (x : Nat → Int32) (Mc Mr : gSt) (K : gSt → gSt → Prop), i + 6 ≤ N → Rel i Mc Mr → (∀ Mc' Mr', Rel (i + 6) Mc' Mr' → K Mc' Mr') → w_X8_papers (x 1).toInt Mc (fun r Mc' => w_Rpapers (x 1).toInt Mr (fun r' Mr' => K Mc' Mr'))
def lawP_judge (N : Nat) (Rel : Nat → gSt → gSt → Prop) : Prop := ∀ (i : Nat) (x : Nat → Int32) (Mc Mr : gSt) (K : gSt → gSt → Prop), i + 6 ≤ N → Rel i Mc Mr → (∀ Mc' Mr', Rel (i + 6) Mc' Mr' → K Mc' Mr') → w_X8_judge (x 1).toInt (x 2).toInt Mc (fun r Mc' => w_Rjudge (x 1).toInt (x 2).toInt Mr (fun r' Mr' => K Mc' Mr'))
def lawP_image (N : Nat) (Rel : Nat → gSt → gSt → Prop) : Prop := ∀ (i : Nat) (x : Nat → Int32) (Mc Mr : gSt) (K : gSt → gSt → Prop), i + 6 ≤ N → Rel i Mc Mr → (∀ Mc' Mr', Rel (i + 6) Mc' Mr' → K Mc' Mr') → w_X8_image  Mc (fun r Mc' => w_Rimage  Mr (fun r' Mr' => K Mc' Mr'))
def lawP_restore (N : Nat) (Rel : Nat → gSt → gSt → Prop) : Prop := ∀ (i : Nat) (x : Nat → Int32) (Mc Mr : gSt) (K : gSt → gSt → Prop), i + 6 ≤ N → Rel i Mc Mr → (∀ Mc' Mr', Rel (i + 6) Mc' Mr' → K Mc' Mr') → w_X8_restore  Mc (fun r Mc' => w_Rrestore  Mr (fun r' Mr' => K Mc' Mr'))
def lawP_tell (N : Nat) (Rel : Nat → gSt → gSt → Prop) : Prop := ∀ (i : Nat) (x : Nat → Int32) (Mc Mr : gSt) (K : gSt → gSt → Prop), i + 6 ≤ N → Rel i Mc Mr → (∀ Mc' Mr', Rel (i + 6) Mc' Mr' → K Mc' Mr') → w_X8_tell (x 1).toInt Mc (fun r Mc' => w_Rtell (x 1).toInt Mr (fun r' Mr' => K Mc' Mr'))
def lawP_check (N : Nat) (Rel : Nat → gSt → gSt → Prop) : Prop := ∀ (i : Nat) (x : Nat → Int32) (Mc Mr : gSt) (K : gSt → gSt → Prop), i + 6 ≤ N → Rel i Mc Mr → (∀ Mc' Mr', Rel (i + 6) Mc' Mr' → K Mc' Mr') → w_X8_check  Mc (fun r Mc' => w_Rcheck  Mr (fun r' Mr' => wrap r = wrap r' ∧ K Mc' Mr'))
def lawP_count (N : Nat) (Rel : Nat → gSt → gSt → Prop) : Prop := ∀ (i : Nat) (x : Nat → Int32) (Mc Mr : gSt) (K : gSt → gSt → Prop), i + 6 ≤ N → Rel i Mc Mr → (∀ Mc' Mr', Rel (i + 6) Mc' Mr' → K Mc' Mr') → w_X8_count (x 1).toInt Mc (fun r Mc' => w_Rcount (x 1).toInt Mr (fun r' Mr' => K Mc' Mr'))
def lawP_told (N : Nat) (Rel : Nat → gSt → gSt → Prop) : Prop := ∀ (i : Nat) (x : Nat → Int32) (Mc Mr : gSt) (K : gSt → gSt → Prop), i + 6 ≤ N → Rel i Mc Mr → (∀ Mc' Mr', Rel (i + 6) Mc' Mr' → K Mc' Mr') → w_X8_told (x 1).toInt Mc (fun r Mc' => w_Rtold (x 1).toInt Mr (fun r' Mr' => K Mc' Mr'))
def lawOK (N : Nat) (Rel : Nat → gSt → gSt → Prop) : Prop := lawP_thing N Rel ∧ lawP_thingIs N Rel ∧ lawP_as N Rel ∧ lawP_set N Rel ∧ lawP_melt N Rel ∧ lawP_crucible N Rel ∧ lawP_cast N Rel ∧ lawP_years N Rel ∧ lawP_then N Rel ∧ lawP_seed N Rel ∧ lawP_feed N Rel ∧ lawP_text N Rel ∧ lawP_untell N Rel ∧ lawP_claim N Rel ∧ lawP_claimIs N Rel ∧ lawP_share N Rel ∧ lawP_left N Rel ∧ lawP_paper N Rel ∧ lawP_weigh N Rel ∧ lawP_forget N Rel ∧ lawP_by N Rel ∧ lawP_fits N Rel ∧ lawP_span N Rel ∧ lawP_next N Rel ∧ lawP_most N Rel ∧ lawP_voice N Rel ∧ lawP_body N Rel ∧ lawP_sheet N Rel ∧ lawP_put N Rel ∧ lawP_move N Rel ∧ lawP_papers N Rel ∧ lawP_judge N Rel ∧ lawP_image N Rel ∧ lawP_restore N Rel ∧ lawP_tell N Rel ∧ lawP_check N Rel ∧ lawP_count N Rel ∧ lawP_told N Rel ∧ ∀ (i : Nat) (Mc Mr : gSt), i + 6 ≤ N → Rel i Mc Mr → Rel (i + 6) Mc Mr
/-! THE CLAIM OUT OF ONE WALK OF THE LAW'S BODY. Your part is whole_start (and what it stands on); all else here is the same for every law, but numbers. -/
def lw_P (b : Addr) (xs : List Int32) (args : Array Value) (s : State) : Prop := args = #[.ref b] ∧ s.IntsAt b xs ∧ xs.length ≤ 384 ∧ (Jvm.Cond.and given_1 narrow_1).before args s = true
def lw_Q (_ : Array Value) (s : State) (o : Outcome) (t : State) : Prop := o = .returned (some (.int 1)) ∧ Framed s o t [] 600000 7302250
def lw_Z (below : List Frame) (a : Array Value) (s : State) : State → Prop := fun t => ∃ o, t.status = .running ∧ Ended t below o ∧ lw_Q a s o t
/-- the law's own end, with 1 on the stack, nothing written that was there before, its room as the claim has it -/
theorem lw_ret {p : Program} {l : Launch} {e : Env} {s : State} {m : MethodId} {below : List Frame} {meth : Method} {c : Code} {b : Nat} (hx : p.tables.exec = Jvm.exec) (hb : c.code = code) (hr : meth.sig.returnType = ret) (hlocks : meth.locks = false) {pc : Nat} {H : Heap} {ls : Array Slot} (hdg : decode code pc = .ok (.ireturn, 1)) : W p l e room_1 s m #[Value.ref b] below meth c H [] 600000 7302250 (lw_Z below #[Value.ref b] s) (F0 m pc ls [.int 1]) := by
  intro T hT X
  obtain ⟨fs, hret, hrun, hended, hW, hframe⟩ := X.leave (v := some (.int 1)) (hlocks := hlocks) (fun h => by rw [hr] at h; cases h)
  have hmeth' : T.vm.method? m = some meth := X.method'
  refine ⟨T.setFrames fs, ?_, .returned (some (.int 1)), hrun, hended, rfl, ⟨_, rfl⟩, hW, hframe⟩
  jvm_step X.here [X.here.top, hx, hb, hdg, hmeth', hr, ret, narrow_b1]
  (try refine ⟨rfl, ?_⟩); (try refine ⟨rfl, ?_⟩)
  first | (intro acts; rw [hret _ acts rfl rfl rfl]) | rw [hret _ _ rfl rfl rfl]
  exact Steps.refl _
/-- what holds at the law's entry: the machine, the code, the tables' words (any of lw_tbl by 'hts w (by decide +kernel)'), the script of L ints xs at the cell b, what the Statement gives of the start (any of its parts by flat_of_before) -/
def lw_At (p : Program) (s : State) (m : MethodId) (meth : Method) (c : Code) (b L : Nat) (xs : Nat → Int32) : Prop :=
  p.tables.exec = Jvm.exec ∧ c.code = code ∧ meth.sig.returnType = ret ∧ c.maxLocals = 4 ∧ s.vm.findClass R_law = some m.cls ∧ (∀ w ∈ lw_tbl, w.before #[Value.ref b] s = true) ∧ va_X b L xs s s.heap ∧ b < s.heap.size ∧ meth.locks = false ∧ (Jvm.Cond.and given_1 narrow_1).before #[Value.ref b] s = true

theorem xand63 (x : Int) : 0 ≤ wrap (xand x 63) ∧ wrap (xand x 63) < 64 := by
  unfold xand
  have h : ∀ y : BitVec 32, (y &&& 63#32).toNat < 64 := fun y => by
    rw [BitVec.toNat_and]
    exact Nat.lt_of_le_of_lt Nat.and_le_right (by decide)
  have e : (Int32.ofInt x &&& Int32.ofInt 63).toInt = ((Int32.ofInt x).toBitVec &&& 63#32).toInt := rfl
  rw [e]
  have h1 := h (Int32.ofInt x).toBitVec
  rw [BitVec.toInt_eq_toNat_of_lt (by omega)]
  unfold wrap
  omega
section LOOP
variable {p : Program} {l : Launch} {e : Env} {s : State} {m : MethodId} {below : List Frame} {meth : Method} {c : Code} {Q : State → Prop} {D : va_G} {A : Nat → Prop} {b L : Nat} {xs : Nat → Int32} {ad bd : Nat → Nat} {cI cS : ClassId}
/-- a case of the switch, once its call keeps the relation -/
theorem lawSwitch (h0 : LC p s m c b L xs D cI cS A) {i : Nat} (hi : i + 5 < L) {N : Nat} (hN : L ≤ N) {Rel : Nat → gSt → gSt → Prop} (ok : lawOK N Rel) (mono_c : ∀ Mc Mr, Rel (i + 6) Mc Mr → gL p l e s m below meth c Q D A b ad bd cI cS 1424 i [] Mc Mr) {Mc Mr : gSt} (hR : Rel i Mc Mr) : gL p l e s m below meth c Q D A b ad bd cI cS 27 i [] Mc Mr := by
  obtain ⟨C, hX, hbl, hbA, hL, -⟩ := id h0
  obtain ⟨Kthing, KthingIs, Kas, Kset, Kmelt, Kcrucible, Kcast, Kyears, Kthen, Kseed, Kfeed, Ktext, Kuntell, Kclaim, KclaimIs, Kshare, Kleft, Kpaper, Kweigh, Kforget, Kby, Kfits, Kspan, Knext, Kmost, Kvoice, Kbody, Ksheet, Kput, Kmove, Kpapers, Kjudge, Kimage, Krestore, Ktell, Kcheck, Kcount, Ktold, Kskip⟩ := ok
  refine k_aload_n C dL_27 rfl ?_
  refine k_iload_n C dL_28 rfl ?_
  refine k_sld C hX hbl hbA hL (j := i) rfl (by omega) dL_29 ?_
  refine k_bipush C dL_30 rfl ?_
  refine k_iand C dL_32 ?_
  have hx := xand63 (xs i).toInt
  generalize hv : xand (xs i).toInt 63 = v at hx ⊢
  rcases (show wrap v = 0 ∨ wrap v = 1 ∨ wrap v = 2 ∨ wrap v = 3 ∨ wrap v = 4 ∨ wrap v = 5 ∨ wrap v = 6 ∨ wrap v = 7 ∨ wrap v = 8 ∨ wrap v = 9 ∨ wrap v = 10 ∨ wrap v = 11 ∨ wrap v = 12 ∨ wrap v = 13 ∨ wrap v = 14 ∨ wrap v = 15 ∨ wrap v = 16 ∨ wrap v = 17 ∨ wrap v = 18 ∨ wrap v = 19 ∨ wrap v = 20 ∨ wrap v = 21 ∨ wrap v = 22 ∨ wrap v = 23 ∨ wrap v = 24 ∨ wrap v = 25 ∨ wrap v = 26 ∨ wrap v = 27 ∨ wrap v = 28 ∨ wrap v = 29 ∨ wrap v = 30 ∨ wrap v = 31 ∨ wrap v = 32 ∨ wrap v = 33 ∨ wrap v = 34 ∨ wrap v = 35 ∨ wrap v = 36 ∨ wrap v = 37 ∨ 37 < wrap v by omega) with hv1 | hv1 | hv1 | hv1 | hv1 | hv1 | hv1 | hv1 | hv1 | hv1 | hv1 | hv1 | hv1 | hv1 | hv1 | hv1 | hv1 | hv1 | hv1 | hv1 | hv1 | hv1 | hv1 | hv1 | hv1 | hv1 | hv1 | hv1 | hv1 | hv1 | hv1 | hv1 | hv1 | hv1 | hv1 | hv1 | hv1 | hv1 | hv1
  · refine k_tableIn C 200 dL_33 (by omega) (by omega) (by rw [hv1]; rfl) (by decide) ?_
    exact lo_0 h0 hi (Kthing i (fun k => xs (i + k)) Mc Mr _ (by omega) hR mono_c)
  · refine k_tableIn C 233 dL_33 (by omega) (by omega) (by rw [hv1]; rfl) (by decide) ?_
    exact lo_1 h0 hi (KthingIs i (fun k => xs (i + k)) Mc Mr _ (by omega) hR mono_c)
  · refine k_tableIn C 266 dL_33 (by omega) (by omega) (by rw [hv1]; rfl) (by decide) ?_
    exact lo_2 h0 hi (Kas i (fun k => xs (i + k)) Mc Mr _ (by omega) hR mono_c)
  · refine k_tableIn C 299 dL_33 (by omega) (by omega) (by rw [hv1]; rfl) (by decide) ?_
    exact lo_3 h0 hi (Kset i (fun k => xs (i + k)) Mc Mr _ (by omega) hR mono_c)
  · refine k_tableIn C 342 dL_33 (by omega) (by omega) (by rw [hv1]; rfl) (by decide) ?_
    exact lo_4 h0 hi (Kmelt i (fun k => xs (i + k)) Mc Mr _ (by omega) hR mono_c)
  · refine k_tableIn C 375 dL_33 (by omega) (by omega) (by rw [hv1]; rfl) (by decide) ?_
    exact lo_5 h0 hi (Kcrucible i (fun k => xs (i + k)) Mc Mr _ (by omega) hR mono_c)
  · refine k_tableIn C 398 dL_33 (by omega) (by omega) (by rw [hv1]; rfl) (by decide) ?_
    exact lo_6 h0 hi (Kcast i (fun k => xs (i + k)) Mc Mr _ (by omega) hR mono_c)
  · refine k_tableIn C 441 dL_33 (by omega) (by omega) (by rw [hv1]; rfl) (by decide) ?_
    exact lo_7 h0 hi (Kyears i (fun k => xs (i + k)) Mc Mr _ (by omega) hR mono_c)
  · refine k_tableIn C 464 dL_33 (by omega) (by omega) (by rw [hv1]; rfl) (by decide) ?_
    exact lo_8 h0 hi (Kthen i (fun k => xs (i + k)) Mc Mr _ (by omega) hR mono_c)
  · refine k_tableIn C 507 dL_33 (by omega) (by omega) (by rw [hv1]; rfl) (by decide) ?_
    exact lo_9 h0 hi (Kseed i (fun k => xs (i + k)) Mc Mr _ (by omega) hR mono_c)
  · refine k_tableIn C 530 dL_33 (by omega) (by omega) (by rw [hv1]; rfl) (by decide) ?_
    exact lo_10 h0 hi (Kfeed i (fun k => xs (i + k)) Mc Mr _ (by omega) hR mono_c)
  · refine k_tableIn C 593 dL_33 (by omega) (by omega) (by rw [hv1]; rfl) (by decide) ?_
    exact lo_11 h0 hi (Ktext i (fun k => xs (i + k)) Mc Mr _ (by omega) hR mono_c)
  · refine k_tableIn C 616 dL_33 (by omega) (by omega) (by rw [hv1]; rfl) (by decide) ?_
    exact lo_12 h0 hi (Kuntell i (fun k => xs (i + k)) Mc Mr _ (by omega) hR mono_c)
  · refine k_tableIn C 639 dL_33 (by omega) (by omega) (by rw [hv1]; rfl) (by decide) ?_
    exact lo_13 h0 hi (Kclaim i (fun k => xs (i + k)) Mc Mr _ (by omega) hR mono_c)
  · refine k_tableIn C 672 dL_33 (by omega) (by omega) (by rw [hv1]; rfl) (by decide) ?_
    exact lo_14 h0 hi (KclaimIs i (fun k => xs (i + k)) Mc Mr _ (by omega) hR mono_c)
  · refine k_tableIn C 705 dL_33 (by omega) (by omega) (by rw [hv1]; rfl) (by decide) ?_
    exact lo_15 h0 hi (Kshare i (fun k => xs (i + k)) Mc Mr _ (by omega) hR mono_c)
  · refine k_tableIn C 738 dL_33 (by omega) (by omega) (by rw [hv1]; rfl) (by decide) ?_
    exact lo_16 h0 hi (Kleft i (fun k => xs (i + k)) Mc Mr _ (by omega) hR mono_c)
  · refine k_tableIn C 771 dL_33 (by omega) (by omega) (by rw [hv1]; rfl) (by decide) ?_
    exact lo_17 h0 hi (Kpaper i (fun k => xs (i + k)) Mc Mr _ (by omega) hR mono_c)
  · refine k_tableIn C 814 dL_33 (by omega) (by omega) (by rw [hv1]; rfl) (by decide) ?_
    exact lo_18 h0 hi (Kweigh i (fun k => xs (i + k)) Mc Mr _ (by omega) hR mono_c)
  · refine k_tableIn C 857 dL_33 (by omega) (by omega) (by rw [hv1]; rfl) (by decide) ?_
    exact lo_19 h0 hi (Kforget i (fun k => xs (i + k)) Mc Mr _ (by omega) hR mono_c)
  · refine k_tableIn C 880 dL_33 (by omega) (by omega) (by rw [hv1]; rfl) (by decide) ?_
    exact lo_20 h0 hi (Kby i (fun k => xs (i + k)) Mc Mr _ (by omega) hR mono_c)
  · refine k_tableIn C 923 dL_33 (by omega) (by omega) (by rw [hv1]; rfl) (by decide) ?_
    exact lo_21 h0 hi (Kfits i (fun k => xs (i + k)) Mc Mr _ (by omega) hR mono_c)
  · refine k_tableIn C 946 dL_33 (by omega) (by omega) (by rw [hv1]; rfl) (by decide) ?_
    exact lo_22 h0 hi (Kspan i (fun k => xs (i + k)) Mc Mr _ (by omega) hR mono_c)
  · refine k_tableIn C 989 dL_33 (by omega) (by omega) (by rw [hv1]; rfl) (by decide) ?_
    exact lo_23 h0 hi (Knext i (fun k => xs (i + k)) Mc Mr _ (by omega) hR mono_c)
  · refine k_tableIn C 1002 dL_33 (by omega) (by omega) (by rw [hv1]; rfl) (by decide) ?_
    exact lo_24 h0 hi (Kmost i (fun k => xs (i + k)) Mc Mr _ (by omega) hR mono_c)
  · refine k_tableIn C 1045 dL_33 (by omega) (by omega) (by rw [hv1]; rfl) (by decide) ?_
    exact lo_25 h0 hi (Kvoice i (fun k => xs (i + k)) Mc Mr _ (by omega) hR mono_c)
  · refine k_tableIn C 1088 dL_33 (by omega) (by omega) (by rw [hv1]; rfl) (by decide) ?_
    exact lo_26 h0 hi (Kbody i (fun k => xs (i + k)) Mc Mr _ (by omega) hR mono_c)
  · refine k_tableIn C 1111 dL_33 (by omega) (by omega) (by rw [hv1]; rfl) (by decide) ?_
    exact lo_27 h0 hi (Ksheet i (fun k => xs (i + k)) Mc Mr _ (by omega) hR mono_c)
  · refine k_tableIn C 1154 dL_33 (by omega) (by omega) (by rw [hv1]; rfl) (by decide) ?_
    exact lo_28 h0 hi (Kput i (fun k => xs (i + k)) Mc Mr _ (by omega) hR mono_c)
  · refine k_tableIn C 1197 dL_33 (by omega) (by omega) (by rw [hv1]; rfl) (by decide) ?_
    exact lo_29 h0 hi (Kmove i (fun k => xs (i + k)) Mc Mr _ (by omega) hR mono_c)
  · refine k_tableIn C 1260 dL_33 (by omega) (by omega) (by rw [hv1]; rfl) (by decide) ?_
    exact lo_30 h0 hi (Kpapers i (fun k => xs (i + k)) Mc Mr _ (by omega) hR mono_c)
  · refine k_tableIn C 1283 dL_33 (by omega) (by omega) (by rw [hv1]; rfl) (by decide) ?_
    exact lo_31 h0 hi (Kjudge i (fun k => xs (i + k)) Mc Mr _ (by omega) hR mono_c)
  · refine k_tableIn C 1316 dL_33 (by omega) (by omega) (by rw [hv1]; rfl) (by decide) ?_
    exact lo_32 h0 hi (Kimage i (fun k => xs (i + k)) Mc Mr _ (by omega) hR mono_c)
  · refine k_tableIn C 1329 dL_33 (by omega) (by omega) (by rw [hv1]; rfl) (by decide) ?_
    exact lo_33 h0 hi (Krestore i (fun k => xs (i + k)) Mc Mr _ (by omega) hR mono_c)
  · refine k_tableIn C 1342 dL_33 (by omega) (by omega) (by rw [hv1]; rfl) (by decide) ?_
    exact lo_34 h0 hi (Ktell i (fun k => xs (i + k)) Mc Mr _ (by omega) hR mono_c)
  · refine k_tableIn C 1365 dL_33 (by omega) (by omega) (by rw [hv1]; rfl) (by decide) ?_
    exact lo_35 h0 hi (Kcheck i (fun k => xs (i + k)) Mc Mr _ (by omega) hR mono_c)
  · refine k_tableIn C 1378 dL_33 (by omega) (by omega) (by rw [hv1]; rfl) (by decide) ?_
    exact lo_36 h0 hi (Kcount i (fun k => xs (i + k)) Mc Mr _ (by omega) hR mono_c)
  · refine k_tableIn C 1401 dL_33 (by omega) (by omega) (by rw [hv1]; rfl) (by decide) ?_
    exact lo_37 h0 hi (Ktold i (fun k => xs (i + k)) Mc Mr _ (by omega) hR mono_c)
  · refine k_tableOut C 1424 dL_33 (Or.inr hv1) (by decide) ?_
    exact mono_c _ _ (Kskip _ _ _ (by omega) hR)
theorem lawLoop (h0 : LC p s m c b L xs D cI cS A) (hr : meth.sig.returnType = ret) (hlocks : meth.locks = false) (hA : ∀ q, A q → s.heap.size ≤ q) (hL : L ≤ 100000) {N : Nat} (hN : L ≤ N) {Rel : Nat → gSt → gSt → Prop} (ok : lawOK N Rel) : ∀ (n i : Nat) (Mc Mr : gSt), L < n + i → i ≤ L + 6 → (i + 6 ≤ L → Rel i Mc Mr) → gL p l e s m below meth c (lw_Z below #[Value.ref b] s) D A b ad bd cI cS 18 i [] Mc Mr := by
  obtain ⟨C, hX, hbl, hbA, hL2, -⟩ := id h0
  intro n
  induction n with
  | zero =>
    intro i Mc Mr h1 h2 hR
    refine k_iload_n C dL_18 rfl ?_
    refine k_aload_n C dL_19 rfl ?_
    refine k_slen C hX hbl hbA dL_20 ?_
    refine k_bipush C dL_21 rfl ?_
    refine k_isub C dL_23 ?_
    refine k_icmp_gt C 1430 dL_24 (by decide) (fun hc => ?_) (fun hc => ?_)
    · refine k_iconst C dL_1430 ?_
      intro H locs ls hP hD hS hl
      exact va_forget (fun q hq => hA _ (hS.2.2 q hq)) (W.widen (Nat.le_of_ble_eq_true rfl) (Nat.le_of_ble_eq_true rfl) (lw_ret C.1 C.2.1 hr hlocks dL_1431))
    · rw [wrap_in (by omega) (by omega), wrap_in (by omega) (by omega)] at hc
      omega
  | succ n ih =>
    intro i Mc Mr h1 h2 hR
    refine k_iload_n C dL_18 rfl ?_
    refine k_aload_n C dL_19 rfl ?_
    refine k_slen C hX hbl hbA dL_20 ?_
    refine k_bipush C dL_21 rfl ?_
    refine k_isub C dL_23 ?_
    refine k_icmp_gt C 1430 dL_24 (by decide) (fun hc => ?_) (fun hc => ?_)
    · refine k_iconst C dL_1430 ?_
      intro H locs ls hP hD hS hl
      exact va_forget (fun q hq => hA _ (hS.2.2 q hq)) (W.widen (Nat.le_of_ble_eq_true rfl) (Nat.le_of_ble_eq_true rfl) (lw_ret C.1 C.2.1 hr hlocks dL_1431))
    · rw [wrap_in (by omega) (by omega), wrap_in (by omega) (by omega)] at hc
      refine lawSwitch h0 (by omega) hN ok (fun Mc' Mr' hR' => ?_) (hR (by omega))
      refine k_iinc C dL_1424 rfl (by decide) rfl ?_
      refine k_locals (lv' := [(0, .ref b), (1, .ref (ad 0)), (2, .ref (bd 0)), (3, iv ((i + 6 : Nat) : Int))]) rfl ?_
      refine k_goto C 18 dL_1427 (by decide) ?_
      exact ih (i + 6) Mc' Mr' (by omega) (by omega) (fun _ => hR')
end LOOP
set_option maxHeartbeats 4000000 in
set_option maxRecDepth 100000 in
theorem whole_from {Rel : Nat → gSt → gSt → Prop} (ok : lawOK 384 Rel) (hRel : Rel 0 M0c M0r) {p : Program} {e : Env} {s : State} {m : MethodId} {below : List Frame} {meth : Method} {c : Code} (l : Launch) (hflags : l.flags = flags0) {b L : Nat} {xs : Nat → Int32} (hL : L ≤ 384) (C0 : lw_At p s m meth c b L xs) : W p l e room_1 s m #[Value.ref b] below meth c s.heap [] 0 0 (lw_Z below #[Value.ref b] s) (entryFrame m ([Value.ref b] : List Value).toArray 4) := by
  obtain ⟨hx, hb, hr, hml, hown, hts, hX, hbl, hlocks, hgv⟩ := id C0
  obtain ⟨D, cI, cS, hK⟩ := startK hts
  have hZ : zC (fun q : Nat => s.heap.size ≤ q) s := ⟨⟨st_ABOVE hts hgv, st_NAMES hts hgv, st_BODIES hts hgv⟩, startN hts⟩
  have hY := startY hts
  have C : kC p s m #[.ref b] c D clC [(cI, .int), (cS, .object "OldBronze$Sheet")] (fun q : Nat => s.heap.size ≤ q) 4 code R_law lw_tbl := ⟨hx, hb, hml, hown, hts, hK, fun q h => h⟩
  have h0 : LC p s m c b L xs D cI cS (fun q : Nat => s.heap.size ≤ q) := ⟨C, hX, hbl, Nat.not_le.mpr hbl, by omega, hZ⟩
  have key : gK p l e room_1 s m #[.ref b] below meth c (lw_Z below #[Value.ref b] s) D clC (fun q : Nat => s.heap.size ≤ q) 4 0 0 0 (lv_args 0 [.ref b]) [] [] := by
    refine k_locals (lv' := [(0, .ref b)]) rfl ?_
    refine k_new C (ci := 8) (fs := [.null, .null, .null, .null, .null, .null, .null, .null, iv 0]) (fun w hw => in_tC w (inX8 w hw)) tyX8 tyX8_ok (List.mem_append_right _ (List.mem_append_left _ (List.mem_of_getElem? (l := tables_1_1) (i := 15) rfl))) (List.mem_append_right _ (List.mem_append_left _ (List.mem_of_getElem? (l := tables_1_1) (i := 16) rfl))) (List.mem_append_right _ (List.mem_append_left _ (List.mem_of_getElem? (l := tables_1_1) (i := 1) rfl))) rfl (fun j hj => by rcases (show j = 0 ∨ j = 1 ∨ j = 2 ∨ j = 3 ∨ j = 4 ∨ j = 5 ∨ j = 6 ∨ j = 7 ∨ j = 8 by omega) with rfl | rfl | rfl | rfl | rfl | rfl | rfl | rfl | rfl <;> rfl) ⟨Nat.le_of_ble_eq_true rfl, Nat.le_of_ble_eq_true rfl⟩ dL_0 (fun a => ?_)
    refine k_dup C dL_3 rfl ?_
    refine k_callIL C (kc := 1) (ks := 9) (nargs := 0) (st := [.ref a]) (wr := []) hY yC_m (fun q => q) kc_X8_init (List.mem_append_right _ (List.mem_append_left _ (List.mem_of_getElem? (l := tables_1_1) (i := 17) rfl))) (goodL in_tC tC_good (List.mem_append_right _ (List.mem_append_left _ (List.mem_of_getElem? (l := tables_1_1) (i := 19) rfl))) (by decide +kernel)) (List.mem_append_right _ (List.mem_append_left _ (List.mem_of_getElem? (l := tables_1_1) (i := 1) rfl))) (List.mem_append_right _ (List.mem_append_left _ (List.mem_of_getElem? (l := tables_1_1) (i := 18) rfl))) rfl (by decide +kernel) ⟨rfl, rfl⟩ dL_4 ⟨Nat.le_of_ble_eq_true rfl, Nat.le_of_ble_eq_true rfl⟩ rfl rfl (Nat.le_of_ble_eq_true rfl) ⟨Nat.le_of_ble_eq_true rfl, Nat.le_of_ble_eq_true rfl⟩ (fun u => ?_)
    refine k_perm (ws' := wC (adC a u) cI cS M0c) [0, 1, 2, 3, 4, 5, 6, 7, 8, 9, 10, 11, 12, 13, 14, 15, 16, 17, 18, 19, 20, 21, 22, 23, 24, 25, 26, 27, 28, 29, 30, 31, 32, 33, 34, 35, 36, 37, 38, 39, 40, 41, 42, 43, 44, 45, 46, 47, 48, 49, 50, 51, 52, 53, 54, 55, 57, 58, 59, 60, 61, 62, 63, 64, 56] (by decide) (by rw [wC0]; rfl) (by rw [wC0]; rfl) ?_
    refine k_astore_n C dL_7 (by decide) rfl ?_
    refine k_locals (lv' := [(0, .ref b), (1, .ref (adC a u 0))]) rfl ?_
    refine k_new C (ci := 9) (fs := [.null, .null, .null, iv 0, .null, iv 0, iv 0, iv 0, iv 0, .null, .null, .null, .null, iv 0, .null, .null, iv 0, iv 0, iv 0, .null, .null, .null, .null]) (fun w hw => in_tR w (tR_f w hw)) tyX9 tyX9_ok (List.mem_append_right _ (List.mem_append_right _ (List.mem_append_right _ (List.mem_append_right _ (List.mem_append_left _ (List.mem_of_getElem? (l := tables_1_4) (i := 135) rfl)))))) (List.mem_append_right _ (List.mem_append_right _ (List.mem_append_right _ (List.mem_append_right _ (List.mem_append_left _ (List.mem_of_getElem? (l := tables_1_4) (i := 136) rfl)))))) (List.mem_append_right _ (List.mem_append_left _ (List.mem_of_getElem? (l := tables_1_1) (i := 11) rfl))) rfl (fun j hj => by rcases (show j = 0 ∨ j = 1 ∨ j = 2 ∨ j = 3 ∨ j = 4 ∨ j = 5 ∨ j = 6 ∨ j = 7 ∨ j = 8 ∨ j = 9 ∨ j = 10 ∨ j = 11 ∨ j = 12 ∨ j = 13 ∨ j = 14 ∨ j = 15 ∨ j = 16 ∨ j = 17 ∨ j = 18 ∨ j = 19 ∨ j = 20 ∨ j = 21 ∨ j = 22 by omega) with rfl | rfl | rfl | rfl | rfl | rfl | rfl | rfl | rfl | rfl | rfl | rfl | rfl | rfl | rfl | rfl | rfl | rfl | rfl | rfl | rfl | rfl | rfl <;> rfl) ⟨Nat.le_of_ble_eq_true rfl, Nat.le_of_ble_eq_true rfl⟩ dL_8 (fun a9 => ?_)
    refine k_dup C dL_11 rfl ?_
    refine k_callIL (Y := fun _ => True) C (kc := 66) (ks := 2431) (nargs := 0) (st := [.ref a9]) (wr := wC (adC a u) cI cS M0c) trivial ⟨fun _ _ _ _ => trivial, fun _ _ _ _ _ => trivial⟩ (fun q => q) (kc_X9_init (ci := 9) rfl) (List.mem_append_right _ (List.mem_append_right _ (List.mem_append_right _ (List.mem_append_right _ (List.mem_append_left _ (List.mem_of_getElem? (l := tables_1_4) (i := 137) rfl)))))) (goodL in_tR tR_good (List.mem_append_right _ (List.mem_append_right _ (List.mem_append_right _ (List.mem_append_right _ (List.mem_append_left _ (List.mem_of_getElem? (l := tables_1_4) (i := 139) rfl)))))) (by decide +kernel)) (List.mem_append_right _ (List.mem_append_left _ (List.mem_of_getElem? (l := tables_1_1) (i := 11) rfl))) (List.mem_append_right _ (List.mem_append_right _ (List.mem_append_right _ (List.mem_append_right _ (List.mem_append_left _ (List.mem_of_getElem? (l := tables_1_4) (i := 138) rfl)))))) rfl (by decide +kernel) ⟨rfl, rfl⟩ dL_12 ⟨Nat.le_of_ble_eq_true rfl, Nat.le_of_ble_eq_true rfl⟩ rfl rfl (Nat.le_of_ble_eq_true rfl) ⟨Nat.le_of_ble_eq_true rfl, Nat.le_of_ble_eq_true rfl⟩ (fun u9 => ?_)
    refine k_ws (ws' := wC (adC a u) cI cS M0c ++ wR (adR a9 u9) cI 9 M0r) (congrArg (fun w => wC (adC a u) cI cS M0c ++ w) wR0.symm) ?_
    refine k_astore_n C dL_15 (by decide) rfl ?_
    refine k_iconst C dL_16 ?_
    refine k_istore_n C dL_17 (by decide) rfl ?_
    refine k_locals (lv' := [(0, .ref b), (1, .ref (adC a u 0)), (2, .ref (adR a9 u9 0)), (3, iv ((0 : Nat) : Int))]) rfl ?_
    exact lawLoop h0 hr hlocks (fun q h => h) (by omega) hL ok (L + 1) 0 M0c M0r (by omega) (by omega) (fun _ => hRel)
  have hl := lv_entry ([.ref b]) (n := 4) (Nat.le_of_ble_eq_true rfl)
  rw [lg_entry_eq]
  exact key s.heap [] _ (fun k q h => by simp at h) ⟨fun i j p q h => by simp at h, fun k q h => by simp at h⟩ va_S.rf hl
end
