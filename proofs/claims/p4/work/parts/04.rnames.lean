-- the reference's names, words, fields
def RX9 : String := "OldBronzeModel"
def TX9 : u_T := fun k => match k with
  | 0 => ("OldBronzeModel", "s", "[I", true)
  | 1 => ("OldBronzeModel", "kept", "[I", true)
  | 2 => ("OldBronzeModel", "put", "[I", true)
  | 3 => ("OldBronzeModel", "images", "I", false)
  | 4 => ("OldBronzeModel", "errors", "[I", true)
  | 5 => ("OldBronzeModel", "at", "I", false)
  | 6 => ("OldBronzeModel", "open", "I", false)
  | 7 => ("OldBronzeModel", "steps", "I", false)
  | 8 => ("OldBronzeModel", "use", "I", false)
  | 9 => ("OldBronzeModel", "step", "[I", true)
  | 10 => ("OldBronzeModel", "named", "[I", true)
  | 11 => ("OldBronzeModel", "pile", "[I", true)
  | 12 => ("OldBronzeModel", "fit", "[I", true)
  | 13 => ("OldBronzeModel", "many", "I", false)
  | 14 => ("OldBronzeModel", "seen", "[I", true)
  | 15 => ("OldBronzeModel", "trace", "[I", true)
  | 16 => ("OldBronzeModel", "traced", "I", false)
  | 17 => ("OldBronzeModel", "speaks", "I", false)
  | 18 => ("OldBronzeModel", "isParted", "Z", false)
  | 19 => ("OldBronzeModel", "bits", "[I", true)
  | 20 => ("OldBronzeModel", "sizes", "[I", true)
  | 21 => ("OldBronzeModel", "number", "[I", true)
  | _ => ("OldBronzeModel", "aside", "[I", true)
def tyX9 : Nat → FieldType := fun k => match k with
  | 0 => .array .int
  | 1 => .array .int
  | 2 => .array .int
  | 3 => .int
  | 4 => .array .int
  | 5 => .int
  | 6 => .int
  | 7 => .int
  | 8 => .int
  | 9 => .array .int
  | 10 => .array .int
  | 11 => .array .int
  | 12 => .array .int
  | 13 => .int
  | 14 => .array .int
  | 15 => .array .int
  | 16 => .int
  | 17 => .int
  | 18 => .boolean
  | 19 => .array .int
  | 20 => .array .int
  | 21 => .array .int
  | _ => .array .int
abbrev wsX90 : List Cond := u_ws RX9 TX9 23
theorem nmX9 : ∀ a, a < 23 → ∀ b, b < 23 → a ≠ b → (TX9 a).2.1 ≠ (TX9 b).2.1 := by decide +kernel
theorem tyX9_ok : ∀ k, k < 23 → parseFieldDescriptor (TX9 k).2.2.1 = some (tyX9 k) := by decide +kernel
abbrev cX9_init : ByteArray := prog_11_method_1_code
def yX9_init : MethodName := ⟨RX9, "<init>", "()V"⟩
abbrev cX9_error : ByteArray := prog_11_method_2_code
def yX9_error : MethodName := ⟨RX9, "error", "(I)I"⟩
abbrev cX9_in : ByteArray := prog_11_method_3_code
def yX9_in : MethodName := ⟨RX9, "in", "(III)Z"⟩
abbrev cX9_held : ByteArray := prog_11_method_4_code
def yX9_held : MethodName := ⟨RX9, "held", "(III)I"⟩
abbrev cX9_carry : ByteArray := prog_11_method_5_code
def yX9_carry : MethodName := ⟨RX9, "carry", "([I[I)V"⟩
abbrev cX9_isThing : ByteArray := prog_11_method_6_code
def yX9_isThing : MethodName := ⟨RX9, "isThing", "(I)Z"⟩
abbrev cX9_its : ByteArray := prog_11_method_7_code
def yX9_its : MethodName := ⟨RX9, "its", "(II)I"⟩
abbrev cX9_lays1 : ByteArray := prog_11_method_8_code
def yX9_lays1 : MethodName := ⟨RX9, "lays1", "(III)V"⟩
abbrev cX9_addThing : ByteArray := prog_11_method_9_code
def yX9_addThing : MethodName := ⟨RX9, "addThing", "(I)I"⟩
abbrev cX9_thing : ByteArray := prog_11_method_10_code
def yX9_thing : MethodName := ⟨RX9, "thing", "(II)I"⟩
abbrev cX9_told1 : ByteArray := prog_11_method_11_code
def yX9_told1 : MethodName := ⟨RX9, "told1", "(II)I"⟩
abbrev cX9_thingIs : ByteArray := prog_11_method_12_code
def yX9_thingIs : MethodName := ⟨RX9, "thingIs", "(II)I"⟩
abbrev cX9_isUnder : ByteArray := prog_11_method_13_code
def yX9_isUnder : MethodName := ⟨RX9, "isUnder", "(II)Z"⟩
abbrev cX9_as : ByteArray := prog_11_method_14_code
def yX9_as : MethodName := ⟨RX9, "as", "(II)I"⟩
abbrev cX9_set : ByteArray := prog_11_method_15_code
def yX9_set : MethodName := ⟨RX9, "set", "(III)I"⟩
abbrev cX9_moves : ByteArray := prog_11_method_16_code
def yX9_moves : MethodName := ⟨RX9, "moves", "(III)V"⟩
abbrev cX9_melt : ByteArray := prog_11_method_17_code
def yX9_melt : MethodName := ⟨RX9, "melt", "(II)I"⟩
abbrev cX9_crucible : ByteArray := prog_11_method_18_code
def yX9_crucible : MethodName := ⟨RX9, "crucible", "(I)I"⟩
abbrev cX9_partOf : ByteArray := prog_11_method_19_code
def yX9_partOf : MethodName := ⟨RX9, "partOf", "(III)I"⟩
abbrev cX9_cast : ByteArray := prog_11_method_20_code
def yX9_cast : MethodName := ⟨RX9, "cast", "(III)I"⟩
abbrev cX9_draw : ByteArray := prog_11_method_21_code
def yX9_draw : MethodName := ⟨RX9, "draw", "()I"⟩
abbrev cX9_year : ByteArray := prog_11_method_22_code
def yX9_year : MethodName := ⟨RX9, "year", "()V"⟩
abbrev cX9_go : ByteArray := prog_11_method_23_code
def yX9_go : MethodName := ⟨RX9, "go", "(I)V"⟩
abbrev cX9_allGrams : ByteArray := prog_11_method_24_code
def yX9_allGrams : MethodName := ⟨RX9, "allGrams", "()I"⟩
abbrev cX9_years : ByteArray := prog_11_method_25_code
def yX9_years : MethodName := ⟨RX9, "years", "(I)I"⟩
abbrev cX9_then : ByteArray := prog_11_method_26_code
def yX9_then : MethodName := ⟨RX9, "then", "(III)I"⟩
abbrev cX9_seed : ByteArray := prog_11_method_27_code
def yX9_seed : MethodName := ⟨RX9, "seed", "(I)I"⟩
abbrev cX9_feed : ByteArray := prog_11_method_28_code
def yX9_feed : MethodName := ⟨RX9, "feed", "(JI)I"⟩
abbrev cX9_look : ByteArray := prog_11_method_29_code
def yX9_look : MethodName := ⟨RX9, "look", "()I"⟩
abbrev cX9_isName : ByteArray := prog_11_method_30_code
def yX9_isName : MethodName := ⟨RX9, "isName", "(I)Z"⟩
abbrev cX9_lays : ByteArray := prog_11_method_31_code
def yX9_lays : MethodName := ⟨RX9, "lays", "(II)V"⟩
abbrev cX9_whole : ByteArray := prog_11_method_32_code
def yX9_whole : MethodName := ⟨RX9, "whole", "()Z"⟩
abbrev cX9_both : ByteArray := prog_11_method_33_code
def yX9_both : MethodName := ⟨RX9, "both", "()Z"⟩
abbrev cX9_compared : ByteArray := prog_11_method_34_code
def yX9_compared : MethodName := ⟨RX9, "compared", "()Z"⟩
abbrev cX9_sum : ByteArray := prog_11_method_35_code
def yX9_sum : MethodName := ⟨RX9, "sum", "()Z"⟩
abbrev cX9_product : ByteArray := prog_11_method_36_code
def yX9_product : MethodName := ⟨RX9, "product", "()Z"⟩
abbrev cX9_opens : ByteArray := prog_11_method_37_code
def yX9_opens : MethodName := ⟨RX9, "opens", "()Z"⟩
abbrev cX9_one : ByteArray := prog_11_method_38_code
def yX9_one : MethodName := ⟨RX9, "one", "()Z"⟩
abbrev cX9_hasText : ByteArray := prog_11_method_39_code
def yX9_hasText : MethodName := ⟨RX9, "hasText", "(I)Z"⟩
abbrev cX9_text : ByteArray := prog_11_method_40_code
def yX9_text : MethodName := ⟨RX9, "text", "(I)I"⟩
abbrev cX9_untell : ByteArray := prog_11_method_41_code
def yX9_untell : MethodName := ⟨RX9, "untell", "(I)I"⟩
abbrev cX9_joined : ByteArray := prog_11_method_42_code
def yX9_joined : MethodName := ⟨RX9, "joined", "(III)I"⟩
abbrev cX9_worked : ByteArray := prog_11_method_43_code
def yX9_worked : MethodName := ⟨RX9, "worked", "(I)I"⟩
abbrev cX9_thousandths : ByteArray := prog_11_method_44_code
def yX9_thousandths : MethodName := ⟨RX9, "thousandths", "(I)I"⟩
abbrev cX9_rings : ByteArray := prog_11_method_45_code
def yX9_rings : MethodName := ⟨RX9, "rings", "(I)I"⟩
abbrev cX9_tone : ByteArray := prog_11_method_46_code
def yX9_tone : MethodName := ⟨RX9, "tone", "(I)I"⟩
abbrev cX9_isClaim : ByteArray := prog_11_method_47_code
def yX9_isClaim : MethodName := ⟨RX9, "isClaim", "(I)Z"⟩
abbrev cX9_of : ByteArray := prog_11_method_48_code
def yX9_of : MethodName := ⟨RX9, "of", "(II)I"⟩
abbrev cX9_manyOn : ByteArray := prog_11_method_49_code
def yX9_manyOn : MethodName := ⟨RX9, "manyOn", "(I)I"⟩
abbrev cX9_counts : ByteArray := prog_11_method_50_code
def yX9_counts : MethodName := ⟨RX9, "counts", "(I)I"⟩
abbrev cX9_claim : ByteArray := prog_11_method_51_code
def yX9_claim : MethodName := ⟨RX9, "claim", "(II)I"⟩
abbrev cX9_claimIs : ByteArray := prog_11_method_52_code
def yX9_claimIs : MethodName := ⟨RX9, "claimIs", "(II)I"⟩
abbrev cX9_countsBelow : ByteArray := prog_11_method_53_code
def yX9_countsBelow : MethodName := ⟨RX9, "countsBelow", "(II)I"⟩
abbrev cX9_shareOf : ByteArray := prog_11_method_54_code
def yX9_shareOf : MethodName := ⟨RX9, "shareOf", "(II)I"⟩
abbrev cX9_isLaw : ByteArray := prog_11_method_55_code
def yX9_isLaw : MethodName := ⟨RX9, "isLaw", "(I)Z"⟩
abbrev cX9_share : ByteArray := prog_11_method_56_code
def yX9_share : MethodName := ⟨RX9, "share", "(II)I"⟩
abbrev cX9_left : ByteArray := prog_11_method_57_code
def yX9_left : MethodName := ⟨RX9, "left", "(II)I"⟩
abbrev cX9_isPaper : ByteArray := prog_11_method_58_code
def yX9_isPaper : MethodName := ⟨RX9, "isPaper", "(III)Z"⟩
abbrev cX9_addPaper : ByteArray := prog_11_method_59_code
def yX9_addPaper : MethodName := ⟨RX9, "addPaper", "(III)V"⟩
abbrev cX9_paper : ByteArray := prog_11_method_60_code
def yX9_paper : MethodName := ⟨RX9, "paper", "(III)I"⟩
abbrev cX9_weigh : ByteArray := prog_11_method_61_code
def yX9_weigh : MethodName := ⟨RX9, "weigh", "(III)I"⟩
abbrev cX9_forget : ByteArray := prog_11_method_62_code
def yX9_forget : MethodName := ⟨RX9, "forget", "(I)I"⟩
abbrev cX9_allPapers : ByteArray := prog_11_method_63_code
def yX9_allPapers : MethodName := ⟨RX9, "allPapers", "()I"⟩
abbrev cX9_isHistory : ByteArray := prog_11_method_64_code
def yX9_isHistory : MethodName := ⟨RX9, "isHistory", "(I)Z"⟩
abbrev cX9_goesBy : ByteArray := prog_11_method_65_code
def yX9_goesBy : MethodName := ⟨RX9, "goesBy", "(I)V"⟩
abbrev cX9_after : ByteArray := prog_11_method_66_code
def yX9_after : MethodName := ⟨RX9, "after", "(III)I"⟩
abbrev cX9_by : ByteArray := prog_11_method_67_code
def yX9_by : MethodName := ⟨RX9, "by", "(III)I"⟩
abbrev cX9_doesFit : ByteArray := prog_11_method_68_code
def yX9_doesFit : MethodName := ⟨RX9, "doesFit", "(I)Z"⟩
abbrev cX9_findFits : ByteArray := prog_11_method_69_code
def yX9_findFits : MethodName := ⟨RX9, "findFits", "()V"⟩
abbrev cX9_bitsOf : ByteArray := prog_11_method_70_code
def yX9_bitsOf : MethodName := ⟨RX9, "bitsOf", "(I)I"⟩
abbrev cX9_fits : ByteArray := prog_11_method_71_code
def yX9_fits : MethodName := ⟨RX9, "fits", "(I)I"⟩
abbrev cX9_span : ByteArray := prog_11_method_72_code
def yX9_span : MethodName := ⟨RX9, "span", "(III)I"⟩
abbrev cX9_heap : ByteArray := prog_11_method_73_code
def yX9_heap : MethodName := ⟨RX9, "heap", "(I)I"⟩
abbrev cX9_next : ByteArray := prog_11_method_74_code
def yX9_next : MethodName := ⟨RX9, "next", "()I"⟩
abbrev cX9_together : ByteArray := prog_11_method_75_code
def yX9_together : MethodName := ⟨RX9, "together", "(II)I"⟩
abbrev cX9_haveGrams : ByteArray := prog_11_method_76_code
def yX9_haveGrams : MethodName := ⟨RX9, "haveGrams", "(I)Z"⟩
abbrev cX9_most : ByteArray := prog_11_method_77_code
def yX9_most : MethodName := ⟨RX9, "most", "(III)I"⟩
abbrev cX9_begins : ByteArray := prog_11_method_78_code
def yX9_begins : MethodName := ⟨RX9, "begins", "(I)V"⟩
abbrev cX9_above : ByteArray := prog_11_method_79_code
def yX9_above : MethodName := ⟨RX9, "above", "(I)I"⟩
abbrev cX9_kindNow : ByteArray := prog_11_method_80_code
def yX9_kindNow : MethodName := ⟨RX9, "kindNow", "()I"⟩
abbrev cX9_mNow : ByteArray := prog_11_method_81_code
def yX9_mNow : MethodName := ⟨RX9, "mNow", "()I"⟩
abbrev cX9_ringsBy : ByteArray := prog_11_method_82_code
def yX9_ringsBy : MethodName := ⟨RX9, "ringsBy", "(II)I"⟩
abbrev cX9_weighsBy : ByteArray := prog_11_method_83_code
def yX9_weighsBy : MethodName := ⟨RX9, "weighsBy", "(II)I"⟩
abbrev cX9_meltsBy : ByteArray := prog_11_method_84_code
def yX9_meltsBy : MethodName := ⟨RX9, "meltsBy", "(II)I"⟩
abbrev cX9_partsBy : ByteArray := prog_11_method_85_code
def yX9_partsBy : MethodName := ⟨RX9, "partsBy", "(II)I"⟩
abbrev cX9_voice : ByteArray := prog_11_method_86_code
def yX9_voice : MethodName := ⟨RX9, "voice", "(III)I"⟩
abbrev cX9_body : ByteArray := prog_11_method_87_code
def yX9_body : MethodName := ⟨RX9, "body", "(I)I"⟩
abbrev cX9_isSheet : ByteArray := prog_11_method_88_code
def yX9_isSheet : MethodName := ⟨RX9, "isSheet", "(I)Z"⟩
abbrev cX9_sheet : ByteArray := prog_11_method_89_code
def yX9_sheet : MethodName := ⟨RX9, "sheet", "(III)I"⟩
abbrev cX9_put : ByteArray := prog_11_method_90_code
def yX9_put : MethodName := ⟨RX9, "put", "(III)I"⟩
abbrev cX9_move : ByteArray := prog_11_method_91_code
def yX9_move : MethodName := ⟨RX9, "move", "(IIIII)I"⟩
abbrev cX9_lacks : ByteArray := prog_11_method_92_code
def yX9_lacks : MethodName := ⟨RX9, "lacks", "(I)I"⟩
abbrev cX9_papers : ByteArray := prog_11_method_93_code
def yX9_papers : MethodName := ⟨RX9, "papers", "(I)I"⟩
abbrev cX9_judge : ByteArray := prog_11_method_94_code
def yX9_judge : MethodName := ⟨RX9, "judge", "(II)I"⟩
abbrev cX9_image : ByteArray := prog_11_method_95_code
def yX9_image : MethodName := ⟨RX9, "image", "()I"⟩
abbrev cX9_restore : ByteArray := prog_11_method_96_code
def yX9_restore : MethodName := ⟨RX9, "restore", "()I"⟩
abbrev cX9_tell : ByteArray := prog_11_method_97_code
def yX9_tell : MethodName := ⟨RX9, "tell", "(I)I"⟩
abbrev cX9_check : ByteArray := prog_11_method_98_code
def yX9_check : MethodName := ⟨RX9, "check", "()I"⟩
abbrev cX9_count : ByteArray := prog_11_method_99_code
def yX9_count : MethodName := ⟨RX9, "count", "(I)I"⟩
abbrev cX9_told : ByteArray := prog_11_method_100_code
def yX9_told : MethodName := ⟨RX9, "told", "(I)I"⟩

theorem gV_good {Ts : List Cond} (hT : ∀ w ∈ Ts, goodWord w = true) {own : String} {idx : Nat} {y : MethodName} {b : ByteArray} {n : Nat} {rt : Option FieldType} (h1 : Cond.methodLink own idx y ∈ Ts) (h2 : Cond.instanceMethod y ∈ Ts) (h3 : Cond.selects y.cls y y ∈ Ts) (h4 : Cond.initialized y.cls ∈ Ts) (h5 : Cond.code y b n rt ∈ Ts) : GoodIn Ts (wsV own idx y.cls y (Cond.code y b n rt :: Ts)) := by
  intro w hw
  have h : w ∈ Ts := by
    simp only [wsV, List.cons_append, List.nil_append, List.mem_cons] at hw
    rcases hw with rfl | rfl | rfl | rfl | rfl | h
    · exact h1
    · exact h2
    · exact h3
    · exact h4
    · exact h5
    · exact h
  exact ⟨h, good_of_word (hT w h)⟩
theorem gS_good {Ts : List Cond} (hT : ∀ w ∈ Ts, goodWord w = true) {own : String} {idx : Nat} {y : MethodName} {b : ByteArray} {n : Nat} {rt : Option FieldType} (h1 : Cond.methodLink own idx y ∈ Ts) (h2 : Cond.static y ∈ Ts) (h4 : Cond.initialized y.cls ∈ Ts) (h5 : Cond.code y b n rt ∈ Ts) : GoodIn Ts (va_wsS own idx y (Cond.code y b n rt :: Ts)) := by
  intro w hw
  have h : w ∈ Ts := by
    simp only [va_wsS, List.cons_append, List.nil_append, List.mem_cons] at hw
    rcases hw with rfl | rfl | rfl | rfl | h
    · exact h1
    · exact h2
    · exact h4
    · exact h5
    · exact h
  exact ⟨h, good_of_word (hT w h)⟩
def tRa : List Cond := [
  .methodLink RX9 1 objectInit,
  .instanceMethod objectInit,
  .code objectInit ⟨#[0xb1]⟩ 1 none,
  .arrayClass .int,
  .fieldLink RX9 7 "OldBronzeModel" "s" "[I",
  .fieldLink RX9 13 "OldBronzeModel" "kept" "[I",
  .fieldLink RX9 16 "OldBronzeModel" "put" "[I",
  .fieldLink RX9 19 "OldBronzeModel" "errors" "[I",
  .fieldLink RX9 22 "OldBronzeModel" "step" "[I",
  .fieldLink RX9 25 "OldBronzeModel" "named" "[I",
  .fieldLink RX9 28 "OldBronzeModel" "pile" "[I",
  .fieldLink RX9 31 "OldBronzeModel" "fit" "[I",
  .fieldLink RX9 34 "OldBronzeModel" "seen" "[I",
  .fieldLink RX9 37 "OldBronzeModel" "trace" "[I",
  .fieldLink RX9 40 "OldBronzeModel" "bits" "[I",
  .fieldLink RX9 43 "OldBronzeModel" "sizes" "[I",
  .fieldLink RX9 46 "OldBronzeModel" "number" "[I",
  .fieldLink RX9 49 "OldBronzeModel" "aside" "[I",
  .code yX9_init cX9_init 1 none,
  .constant RX9 52 (-1000000000),
  .code yX9_error cX9_error 2 (some .int),
  .code yX9_in cX9_in 3 (some .boolean),
  .code yX9_held cX9_held 3 (some .int),
  .code yX9_carry cX9_carry 3 none,
  .methodLink RX9 53 yX9_in,
  .static yX9_in,
  .initialized RX9,
  .code yX9_isThing cX9_isThing 2 (some .boolean),
  .code yX9_its cX9_its 3 (some .int),
  .code yX9_lays1 cX9_lays1 4 none,
  .methodLink RX9 57 yX9_lays1,
  .instanceMethod yX9_lays1,
  .selects RX9 yX9_lays1 yX9_lays1,
  .code yX9_addThing cX9_addThing 4 (some .int),
  .constant RX9 61 (9999999),
  .constant RX9 69 (1000000),
  .methodLink RX9 62 yX9_error,
  .instanceMethod yX9_error,
  .selects RX9 yX9_error yX9_error,
  .methodLink RX9 66 yX9_addThing,
  .instanceMethod yX9_addThing,
  .selects RX9 yX9_addThing yX9_addThing,
  .code yX9_thing cX9_thing 4 (some .int),
  .code yX9_partOf cX9_partOf 3 (some .int),
  .methodLink RX9 73 yX9_its,
  .instanceMethod yX9_its,
  .selects RX9 yX9_its yX9_its,
  .methodLink RX9 99 yX9_partOf,
  .static yX9_partOf,
  .code yX9_thousandths cX9_thousandths 2 (some .int),
  .code yX9_hasText cX9_hasText 2 (some .boolean),
  .code yX9_joined cX9_joined 3 (some .int),
  .methodLink RX9 171 yX9_joined,
  .static yX9_joined,
  .code yX9_worked cX9_worked 7 (some .int),
  .methodLink RX9 174 yX9_thousandths,
  .instanceMethod yX9_thousandths,
  .selects RX9 yX9_thousandths yX9_thousandths,
  .methodLink RX9 168 yX9_hasText,
  .instanceMethod yX9_hasText,
  .selects RX9 yX9_hasText yX9_hasText,
  .methodLink RX9 92 yX9_held,
  .static yX9_held,
  .methodLink RX9 177 yX9_worked,
  .instanceMethod yX9_worked,
  .selects RX9 yX9_worked yX9_worked,
  .code yX9_rings cX9_rings 3 (some .int),
  .methodLink RX9 180 yX9_rings,
  .instanceMethod yX9_rings,
  .selects RX9 yX9_rings yX9_rings,
  .code yX9_tone cX9_tone 4 (some .int),
  .methodLink RX9 70 yX9_tone,
  .instanceMethod yX9_tone,
  .selects RX9 yX9_tone yX9_tone,
  .code yX9_told1 cX9_told1 3 (some .int),
  .methodLink RX9 77 yX9_isThing,
  .instanceMethod yX9_isThing,
  .selects RX9 yX9_isThing yX9_isThing,
  .methodLink RX9 81 yX9_told1,
  .instanceMethod yX9_told1,
  .selects RX9 yX9_told1 yX9_told1,
  .code yX9_thingIs cX9_thingIs 3 (some .int),
  .code yX9_isUnder cX9_isUnder 2 (some .boolean),
  .methodLink RX9 84 yX9_isUnder,
  .static yX9_isUnder,
  .code yX9_as cX9_as 3 (some .int),
  .code yX9_set cX9_set 5 (some .int),
  .constantLong RX9 88 (8),
  .constantLong RX9 90 (9999999),
  .code yX9_moves cX9_moves 11 none,
  .methodLink RX9 96 yX9_moves,
  .instanceMethod yX9_moves,
  .selects RX9 yX9_moves yX9_moves,
  .code yX9_melt cX9_melt 3 (some .int),
  .code yX9_crucible cX9_crucible 2 (some .int),
  .code yX9_cast cX9_cast 16 (some .int),
  .constant RX9 102 (1103515245),
  .code yX9_draw cX9_draw 1 (some .int),
  .methodLink RX9 103 yX9_draw,
  .instanceMethod yX9_draw,
  .selects RX9 yX9_draw yX9_draw,
  .code yX9_year cX9_year 3 none,
  .methodLink RX9 107 yX9_year,
  .instanceMethod yX9_year,
  .selects RX9 yX9_year yX9_year,
  .code yX9_go cX9_go 3 none,
  .code yX9_allGrams cX9_allGrams 3 (some .int),
  .methodLink RX9 110 yX9_go,
  .instanceMethod yX9_go,
  .selects RX9 yX9_go yX9_go,
  .methodLink RX9 114 yX9_allGrams,
  .instanceMethod yX9_allGrams,
  .selects RX9 yX9_allGrams yX9_allGrams,
  .code yX9_years cX9_years 2 (some .int),
  .methodLink RX9 117 yX9_carry,
  .static yX9_carry,
  .code yX9_then cX9_then 5 (some .int),
  .code yX9_seed cX9_seed 3 (some .int),
  .constantLong RX9 121 (255),
  .code yX9_feed cX9_feed 5 (some .int),
  .fieldLink RX9 123 "OldBronzeModel" "at" "I",
  .code yX9_look cX9_look 1 (some .int),
  .fieldLink RX9 127 "OldBronzeModel" "use" "I",
  .code yX9_isName cX9_isName 2 (some .boolean),
  .fieldLink RX9 130 "OldBronzeModel" "steps" "I",
  .code yX9_lays cX9_lays 3 none,
  .fieldLink RX9 156 "OldBronzeModel" "open" "I",
  .code yX9_opens cX9_opens 1 (some .boolean),
  .methodLink RX9 144 yX9_compared,
  .instanceMethod yX9_compared,
  .selects RX9 yX9_compared yX9_compared,
  .methodLink RX9 137 yX9_look,
  .instanceMethod yX9_look,
  .selects RX9 yX9_look yX9_look,
  .methodLink RX9 140 yX9_lays,
  .instanceMethod yX9_lays,
  .selects RX9 yX9_lays yX9_lays,
  .code yX9_compared cX9_compared 2 (some .boolean),
  .methodLink RX9 147 yX9_sum,
  .instanceMethod yX9_sum,
  .selects RX9 yX9_sum yX9_sum,
  .code yX9_one cX9_one 4 (some .boolean),
  .methodLink RX9 159 yX9_isName,
  .instanceMethod yX9_isName,
  .selects RX9 yX9_isName yX9_isName,
  .methodLink RX9 162 yX9_opens,
  .instanceMethod yX9_opens,
  .selects RX9 yX9_opens yX9_opens,
  .methodLink RX9 153 yX9_one,
  .instanceMethod yX9_one,
  .selects RX9 yX9_one yX9_one,
  .methodLink RX9 165 yX9_whole,
  .instanceMethod yX9_whole,
  .selects RX9 yX9_whole yX9_whole,
  .code yX9_product cX9_product 2 (some .boolean),
  .code yX9_sum cX9_sum 2 (some .boolean),
  .methodLink RX9 150 yX9_product,
  .instanceMethod yX9_product,
  .selects RX9 yX9_product yX9_product,
  .code yX9_whole cX9_whole 1 (some .boolean),
  .methodLink RX9 133 yX9_both,
  .instanceMethod yX9_both,
  .selects RX9 yX9_both yX9_both,
  .code yX9_both cX9_both 1 (some .boolean),
  .code yX9_text cX9_text 5 (some .int),
  .code yX9_untell cX9_untell 3 (some .int),
  .code yX9_isClaim cX9_isClaim 2 (some .boolean),
  .code yX9_of cX9_of 3 (some .int),
  .methodLink RX9 183 yX9_of,
  .instanceMethod yX9_of,
  .selects RX9 yX9_of yX9_of,
  .code yX9_manyOn cX9_manyOn 4 (some .int),
  .methodLink RX9 186 yX9_manyOn,
  .instanceMethod yX9_manyOn,
  .selects RX9 yX9_manyOn yX9_manyOn,
  .code yX9_counts cX9_counts 3 (some .int),
  .constant RX9 189 (99999),
  .code yX9_claim cX9_claim 3 (some .int),
  .methodLink RX9 190 yX9_isClaim,
  .instanceMethod yX9_isClaim,
  .selects RX9 yX9_isClaim yX9_isClaim,
  .methodLink RX9 193 yX9_counts,
  .instanceMethod yX9_counts,
  .selects RX9 yX9_counts yX9_counts,
  .code yX9_claimIs cX9_claimIs 3 (some .int),
  .code yX9_countsBelow cX9_countsBelow 5 (some .int),
  .methodLink RX9 196 yX9_countsBelow,
  .instanceMethod yX9_countsBelow,
  .selects RX9 yX9_countsBelow yX9_countsBelow,
  .code yX9_shareOf cX9_shareOf 7 (some .int),
  .code yX9_isLaw cX9_isLaw 1 (some .boolean),
  .methodLink RX9 199 yX9_isLaw,
  .static yX9_isLaw,
  .methodLink RX9 202 yX9_shareOf,
  .instanceMethod yX9_shareOf,
  .selects RX9 yX9_shareOf yX9_shareOf,
  .code yX9_share cX9_share 3 (some .int),
  .code yX9_left cX9_left 5 (some .int),
  .code yX9_isPaper cX9_isPaper 4 (some .boolean),
  .code yX9_addPaper cX9_addPaper 5 none,
  .methodLink RX9 205 yX9_isPaper,
  .instanceMethod yX9_isPaper,
  .selects RX9 yX9_isPaper yX9_isPaper,
  .methodLink RX9 208 yX9_addPaper,
  .instanceMethod yX9_addPaper,
  .selects RX9 yX9_addPaper yX9_addPaper,
  .code yX9_paper cX9_paper 4 (some .int),
  .code yX9_weigh cX9_weigh 5 (some .int),
  .code yX9_forget cX9_forget 3 (some .int),
  .code yX9_allPapers cX9_allPapers 1 (some .int),
  .methodLink RX9 211 yX9_allPapers,
  .instanceMethod yX9_allPapers,
  .selects RX9 yX9_allPapers yX9_allPapers,
  .code yX9_isHistory cX9_isHistory 2 (some .boolean),
  .code yX9_goesBy cX9_goesBy 3 none,
  .methodLink RX9 214 yX9_goesBy,
  .instanceMethod yX9_goesBy,
  .selects RX9 yX9_goesBy yX9_goesBy,
  .code yX9_after cX9_after 5 (some .int),
  .methodLink RX9 217 yX9_isHistory,
  .instanceMethod yX9_isHistory,
  .selects RX9 yX9_isHistory yX9_isHistory,
  .methodLink RX9 220 yX9_after,
  .instanceMethod yX9_after,
  .selects RX9 yX9_after yX9_after,
  .code yX9_by cX9_by 4 (some .int),
  .code yX9_doesFit cX9_doesFit 6 (some .boolean),
  .fieldLink RX9 223 "OldBronzeModel" "many" "I",
  .methodLink RX9 226 yX9_doesFit,
  .instanceMethod yX9_doesFit,
  .selects RX9 yX9_doesFit yX9_doesFit,
  .code yX9_findFits cX9_findFits 2 none,
  .code yX9_bitsOf cX9_bitsOf 3 (some .int),
  .methodLink RX9 229 yX9_findFits,
  .instanceMethod yX9_findFits,
  .selects RX9 yX9_findFits yX9_findFits,
  .methodLink RX9 232 yX9_bitsOf,
  .static yX9_bitsOf,
  .code yX9_fits cX9_fits 6 (some .int),
  .code yX9_span cX9_span 7 (some .int),
  .code yX9_heap cX9_heap 6 (some .int),
  .methodLink RX9 235 yX9_heap,
  .instanceMethod yX9_heap,
  .selects RX9 yX9_heap yX9_heap,
  .code yX9_next cX9_next 3 (some .int),
  .code yX9_together cX9_together 8 (some .int),
  .code yX9_haveGrams cX9_haveGrams 4 (some .boolean),
  .methodLink RX9 238 yX9_haveGrams,
  .instanceMethod yX9_haveGrams,
  .selects RX9 yX9_haveGrams yX9_haveGrams,
  .methodLink RX9 241 yX9_together,
  .instanceMethod yX9_together,
  .selects RX9 yX9_together yX9_together,
  .code yX9_most cX9_most 7 (some .int),
  .fieldLink RX9 244 "OldBronzeModel" "traced" "I",
  .code yX9_begins cX9_begins 2 none,
  .code yX9_above cX9_above 1 (some .int),
  .fieldLink RX9 247 "OldBronzeModel" "speaks" "I",
  .code yX9_kindNow cX9_kindNow 1 (some .int),
  .code yX9_mNow cX9_mNow 1 (some .int),
  .methodLink RX9 250 yX9_begins,
  .instanceMethod yX9_begins,
  .selects RX9 yX9_begins yX9_begins,
  .methodLink RX9 253 yX9_above,
  .static yX9_above,
  .methodLink RX9 256 yX9_ringsBy,
  .instanceMethod yX9_ringsBy,
  .selects RX9 yX9_ringsBy yX9_ringsBy,
  .code yX9_ringsBy cX9_ringsBy 3 (some .int),
  .methodLink RX9 259 yX9_kindNow,
  .instanceMethod yX9_kindNow,
  .selects RX9 yX9_kindNow yX9_kindNow,
  .methodLink RX9 262 yX9_weighsBy,
  .instanceMethod yX9_weighsBy,
  .selects RX9 yX9_weighsBy yX9_weighsBy,
  .methodLink RX9 265 yX9_mNow,
  .instanceMethod yX9_mNow,
  .selects RX9 yX9_mNow yX9_mNow,
  .code yX9_weighsBy cX9_weighsBy 3 (some .int),
  .methodLink RX9 268 yX9_meltsBy,
  .instanceMethod yX9_meltsBy,
  .selects RX9 yX9_meltsBy yX9_meltsBy,
  .code yX9_meltsBy cX9_meltsBy 3 (some .int),
  .fieldLink RX9 271 "OldBronzeModel" "isParted" "Z",
  .methodLink RX9 275 yX9_partsBy,
  .instanceMethod yX9_partsBy,
  .selects RX9 yX9_partsBy yX9_partsBy,
  .code yX9_partsBy cX9_partsBy 5 (some .int),
  .code yX9_voice cX9_voice 6 (some .int),
  .code yX9_body cX9_body 2 (some .int),
  .code yX9_isSheet cX9_isSheet 1 (some .boolean),
  .methodLink RX9 278 yX9_isSheet,
  .static yX9_isSheet,
  .code yX9_sheet cX9_sheet 5 (some .int),
  .code yX9_put cX9_put 5 (some .int),
  .code yX9_move cX9_move 7 (some .int),
  .code yX9_lacks cX9_lacks 2 (some .int),
  .methodLink RX9 281 yX9_lacks,
  .instanceMethod yX9_lacks,
  .selects RX9 yX9_lacks yX9_lacks,
  .code yX9_papers cX9_papers 5 (some .int),
  .code yX9_judge cX9_judge 5 (some .int),
  .fieldLink RX9 284 "OldBronzeModel" "images" "I",
  .code yX9_image cX9_image 1 (some .int),
  .code yX9_restore cX9_restore 1 (some .int),
  .code yX9_tell cX9_tell 2 (some .int),
  .code yX9_check cX9_check 3 (some .int),
  .code yX9_count cX9_count 2 (some .int),
  .code yX9_told cX9_told 2 (some .int)]
def tR : List Cond := tRa ++ wsX90
theorem tR_good : ∀ w ∈ tR, goodWord w = true := List.all_eq_true.mp (by decide +kernel)
theorem tR_f : ∀ w ∈ u_ws RX9 TX9 23, w ∈ tR := fun _ h => List.mem_append_right _ h
theorem wi_0 : Cond.methodLink RX9 1 objectInit ∈ tR := List.mem_append_left _ (List.mem_of_getElem? (i := 0) rfl)
theorem wi_1 : Cond.instanceMethod objectInit ∈ tR := List.mem_append_left _ (List.mem_of_getElem? (i := 1) rfl)
theorem wi_2 : Cond.code objectInit ⟨#[0xb1]⟩ 1 none ∈ tR := List.mem_append_left _ (List.mem_of_getElem? (i := 2) rfl)
theorem wi_3 : Cond.arrayClass .int ∈ tR := List.mem_append_left _ (List.mem_of_getElem? (i := 3) rfl)
theorem wi_4 : Cond.fieldLink RX9 7 "OldBronzeModel" "s" "[I" ∈ tR := List.mem_append_left _ (List.mem_of_getElem? (i := 4) rfl)
theorem wi_5 : Cond.fieldLink RX9 13 "OldBronzeModel" "kept" "[I" ∈ tR := List.mem_append_left _ (List.mem_of_getElem? (i := 5) rfl)
theorem wi_6 : Cond.fieldLink RX9 16 "OldBronzeModel" "put" "[I" ∈ tR := List.mem_append_left _ (List.mem_of_getElem? (i := 6) rfl)
theorem wi_7 : Cond.fieldLink RX9 19 "OldBronzeModel" "errors" "[I" ∈ tR := List.mem_append_left _ (List.mem_of_getElem? (i := 7) rfl)
theorem wi_8 : Cond.fieldLink RX9 22 "OldBronzeModel" "step" "[I" ∈ tR := List.mem_append_left _ (List.mem_of_getElem? (i := 8) rfl)
theorem wi_9 : Cond.fieldLink RX9 25 "OldBronzeModel" "named" "[I" ∈ tR := List.mem_append_left _ (List.mem_of_getElem? (i := 9) rfl)
theorem wi_10 : Cond.fieldLink RX9 28 "OldBronzeModel" "pile" "[I" ∈ tR := List.mem_append_left _ (List.mem_of_getElem? (i := 10) rfl)
theorem wi_11 : Cond.fieldLink RX9 31 "OldBronzeModel" "fit" "[I" ∈ tR := List.mem_append_left _ (List.mem_of_getElem? (i := 11) rfl)
theorem wi_12 : Cond.fieldLink RX9 34 "OldBronzeModel" "seen" "[I" ∈ tR := List.mem_append_left _ (List.mem_of_getElem? (i := 12) rfl)
theorem wi_13 : Cond.fieldLink RX9 37 "OldBronzeModel" "trace" "[I" ∈ tR := List.mem_append_left _ (List.mem_of_getElem? (i := 13) rfl)
theorem wi_14 : Cond.fieldLink RX9 40 "OldBronzeModel" "bits" "[I" ∈ tR := List.mem_append_left _ (List.mem_of_getElem? (i := 14) rfl)
theorem wi_15 : Cond.fieldLink RX9 43 "OldBronzeModel" "sizes" "[I" ∈ tR := List.mem_append_left _ (List.mem_of_getElem? (i := 15) rfl)
theorem wi_16 : Cond.fieldLink RX9 46 "OldBronzeModel" "number" "[I" ∈ tR := List.mem_append_left _ (List.mem_of_getElem? (i := 16) rfl)
theorem wi_17 : Cond.fieldLink RX9 49 "OldBronzeModel" "aside" "[I" ∈ tR := List.mem_append_left _ (List.mem_of_getElem? (i := 17) rfl)
theorem wi_18 : Cond.code yX9_init cX9_init 1 none ∈ tR := List.mem_append_left _ (List.mem_of_getElem? (i := 18) rfl)
theorem wi_19 : Cond.constant RX9 52 (-1000000000) ∈ tR := List.mem_append_left _ (List.mem_of_getElem? (i := 19) rfl)
theorem wi_20 : Cond.code yX9_error cX9_error 2 (some .int) ∈ tR := List.mem_append_left _ (List.mem_of_getElem? (i := 20) rfl)
theorem wi_21 : Cond.code yX9_in cX9_in 3 (some .boolean) ∈ tR := List.mem_append_left _ (List.mem_of_getElem? (i := 21) rfl)
theorem wi_22 : Cond.code yX9_held cX9_held 3 (some .int) ∈ tR := List.mem_append_left _ (List.mem_of_getElem? (i := 22) rfl)
theorem wi_23 : Cond.code yX9_carry cX9_carry 3 none ∈ tR := List.mem_append_left _ (List.mem_of_getElem? (i := 23) rfl)
theorem wi_24 : Cond.methodLink RX9 53 yX9_in ∈ tR := List.mem_append_left _ (List.mem_of_getElem? (i := 24) rfl)
theorem wi_25 : Cond.static yX9_in ∈ tR := List.mem_append_left _ (List.mem_of_getElem? (i := 25) rfl)
theorem wi_26 : Cond.initialized RX9 ∈ tR := List.mem_append_left _ (List.mem_of_getElem? (i := 26) rfl)
theorem wi_27 : Cond.code yX9_isThing cX9_isThing 2 (some .boolean) ∈ tR := List.mem_append_left _ (List.mem_of_getElem? (i := 27) rfl)
theorem wi_28 : Cond.code yX9_its cX9_its 3 (some .int) ∈ tR := List.mem_append_left _ (List.mem_of_getElem? (i := 28) rfl)
theorem wi_29 : Cond.code yX9_lays1 cX9_lays1 4 none ∈ tR := List.mem_append_left _ (List.mem_of_getElem? (i := 29) rfl)
theorem wi_30 : Cond.methodLink RX9 57 yX9_lays1 ∈ tR := List.mem_append_left _ (List.mem_of_getElem? (i := 30) rfl)
theorem wi_31 : Cond.instanceMethod yX9_lays1 ∈ tR := List.mem_append_left _ (List.mem_of_getElem? (i := 31) rfl)
theorem wi_32 : Cond.selects RX9 yX9_lays1 yX9_lays1 ∈ tR := List.mem_append_left _ (List.mem_of_getElem? (i := 32) rfl)
theorem wi_33 : Cond.code yX9_addThing cX9_addThing 4 (some .int) ∈ tR := List.mem_append_left _ (List.mem_of_getElem? (i := 33) rfl)
theorem wi_34 : Cond.constant RX9 61 (9999999) ∈ tR := List.mem_append_left _ (List.mem_of_getElem? (i := 34) rfl)
theorem wi_35 : Cond.constant RX9 69 (1000000) ∈ tR := List.mem_append_left _ (List.mem_of_getElem? (i := 35) rfl)
theorem wi_36 : Cond.methodLink RX9 62 yX9_error ∈ tR := List.mem_append_left _ (List.mem_of_getElem? (i := 36) rfl)
theorem wi_37 : Cond.instanceMethod yX9_error ∈ tR := List.mem_append_left _ (List.mem_of_getElem? (i := 37) rfl)
theorem wi_38 : Cond.selects RX9 yX9_error yX9_error ∈ tR := List.mem_append_left _ (List.mem_of_getElem? (i := 38) rfl)
theorem wi_39 : Cond.methodLink RX9 66 yX9_addThing ∈ tR := List.mem_append_left _ (List.mem_of_getElem? (i := 39) rfl)
theorem wi_40 : Cond.instanceMethod yX9_addThing ∈ tR := List.mem_append_left _ (List.mem_of_getElem? (i := 40) rfl)
theorem wi_41 : Cond.selects RX9 yX9_addThing yX9_addThing ∈ tR := List.mem_append_left _ (List.mem_of_getElem? (i := 41) rfl)
theorem wi_42 : Cond.code yX9_thing cX9_thing 4 (some .int) ∈ tR := List.mem_append_left _ (List.mem_of_getElem? (i := 42) rfl)
theorem wi_43 : Cond.code yX9_partOf cX9_partOf 3 (some .int) ∈ tR := List.mem_append_left _ (List.mem_of_getElem? (i := 43) rfl)
theorem wi_44 : Cond.methodLink RX9 73 yX9_its ∈ tR := List.mem_append_left _ (List.mem_of_getElem? (i := 44) rfl)
theorem wi_45 : Cond.instanceMethod yX9_its ∈ tR := List.mem_append_left _ (List.mem_of_getElem? (i := 45) rfl)
theorem wi_46 : Cond.selects RX9 yX9_its yX9_its ∈ tR := List.mem_append_left _ (List.mem_of_getElem? (i := 46) rfl)
theorem wi_47 : Cond.methodLink RX9 99 yX9_partOf ∈ tR := List.mem_append_left _ (List.mem_of_getElem? (i := 47) rfl)
theorem wi_48 : Cond.static yX9_partOf ∈ tR := List.mem_append_left _ (List.mem_of_getElem? (i := 48) rfl)
theorem wi_49 : Cond.code yX9_thousandths cX9_thousandths 2 (some .int) ∈ tR := List.mem_append_left _ (List.mem_of_getElem? (i := 49) rfl)
theorem wi_50 : Cond.code yX9_hasText cX9_hasText 2 (some .boolean) ∈ tR := List.mem_append_left _ (List.mem_of_getElem? (i := 50) rfl)
theorem wi_51 : Cond.code yX9_joined cX9_joined 3 (some .int) ∈ tR := List.mem_append_left _ (List.mem_of_getElem? (i := 51) rfl)
theorem wi_52 : Cond.methodLink RX9 171 yX9_joined ∈ tR := List.mem_append_left _ (List.mem_of_getElem? (i := 52) rfl)
theorem wi_53 : Cond.static yX9_joined ∈ tR := List.mem_append_left _ (List.mem_of_getElem? (i := 53) rfl)
theorem wi_54 : Cond.code yX9_worked cX9_worked 7 (some .int) ∈ tR := List.mem_append_left _ (List.mem_of_getElem? (i := 54) rfl)
theorem wi_55 : Cond.methodLink RX9 174 yX9_thousandths ∈ tR := List.mem_append_left _ (List.mem_of_getElem? (i := 55) rfl)
theorem wi_56 : Cond.instanceMethod yX9_thousandths ∈ tR := List.mem_append_left _ (List.mem_of_getElem? (i := 56) rfl)
theorem wi_57 : Cond.selects RX9 yX9_thousandths yX9_thousandths ∈ tR := List.mem_append_left _ (List.mem_of_getElem? (i := 57) rfl)
theorem wi_58 : Cond.methodLink RX9 168 yX9_hasText ∈ tR := List.mem_append_left _ (List.mem_of_getElem? (i := 58) rfl)
theorem wi_59 : Cond.instanceMethod yX9_hasText ∈ tR := List.mem_append_left _ (List.mem_of_getElem? (i := 59) rfl)
theorem wi_60 : Cond.selects RX9 yX9_hasText yX9_hasText ∈ tR := List.mem_append_left _ (List.mem_of_getElem? (i := 60) rfl)
theorem wi_61 : Cond.methodLink RX9 92 yX9_held ∈ tR := List.mem_append_left _ (List.mem_of_getElem? (i := 61) rfl)
theorem wi_62 : Cond.static yX9_held ∈ tR := List.mem_append_left _ (List.mem_of_getElem? (i := 62) rfl)
theorem wi_63 : Cond.methodLink RX9 177 yX9_worked ∈ tR := List.mem_append_left _ (List.mem_of_getElem? (i := 63) rfl)
theorem wi_64 : Cond.instanceMethod yX9_worked ∈ tR := List.mem_append_left _ (List.mem_of_getElem? (i := 64) rfl)
theorem wi_65 : Cond.selects RX9 yX9_worked yX9_worked ∈ tR := List.mem_append_left _ (List.mem_of_getElem? (i := 65) rfl)
theorem wi_66 : Cond.code yX9_rings cX9_rings 3 (some .int) ∈ tR := List.mem_append_left _ (List.mem_of_getElem? (i := 66) rfl)
theorem wi_67 : Cond.methodLink RX9 180 yX9_rings ∈ tR := List.mem_append_left _ (List.mem_of_getElem? (i := 67) rfl)
theorem wi_68 : Cond.instanceMethod yX9_rings ∈ tR := List.mem_append_left _ (List.mem_of_getElem? (i := 68) rfl)
theorem wi_69 : Cond.selects RX9 yX9_rings yX9_rings ∈ tR := List.mem_append_left _ (List.mem_of_getElem? (i := 69) rfl)
theorem wi_70 : Cond.code yX9_tone cX9_tone 4 (some .int) ∈ tR := List.mem_append_left _ (List.mem_of_getElem? (i := 70) rfl)
theorem wi_71 : Cond.methodLink RX9 70 yX9_tone ∈ tR := List.mem_append_left _ (List.mem_of_getElem? (i := 71) rfl)
theorem wi_72 : Cond.instanceMethod yX9_tone ∈ tR := List.mem_append_left _ (List.mem_of_getElem? (i := 72) rfl)
theorem wi_73 : Cond.selects RX9 yX9_tone yX9_tone ∈ tR := List.mem_append_left _ (List.mem_of_getElem? (i := 73) rfl)
theorem wi_74 : Cond.code yX9_told1 cX9_told1 3 (some .int) ∈ tR := List.mem_append_left _ (List.mem_of_getElem? (i := 74) rfl)
theorem wi_75 : Cond.methodLink RX9 77 yX9_isThing ∈ tR := List.mem_append_left _ (List.mem_of_getElem? (i := 75) rfl)
theorem wi_76 : Cond.instanceMethod yX9_isThing ∈ tR := List.mem_append_left _ (List.mem_of_getElem? (i := 76) rfl)
theorem wi_77 : Cond.selects RX9 yX9_isThing yX9_isThing ∈ tR := List.mem_append_left _ (List.mem_of_getElem? (i := 77) rfl)
theorem wi_78 : Cond.methodLink RX9 81 yX9_told1 ∈ tR := List.mem_append_left _ (List.mem_of_getElem? (i := 78) rfl)
theorem wi_79 : Cond.instanceMethod yX9_told1 ∈ tR := List.mem_append_left _ (List.mem_of_getElem? (i := 79) rfl)
theorem wi_80 : Cond.selects RX9 yX9_told1 yX9_told1 ∈ tR := List.mem_append_left _ (List.mem_of_getElem? (i := 80) rfl)
theorem wi_81 : Cond.code yX9_thingIs cX9_thingIs 3 (some .int) ∈ tR := List.mem_append_left _ (List.mem_of_getElem? (i := 81) rfl)
theorem wi_82 : Cond.code yX9_isUnder cX9_isUnder 2 (some .boolean) ∈ tR := List.mem_append_left _ (List.mem_of_getElem? (i := 82) rfl)
theorem wi_83 : Cond.methodLink RX9 84 yX9_isUnder ∈ tR := List.mem_append_left _ (List.mem_of_getElem? (i := 83) rfl)
theorem wi_84 : Cond.static yX9_isUnder ∈ tR := List.mem_append_left _ (List.mem_of_getElem? (i := 84) rfl)
theorem wi_85 : Cond.code yX9_as cX9_as 3 (some .int) ∈ tR := List.mem_append_left _ (List.mem_of_getElem? (i := 85) rfl)
theorem wi_86 : Cond.code yX9_set cX9_set 5 (some .int) ∈ tR := List.mem_append_left _ (List.mem_of_getElem? (i := 86) rfl)
theorem wi_87 : Cond.constantLong RX9 88 (8) ∈ tR := List.mem_append_left _ (List.mem_of_getElem? (i := 87) rfl)
theorem wi_88 : Cond.constantLong RX9 90 (9999999) ∈ tR := List.mem_append_left _ (List.mem_of_getElem? (i := 88) rfl)
theorem wi_89 : Cond.code yX9_moves cX9_moves 11 none ∈ tR := List.mem_append_left _ (List.mem_of_getElem? (i := 89) rfl)
theorem wi_90 : Cond.methodLink RX9 96 yX9_moves ∈ tR := List.mem_append_left _ (List.mem_of_getElem? (i := 90) rfl)
theorem wi_91 : Cond.instanceMethod yX9_moves ∈ tR := List.mem_append_left _ (List.mem_of_getElem? (i := 91) rfl)
theorem wi_92 : Cond.selects RX9 yX9_moves yX9_moves ∈ tR := List.mem_append_left _ (List.mem_of_getElem? (i := 92) rfl)
theorem wi_93 : Cond.code yX9_melt cX9_melt 3 (some .int) ∈ tR := List.mem_append_left _ (List.mem_of_getElem? (i := 93) rfl)
theorem wi_94 : Cond.code yX9_crucible cX9_crucible 2 (some .int) ∈ tR := List.mem_append_left _ (List.mem_of_getElem? (i := 94) rfl)
theorem wi_95 : Cond.code yX9_cast cX9_cast 16 (some .int) ∈ tR := List.mem_append_left _ (List.mem_of_getElem? (i := 95) rfl)
theorem wi_96 : Cond.constant RX9 102 (1103515245) ∈ tR := List.mem_append_left _ (List.mem_of_getElem? (i := 96) rfl)
theorem wi_97 : Cond.code yX9_draw cX9_draw 1 (some .int) ∈ tR := List.mem_append_left _ (List.mem_of_getElem? (i := 97) rfl)
theorem wi_98 : Cond.methodLink RX9 103 yX9_draw ∈ tR := List.mem_append_left _ (List.mem_of_getElem? (i := 98) rfl)
theorem wi_99 : Cond.instanceMethod yX9_draw ∈ tR := List.mem_append_left _ (List.mem_of_getElem? (i := 99) rfl)
theorem wi_100 : Cond.selects RX9 yX9_draw yX9_draw ∈ tR := List.mem_append_left _ (List.mem_of_getElem? (i := 100) rfl)
theorem wi_101 : Cond.code yX9_year cX9_year 3 none ∈ tR := List.mem_append_left _ (List.mem_of_getElem? (i := 101) rfl)
theorem wi_102 : Cond.methodLink RX9 107 yX9_year ∈ tR := List.mem_append_left _ (List.mem_of_getElem? (i := 102) rfl)
theorem wi_103 : Cond.instanceMethod yX9_year ∈ tR := List.mem_append_left _ (List.mem_of_getElem? (i := 103) rfl)
theorem wi_104 : Cond.selects RX9 yX9_year yX9_year ∈ tR := List.mem_append_left _ (List.mem_of_getElem? (i := 104) rfl)
theorem wi_105 : Cond.code yX9_go cX9_go 3 none ∈ tR := List.mem_append_left _ (List.mem_of_getElem? (i := 105) rfl)
theorem wi_106 : Cond.code yX9_allGrams cX9_allGrams 3 (some .int) ∈ tR := List.mem_append_left _ (List.mem_of_getElem? (i := 106) rfl)
theorem wi_107 : Cond.methodLink RX9 110 yX9_go ∈ tR := List.mem_append_left _ (List.mem_of_getElem? (i := 107) rfl)
theorem wi_108 : Cond.instanceMethod yX9_go ∈ tR := List.mem_append_left _ (List.mem_of_getElem? (i := 108) rfl)
theorem wi_109 : Cond.selects RX9 yX9_go yX9_go ∈ tR := List.mem_append_left _ (List.mem_of_getElem? (i := 109) rfl)
theorem wi_110 : Cond.methodLink RX9 114 yX9_allGrams ∈ tR := List.mem_append_left _ (List.mem_of_getElem? (i := 110) rfl)
theorem wi_111 : Cond.instanceMethod yX9_allGrams ∈ tR := List.mem_append_left _ (List.mem_of_getElem? (i := 111) rfl)
theorem wi_112 : Cond.selects RX9 yX9_allGrams yX9_allGrams ∈ tR := List.mem_append_left _ (List.mem_of_getElem? (i := 112) rfl)
theorem wi_113 : Cond.code yX9_years cX9_years 2 (some .int) ∈ tR := List.mem_append_left _ (List.mem_of_getElem? (i := 113) rfl)
theorem wi_114 : Cond.methodLink RX9 117 yX9_carry ∈ tR := List.mem_append_left _ (List.mem_of_getElem? (i := 114) rfl)
theorem wi_115 : Cond.static yX9_carry ∈ tR := List.mem_append_left _ (List.mem_of_getElem? (i := 115) rfl)
theorem wi_116 : Cond.code yX9_then cX9_then 5 (some .int) ∈ tR := List.mem_append_left _ (List.mem_of_getElem? (i := 116) rfl)
theorem wi_117 : Cond.code yX9_seed cX9_seed 3 (some .int) ∈ tR := List.mem_append_left _ (List.mem_of_getElem? (i := 117) rfl)
theorem wi_118 : Cond.constantLong RX9 121 (255) ∈ tR := List.mem_append_left _ (List.mem_of_getElem? (i := 118) rfl)
theorem wi_119 : Cond.code yX9_feed cX9_feed 5 (some .int) ∈ tR := List.mem_append_left _ (List.mem_of_getElem? (i := 119) rfl)
theorem wi_120 : Cond.fieldLink RX9 123 "OldBronzeModel" "at" "I" ∈ tR := List.mem_append_left _ (List.mem_of_getElem? (i := 120) rfl)
theorem wi_121 : Cond.code yX9_look cX9_look 1 (some .int) ∈ tR := List.mem_append_left _ (List.mem_of_getElem? (i := 121) rfl)
theorem wi_122 : Cond.fieldLink RX9 127 "OldBronzeModel" "use" "I" ∈ tR := List.mem_append_left _ (List.mem_of_getElem? (i := 122) rfl)
theorem wi_123 : Cond.code yX9_isName cX9_isName 2 (some .boolean) ∈ tR := List.mem_append_left _ (List.mem_of_getElem? (i := 123) rfl)
theorem wi_124 : Cond.fieldLink RX9 130 "OldBronzeModel" "steps" "I" ∈ tR := List.mem_append_left _ (List.mem_of_getElem? (i := 124) rfl)
theorem wi_125 : Cond.code yX9_lays cX9_lays 3 none ∈ tR := List.mem_append_left _ (List.mem_of_getElem? (i := 125) rfl)
theorem wi_126 : Cond.fieldLink RX9 156 "OldBronzeModel" "open" "I" ∈ tR := List.mem_append_left _ (List.mem_of_getElem? (i := 126) rfl)
theorem wi_127 : Cond.code yX9_opens cX9_opens 1 (some .boolean) ∈ tR := List.mem_append_left _ (List.mem_of_getElem? (i := 127) rfl)
theorem wi_128 : Cond.methodLink RX9 144 yX9_compared ∈ tR := List.mem_append_left _ (List.mem_of_getElem? (i := 128) rfl)
theorem wi_129 : Cond.instanceMethod yX9_compared ∈ tR := List.mem_append_left _ (List.mem_of_getElem? (i := 129) rfl)
theorem wi_130 : Cond.selects RX9 yX9_compared yX9_compared ∈ tR := List.mem_append_left _ (List.mem_of_getElem? (i := 130) rfl)
theorem wi_131 : Cond.methodLink RX9 137 yX9_look ∈ tR := List.mem_append_left _ (List.mem_of_getElem? (i := 131) rfl)
theorem wi_132 : Cond.instanceMethod yX9_look ∈ tR := List.mem_append_left _ (List.mem_of_getElem? (i := 132) rfl)
theorem wi_133 : Cond.selects RX9 yX9_look yX9_look ∈ tR := List.mem_append_left _ (List.mem_of_getElem? (i := 133) rfl)
theorem wi_134 : Cond.methodLink RX9 140 yX9_lays ∈ tR := List.mem_append_left _ (List.mem_of_getElem? (i := 134) rfl)
theorem wi_135 : Cond.instanceMethod yX9_lays ∈ tR := List.mem_append_left _ (List.mem_of_getElem? (i := 135) rfl)
theorem wi_136 : Cond.selects RX9 yX9_lays yX9_lays ∈ tR := List.mem_append_left _ (List.mem_of_getElem? (i := 136) rfl)
theorem wi_137 : Cond.code yX9_compared cX9_compared 2 (some .boolean) ∈ tR := List.mem_append_left _ (List.mem_of_getElem? (i := 137) rfl)
theorem wi_138 : Cond.methodLink RX9 147 yX9_sum ∈ tR := List.mem_append_left _ (List.mem_of_getElem? (i := 138) rfl)
theorem wi_139 : Cond.instanceMethod yX9_sum ∈ tR := List.mem_append_left _ (List.mem_of_getElem? (i := 139) rfl)
theorem wi_140 : Cond.selects RX9 yX9_sum yX9_sum ∈ tR := List.mem_append_left _ (List.mem_of_getElem? (i := 140) rfl)
theorem wi_141 : Cond.code yX9_one cX9_one 4 (some .boolean) ∈ tR := List.mem_append_left _ (List.mem_of_getElem? (i := 141) rfl)
theorem wi_142 : Cond.methodLink RX9 159 yX9_isName ∈ tR := List.mem_append_left _ (List.mem_of_getElem? (i := 142) rfl)
theorem wi_143 : Cond.instanceMethod yX9_isName ∈ tR := List.mem_append_left _ (List.mem_of_getElem? (i := 143) rfl)
theorem wi_144 : Cond.selects RX9 yX9_isName yX9_isName ∈ tR := List.mem_append_left _ (List.mem_of_getElem? (i := 144) rfl)
theorem wi_145 : Cond.methodLink RX9 162 yX9_opens ∈ tR := List.mem_append_left _ (List.mem_of_getElem? (i := 145) rfl)
theorem wi_146 : Cond.instanceMethod yX9_opens ∈ tR := List.mem_append_left _ (List.mem_of_getElem? (i := 146) rfl)
theorem wi_147 : Cond.selects RX9 yX9_opens yX9_opens ∈ tR := List.mem_append_left _ (List.mem_of_getElem? (i := 147) rfl)
theorem wi_148 : Cond.methodLink RX9 153 yX9_one ∈ tR := List.mem_append_left _ (List.mem_of_getElem? (i := 148) rfl)
theorem wi_149 : Cond.instanceMethod yX9_one ∈ tR := List.mem_append_left _ (List.mem_of_getElem? (i := 149) rfl)
theorem wi_150 : Cond.selects RX9 yX9_one yX9_one ∈ tR := List.mem_append_left _ (List.mem_of_getElem? (i := 150) rfl)
theorem wi_151 : Cond.methodLink RX9 165 yX9_whole ∈ tR := List.mem_append_left _ (List.mem_of_getElem? (i := 151) rfl)
theorem wi_152 : Cond.instanceMethod yX9_whole ∈ tR := List.mem_append_left _ (List.mem_of_getElem? (i := 152) rfl)
theorem wi_153 : Cond.selects RX9 yX9_whole yX9_whole ∈ tR := List.mem_append_left _ (List.mem_of_getElem? (i := 153) rfl)
theorem wi_154 : Cond.code yX9_product cX9_product 2 (some .boolean) ∈ tR := List.mem_append_left _ (List.mem_of_getElem? (i := 154) rfl)
theorem wi_155 : Cond.code yX9_sum cX9_sum 2 (some .boolean) ∈ tR := List.mem_append_left _ (List.mem_of_getElem? (i := 155) rfl)
theorem wi_156 : Cond.methodLink RX9 150 yX9_product ∈ tR := List.mem_append_left _ (List.mem_of_getElem? (i := 156) rfl)
theorem wi_157 : Cond.instanceMethod yX9_product ∈ tR := List.mem_append_left _ (List.mem_of_getElem? (i := 157) rfl)
theorem wi_158 : Cond.selects RX9 yX9_product yX9_product ∈ tR := List.mem_append_left _ (List.mem_of_getElem? (i := 158) rfl)
theorem wi_159 : Cond.code yX9_whole cX9_whole 1 (some .boolean) ∈ tR := List.mem_append_left _ (List.mem_of_getElem? (i := 159) rfl)
theorem wi_160 : Cond.methodLink RX9 133 yX9_both ∈ tR := List.mem_append_left _ (List.mem_of_getElem? (i := 160) rfl)
theorem wi_161 : Cond.instanceMethod yX9_both ∈ tR := List.mem_append_left _ (List.mem_of_getElem? (i := 161) rfl)
theorem wi_162 : Cond.selects RX9 yX9_both yX9_both ∈ tR := List.mem_append_left _ (List.mem_of_getElem? (i := 162) rfl)
theorem wi_163 : Cond.code yX9_both cX9_both 1 (some .boolean) ∈ tR := List.mem_append_left _ (List.mem_of_getElem? (i := 163) rfl)
theorem wi_164 : Cond.code yX9_text cX9_text 5 (some .int) ∈ tR := List.mem_append_left _ (List.mem_of_getElem? (i := 164) rfl)
theorem wi_165 : Cond.code yX9_untell cX9_untell 3 (some .int) ∈ tR := List.mem_append_left _ (List.mem_of_getElem? (i := 165) rfl)
theorem wi_166 : Cond.code yX9_isClaim cX9_isClaim 2 (some .boolean) ∈ tR := List.mem_append_left _ (List.mem_of_getElem? (i := 166) rfl)
theorem wi_167 : Cond.code yX9_of cX9_of 3 (some .int) ∈ tR := List.mem_append_left _ (List.mem_of_getElem? (i := 167) rfl)
theorem wi_168 : Cond.methodLink RX9 183 yX9_of ∈ tR := List.mem_append_left _ (List.mem_of_getElem? (i := 168) rfl)
theorem wi_169 : Cond.instanceMethod yX9_of ∈ tR := List.mem_append_left _ (List.mem_of_getElem? (i := 169) rfl)
theorem wi_170 : Cond.selects RX9 yX9_of yX9_of ∈ tR := List.mem_append_left _ (List.mem_of_getElem? (i := 170) rfl)
theorem wi_171 : Cond.code yX9_manyOn cX9_manyOn 4 (some .int) ∈ tR := List.mem_append_left _ (List.mem_of_getElem? (i := 171) rfl)
theorem wi_172 : Cond.methodLink RX9 186 yX9_manyOn ∈ tR := List.mem_append_left _ (List.mem_of_getElem? (i := 172) rfl)
theorem wi_173 : Cond.instanceMethod yX9_manyOn ∈ tR := List.mem_append_left _ (List.mem_of_getElem? (i := 173) rfl)
theorem wi_174 : Cond.selects RX9 yX9_manyOn yX9_manyOn ∈ tR := List.mem_append_left _ (List.mem_of_getElem? (i := 174) rfl)
theorem wi_175 : Cond.code yX9_counts cX9_counts 3 (some .int) ∈ tR := List.mem_append_left _ (List.mem_of_getElem? (i := 175) rfl)
theorem wi_176 : Cond.constant RX9 189 (99999) ∈ tR := List.mem_append_left _ (List.mem_of_getElem? (i := 176) rfl)
theorem wi_177 : Cond.code yX9_claim cX9_claim 3 (some .int) ∈ tR := List.mem_append_left _ (List.mem_of_getElem? (i := 177) rfl)
theorem wi_178 : Cond.methodLink RX9 190 yX9_isClaim ∈ tR := List.mem_append_left _ (List.mem_of_getElem? (i := 178) rfl)
theorem wi_179 : Cond.instanceMethod yX9_isClaim ∈ tR := List.mem_append_left _ (List.mem_of_getElem? (i := 179) rfl)
theorem wi_180 : Cond.selects RX9 yX9_isClaim yX9_isClaim ∈ tR := List.mem_append_left _ (List.mem_of_getElem? (i := 180) rfl)
theorem wi_181 : Cond.methodLink RX9 193 yX9_counts ∈ tR := List.mem_append_left _ (List.mem_of_getElem? (i := 181) rfl)
theorem wi_182 : Cond.instanceMethod yX9_counts ∈ tR := List.mem_append_left _ (List.mem_of_getElem? (i := 182) rfl)
theorem wi_183 : Cond.selects RX9 yX9_counts yX9_counts ∈ tR := List.mem_append_left _ (List.mem_of_getElem? (i := 183) rfl)
theorem wi_184 : Cond.code yX9_claimIs cX9_claimIs 3 (some .int) ∈ tR := List.mem_append_left _ (List.mem_of_getElem? (i := 184) rfl)
theorem wi_185 : Cond.code yX9_countsBelow cX9_countsBelow 5 (some .int) ∈ tR := List.mem_append_left _ (List.mem_of_getElem? (i := 185) rfl)
theorem wi_186 : Cond.methodLink RX9 196 yX9_countsBelow ∈ tR := List.mem_append_left _ (List.mem_of_getElem? (i := 186) rfl)
theorem wi_187 : Cond.instanceMethod yX9_countsBelow ∈ tR := List.mem_append_left _ (List.mem_of_getElem? (i := 187) rfl)
theorem wi_188 : Cond.selects RX9 yX9_countsBelow yX9_countsBelow ∈ tR := List.mem_append_left _ (List.mem_of_getElem? (i := 188) rfl)
theorem wi_189 : Cond.code yX9_shareOf cX9_shareOf 7 (some .int) ∈ tR := List.mem_append_left _ (List.mem_of_getElem? (i := 189) rfl)
theorem wi_190 : Cond.code yX9_isLaw cX9_isLaw 1 (some .boolean) ∈ tR := List.mem_append_left _ (List.mem_of_getElem? (i := 190) rfl)
theorem wi_191 : Cond.methodLink RX9 199 yX9_isLaw ∈ tR := List.mem_append_left _ (List.mem_of_getElem? (i := 191) rfl)
theorem wi_192 : Cond.static yX9_isLaw ∈ tR := List.mem_append_left _ (List.mem_of_getElem? (i := 192) rfl)
theorem wi_193 : Cond.methodLink RX9 202 yX9_shareOf ∈ tR := List.mem_append_left _ (List.mem_of_getElem? (i := 193) rfl)
theorem wi_194 : Cond.instanceMethod yX9_shareOf ∈ tR := List.mem_append_left _ (List.mem_of_getElem? (i := 194) rfl)
theorem wi_195 : Cond.selects RX9 yX9_shareOf yX9_shareOf ∈ tR := List.mem_append_left _ (List.mem_of_getElem? (i := 195) rfl)
theorem wi_196 : Cond.code yX9_share cX9_share 3 (some .int) ∈ tR := List.mem_append_left _ (List.mem_of_getElem? (i := 196) rfl)
theorem wi_197 : Cond.code yX9_left cX9_left 5 (some .int) ∈ tR := List.mem_append_left _ (List.mem_of_getElem? (i := 197) rfl)
theorem wi_198 : Cond.code yX9_isPaper cX9_isPaper 4 (some .boolean) ∈ tR := List.mem_append_left _ (List.mem_of_getElem? (i := 198) rfl)
theorem wi_199 : Cond.code yX9_addPaper cX9_addPaper 5 none ∈ tR := List.mem_append_left _ (List.mem_of_getElem? (i := 199) rfl)
theorem wi_200 : Cond.methodLink RX9 205 yX9_isPaper ∈ tR := List.mem_append_left _ (List.mem_of_getElem? (i := 200) rfl)
theorem wi_201 : Cond.instanceMethod yX9_isPaper ∈ tR := List.mem_append_left _ (List.mem_of_getElem? (i := 201) rfl)
theorem wi_202 : Cond.selects RX9 yX9_isPaper yX9_isPaper ∈ tR := List.mem_append_left _ (List.mem_of_getElem? (i := 202) rfl)
theorem wi_203 : Cond.methodLink RX9 208 yX9_addPaper ∈ tR := List.mem_append_left _ (List.mem_of_getElem? (i := 203) rfl)
theorem wi_204 : Cond.instanceMethod yX9_addPaper ∈ tR := List.mem_append_left _ (List.mem_of_getElem? (i := 204) rfl)
theorem wi_205 : Cond.selects RX9 yX9_addPaper yX9_addPaper ∈ tR := List.mem_append_left _ (List.mem_of_getElem? (i := 205) rfl)
theorem wi_206 : Cond.code yX9_paper cX9_paper 4 (some .int) ∈ tR := List.mem_append_left _ (List.mem_of_getElem? (i := 206) rfl)
theorem wi_207 : Cond.code yX9_weigh cX9_weigh 5 (some .int) ∈ tR := List.mem_append_left _ (List.mem_of_getElem? (i := 207) rfl)
theorem wi_208 : Cond.code yX9_forget cX9_forget 3 (some .int) ∈ tR := List.mem_append_left _ (List.mem_of_getElem? (i := 208) rfl)
theorem wi_209 : Cond.code yX9_allPapers cX9_allPapers 1 (some .int) ∈ tR := List.mem_append_left _ (List.mem_of_getElem? (i := 209) rfl)
theorem wi_210 : Cond.methodLink RX9 211 yX9_allPapers ∈ tR := List.mem_append_left _ (List.mem_of_getElem? (i := 210) rfl)
theorem wi_211 : Cond.instanceMethod yX9_allPapers ∈ tR := List.mem_append_left _ (List.mem_of_getElem? (i := 211) rfl)
theorem wi_212 : Cond.selects RX9 yX9_allPapers yX9_allPapers ∈ tR := List.mem_append_left _ (List.mem_of_getElem? (i := 212) rfl)
theorem wi_213 : Cond.code yX9_isHistory cX9_isHistory 2 (some .boolean) ∈ tR := List.mem_append_left _ (List.mem_of_getElem? (i := 213) rfl)
theorem wi_214 : Cond.code yX9_goesBy cX9_goesBy 3 none ∈ tR := List.mem_append_left _ (List.mem_of_getElem? (i := 214) rfl)
theorem wi_215 : Cond.methodLink RX9 214 yX9_goesBy ∈ tR := List.mem_append_left _ (List.mem_of_getElem? (i := 215) rfl)
theorem wi_216 : Cond.instanceMethod yX9_goesBy ∈ tR := List.mem_append_left _ (List.mem_of_getElem? (i := 216) rfl)
theorem wi_217 : Cond.selects RX9 yX9_goesBy yX9_goesBy ∈ tR := List.mem_append_left _ (List.mem_of_getElem? (i := 217) rfl)
theorem wi_218 : Cond.code yX9_after cX9_after 5 (some .int) ∈ tR := List.mem_append_left _ (List.mem_of_getElem? (i := 218) rfl)
theorem wi_219 : Cond.methodLink RX9 217 yX9_isHistory ∈ tR := List.mem_append_left _ (List.mem_of_getElem? (i := 219) rfl)
theorem wi_220 : Cond.instanceMethod yX9_isHistory ∈ tR := List.mem_append_left _ (List.mem_of_getElem? (i := 220) rfl)
theorem wi_221 : Cond.selects RX9 yX9_isHistory yX9_isHistory ∈ tR := List.mem_append_left _ (List.mem_of_getElem? (i := 221) rfl)
theorem wi_222 : Cond.methodLink RX9 220 yX9_after ∈ tR := List.mem_append_left _ (List.mem_of_getElem? (i := 222) rfl)
theorem wi_223 : Cond.instanceMethod yX9_after ∈ tR := List.mem_append_left _ (List.mem_of_getElem? (i := 223) rfl)
theorem wi_224 : Cond.selects RX9 yX9_after yX9_after ∈ tR := List.mem_append_left _ (List.mem_of_getElem? (i := 224) rfl)
theorem wi_225 : Cond.code yX9_by cX9_by 4 (some .int) ∈ tR := List.mem_append_left _ (List.mem_of_getElem? (i := 225) rfl)
theorem wi_226 : Cond.code yX9_doesFit cX9_doesFit 6 (some .boolean) ∈ tR := List.mem_append_left _ (List.mem_of_getElem? (i := 226) rfl)
theorem wi_227 : Cond.fieldLink RX9 223 "OldBronzeModel" "many" "I" ∈ tR := List.mem_append_left _ (List.mem_of_getElem? (i := 227) rfl)
theorem wi_228 : Cond.methodLink RX9 226 yX9_doesFit ∈ tR := List.mem_append_left _ (List.mem_of_getElem? (i := 228) rfl)
theorem wi_229 : Cond.instanceMethod yX9_doesFit ∈ tR := List.mem_append_left _ (List.mem_of_getElem? (i := 229) rfl)
theorem wi_230 : Cond.selects RX9 yX9_doesFit yX9_doesFit ∈ tR := List.mem_append_left _ (List.mem_of_getElem? (i := 230) rfl)
theorem wi_231 : Cond.code yX9_findFits cX9_findFits 2 none ∈ tR := List.mem_append_left _ (List.mem_of_getElem? (i := 231) rfl)
theorem wi_232 : Cond.code yX9_bitsOf cX9_bitsOf 3 (some .int) ∈ tR := List.mem_append_left _ (List.mem_of_getElem? (i := 232) rfl)
theorem wi_233 : Cond.methodLink RX9 229 yX9_findFits ∈ tR := List.mem_append_left _ (List.mem_of_getElem? (i := 233) rfl)
theorem wi_234 : Cond.instanceMethod yX9_findFits ∈ tR := List.mem_append_left _ (List.mem_of_getElem? (i := 234) rfl)
theorem wi_235 : Cond.selects RX9 yX9_findFits yX9_findFits ∈ tR := List.mem_append_left _ (List.mem_of_getElem? (i := 235) rfl)
theorem wi_236 : Cond.methodLink RX9 232 yX9_bitsOf ∈ tR := List.mem_append_left _ (List.mem_of_getElem? (i := 236) rfl)
theorem wi_237 : Cond.static yX9_bitsOf ∈ tR := List.mem_append_left _ (List.mem_of_getElem? (i := 237) rfl)
theorem wi_238 : Cond.code yX9_fits cX9_fits 6 (some .int) ∈ tR := List.mem_append_left _ (List.mem_of_getElem? (i := 238) rfl)
theorem wi_239 : Cond.code yX9_span cX9_span 7 (some .int) ∈ tR := List.mem_append_left _ (List.mem_of_getElem? (i := 239) rfl)
theorem wi_240 : Cond.code yX9_heap cX9_heap 6 (some .int) ∈ tR := List.mem_append_left _ (List.mem_of_getElem? (i := 240) rfl)
theorem wi_241 : Cond.methodLink RX9 235 yX9_heap ∈ tR := List.mem_append_left _ (List.mem_of_getElem? (i := 241) rfl)
theorem wi_242 : Cond.instanceMethod yX9_heap ∈ tR := List.mem_append_left _ (List.mem_of_getElem? (i := 242) rfl)
theorem wi_243 : Cond.selects RX9 yX9_heap yX9_heap ∈ tR := List.mem_append_left _ (List.mem_of_getElem? (i := 243) rfl)
theorem wi_244 : Cond.code yX9_next cX9_next 3 (some .int) ∈ tR := List.mem_append_left _ (List.mem_of_getElem? (i := 244) rfl)
theorem wi_245 : Cond.code yX9_together cX9_together 8 (some .int) ∈ tR := List.mem_append_left _ (List.mem_of_getElem? (i := 245) rfl)
theorem wi_246 : Cond.code yX9_haveGrams cX9_haveGrams 4 (some .boolean) ∈ tR := List.mem_append_left _ (List.mem_of_getElem? (i := 246) rfl)
theorem wi_247 : Cond.methodLink RX9 238 yX9_haveGrams ∈ tR := List.mem_append_left _ (List.mem_of_getElem? (i := 247) rfl)
theorem wi_248 : Cond.instanceMethod yX9_haveGrams ∈ tR := List.mem_append_left _ (List.mem_of_getElem? (i := 248) rfl)
theorem wi_249 : Cond.selects RX9 yX9_haveGrams yX9_haveGrams ∈ tR := List.mem_append_left _ (List.mem_of_getElem? (i := 249) rfl)
theorem wi_250 : Cond.methodLink RX9 241 yX9_together ∈ tR := List.mem_append_left _ (List.mem_of_getElem? (i := 250) rfl)
theorem wi_251 : Cond.instanceMethod yX9_together ∈ tR := List.mem_append_left _ (List.mem_of_getElem? (i := 251) rfl)
theorem wi_252 : Cond.selects RX9 yX9_together yX9_together ∈ tR := List.mem_append_left _ (List.mem_of_getElem? (i := 252) rfl)
theorem wi_253 : Cond.code yX9_most cX9_most 7 (some .int) ∈ tR := List.mem_append_left _ (List.mem_of_getElem? (i := 253) rfl)
theorem wi_254 : Cond.fieldLink RX9 244 "OldBronzeModel" "traced" "I" ∈ tR := List.mem_append_left _ (List.mem_of_getElem? (i := 254) rfl)
theorem wi_255 : Cond.code yX9_begins cX9_begins 2 none ∈ tR := List.mem_append_left _ (List.mem_of_getElem? (i := 255) rfl)
theorem wi_256 : Cond.code yX9_above cX9_above 1 (some .int) ∈ tR := List.mem_append_left _ (List.mem_of_getElem? (i := 256) rfl)
theorem wi_257 : Cond.fieldLink RX9 247 "OldBronzeModel" "speaks" "I" ∈ tR := List.mem_append_left _ (List.mem_of_getElem? (i := 257) rfl)
theorem wi_258 : Cond.code yX9_kindNow cX9_kindNow 1 (some .int) ∈ tR := List.mem_append_left _ (List.mem_of_getElem? (i := 258) rfl)
theorem wi_259 : Cond.code yX9_mNow cX9_mNow 1 (some .int) ∈ tR := List.mem_append_left _ (List.mem_of_getElem? (i := 259) rfl)
theorem wi_260 : Cond.methodLink RX9 250 yX9_begins ∈ tR := List.mem_append_left _ (List.mem_of_getElem? (i := 260) rfl)
theorem wi_261 : Cond.instanceMethod yX9_begins ∈ tR := List.mem_append_left _ (List.mem_of_getElem? (i := 261) rfl)
theorem wi_262 : Cond.selects RX9 yX9_begins yX9_begins ∈ tR := List.mem_append_left _ (List.mem_of_getElem? (i := 262) rfl)
theorem wi_263 : Cond.methodLink RX9 253 yX9_above ∈ tR := List.mem_append_left _ (List.mem_of_getElem? (i := 263) rfl)
theorem wi_264 : Cond.static yX9_above ∈ tR := List.mem_append_left _ (List.mem_of_getElem? (i := 264) rfl)
theorem wi_265 : Cond.methodLink RX9 256 yX9_ringsBy ∈ tR := List.mem_append_left _ (List.mem_of_getElem? (i := 265) rfl)
theorem wi_266 : Cond.instanceMethod yX9_ringsBy ∈ tR := List.mem_append_left _ (List.mem_of_getElem? (i := 266) rfl)
theorem wi_267 : Cond.selects RX9 yX9_ringsBy yX9_ringsBy ∈ tR := List.mem_append_left _ (List.mem_of_getElem? (i := 267) rfl)
theorem wi_268 : Cond.code yX9_ringsBy cX9_ringsBy 3 (some .int) ∈ tR := List.mem_append_left _ (List.mem_of_getElem? (i := 268) rfl)
theorem wi_269 : Cond.methodLink RX9 259 yX9_kindNow ∈ tR := List.mem_append_left _ (List.mem_of_getElem? (i := 269) rfl)
theorem wi_270 : Cond.instanceMethod yX9_kindNow ∈ tR := List.mem_append_left _ (List.mem_of_getElem? (i := 270) rfl)
theorem wi_271 : Cond.selects RX9 yX9_kindNow yX9_kindNow ∈ tR := List.mem_append_left _ (List.mem_of_getElem? (i := 271) rfl)
theorem wi_272 : Cond.methodLink RX9 262 yX9_weighsBy ∈ tR := List.mem_append_left _ (List.mem_of_getElem? (i := 272) rfl)
theorem wi_273 : Cond.instanceMethod yX9_weighsBy ∈ tR := List.mem_append_left _ (List.mem_of_getElem? (i := 273) rfl)
theorem wi_274 : Cond.selects RX9 yX9_weighsBy yX9_weighsBy ∈ tR := List.mem_append_left _ (List.mem_of_getElem? (i := 274) rfl)
theorem wi_275 : Cond.methodLink RX9 265 yX9_mNow ∈ tR := List.mem_append_left _ (List.mem_of_getElem? (i := 275) rfl)
theorem wi_276 : Cond.instanceMethod yX9_mNow ∈ tR := List.mem_append_left _ (List.mem_of_getElem? (i := 276) rfl)
theorem wi_277 : Cond.selects RX9 yX9_mNow yX9_mNow ∈ tR := List.mem_append_left _ (List.mem_of_getElem? (i := 277) rfl)
theorem wi_278 : Cond.code yX9_weighsBy cX9_weighsBy 3 (some .int) ∈ tR := List.mem_append_left _ (List.mem_of_getElem? (i := 278) rfl)
theorem wi_279 : Cond.methodLink RX9 268 yX9_meltsBy ∈ tR := List.mem_append_left _ (List.mem_of_getElem? (i := 279) rfl)
theorem wi_280 : Cond.instanceMethod yX9_meltsBy ∈ tR := List.mem_append_left _ (List.mem_of_getElem? (i := 280) rfl)
theorem wi_281 : Cond.selects RX9 yX9_meltsBy yX9_meltsBy ∈ tR := List.mem_append_left _ (List.mem_of_getElem? (i := 281) rfl)
theorem wi_282 : Cond.code yX9_meltsBy cX9_meltsBy 3 (some .int) ∈ tR := List.mem_append_left _ (List.mem_of_getElem? (i := 282) rfl)
theorem wi_283 : Cond.fieldLink RX9 271 "OldBronzeModel" "isParted" "Z" ∈ tR := List.mem_append_left _ (List.mem_of_getElem? (i := 283) rfl)
theorem wi_284 : Cond.methodLink RX9 275 yX9_partsBy ∈ tR := List.mem_append_left _ (List.mem_of_getElem? (i := 284) rfl)
theorem wi_285 : Cond.instanceMethod yX9_partsBy ∈ tR := List.mem_append_left _ (List.mem_of_getElem? (i := 285) rfl)
theorem wi_286 : Cond.selects RX9 yX9_partsBy yX9_partsBy ∈ tR := List.mem_append_left _ (List.mem_of_getElem? (i := 286) rfl)
theorem wi_287 : Cond.code yX9_partsBy cX9_partsBy 5 (some .int) ∈ tR := List.mem_append_left _ (List.mem_of_getElem? (i := 287) rfl)
theorem wi_288 : Cond.code yX9_voice cX9_voice 6 (some .int) ∈ tR := List.mem_append_left _ (List.mem_of_getElem? (i := 288) rfl)
theorem wi_289 : Cond.code yX9_body cX9_body 2 (some .int) ∈ tR := List.mem_append_left _ (List.mem_of_getElem? (i := 289) rfl)
theorem wi_290 : Cond.code yX9_isSheet cX9_isSheet 1 (some .boolean) ∈ tR := List.mem_append_left _ (List.mem_of_getElem? (i := 290) rfl)
theorem wi_291 : Cond.methodLink RX9 278 yX9_isSheet ∈ tR := List.mem_append_left _ (List.mem_of_getElem? (i := 291) rfl)
theorem wi_292 : Cond.static yX9_isSheet ∈ tR := List.mem_append_left _ (List.mem_of_getElem? (i := 292) rfl)
theorem wi_293 : Cond.code yX9_sheet cX9_sheet 5 (some .int) ∈ tR := List.mem_append_left _ (List.mem_of_getElem? (i := 293) rfl)
theorem wi_294 : Cond.code yX9_put cX9_put 5 (some .int) ∈ tR := List.mem_append_left _ (List.mem_of_getElem? (i := 294) rfl)
theorem wi_295 : Cond.code yX9_move cX9_move 7 (some .int) ∈ tR := List.mem_append_left _ (List.mem_of_getElem? (i := 295) rfl)
theorem wi_296 : Cond.code yX9_lacks cX9_lacks 2 (some .int) ∈ tR := List.mem_append_left _ (List.mem_of_getElem? (i := 296) rfl)
theorem wi_297 : Cond.methodLink RX9 281 yX9_lacks ∈ tR := List.mem_append_left _ (List.mem_of_getElem? (i := 297) rfl)
theorem wi_298 : Cond.instanceMethod yX9_lacks ∈ tR := List.mem_append_left _ (List.mem_of_getElem? (i := 298) rfl)
theorem wi_299 : Cond.selects RX9 yX9_lacks yX9_lacks ∈ tR := List.mem_append_left _ (List.mem_of_getElem? (i := 299) rfl)
theorem wi_300 : Cond.code yX9_papers cX9_papers 5 (some .int) ∈ tR := List.mem_append_left _ (List.mem_of_getElem? (i := 300) rfl)
theorem wi_301 : Cond.code yX9_judge cX9_judge 5 (some .int) ∈ tR := List.mem_append_left _ (List.mem_of_getElem? (i := 301) rfl)
theorem wi_302 : Cond.fieldLink RX9 284 "OldBronzeModel" "images" "I" ∈ tR := List.mem_append_left _ (List.mem_of_getElem? (i := 302) rfl)
theorem wi_303 : Cond.code yX9_image cX9_image 1 (some .int) ∈ tR := List.mem_append_left _ (List.mem_of_getElem? (i := 303) rfl)
theorem wi_304 : Cond.code yX9_restore cX9_restore 1 (some .int) ∈ tR := List.mem_append_left _ (List.mem_of_getElem? (i := 304) rfl)
theorem wi_305 : Cond.code yX9_tell cX9_tell 2 (some .int) ∈ tR := List.mem_append_left _ (List.mem_of_getElem? (i := 305) rfl)
theorem wi_306 : Cond.code yX9_check cX9_check 3 (some .int) ∈ tR := List.mem_append_left _ (List.mem_of_getElem? (i := 306) rfl)
theorem wi_307 : Cond.code yX9_count cX9_count 2 (some .int) ∈ tR := List.mem_append_left _ (List.mem_of_getElem? (i := 307) rfl)
theorem wi_308 : Cond.code yX9_told cX9_told 2 (some .int) ∈ tR := List.mem_append_left _ (List.mem_of_getElem? (i := 308) rfl)
def layR (ci : Nat) : Nat → gLC := fun o => match o with
  | 0 => .inr (.inl (ci, [some 1, some 2, some 3, none, some 4, none, none, none, none, some 5, some 6, some 7, some 8, none, some 9, some 10, none, none, none, some 11, some 12, some 13, some 14]))
  | 1 => .inl 536
  | 2 => .inl 536
  | 3 => .inl 536
  | 4 => .inl 7
  | 5 => .inl 124
  | 6 => .inl 128
  | 7 => .inl 64
  | 8 => .inl 64
  | 9 => .inl 64
  | 10 => .inl 30
  | 11 => .inl 4
  | 12 => .inl 4
  | 13 => .inl 96
  | _ => .inl 24
abbrev wR (ad : Nat → Nat) (cI : ClassId) (ci : Nat) : gSt → va_W := wld ad cI cI (layR ci) 15
section RF
variable {p : Program} {l : Launch} {e : Env} {R : Room} {s : State} {m : MethodId} {args : Array Value} {below : List Frame} {meth : Method} {c : Code} {Q : State → Prop}
variable {D : va_G} {cl : List vw_C} {tys : List (ClassId × FieldType)} {A : Nat → Prop} {nL : Nat} {cc : ByteArray} {Z : (Nat → Prop) → State → Prop}
variable {pc : Nat} {lv : List (Nat × Value)} {st : List Value} {M : gSt} {ad : Nat → Nat} {cI : ClassId} {ci : Nat}
theorem rf_s (C : gC p R s m args c D cl tys A (wR ad cI ci) nL cc RX9 tR Z) (hci : cl[ci]? = some (RX9, TX9, 23)) (hd : decode cc pc = .ok (.getfield 7, 3)) (kk : gG p l e R s m args below meth c Q D cl A (wR ad cI ci) nL (pc + 3) lv (.ref (ad 1) :: st) M) : gG p l e R s m args below meth c Q D cl A (wR ad cI ci) nL pc lv (.ref (ad 0) :: st) M :=
  g_getf C (o := 0) (k := 0) (T := TX9) rfl (by decide) hci (by decide) tR_f wi_4 rfl hd rfl kk
theorem rf_kept (C : gC p R s m args c D cl tys A (wR ad cI ci) nL cc RX9 tR Z) (hci : cl[ci]? = some (RX9, TX9, 23)) (hd : decode cc pc = .ok (.getfield 13, 3)) (kk : gG p l e R s m args below meth c Q D cl A (wR ad cI ci) nL (pc + 3) lv (.ref (ad 2) :: st) M) : gG p l e R s m args below meth c Q D cl A (wR ad cI ci) nL pc lv (.ref (ad 0) :: st) M :=
  g_getf C (o := 0) (k := 1) (T := TX9) rfl (by decide) hci (by decide) tR_f wi_5 rfl hd rfl kk
theorem rf_put (C : gC p R s m args c D cl tys A (wR ad cI ci) nL cc RX9 tR Z) (hci : cl[ci]? = some (RX9, TX9, 23)) (hd : decode cc pc = .ok (.getfield 16, 3)) (kk : gG p l e R s m args below meth c Q D cl A (wR ad cI ci) nL (pc + 3) lv (.ref (ad 3) :: st) M) : gG p l e R s m args below meth c Q D cl A (wR ad cI ci) nL pc lv (.ref (ad 0) :: st) M :=
  g_getf C (o := 0) (k := 2) (T := TX9) rfl (by decide) hci (by decide) tR_f wi_6 rfl hd rfl kk
theorem rf_images (C : gC p R s m args c D cl tys A (wR ad cI ci) nL cc RX9 tR Z) (hci : cl[ci]? = some (RX9, TX9, 23)) (hd : decode cc pc = .ok (.getfield 284, 3)) (kk : gG p l e R s m args below meth c Q D cl A (wR ad cI ci) nL (pc + 3) lv (iv (M 0 3) :: st) M) : gG p l e R s m args below meth c Q D cl A (wR ad cI ci) nL pc lv (.ref (ad 0) :: st) M :=
  g_getf C (o := 0) (k := 3) (T := TX9) rfl (by decide) hci (by decide) tR_f wi_302 rfl hd rfl kk
theorem rp_images (C : gC p R s m args c D cl tys A (wR ad cI ci) nL cc RX9 tR Z) (hci : cl[ci]? = some (RX9, TX9, 23)) {x : Int} (hd : decode cc pc = .ok (.putfield 284, 3)) (kk : gG p l e R s m args below meth c Q D cl A (wR ad cI ci) nL (pc + 3) lv st (wr M 0 3 x)) : gG p l e R s m args below meth c Q D cl A (wR ad cI ci) nL pc lv (iv x :: .ref (ad 0) :: st) M :=
  g_putf C (o := 0) (k := 3) (T := TX9) (ty := .int) rfl (by decide) hci (by decide) tR_f tyX9 tyX9_ok nmX9 wi_302 rfl rfl (by decide +kernel) rfl hd ⟨rfl, rfl⟩ kk
theorem rf_errors (C : gC p R s m args c D cl tys A (wR ad cI ci) nL cc RX9 tR Z) (hci : cl[ci]? = some (RX9, TX9, 23)) (hd : decode cc pc = .ok (.getfield 19, 3)) (kk : gG p l e R s m args below meth c Q D cl A (wR ad cI ci) nL (pc + 3) lv (.ref (ad 4) :: st) M) : gG p l e R s m args below meth c Q D cl A (wR ad cI ci) nL pc lv (.ref (ad 0) :: st) M :=
  g_getf C (o := 0) (k := 4) (T := TX9) rfl (by decide) hci (by decide) tR_f wi_7 rfl hd rfl kk
theorem rf_at (C : gC p R s m args c D cl tys A (wR ad cI ci) nL cc RX9 tR Z) (hci : cl[ci]? = some (RX9, TX9, 23)) (hd : decode cc pc = .ok (.getfield 123, 3)) (kk : gG p l e R s m args below meth c Q D cl A (wR ad cI ci) nL (pc + 3) lv (iv (M 0 5) :: st) M) : gG p l e R s m args below meth c Q D cl A (wR ad cI ci) nL pc lv (.ref (ad 0) :: st) M :=
  g_getf C (o := 0) (k := 5) (T := TX9) rfl (by decide) hci (by decide) tR_f wi_120 rfl hd rfl kk
theorem rp_at (C : gC p R s m args c D cl tys A (wR ad cI ci) nL cc RX9 tR Z) (hci : cl[ci]? = some (RX9, TX9, 23)) {x : Int} (hd : decode cc pc = .ok (.putfield 123, 3)) (kk : gG p l e R s m args below meth c Q D cl A (wR ad cI ci) nL (pc + 3) lv st (wr M 0 5 x)) : gG p l e R s m args below meth c Q D cl A (wR ad cI ci) nL pc lv (iv x :: .ref (ad 0) :: st) M :=
  g_putf C (o := 0) (k := 5) (T := TX9) (ty := .int) rfl (by decide) hci (by decide) tR_f tyX9 tyX9_ok nmX9 wi_120 rfl rfl (by decide +kernel) rfl hd ⟨rfl, rfl⟩ kk
theorem rf_open (C : gC p R s m args c D cl tys A (wR ad cI ci) nL cc RX9 tR Z) (hci : cl[ci]? = some (RX9, TX9, 23)) (hd : decode cc pc = .ok (.getfield 156, 3)) (kk : gG p l e R s m args below meth c Q D cl A (wR ad cI ci) nL (pc + 3) lv (iv (M 0 6) :: st) M) : gG p l e R s m args below meth c Q D cl A (wR ad cI ci) nL pc lv (.ref (ad 0) :: st) M :=
  g_getf C (o := 0) (k := 6) (T := TX9) rfl (by decide) hci (by decide) tR_f wi_126 rfl hd rfl kk
theorem rp_open (C : gC p R s m args c D cl tys A (wR ad cI ci) nL cc RX9 tR Z) (hci : cl[ci]? = some (RX9, TX9, 23)) {x : Int} (hd : decode cc pc = .ok (.putfield 156, 3)) (kk : gG p l e R s m args below meth c Q D cl A (wR ad cI ci) nL (pc + 3) lv st (wr M 0 6 x)) : gG p l e R s m args below meth c Q D cl A (wR ad cI ci) nL pc lv (iv x :: .ref (ad 0) :: st) M :=
  g_putf C (o := 0) (k := 6) (T := TX9) (ty := .int) rfl (by decide) hci (by decide) tR_f tyX9 tyX9_ok nmX9 wi_126 rfl rfl (by decide +kernel) rfl hd ⟨rfl, rfl⟩ kk
theorem rf_steps (C : gC p R s m args c D cl tys A (wR ad cI ci) nL cc RX9 tR Z) (hci : cl[ci]? = some (RX9, TX9, 23)) (hd : decode cc pc = .ok (.getfield 130, 3)) (kk : gG p l e R s m args below meth c Q D cl A (wR ad cI ci) nL (pc + 3) lv (iv (M 0 7) :: st) M) : gG p l e R s m args below meth c Q D cl A (wR ad cI ci) nL pc lv (.ref (ad 0) :: st) M :=
  g_getf C (o := 0) (k := 7) (T := TX9) rfl (by decide) hci (by decide) tR_f wi_124 rfl hd rfl kk
theorem rp_steps (C : gC p R s m args c D cl tys A (wR ad cI ci) nL cc RX9 tR Z) (hci : cl[ci]? = some (RX9, TX9, 23)) {x : Int} (hd : decode cc pc = .ok (.putfield 130, 3)) (kk : gG p l e R s m args below meth c Q D cl A (wR ad cI ci) nL (pc + 3) lv st (wr M 0 7 x)) : gG p l e R s m args below meth c Q D cl A (wR ad cI ci) nL pc lv (iv x :: .ref (ad 0) :: st) M :=
  g_putf C (o := 0) (k := 7) (T := TX9) (ty := .int) rfl (by decide) hci (by decide) tR_f tyX9 tyX9_ok nmX9 wi_124 rfl rfl (by decide +kernel) rfl hd ⟨rfl, rfl⟩ kk
theorem rf_use (C : gC p R s m args c D cl tys A (wR ad cI ci) nL cc RX9 tR Z) (hci : cl[ci]? = some (RX9, TX9, 23)) (hd : decode cc pc = .ok (.getfield 127, 3)) (kk : gG p l e R s m args below meth c Q D cl A (wR ad cI ci) nL (pc + 3) lv (iv (M 0 8) :: st) M) : gG p l e R s m args below meth c Q D cl A (wR ad cI ci) nL pc lv (.ref (ad 0) :: st) M :=
  g_getf C (o := 0) (k := 8) (T := TX9) rfl (by decide) hci (by decide) tR_f wi_122 rfl hd rfl kk
theorem rp_use (C : gC p R s m args c D cl tys A (wR ad cI ci) nL cc RX9 tR Z) (hci : cl[ci]? = some (RX9, TX9, 23)) {x : Int} (hd : decode cc pc = .ok (.putfield 127, 3)) (kk : gG p l e R s m args below meth c Q D cl A (wR ad cI ci) nL (pc + 3) lv st (wr M 0 8 x)) : gG p l e R s m args below meth c Q D cl A (wR ad cI ci) nL pc lv (iv x :: .ref (ad 0) :: st) M :=
  g_putf C (o := 0) (k := 8) (T := TX9) (ty := .int) rfl (by decide) hci (by decide) tR_f tyX9 tyX9_ok nmX9 wi_122 rfl rfl (by decide +kernel) rfl hd ⟨rfl, rfl⟩ kk
theorem rf_step (C : gC p R s m args c D cl tys A (wR ad cI ci) nL cc RX9 tR Z) (hci : cl[ci]? = some (RX9, TX9, 23)) (hd : decode cc pc = .ok (.getfield 22, 3)) (kk : gG p l e R s m args below meth c Q D cl A (wR ad cI ci) nL (pc + 3) lv (.ref (ad 5) :: st) M) : gG p l e R s m args below meth c Q D cl A (wR ad cI ci) nL pc lv (.ref (ad 0) :: st) M :=
  g_getf C (o := 0) (k := 9) (T := TX9) rfl (by decide) hci (by decide) tR_f wi_8 rfl hd rfl kk
theorem rf_named (C : gC p R s m args c D cl tys A (wR ad cI ci) nL cc RX9 tR Z) (hci : cl[ci]? = some (RX9, TX9, 23)) (hd : decode cc pc = .ok (.getfield 25, 3)) (kk : gG p l e R s m args below meth c Q D cl A (wR ad cI ci) nL (pc + 3) lv (.ref (ad 6) :: st) M) : gG p l e R s m args below meth c Q D cl A (wR ad cI ci) nL pc lv (.ref (ad 0) :: st) M :=
  g_getf C (o := 0) (k := 10) (T := TX9) rfl (by decide) hci (by decide) tR_f wi_9 rfl hd rfl kk
theorem rf_pile (C : gC p R s m args c D cl tys A (wR ad cI ci) nL cc RX9 tR Z) (hci : cl[ci]? = some (RX9, TX9, 23)) (hd : decode cc pc = .ok (.getfield 28, 3)) (kk : gG p l e R s m args below meth c Q D cl A (wR ad cI ci) nL (pc + 3) lv (.ref (ad 7) :: st) M) : gG p l e R s m args below meth c Q D cl A (wR ad cI ci) nL pc lv (.ref (ad 0) :: st) M :=
  g_getf C (o := 0) (k := 11) (T := TX9) rfl (by decide) hci (by decide) tR_f wi_10 rfl hd rfl kk
theorem rf_fit (C : gC p R s m args c D cl tys A (wR ad cI ci) nL cc RX9 tR Z) (hci : cl[ci]? = some (RX9, TX9, 23)) (hd : decode cc pc = .ok (.getfield 31, 3)) (kk : gG p l e R s m args below meth c Q D cl A (wR ad cI ci) nL (pc + 3) lv (.ref (ad 8) :: st) M) : gG p l e R s m args below meth c Q D cl A (wR ad cI ci) nL pc lv (.ref (ad 0) :: st) M :=
  g_getf C (o := 0) (k := 12) (T := TX9) rfl (by decide) hci (by decide) tR_f wi_11 rfl hd rfl kk
theorem rf_many (C : gC p R s m args c D cl tys A (wR ad cI ci) nL cc RX9 tR Z) (hci : cl[ci]? = some (RX9, TX9, 23)) (hd : decode cc pc = .ok (.getfield 223, 3)) (kk : gG p l e R s m args below meth c Q D cl A (wR ad cI ci) nL (pc + 3) lv (iv (M 0 13) :: st) M) : gG p l e R s m args below meth c Q D cl A (wR ad cI ci) nL pc lv (.ref (ad 0) :: st) M :=
  g_getf C (o := 0) (k := 13) (T := TX9) rfl (by decide) hci (by decide) tR_f wi_227 rfl hd rfl kk
theorem rp_many (C : gC p R s m args c D cl tys A (wR ad cI ci) nL cc RX9 tR Z) (hci : cl[ci]? = some (RX9, TX9, 23)) {x : Int} (hd : decode cc pc = .ok (.putfield 223, 3)) (kk : gG p l e R s m args below meth c Q D cl A (wR ad cI ci) nL (pc + 3) lv st (wr M 0 13 x)) : gG p l e R s m args below meth c Q D cl A (wR ad cI ci) nL pc lv (iv x :: .ref (ad 0) :: st) M :=
  g_putf C (o := 0) (k := 13) (T := TX9) (ty := .int) rfl (by decide) hci (by decide) tR_f tyX9 tyX9_ok nmX9 wi_227 rfl rfl (by decide +kernel) rfl hd ⟨rfl, rfl⟩ kk
theorem rf_seen (C : gC p R s m args c D cl tys A (wR ad cI ci) nL cc RX9 tR Z) (hci : cl[ci]? = some (RX9, TX9, 23)) (hd : decode cc pc = .ok (.getfield 34, 3)) (kk : gG p l e R s m args below meth c Q D cl A (wR ad cI ci) nL (pc + 3) lv (.ref (ad 9) :: st) M) : gG p l e R s m args below meth c Q D cl A (wR ad cI ci) nL pc lv (.ref (ad 0) :: st) M :=
  g_getf C (o := 0) (k := 14) (T := TX9) rfl (by decide) hci (by decide) tR_f wi_12 rfl hd rfl kk
theorem rf_trace (C : gC p R s m args c D cl tys A (wR ad cI ci) nL cc RX9 tR Z) (hci : cl[ci]? = some (RX9, TX9, 23)) (hd : decode cc pc = .ok (.getfield 37, 3)) (kk : gG p l e R s m args below meth c Q D cl A (wR ad cI ci) nL (pc + 3) lv (.ref (ad 10) :: st) M) : gG p l e R s m args below meth c Q D cl A (wR ad cI ci) nL pc lv (.ref (ad 0) :: st) M :=
  g_getf C (o := 0) (k := 15) (T := TX9) rfl (by decide) hci (by decide) tR_f wi_13 rfl hd rfl kk
theorem rf_traced (C : gC p R s m args c D cl tys A (wR ad cI ci) nL cc RX9 tR Z) (hci : cl[ci]? = some (RX9, TX9, 23)) (hd : decode cc pc = .ok (.getfield 244, 3)) (kk : gG p l e R s m args below meth c Q D cl A (wR ad cI ci) nL (pc + 3) lv (iv (M 0 16) :: st) M) : gG p l e R s m args below meth c Q D cl A (wR ad cI ci) nL pc lv (.ref (ad 0) :: st) M :=
  g_getf C (o := 0) (k := 16) (T := TX9) rfl (by decide) hci (by decide) tR_f wi_254 rfl hd rfl kk
theorem rp_traced (C : gC p R s m args c D cl tys A (wR ad cI ci) nL cc RX9 tR Z) (hci : cl[ci]? = some (RX9, TX9, 23)) {x : Int} (hd : decode cc pc = .ok (.putfield 244, 3)) (kk : gG p l e R s m args below meth c Q D cl A (wR ad cI ci) nL (pc + 3) lv st (wr M 0 16 x)) : gG p l e R s m args below meth c Q D cl A (wR ad cI ci) nL pc lv (iv x :: .ref (ad 0) :: st) M :=
  g_putf C (o := 0) (k := 16) (T := TX9) (ty := .int) rfl (by decide) hci (by decide) tR_f tyX9 tyX9_ok nmX9 wi_254 rfl rfl (by decide +kernel) rfl hd ⟨rfl, rfl⟩ kk
theorem rf_speaks (C : gC p R s m args c D cl tys A (wR ad cI ci) nL cc RX9 tR Z) (hci : cl[ci]? = some (RX9, TX9, 23)) (hd : decode cc pc = .ok (.getfield 247, 3)) (kk : gG p l e R s m args below meth c Q D cl A (wR ad cI ci) nL (pc + 3) lv (iv (M 0 17) :: st) M) : gG p l e R s m args below meth c Q D cl A (wR ad cI ci) nL pc lv (.ref (ad 0) :: st) M :=
  g_getf C (o := 0) (k := 17) (T := TX9) rfl (by decide) hci (by decide) tR_f wi_257 rfl hd rfl kk
theorem rp_speaks (C : gC p R s m args c D cl tys A (wR ad cI ci) nL cc RX9 tR Z) (hci : cl[ci]? = some (RX9, TX9, 23)) {x : Int} (hd : decode cc pc = .ok (.putfield 247, 3)) (kk : gG p l e R s m args below meth c Q D cl A (wR ad cI ci) nL (pc + 3) lv st (wr M 0 17 x)) : gG p l e R s m args below meth c Q D cl A (wR ad cI ci) nL pc lv (iv x :: .ref (ad 0) :: st) M :=
  g_putf C (o := 0) (k := 17) (T := TX9) (ty := .int) rfl (by decide) hci (by decide) tR_f tyX9 tyX9_ok nmX9 wi_257 rfl rfl (by decide +kernel) rfl hd ⟨rfl, rfl⟩ kk
theorem rf_isParted (C : gC p R s m args c D cl tys A (wR ad cI ci) nL cc RX9 tR Z) (hci : cl[ci]? = some (RX9, TX9, 23)) (hd : decode cc pc = .ok (.getfield 271, 3)) (kk : gG p l e R s m args below meth c Q D cl A (wR ad cI ci) nL (pc + 3) lv (iv (M 0 18) :: st) M) : gG p l e R s m args below meth c Q D cl A (wR ad cI ci) nL pc lv (.ref (ad 0) :: st) M :=
  g_getf C (o := 0) (k := 18) (T := TX9) rfl (by decide) hci (by decide) tR_f wi_283 rfl hd rfl kk
theorem rp_isParted (C : gC p R s m args c D cl tys A (wR ad cI ci) nL cc RX9 tR Z) (hci : cl[ci]? = some (RX9, TX9, 23)) {x : Int} (hd : decode cc pc = .ok (.putfield 271, 3)) (hn : narrow .boolean (iv x) = iv x ∧ fits .boolean (iv x) = true) (kk : gG p l e R s m args below meth c Q D cl A (wR ad cI ci) nL (pc + 3) lv st (wr M 0 18 x)) : gG p l e R s m args below meth c Q D cl A (wR ad cI ci) nL pc lv (iv x :: .ref (ad 0) :: st) M :=
  g_putf C (o := 0) (k := 18) (T := TX9) (ty := .boolean) rfl (by decide) hci (by decide) tR_f tyX9 tyX9_ok nmX9 wi_283 rfl rfl (by decide +kernel) rfl hd hn kk
theorem rf_bits (C : gC p R s m args c D cl tys A (wR ad cI ci) nL cc RX9 tR Z) (hci : cl[ci]? = some (RX9, TX9, 23)) (hd : decode cc pc = .ok (.getfield 40, 3)) (kk : gG p l e R s m args below meth c Q D cl A (wR ad cI ci) nL (pc + 3) lv (.ref (ad 11) :: st) M) : gG p l e R s m args below meth c Q D cl A (wR ad cI ci) nL pc lv (.ref (ad 0) :: st) M :=
  g_getf C (o := 0) (k := 19) (T := TX9) rfl (by decide) hci (by decide) tR_f wi_14 rfl hd rfl kk
theorem rf_sizes (C : gC p R s m args c D cl tys A (wR ad cI ci) nL cc RX9 tR Z) (hci : cl[ci]? = some (RX9, TX9, 23)) (hd : decode cc pc = .ok (.getfield 43, 3)) (kk : gG p l e R s m args below meth c Q D cl A (wR ad cI ci) nL (pc + 3) lv (.ref (ad 12) :: st) M) : gG p l e R s m args below meth c Q D cl A (wR ad cI ci) nL pc lv (.ref (ad 0) :: st) M :=
  g_getf C (o := 0) (k := 20) (T := TX9) rfl (by decide) hci (by decide) tR_f wi_15 rfl hd rfl kk
theorem rf_number (C : gC p R s m args c D cl tys A (wR ad cI ci) nL cc RX9 tR Z) (hci : cl[ci]? = some (RX9, TX9, 23)) (hd : decode cc pc = .ok (.getfield 46, 3)) (kk : gG p l e R s m args below meth c Q D cl A (wR ad cI ci) nL (pc + 3) lv (.ref (ad 13) :: st) M) : gG p l e R s m args below meth c Q D cl A (wR ad cI ci) nL pc lv (.ref (ad 0) :: st) M :=
  g_getf C (o := 0) (k := 21) (T := TX9) rfl (by decide) hci (by decide) tR_f wi_16 rfl hd rfl kk
theorem rf_aside (C : gC p R s m args c D cl tys A (wR ad cI ci) nL cc RX9 tR Z) (hci : cl[ci]? = some (RX9, TX9, 23)) (hd : decode cc pc = .ok (.getfield 49, 3)) (kk : gG p l e R s m args below meth c Q D cl A (wR ad cI ci) nL (pc + 3) lv (.ref (ad 14) :: st) M) : gG p l e R s m args below meth c Q D cl A (wR ad cI ci) nL pc lv (.ref (ad 0) :: st) M :=
  g_getf C (o := 0) (k := 22) (T := TX9) rfl (by decide) hci (by decide) tR_f wi_17 rfl hd rfl kk
end RF
theorem gd_above : GoodIn tR (va_wsS RX9 253 yX9_above (Cond.code yX9_above cX9_above 1 (some .int) :: tR)) := gS_good tR_good wi_263 wi_264 wi_26 wi_256
theorem gd_addPaper : GoodIn tR (wsV RX9 208 yX9_addPaper.cls yX9_addPaper (Cond.code yX9_addPaper cX9_addPaper 5 none :: tR)) := gV_good tR_good wi_203 wi_204 wi_205 wi_26 wi_199
theorem gd_addThing : GoodIn tR (wsV RX9 66 yX9_addThing.cls yX9_addThing (Cond.code yX9_addThing cX9_addThing 4 (some .int) :: tR)) := gV_good tR_good wi_39 wi_40 wi_41 wi_26 wi_33
theorem gd_after : GoodIn tR (wsV RX9 220 yX9_after.cls yX9_after (Cond.code yX9_after cX9_after 5 (some .int) :: tR)) := gV_good tR_good wi_222 wi_223 wi_224 wi_26 wi_218
theorem gd_allGrams : GoodIn tR (wsV RX9 114 yX9_allGrams.cls yX9_allGrams (Cond.code yX9_allGrams cX9_allGrams 3 (some .int) :: tR)) := gV_good tR_good wi_110 wi_111 wi_112 wi_26 wi_106
theorem gd_allPapers : GoodIn tR (wsV RX9 211 yX9_allPapers.cls yX9_allPapers (Cond.code yX9_allPapers cX9_allPapers 1 (some .int) :: tR)) := gV_good tR_good wi_210 wi_211 wi_212 wi_26 wi_209
theorem gd_begins : GoodIn tR (wsV RX9 250 yX9_begins.cls yX9_begins (Cond.code yX9_begins cX9_begins 2 none :: tR)) := gV_good tR_good wi_260 wi_261 wi_262 wi_26 wi_255
theorem gd_bitsOf : GoodIn tR (va_wsS RX9 232 yX9_bitsOf (Cond.code yX9_bitsOf cX9_bitsOf 3 (some .int) :: tR)) := gS_good tR_good wi_236 wi_237 wi_26 wi_232
theorem gd_both : GoodIn tR (wsV RX9 133 yX9_both.cls yX9_both (Cond.code yX9_both cX9_both 1 (some .boolean) :: tR)) := gV_good tR_good wi_160 wi_161 wi_162 wi_26 wi_163
theorem gd_carry : GoodIn tR (va_wsS RX9 117 yX9_carry (Cond.code yX9_carry cX9_carry 3 none :: tR)) := gS_good tR_good wi_114 wi_115 wi_26 wi_23
theorem gd_compared : GoodIn tR (wsV RX9 144 yX9_compared.cls yX9_compared (Cond.code yX9_compared cX9_compared 2 (some .boolean) :: tR)) := gV_good tR_good wi_128 wi_129 wi_130 wi_26 wi_137
theorem gd_counts : GoodIn tR (wsV RX9 193 yX9_counts.cls yX9_counts (Cond.code yX9_counts cX9_counts 3 (some .int) :: tR)) := gV_good tR_good wi_181 wi_182 wi_183 wi_26 wi_175
theorem gd_countsBelow : GoodIn tR (wsV RX9 196 yX9_countsBelow.cls yX9_countsBelow (Cond.code yX9_countsBelow cX9_countsBelow 5 (some .int) :: tR)) := gV_good tR_good wi_186 wi_187 wi_188 wi_26 wi_185
theorem gd_doesFit : GoodIn tR (wsV RX9 226 yX9_doesFit.cls yX9_doesFit (Cond.code yX9_doesFit cX9_doesFit 6 (some .boolean) :: tR)) := gV_good tR_good wi_228 wi_229 wi_230 wi_26 wi_226
theorem gd_draw : GoodIn tR (wsV RX9 103 yX9_draw.cls yX9_draw (Cond.code yX9_draw cX9_draw 1 (some .int) :: tR)) := gV_good tR_good wi_98 wi_99 wi_100 wi_26 wi_97
theorem gd_error : GoodIn tR (wsV RX9 62 yX9_error.cls yX9_error (Cond.code yX9_error cX9_error 2 (some .int) :: tR)) := gV_good tR_good wi_36 wi_37 wi_38 wi_26 wi_20
theorem gd_findFits : GoodIn tR (wsV RX9 229 yX9_findFits.cls yX9_findFits (Cond.code yX9_findFits cX9_findFits 2 none :: tR)) := gV_good tR_good wi_233 wi_234 wi_235 wi_26 wi_231
theorem gd_go : GoodIn tR (wsV RX9 110 yX9_go.cls yX9_go (Cond.code yX9_go cX9_go 3 none :: tR)) := gV_good tR_good wi_107 wi_108 wi_109 wi_26 wi_105
theorem gd_goesBy : GoodIn tR (wsV RX9 214 yX9_goesBy.cls yX9_goesBy (Cond.code yX9_goesBy cX9_goesBy 3 none :: tR)) := gV_good tR_good wi_215 wi_216 wi_217 wi_26 wi_214
theorem gd_hasText : GoodIn tR (wsV RX9 168 yX9_hasText.cls yX9_hasText (Cond.code yX9_hasText cX9_hasText 2 (some .boolean) :: tR)) := gV_good tR_good wi_58 wi_59 wi_60 wi_26 wi_50
theorem gd_haveGrams : GoodIn tR (wsV RX9 238 yX9_haveGrams.cls yX9_haveGrams (Cond.code yX9_haveGrams cX9_haveGrams 4 (some .boolean) :: tR)) := gV_good tR_good wi_247 wi_248 wi_249 wi_26 wi_246
theorem gd_heap : GoodIn tR (wsV RX9 235 yX9_heap.cls yX9_heap (Cond.code yX9_heap cX9_heap 6 (some .int) :: tR)) := gV_good tR_good wi_241 wi_242 wi_243 wi_26 wi_240
theorem gd_held : GoodIn tR (va_wsS RX9 92 yX9_held (Cond.code yX9_held cX9_held 3 (some .int) :: tR)) := gS_good tR_good wi_61 wi_62 wi_26 wi_22
theorem gd_in : GoodIn tR (va_wsS RX9 53 yX9_in (Cond.code yX9_in cX9_in 3 (some .boolean) :: tR)) := gS_good tR_good wi_24 wi_25 wi_26 wi_21
theorem gd_isClaim : GoodIn tR (wsV RX9 190 yX9_isClaim.cls yX9_isClaim (Cond.code yX9_isClaim cX9_isClaim 2 (some .boolean) :: tR)) := gV_good tR_good wi_178 wi_179 wi_180 wi_26 wi_166
theorem gd_isHistory : GoodIn tR (wsV RX9 217 yX9_isHistory.cls yX9_isHistory (Cond.code yX9_isHistory cX9_isHistory 2 (some .boolean) :: tR)) := gV_good tR_good wi_219 wi_220 wi_221 wi_26 wi_213
theorem gd_isLaw : GoodIn tR (va_wsS RX9 199 yX9_isLaw (Cond.code yX9_isLaw cX9_isLaw 1 (some .boolean) :: tR)) := gS_good tR_good wi_191 wi_192 wi_26 wi_190
theorem gd_isName : GoodIn tR (wsV RX9 159 yX9_isName.cls yX9_isName (Cond.code yX9_isName cX9_isName 2 (some .boolean) :: tR)) := gV_good tR_good wi_142 wi_143 wi_144 wi_26 wi_123
theorem gd_isPaper : GoodIn tR (wsV RX9 205 yX9_isPaper.cls yX9_isPaper (Cond.code yX9_isPaper cX9_isPaper 4 (some .boolean) :: tR)) := gV_good tR_good wi_200 wi_201 wi_202 wi_26 wi_198
theorem gd_isSheet : GoodIn tR (va_wsS RX9 278 yX9_isSheet (Cond.code yX9_isSheet cX9_isSheet 1 (some .boolean) :: tR)) := gS_good tR_good wi_291 wi_292 wi_26 wi_290
theorem gd_isThing : GoodIn tR (wsV RX9 77 yX9_isThing.cls yX9_isThing (Cond.code yX9_isThing cX9_isThing 2 (some .boolean) :: tR)) := gV_good tR_good wi_75 wi_76 wi_77 wi_26 wi_27
theorem gd_isUnder : GoodIn tR (va_wsS RX9 84 yX9_isUnder (Cond.code yX9_isUnder cX9_isUnder 2 (some .boolean) :: tR)) := gS_good tR_good wi_83 wi_84 wi_26 wi_82
theorem gd_its : GoodIn tR (wsV RX9 73 yX9_its.cls yX9_its (Cond.code yX9_its cX9_its 3 (some .int) :: tR)) := gV_good tR_good wi_44 wi_45 wi_46 wi_26 wi_28
theorem gd_joined : GoodIn tR (va_wsS RX9 171 yX9_joined (Cond.code yX9_joined cX9_joined 3 (some .int) :: tR)) := gS_good tR_good wi_52 wi_53 wi_26 wi_51
theorem gd_kindNow : GoodIn tR (wsV RX9 259 yX9_kindNow.cls yX9_kindNow (Cond.code yX9_kindNow cX9_kindNow 1 (some .int) :: tR)) := gV_good tR_good wi_269 wi_270 wi_271 wi_26 wi_258
theorem gd_lacks : GoodIn tR (wsV RX9 281 yX9_lacks.cls yX9_lacks (Cond.code yX9_lacks cX9_lacks 2 (some .int) :: tR)) := gV_good tR_good wi_297 wi_298 wi_299 wi_26 wi_296
theorem gd_lays : GoodIn tR (wsV RX9 140 yX9_lays.cls yX9_lays (Cond.code yX9_lays cX9_lays 3 none :: tR)) := gV_good tR_good wi_134 wi_135 wi_136 wi_26 wi_125
theorem gd_lays1 : GoodIn tR (wsV RX9 57 yX9_lays1.cls yX9_lays1 (Cond.code yX9_lays1 cX9_lays1 4 none :: tR)) := gV_good tR_good wi_30 wi_31 wi_32 wi_26 wi_29
theorem gd_look : GoodIn tR (wsV RX9 137 yX9_look.cls yX9_look (Cond.code yX9_look cX9_look 1 (some .int) :: tR)) := gV_good tR_good wi_131 wi_132 wi_133 wi_26 wi_121
theorem gd_mNow : GoodIn tR (wsV RX9 265 yX9_mNow.cls yX9_mNow (Cond.code yX9_mNow cX9_mNow 1 (some .int) :: tR)) := gV_good tR_good wi_275 wi_276 wi_277 wi_26 wi_259
theorem gd_manyOn : GoodIn tR (wsV RX9 186 yX9_manyOn.cls yX9_manyOn (Cond.code yX9_manyOn cX9_manyOn 4 (some .int) :: tR)) := gV_good tR_good wi_172 wi_173 wi_174 wi_26 wi_171
theorem gd_meltsBy : GoodIn tR (wsV RX9 268 yX9_meltsBy.cls yX9_meltsBy (Cond.code yX9_meltsBy cX9_meltsBy 3 (some .int) :: tR)) := gV_good tR_good wi_279 wi_280 wi_281 wi_26 wi_282
theorem gd_moves : GoodIn tR (wsV RX9 96 yX9_moves.cls yX9_moves (Cond.code yX9_moves cX9_moves 11 none :: tR)) := gV_good tR_good wi_90 wi_91 wi_92 wi_26 wi_89
theorem gd_of : GoodIn tR (wsV RX9 183 yX9_of.cls yX9_of (Cond.code yX9_of cX9_of 3 (some .int) :: tR)) := gV_good tR_good wi_168 wi_169 wi_170 wi_26 wi_167
theorem gd_one : GoodIn tR (wsV RX9 153 yX9_one.cls yX9_one (Cond.code yX9_one cX9_one 4 (some .boolean) :: tR)) := gV_good tR_good wi_148 wi_149 wi_150 wi_26 wi_141
theorem gd_opens : GoodIn tR (wsV RX9 162 yX9_opens.cls yX9_opens (Cond.code yX9_opens cX9_opens 1 (some .boolean) :: tR)) := gV_good tR_good wi_145 wi_146 wi_147 wi_26 wi_127
theorem gd_partOf : GoodIn tR (va_wsS RX9 99 yX9_partOf (Cond.code yX9_partOf cX9_partOf 3 (some .int) :: tR)) := gS_good tR_good wi_47 wi_48 wi_26 wi_43
theorem gd_partsBy : GoodIn tR (wsV RX9 275 yX9_partsBy.cls yX9_partsBy (Cond.code yX9_partsBy cX9_partsBy 5 (some .int) :: tR)) := gV_good tR_good wi_284 wi_285 wi_286 wi_26 wi_287
theorem gd_product : GoodIn tR (wsV RX9 150 yX9_product.cls yX9_product (Cond.code yX9_product cX9_product 2 (some .boolean) :: tR)) := gV_good tR_good wi_156 wi_157 wi_158 wi_26 wi_154
theorem gd_rings : GoodIn tR (wsV RX9 180 yX9_rings.cls yX9_rings (Cond.code yX9_rings cX9_rings 3 (some .int) :: tR)) := gV_good tR_good wi_67 wi_68 wi_69 wi_26 wi_66
theorem gd_ringsBy : GoodIn tR (wsV RX9 256 yX9_ringsBy.cls yX9_ringsBy (Cond.code yX9_ringsBy cX9_ringsBy 3 (some .int) :: tR)) := gV_good tR_good wi_265 wi_266 wi_267 wi_26 wi_268
theorem gd_shareOf : GoodIn tR (wsV RX9 202 yX9_shareOf.cls yX9_shareOf (Cond.code yX9_shareOf cX9_shareOf 7 (some .int) :: tR)) := gV_good tR_good wi_193 wi_194 wi_195 wi_26 wi_189
theorem gd_sum : GoodIn tR (wsV RX9 147 yX9_sum.cls yX9_sum (Cond.code yX9_sum cX9_sum 2 (some .boolean) :: tR)) := gV_good tR_good wi_138 wi_139 wi_140 wi_26 wi_155
theorem gd_thousandths : GoodIn tR (wsV RX9 174 yX9_thousandths.cls yX9_thousandths (Cond.code yX9_thousandths cX9_thousandths 2 (some .int) :: tR)) := gV_good tR_good wi_55 wi_56 wi_57 wi_26 wi_49
theorem gd_together : GoodIn tR (wsV RX9 241 yX9_together.cls yX9_together (Cond.code yX9_together cX9_together 8 (some .int) :: tR)) := gV_good tR_good wi_250 wi_251 wi_252 wi_26 wi_245
theorem gd_told1 : GoodIn tR (wsV RX9 81 yX9_told1.cls yX9_told1 (Cond.code yX9_told1 cX9_told1 3 (some .int) :: tR)) := gV_good tR_good wi_78 wi_79 wi_80 wi_26 wi_74
theorem gd_tone : GoodIn tR (wsV RX9 70 yX9_tone.cls yX9_tone (Cond.code yX9_tone cX9_tone 4 (some .int) :: tR)) := gV_good tR_good wi_71 wi_72 wi_73 wi_26 wi_70
theorem gd_weighsBy : GoodIn tR (wsV RX9 262 yX9_weighsBy.cls yX9_weighsBy (Cond.code yX9_weighsBy cX9_weighsBy 3 (some .int) :: tR)) := gV_good tR_good wi_272 wi_273 wi_274 wi_26 wi_278
theorem gd_whole : GoodIn tR (wsV RX9 165 yX9_whole.cls yX9_whole (Cond.code yX9_whole cX9_whole 1 (some .boolean) :: tR)) := gV_good tR_good wi_151 wi_152 wi_153 wi_26 wi_159
theorem gd_worked : GoodIn tR (wsV RX9 177 yX9_worked.cls yX9_worked (Cond.code yX9_worked cX9_worked 7 (some .int) :: tR)) := gV_good tR_good wi_63 wi_64 wi_65 wi_26 wi_54
theorem gd_year : GoodIn tR (wsV RX9 107 yX9_year.cls yX9_year (Cond.code yX9_year cX9_year 3 none :: tR)) := gV_good tR_good wi_102 wi_103 wi_104 wi_26 wi_101
