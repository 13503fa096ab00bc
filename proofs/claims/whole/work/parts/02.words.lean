/-! ===== the words that last, of the tables ===== -/
def gw_tbl : List Cond := lw_tbl.filter goodWord
theorem gw_mem {w : Cond} (h : w ∈ lw_tbl) (g : goodWord w = true) : w ∈ gw_tbl := List.mem_filter.mpr ⟨h, g⟩
theorem gw_at {w : Cond} (i : Nat) (h : tables_1[i]? = some w) (g : goodWord w = true) : w ∈ gw_tbl := gw_mem (List.mem_append_right _ (List.mem_of_getElem? h)) g
theorem gw_sel {w : Cond} (i : Nat) (h : (k2_sels lw_privs)[i]? = some w) (g : goodWord w = true) : w ∈ gw_tbl := gw_mem (List.mem_append_left _ (List.mem_of_getElem? h)) g
theorem gw_lw {w : Cond} (h : w ∈ gw_tbl) : w ∈ lw_tbl := (List.mem_filter.mp h).1
theorem gw_ok {w : Cond} (h : w ∈ gw_tbl) : (w.onTables && w.keeps) = true ∨ ∃ ty, w = .arrayClass ty := good_of_word (List.mem_filter.mp h).2
def nwQ : List (String × Nat × MethodName × String) := [("TermLodgings", 9, ⟨"TermLodgings$Town", "<init>", "()V"⟩, "TermLodgings"), ("TermLodgings$Town", 11, ⟨"TermLodgings$Rooms", "<init>", "()V"⟩, "TermLodgings"), ("TermLodgings$Town", 20, ⟨"TermLodgings$People", "<init>", "()V"⟩, "TermLodgings"), ("TermLodgings$Town", 27, ⟨"TermLodgings$Statute", "<init>", "()V"⟩, "TermLodgings"), ("TermLodgings", 33, ⟨"TermLodgings$Turns", "<init>", "()V"⟩, "TermLodgings"), ("TermLodgings$Rooms", 35, ⟨"TermLodgings", "inBits", "(II)Z"⟩, "TermLodgings"), ("TermLodgings$Statute", 49, ⟨"TermLodgings", "within", "(III)Z"⟩, "TermLodgings"), ("TermLodgings$Turns", 19, ⟨"TermLodgings", "within", "(III)Z"⟩, "TermLodgings"), ("TermLodgings$Dealing", 51, ⟨"TermLodgings", "inBits", "(II)Z"⟩, "TermLodgings"), ("TermLodgings$Dealing", 97, ⟨"TermLodgings", "leastIn", "(I)I"⟩, "TermLodgings"), ("TermLodgings$Trading", 70, ⟨"TermLodgings", "inBits", "(II)Z"⟩, "TermLodgings"), ("TermLodgings$Moving", 96, ⟨"TermLodgings", "inBits", "(II)Z"⟩, "TermLodgings"), ("TermLodgings$Prices", 48, ⟨"TermLodgings", "within", "(III)Z"⟩, "TermLodgings"), ("TermLodgings$Nights", 41, ⟨"TermLodgings", "within", "(III)Z"⟩, "TermLodgings")]
theorem nwQ_in : ∀ q ∈ nwQ, Cond.methodLinkNest q.1 q.2.1 q.2.2.1 q.2.2.2 ∈ tables_1 := by
  intro q hq
  simp only [nwQ, List.mem_cons, List.not_mem_nil, or_false] at hq
  rcases hq with rfl | rfl | rfl | rfl | rfl | rfl | rfl | rfl | rfl | rfl | rfl | rfl | rfl | rfl
  · exact List.mem_of_getElem? (i := 26) (by decide +kernel)
  · exact List.mem_of_getElem? (i := 32) (by decide +kernel)
  · exact List.mem_of_getElem? (i := 74) (by decide +kernel)
  · exact List.mem_of_getElem? (i := 122) (by decide +kernel)
  · exact List.mem_of_getElem? (i := 179) (by decide +kernel)
  · exact List.mem_of_getElem? (i := 450) (by decide +kernel)
  · exact List.mem_of_getElem? (i := 495) (by decide +kernel)
  · exact List.mem_of_getElem? (i := 547) (by decide +kernel)
  · exact List.mem_of_getElem? (i := 577) (by decide +kernel)
  · exact List.mem_of_getElem? (i := 614) (by decide +kernel)
  · exact List.mem_of_getElem? (i := 653) (by decide +kernel)
  · exact List.mem_of_getElem? (i := 725) (by decide +kernel)
  · exact List.mem_of_getElem? (i := 768) (by decide +kernel)
  · exact List.mem_of_getElem? (i := 793) (by decide +kernel)
theorem wt_0 : Jvm.Cond.initialized "TermLodgingsLaw" ∈ gw_tbl := gw_at 0 (by decide +kernel) (by decide +kernel)
theorem wt_1 : Jvm.Cond.initialized "TermLodgings" ∈ gw_tbl := gw_at 1 (by decide +kernel) (by decide +kernel)
theorem wt_2 : Jvm.Cond.initialized "TermLodgings$Town" ∈ gw_tbl := gw_at 2 (by decide +kernel) (by decide +kernel)
theorem wt_3 : Jvm.Cond.initialized "TermLodgings$Rooms" ∈ gw_tbl := gw_at 3 (by decide +kernel) (by decide +kernel)
theorem wt_4 : Jvm.Cond.initialized "TermLodgings$People" ∈ gw_tbl := gw_at 4 (by decide +kernel) (by decide +kernel)
theorem wt_5 : Jvm.Cond.initialized "TermLodgings$Statute" ∈ gw_tbl := gw_at 5 (by decide +kernel) (by decide +kernel)
theorem wt_6 : Jvm.Cond.initialized "TermLodgings$Turns" ∈ gw_tbl := gw_at 6 (by decide +kernel) (by decide +kernel)
theorem wt_7 : Jvm.Cond.initialized "TermLodgings$Dealing" ∈ gw_tbl := gw_at 7 (by decide +kernel) (by decide +kernel)
theorem wt_8 : Jvm.Cond.initialized "TermLodgings$Trading" ∈ gw_tbl := gw_at 8 (by decide +kernel) (by decide +kernel)
theorem wt_9 : Jvm.Cond.initialized "TermLodgings$Moving" ∈ gw_tbl := gw_at 9 (by decide +kernel) (by decide +kernel)
theorem wt_10 : Jvm.Cond.initialized "TermLodgings$Nights" ∈ gw_tbl := gw_at 10 (by decide +kernel) (by decide +kernel)
theorem wt_11 : Jvm.Cond.initialized "java/util/Arrays" ∈ gw_tbl := gw_at 11 (by decide +kernel) (by decide +kernel)
theorem wt_12 : Jvm.Cond.initialized "TermLodgings$Prices" ∈ gw_tbl := gw_at 12 (by decide +kernel) (by decide +kernel)
theorem wt_13 : Jvm.Cond.initialized "TermLodgingsModel" ∈ gw_tbl := gw_at 13 (by decide +kernel) (by decide +kernel)
theorem wt_14 : Jvm.Cond.initialized "java/lang/Integer" ∈ gw_tbl := gw_at 14 (by decide +kernel) (by decide +kernel)
theorem wt_15 : Jvm.Cond.initialized "java/lang/Math" ∈ gw_tbl := gw_at 15 (by decide +kernel) (by decide +kernel)
theorem wt_16 : Jvm.Cond.classLink "TermLodgingsLaw" (7 : Nat) "TermLodgings" ∈ gw_tbl := gw_at 16 (by decide +kernel) (by decide +kernel)
theorem wt_17 : Jvm.Cond.instantiable "TermLodgings" (10 : Nat) ∈ gw_tbl := gw_at 17 (by decide +kernel) (by decide +kernel)
theorem wt_18 : Jvm.Cond.methodLink "TermLodgingsLaw" (9 : Nat) ({ cls := "TermLodgings", name := "<init>", desc := "()V" } : Jvm.MethodName) ∈ gw_tbl := gw_at 18 (by decide +kernel) (by decide +kernel)
theorem wt_19 : Jvm.Cond.instanceMethod ({ cls := "TermLodgings", name := "<init>", desc := "()V" } : Jvm.MethodName) ∈ gw_tbl := gw_at 19 (by decide +kernel) (by decide +kernel)
theorem wt_20 : Jvm.Cond.code ({ cls := "TermLodgings", name := "<init>", desc := "()V" } : Jvm.MethodName) prog_1_method_1_code (2 : Nat) (Option.none : Option Jvm.ClassFile.FieldType) ∈ gw_tbl := gw_at 20 (by decide +kernel) (by decide +kernel)
theorem wt_21 : Jvm.Cond.methodLink "TermLodgings" (1 : Nat) ({ cls := "java/lang/Object", name := "<init>", desc := "()V" } : Jvm.MethodName) ∈ gw_tbl := gw_at 21 (by decide +kernel) (by decide +kernel)
theorem wt_22 : Jvm.Cond.instanceMethod ({ cls := "java/lang/Object", name := "<init>", desc := "()V" } : Jvm.MethodName) ∈ gw_tbl := gw_at 22 (by decide +kernel) (by decide +kernel)
theorem wt_23 : Jvm.Cond.code ({ cls := "java/lang/Object", name := "<init>", desc := "()V" } : Jvm.MethodName) object_method_1_code (1 : Nat) (Option.none : Option Jvm.ClassFile.FieldType) ∈ gw_tbl := gw_at 23 (by decide +kernel) (by decide +kernel)
theorem wt_24 : Jvm.Cond.classLink "TermLodgings" (7 : Nat) "TermLodgings$Town" ∈ gw_tbl := gw_at 24 (by decide +kernel) (by decide +kernel)
theorem wt_25 : Jvm.Cond.instantiable "TermLodgings$Town" (4 : Nat) ∈ gw_tbl := gw_at 25 (by decide +kernel) (by decide +kernel)
theorem wt_27 : Jvm.Cond.instanceMethod ({ cls := "TermLodgings$Town", name := "<init>", desc := "()V" } : Jvm.MethodName) ∈ gw_tbl := gw_at 27 (by decide +kernel) (by decide +kernel)
theorem wt_28 : Jvm.Cond.code ({ cls := "TermLodgings$Town", name := "<init>", desc := "()V" } : Jvm.MethodName) prog_9_method_1_code (1 : Nat) (Option.none : Option Jvm.ClassFile.FieldType) ∈ gw_tbl := gw_at 28 (by decide +kernel) (by decide +kernel)
theorem wt_29 : Jvm.Cond.methodLink "TermLodgings$Town" (3 : Nat) ({ cls := "java/lang/Object", name := "<init>", desc := "()V" } : Jvm.MethodName) ∈ gw_tbl := gw_at 29 (by decide +kernel) (by decide +kernel)
theorem wt_30 : Jvm.Cond.classLink "TermLodgings$Town" (9 : Nat) "TermLodgings$Rooms" ∈ gw_tbl := gw_at 30 (by decide +kernel) (by decide +kernel)
theorem wt_31 : Jvm.Cond.instantiable "TermLodgings$Rooms" (7 : Nat) ∈ gw_tbl := gw_at 31 (by decide +kernel) (by decide +kernel)
theorem wt_33 : Jvm.Cond.instanceMethod ({ cls := "TermLodgings$Rooms", name := "<init>", desc := "()V" } : Jvm.MethodName) ∈ gw_tbl := gw_at 33 (by decide +kernel) (by decide +kernel)
theorem wt_34 : Jvm.Cond.code ({ cls := "TermLodgings$Rooms", name := "<init>", desc := "()V" } : Jvm.MethodName) prog_7_method_1_code (1 : Nat) (Option.none : Option Jvm.ClassFile.FieldType) ∈ gw_tbl := gw_at 34 (by decide +kernel) (by decide +kernel)
theorem wt_35 : Jvm.Cond.methodLink "TermLodgings$Rooms" (3 : Nat) ({ cls := "java/lang/Object", name := "<init>", desc := "()V" } : Jvm.MethodName) ∈ gw_tbl := gw_at 35 (by decide +kernel) (by decide +kernel)
theorem wt_36 : Jvm.Cond.fieldLink "TermLodgings$Rooms" (24 : Nat) "TermLodgings$Rooms" "many" "I" ∈ gw_tbl := gw_at 36 (by decide +kernel) (by decide +kernel)
theorem wt_37 : Jvm.Cond.fieldLink "TermLodgings" (79 : Nat) "TermLodgings$Rooms" "many" "I" ∈ gw_tbl := gw_at 37 (by decide +kernel) (by decide +kernel)
theorem wt_38 : Jvm.Cond.fieldLink "TermLodgings$Town" (64 : Nat) "TermLodgings$Rooms" "many" "I" ∈ gw_tbl := gw_at 38 (by decide +kernel) (by decide +kernel)
theorem wt_39 : Jvm.Cond.fieldLink "TermLodgings$Moving" (95 : Nat) "TermLodgings$Rooms" "many" "I" ∈ gw_tbl := gw_at 39 (by decide +kernel) (by decide +kernel)
theorem wt_40 : Jvm.Cond.fieldLink "TermLodgings$Moving" (46 : Nat) "TermLodgings$Rooms" "struck" "I" ∈ gw_tbl := gw_at 40 (by decide +kernel) (by decide +kernel)
theorem wt_41 : Jvm.Cond.fieldLink "TermLodgings$Rooms" (32 : Nat) "TermLodgings$Rooms" "struck" "I" ∈ gw_tbl := gw_at 41 (by decide +kernel) (by decide +kernel)
theorem wt_42 : Jvm.Cond.fieldLink "TermLodgings" (216 : Nat) "TermLodgings$Rooms" "struck" "I" ∈ gw_tbl := gw_at 42 (by decide +kernel) (by decide +kernel)
theorem wt_43 : Jvm.Cond.fieldLink "TermLodgings$Town" (69 : Nat) "TermLodgings$Rooms" "taken" "I" ∈ gw_tbl := gw_at 43 (by decide +kernel) (by decide +kernel)
theorem wt_44 : Jvm.Cond.fieldLink "TermLodgings$Rooms" (9 : Nat) "TermLodgings$Rooms" "house" "[I" ∈ gw_tbl := gw_at 44 (by decide +kernel) (by decide +kernel)
theorem wt_45 : Jvm.Cond.fieldLink "TermLodgings$Town" (41 : Nat) "TermLodgings$Rooms" "house" "[I" ∈ gw_tbl := gw_at 45 (by decide +kernel) (by decide +kernel)
theorem wt_46 : Jvm.Cond.fieldLink "TermLodgings" (137 : Nat) "TermLodgings$Rooms" "house" "[I" ∈ gw_tbl := gw_at 46 (by decide +kernel) (by decide +kernel)
theorem wt_47 : Jvm.Cond.fieldLink "TermLodgings$Rooms" (15 : Nat) "TermLodgings$Rooms" "miles" "[I" ∈ gw_tbl := gw_at 47 (by decide +kernel) (by decide +kernel)
theorem wt_48 : Jvm.Cond.fieldLink "TermLodgings$Town" (50 : Nat) "TermLodgings$Rooms" "miles" "[I" ∈ gw_tbl := gw_at 48 (by decide +kernel) (by decide +kernel)
theorem wt_49 : Jvm.Cond.fieldLink "TermLodgings" (140 : Nat) "TermLodgings$Rooms" "miles" "[I" ∈ gw_tbl := gw_at 49 (by decide +kernel) (by decide +kernel)
theorem wt_50 : Jvm.Cond.fieldLink "TermLodgings$Rooms" (18 : Nat) "TermLodgings$Rooms" "sort" "[I" ∈ gw_tbl := gw_at 50 (by decide +kernel) (by decide +kernel)
theorem wt_51 : Jvm.Cond.fieldLink "TermLodgings$Town" (53 : Nat) "TermLodgings$Rooms" "sort" "[I" ∈ gw_tbl := gw_at 51 (by decide +kernel) (by decide +kernel)
theorem wt_52 : Jvm.Cond.fieldLink "TermLodgings" (143 : Nat) "TermLodgings$Rooms" "sort" "[I" ∈ gw_tbl := gw_at 52 (by decide +kernel) (by decide +kernel)
theorem wt_53 : Jvm.Cond.fieldLink "TermLodgings$Rooms" (21 : Nat) "TermLodgings$Rooms" "holder" "[I" ∈ gw_tbl := gw_at 53 (by decide +kernel) (by decide +kernel)
theorem wt_54 : Jvm.Cond.fieldLink "TermLodgings$Town" (75 : Nat) "TermLodgings$Rooms" "holder" "[I" ∈ gw_tbl := gw_at 54 (by decide +kernel) (by decide +kernel)
theorem wt_55 : Jvm.Cond.fieldLink "TermLodgings" (146 : Nat) "TermLodgings$Rooms" "holder" "[I" ∈ gw_tbl := gw_at 55 (by decide +kernel) (by decide +kernel)
theorem wt_56 : Jvm.Cond.lays "TermLodgings$Rooms" "TermLodgings$Rooms" "many" "I" ∈ gw_tbl := gw_at 56 (by decide +kernel) (by decide +kernel)
theorem wt_58 : Jvm.Cond.lays "TermLodgings$Rooms" "TermLodgings$Rooms" "struck" "I" ∈ gw_tbl := gw_at 58 (by decide +kernel) (by decide +kernel)
theorem wt_60 : Jvm.Cond.lays "TermLodgings$Rooms" "TermLodgings$Rooms" "taken" "I" ∈ gw_tbl := gw_at 60 (by decide +kernel) (by decide +kernel)
theorem wt_62 : Jvm.Cond.laysFinal "TermLodgings$Rooms" "TermLodgings$Rooms" "house" "[I" ∈ gw_tbl := gw_at 62 (by decide +kernel) (by decide +kernel)
theorem wt_64 : Jvm.Cond.laysFinal "TermLodgings$Rooms" "TermLodgings$Rooms" "miles" "[I" ∈ gw_tbl := gw_at 64 (by decide +kernel) (by decide +kernel)
theorem wt_66 : Jvm.Cond.laysFinal "TermLodgings$Rooms" "TermLodgings$Rooms" "sort" "[I" ∈ gw_tbl := gw_at 66 (by decide +kernel) (by decide +kernel)
theorem wt_68 : Jvm.Cond.laysFinal "TermLodgings$Rooms" "TermLodgings$Rooms" "holder" "[I" ∈ gw_tbl := gw_at 68 (by decide +kernel) (by decide +kernel)
theorem wt_71 : Jvm.Cond.arrayClass Jvm.ClassFile.FieldType.int ∈ gw_tbl := gw_at 71 (by decide +kernel) (by decide +kernel)
theorem wt_72 : Jvm.Cond.classLink "TermLodgings$Town" (18 : Nat) "TermLodgings$People" ∈ gw_tbl := gw_at 72 (by decide +kernel) (by decide +kernel)
theorem wt_73 : Jvm.Cond.instantiable "TermLodgings$People" (8 : Nat) ∈ gw_tbl := gw_at 73 (by decide +kernel) (by decide +kernel)
theorem wt_75 : Jvm.Cond.instanceMethod ({ cls := "TermLodgings$People", name := "<init>", desc := "()V" } : Jvm.MethodName) ∈ gw_tbl := gw_at 75 (by decide +kernel) (by decide +kernel)
theorem wt_76 : Jvm.Cond.code ({ cls := "TermLodgings$People", name := "<init>", desc := "()V" } : Jvm.MethodName) prog_5_method_1_code (1 : Nat) (Option.none : Option Jvm.ClassFile.FieldType) ∈ gw_tbl := gw_at 76 (by decide +kernel) (by decide +kernel)
theorem wt_77 : Jvm.Cond.methodLink "TermLodgings$People" (3 : Nat) ({ cls := "java/lang/Object", name := "<init>", desc := "()V" } : Jvm.MethodName) ∈ gw_tbl := gw_at 77 (by decide +kernel) (by decide +kernel)
theorem wt_78 : Jvm.Cond.fieldLink "TermLodgings$People" (34 : Nat) "TermLodgings$People" "many" "I" ∈ gw_tbl := gw_at 78 (by decide +kernel) (by decide +kernel)
theorem wt_79 : Jvm.Cond.fieldLink "TermLodgings$Dealing" (34 : Nat) "TermLodgings$People" "many" "I" ∈ gw_tbl := gw_at 79 (by decide +kernel) (by decide +kernel)
theorem wt_80 : Jvm.Cond.fieldLink "TermLodgings$Nights" (25 : Nat) "TermLodgings$People" "many" "I" ∈ gw_tbl := gw_at 80 (by decide +kernel) (by decide +kernel)
theorem wt_81 : Jvm.Cond.fieldLink "TermLodgings$Town" (60 : Nat) "TermLodgings$People" "many" "I" ∈ gw_tbl := gw_at 81 (by decide +kernel) (by decide +kernel)
theorem wt_82 : Jvm.Cond.fieldLink "TermLodgings$Trading" (59 : Nat) "TermLodgings$People" "many" "I" ∈ gw_tbl := gw_at 82 (by decide +kernel) (by decide +kernel)
theorem wt_83 : Jvm.Cond.fieldLink "TermLodgings$Moving" (73 : Nat) "TermLodgings$People" "many" "I" ∈ gw_tbl := gw_at 83 (by decide +kernel) (by decide +kernel)
theorem wt_84 : Jvm.Cond.fieldLink "TermLodgings" (89 : Nat) "TermLodgings$People" "many" "I" ∈ gw_tbl := gw_at 84 (by decide +kernel) (by decide +kernel)
theorem wt_85 : Jvm.Cond.fieldLink "TermLodgings$People" (9 : Nat) "TermLodgings$People" "year" "[I" ∈ gw_tbl := gw_at 85 (by decide +kernel) (by decide +kernel)
theorem wt_86 : Jvm.Cond.fieldLink "TermLodgings$Town" (47 : Nat) "TermLodgings$People" "year" "[I" ∈ gw_tbl := gw_at 86 (by decide +kernel) (by decide +kernel)
theorem wt_87 : Jvm.Cond.fieldLink "TermLodgings" (115 : Nat) "TermLodgings$People" "year" "[I" ∈ gw_tbl := gw_at 87 (by decide +kernel) (by decide +kernel)
theorem wt_88 : Jvm.Cond.fieldLink "TermLodgings$People" (15 : Nat) "TermLodgings$People" "group" "[I" ∈ gw_tbl := gw_at 88 (by decide +kernel) (by decide +kernel)
theorem wt_89 : Jvm.Cond.fieldLink "TermLodgings" (118 : Nat) "TermLodgings$People" "group" "[I" ∈ gw_tbl := gw_at 89 (by decide +kernel) (by decide +kernel)
theorem wt_90 : Jvm.Cond.fieldLink "TermLodgings$People" (18 : Nat) "TermLodgings$People" "wished" "[I" ∈ gw_tbl := gw_at 90 (by decide +kernel) (by decide +kernel)
theorem wt_91 : Jvm.Cond.fieldLink "TermLodgings" (108 : Nat) "TermLodgings$People" "wished" "[I" ∈ gw_tbl := gw_at 91 (by decide +kernel) (by decide +kernel)
theorem wt_92 : Jvm.Cond.fieldLink "TermLodgings$People" (21 : Nat) "TermLodgings$People" "wishes" "[I" ∈ gw_tbl := gw_at 92 (by decide +kernel) (by decide +kernel)
theorem wt_93 : Jvm.Cond.fieldLink "TermLodgings$People" (24 : Nat) "TermLodgings$People" "lodging" "[I" ∈ gw_tbl := gw_at 93 (by decide +kernel) (by decide +kernel)
theorem wt_94 : Jvm.Cond.fieldLink "TermLodgings$Town" (72 : Nat) "TermLodgings$People" "lodging" "[I" ∈ gw_tbl := gw_at 94 (by decide +kernel) (by decide +kernel)
theorem wt_95 : Jvm.Cond.fieldLink "TermLodgings" (121 : Nat) "TermLodgings$People" "lodging" "[I" ∈ gw_tbl := gw_at 95 (by decide +kernel) (by decide +kernel)
theorem wt_96 : Jvm.Cond.fieldLink "TermLodgings$People" (27 : Nat) "TermLodgings$People" "kept" "[I" ∈ gw_tbl := gw_at 96 (by decide +kernel) (by decide +kernel)
theorem wt_97 : Jvm.Cond.fieldLink "TermLodgings$Nights" (38 : Nat) "TermLodgings$People" "kept" "[I" ∈ gw_tbl := gw_at 97 (by decide +kernel) (by decide +kernel)
theorem wt_98 : Jvm.Cond.fieldLink "TermLodgings" (128 : Nat) "TermLodgings$People" "kept" "[I" ∈ gw_tbl := gw_at 98 (by decide +kernel) (by decide +kernel)
theorem wt_99 : Jvm.Cond.fieldLink "TermLodgings$People" (30 : Nat) "TermLodgings$People" "gone" "[Z" ∈ gw_tbl := gw_at 99 (by decide +kernel) (by decide +kernel)
theorem wt_100 : Jvm.Cond.fieldLink "TermLodgings$Nights" (34 : Nat) "TermLodgings$People" "gone" "[Z" ∈ gw_tbl := gw_at 100 (by decide +kernel) (by decide +kernel)
theorem wt_101 : Jvm.Cond.fieldLink "TermLodgings" (124 : Nat) "TermLodgings$People" "gone" "[Z" ∈ gw_tbl := gw_at 101 (by decide +kernel) (by decide +kernel)
theorem wt_102 : Jvm.Cond.lays "TermLodgings$People" "TermLodgings$People" "many" "I" ∈ gw_tbl := gw_at 102 (by decide +kernel) (by decide +kernel)
theorem wt_104 : Jvm.Cond.laysFinal "TermLodgings$People" "TermLodgings$People" "year" "[I" ∈ gw_tbl := gw_at 104 (by decide +kernel) (by decide +kernel)
theorem wt_106 : Jvm.Cond.laysFinal "TermLodgings$People" "TermLodgings$People" "group" "[I" ∈ gw_tbl := gw_at 106 (by decide +kernel) (by decide +kernel)
theorem wt_108 : Jvm.Cond.laysFinal "TermLodgings$People" "TermLodgings$People" "wished" "[I" ∈ gw_tbl := gw_at 108 (by decide +kernel) (by decide +kernel)
theorem wt_110 : Jvm.Cond.laysFinal "TermLodgings$People" "TermLodgings$People" "wishes" "[I" ∈ gw_tbl := gw_at 110 (by decide +kernel) (by decide +kernel)
theorem wt_112 : Jvm.Cond.laysFinal "TermLodgings$People" "TermLodgings$People" "lodging" "[I" ∈ gw_tbl := gw_at 112 (by decide +kernel) (by decide +kernel)
theorem wt_114 : Jvm.Cond.laysFinal "TermLodgings$People" "TermLodgings$People" "kept" "[I" ∈ gw_tbl := gw_at 114 (by decide +kernel) (by decide +kernel)
theorem wt_116 : Jvm.Cond.laysFinal "TermLodgings$People" "TermLodgings$People" "gone" "[Z" ∈ gw_tbl := gw_at 116 (by decide +kernel) (by decide +kernel)
theorem wt_119 : Jvm.Cond.arrayClass Jvm.ClassFile.FieldType.boolean ∈ gw_tbl := gw_at 119 (by decide +kernel) (by decide +kernel)
theorem wt_120 : Jvm.Cond.classLink "TermLodgings$Town" (25 : Nat) "TermLodgings$Statute" ∈ gw_tbl := gw_at 120 (by decide +kernel) (by decide +kernel)
theorem wt_121 : Jvm.Cond.instantiable "TermLodgings$Statute" (9 : Nat) ∈ gw_tbl := gw_at 121 (by decide +kernel) (by decide +kernel)
theorem wt_123 : Jvm.Cond.instanceMethod ({ cls := "TermLodgings$Statute", name := "<init>", desc := "()V" } : Jvm.MethodName) ∈ gw_tbl := gw_at 123 (by decide +kernel) (by decide +kernel)
theorem wt_124 : Jvm.Cond.code ({ cls := "TermLodgings$Statute", name := "<init>", desc := "()V" } : Jvm.MethodName) prog_8_method_1_code (1 : Nat) (Option.none : Option Jvm.ClassFile.FieldType) ∈ gw_tbl := gw_at 124 (by decide +kernel) (by decide +kernel)
theorem wt_125 : Jvm.Cond.methodLink "TermLodgings$Statute" (3 : Nat) ({ cls := "java/lang/Object", name := "<init>", desc := "()V" } : Jvm.MethodName) ∈ gw_tbl := gw_at 125 (by decide +kernel) (by decide +kernel)
theorem wt_126 : Jvm.Cond.fieldLink "TermLodgings$Statute" (36 : Nat) "TermLodgings$Statute" "bytes" "I" ∈ gw_tbl := gw_at 126 (by decide +kernel) (by decide +kernel)
theorem wt_127 : Jvm.Cond.fieldLink "TermLodgings" (166 : Nat) "TermLodgings$Statute" "bytes" "I" ∈ gw_tbl := gw_at 127 (by decide +kernel) (by decide +kernel)
theorem wt_128 : Jvm.Cond.fieldLink "TermLodgings$Statute" (39 : Nat) "TermLodgings$Statute" "tests" "I" ∈ gw_tbl := gw_at 128 (by decide +kernel) (by decide +kernel)
theorem wt_129 : Jvm.Cond.fieldLink "TermLodgings$Statute" (11 : Nat) "TermLodgings$Statute" "awaited" "I" ∈ gw_tbl := gw_at 129 (by decide +kernel) (by decide +kernel)
theorem wt_130 : Jvm.Cond.fieldLink "TermLodgings$Statute" (15 : Nat) "TermLodgings$Statute" "broken" "I" ∈ gw_tbl := gw_at 130 (by decide +kernel) (by decide +kernel)
theorem wt_131 : Jvm.Cond.fieldLink "TermLodgings$Statute" (18 : Nat) "TermLodgings$Statute" "caseBegins" "Z" ∈ gw_tbl := gw_at 131 (by decide +kernel) (by decide +kernel)
theorem wt_132 : Jvm.Cond.fieldLink "TermLodgings$Statute" (22 : Nat) "TermLodgings$Statute" "letter" "[I" ∈ gw_tbl := gw_at 132 (by decide +kernel) (by decide +kernel)
theorem wt_133 : Jvm.Cond.fieldLink "TermLodgings$Statute" (26 : Nat) "TermLodgings$Statute" "sign" "[I" ∈ gw_tbl := gw_at 133 (by decide +kernel) (by decide +kernel)
theorem wt_134 : Jvm.Cond.fieldLink "TermLodgings$Statute" (29 : Nat) "TermLodgings$Statute" "number" "[I" ∈ gw_tbl := gw_at 134 (by decide +kernel) (by decide +kernel)
theorem wt_135 : Jvm.Cond.fieldLink "TermLodgings$Statute" (32 : Nat) "TermLodgings$Statute" "beginsCase" "[Z" ∈ gw_tbl := gw_at 135 (by decide +kernel) (by decide +kernel)
theorem wt_136 : Jvm.Cond.lays "TermLodgings$Statute" "TermLodgings$Statute" "bytes" "I" ∈ gw_tbl := gw_at 136 (by decide +kernel) (by decide +kernel)
theorem wt_138 : Jvm.Cond.lays "TermLodgings$Statute" "TermLodgings$Statute" "tests" "I" ∈ gw_tbl := gw_at 138 (by decide +kernel) (by decide +kernel)
theorem wt_140 : Jvm.Cond.lays "TermLodgings$Statute" "TermLodgings$Statute" "awaited" "I" ∈ gw_tbl := gw_at 140 (by decide +kernel) (by decide +kernel)
theorem wt_142 : Jvm.Cond.lays "TermLodgings$Statute" "TermLodgings$Statute" "broken" "I" ∈ gw_tbl := gw_at 142 (by decide +kernel) (by decide +kernel)
theorem wt_144 : Jvm.Cond.lays "TermLodgings$Statute" "TermLodgings$Statute" "caseBegins" "Z" ∈ gw_tbl := gw_at 144 (by decide +kernel) (by decide +kernel)
theorem wt_146 : Jvm.Cond.laysFinal "TermLodgings$Statute" "TermLodgings$Statute" "letter" "[I" ∈ gw_tbl := gw_at 146 (by decide +kernel) (by decide +kernel)
theorem wt_148 : Jvm.Cond.laysFinal "TermLodgings$Statute" "TermLodgings$Statute" "sign" "[I" ∈ gw_tbl := gw_at 148 (by decide +kernel) (by decide +kernel)
theorem wt_150 : Jvm.Cond.laysFinal "TermLodgings$Statute" "TermLodgings$Statute" "number" "[I" ∈ gw_tbl := gw_at 150 (by decide +kernel) (by decide +kernel)
theorem wt_152 : Jvm.Cond.laysFinal "TermLodgings$Statute" "TermLodgings$Statute" "beginsCase" "[Z" ∈ gw_tbl := gw_at 152 (by decide +kernel) (by decide +kernel)
theorem wt_155 : Jvm.Cond.fieldLink "TermLodgings$Town" (12 : Nat) "TermLodgings$Town" "rooms" "LTermLodgings$Rooms;" ∈ gw_tbl := gw_at 155 (by decide +kernel) (by decide +kernel)
theorem wt_156 : Jvm.Cond.fieldLink "TermLodgings" (16 : Nat) "TermLodgings$Town" "rooms" "LTermLodgings$Rooms;" ∈ gw_tbl := gw_at 156 (by decide +kernel) (by decide +kernel)
theorem wt_157 : Jvm.Cond.fieldLink "TermLodgings$Dealing" (26 : Nat) "TermLodgings$Town" "rooms" "LTermLodgings$Rooms;" ∈ gw_tbl := gw_at 157 (by decide +kernel) (by decide +kernel)
theorem wt_158 : Jvm.Cond.fieldLink "TermLodgings$Moving" (41 : Nat) "TermLodgings$Town" "rooms" "LTermLodgings$Rooms;" ∈ gw_tbl := gw_at 158 (by decide +kernel) (by decide +kernel)
theorem wt_159 : Jvm.Cond.fieldLink "TermLodgings$Trading" (84 : Nat) "TermLodgings$Town" "rooms" "LTermLodgings$Rooms;" ∈ gw_tbl := gw_at 159 (by decide +kernel) (by decide +kernel)
theorem wt_160 : Jvm.Cond.fieldLink "TermLodgings$Dealing" (19 : Nat) "TermLodgings$Town" "people" "LTermLodgings$People;" ∈ gw_tbl := gw_at 160 (by decide +kernel) (by decide +kernel)
theorem wt_161 : Jvm.Cond.fieldLink "TermLodgings$Town" (21 : Nat) "TermLodgings$Town" "people" "LTermLodgings$People;" ∈ gw_tbl := gw_at 161 (by decide +kernel) (by decide +kernel)
theorem wt_162 : Jvm.Cond.fieldLink "TermLodgings" (21 : Nat) "TermLodgings$Town" "people" "LTermLodgings$People;" ∈ gw_tbl := gw_at 162 (by decide +kernel) (by decide +kernel)
theorem wt_163 : Jvm.Cond.fieldLink "TermLodgings$Trading" (22 : Nat) "TermLodgings$Town" "people" "LTermLodgings$People;" ∈ gw_tbl := gw_at 163 (by decide +kernel) (by decide +kernel)
theorem wt_164 : Jvm.Cond.fieldLink "TermLodgings$Moving" (34 : Nat) "TermLodgings$Town" "people" "LTermLodgings$People;" ∈ gw_tbl := gw_at 164 (by decide +kernel) (by decide +kernel)
theorem wt_165 : Jvm.Cond.fieldLink "TermLodgings$Town" (28 : Nat) "TermLodgings$Town" "statute" "LTermLodgings$Statute;" ∈ gw_tbl := gw_at 165 (by decide +kernel) (by decide +kernel)
theorem wt_166 : Jvm.Cond.fieldLink "TermLodgings" (26 : Nat) "TermLodgings$Town" "statute" "LTermLodgings$Statute;" ∈ gw_tbl := gw_at 166 (by decide +kernel) (by decide +kernel)
theorem wt_167 : Jvm.Cond.fieldLink "TermLodgings$Town" (32 : Nat) "TermLodgings$Town" "choice" "[I" ∈ gw_tbl := gw_at 167 (by decide +kernel) (by decide +kernel)
theorem wt_168 : Jvm.Cond.laysFinal "TermLodgings$Town" "TermLodgings$Town" "rooms" "LTermLodgings$Rooms;" ∈ gw_tbl := gw_at 168 (by decide +kernel) (by decide +kernel)
theorem wt_170 : Jvm.Cond.laysFinal "TermLodgings$Town" "TermLodgings$Town" "people" "LTermLodgings$People;" ∈ gw_tbl := gw_at 170 (by decide +kernel) (by decide +kernel)
theorem wt_172 : Jvm.Cond.laysFinal "TermLodgings$Town" "TermLodgings$Town" "statute" "LTermLodgings$Statute;" ∈ gw_tbl := gw_at 172 (by decide +kernel) (by decide +kernel)
theorem wt_174 : Jvm.Cond.laysFinal "TermLodgings$Town" "TermLodgings$Town" "choice" "[I" ∈ gw_tbl := gw_at 174 (by decide +kernel) (by decide +kernel)
theorem wt_177 : Jvm.Cond.classLink "TermLodgings" (31 : Nat) "TermLodgings$Turns" ∈ gw_tbl := gw_at 177 (by decide +kernel) (by decide +kernel)
theorem wt_178 : Jvm.Cond.instantiable "TermLodgings$Turns" (2 : Nat) ∈ gw_tbl := gw_at 178 (by decide +kernel) (by decide +kernel)
theorem wt_180 : Jvm.Cond.instanceMethod ({ cls := "TermLodgings$Turns", name := "<init>", desc := "()V" } : Jvm.MethodName) ∈ gw_tbl := gw_at 180 (by decide +kernel) (by decide +kernel)
theorem wt_181 : Jvm.Cond.code ({ cls := "TermLodgings$Turns", name := "<init>", desc := "()V" } : Jvm.MethodName) prog_11_method_1_code (1 : Nat) (Option.none : Option Jvm.ClassFile.FieldType) ∈ gw_tbl := gw_at 181 (by decide +kernel) (by decide +kernel)
theorem wt_182 : Jvm.Cond.methodLink "TermLodgings$Turns" (3 : Nat) ({ cls := "java/lang/Object", name := "<init>", desc := "()V" } : Jvm.MethodName) ∈ gw_tbl := gw_at 182 (by decide +kernel) (by decide +kernel)
theorem wt_183 : Jvm.Cond.fieldLink "TermLodgings$Turns" (15 : Nat) "TermLodgings$Turns" "many" "I" ∈ gw_tbl := gw_at 183 (by decide +kernel) (by decide +kernel)
theorem wt_184 : Jvm.Cond.fieldLink "TermLodgings$Dealing" (44 : Nat) "TermLodgings$Turns" "many" "I" ∈ gw_tbl := gw_at 184 (by decide +kernel) (by decide +kernel)
theorem wt_185 : Jvm.Cond.fieldLink "TermLodgings" (268 : Nat) "TermLodgings$Turns" "many" "I" ∈ gw_tbl := gw_at 185 (by decide +kernel) (by decide +kernel)
theorem wt_186 : Jvm.Cond.fieldLink "TermLodgings$Turns" (9 : Nat) "TermLodgings$Turns" "row" "[I" ∈ gw_tbl := gw_at 186 (by decide +kernel) (by decide +kernel)
theorem wt_187 : Jvm.Cond.lays "TermLodgings$Turns" "TermLodgings$Turns" "many" "I" ∈ gw_tbl := gw_at 187 (by decide +kernel) (by decide +kernel)
theorem wt_189 : Jvm.Cond.laysFinal "TermLodgings$Turns" "TermLodgings$Turns" "row" "[I" ∈ gw_tbl := gw_at 189 (by decide +kernel) (by decide +kernel)
theorem wt_192 : Jvm.Cond.classLink "TermLodgings" (38 : Nat) "TermLodgings$Dealing" ∈ gw_tbl := gw_at 192 (by decide +kernel) (by decide +kernel)
theorem wt_193 : Jvm.Cond.instantiable "TermLodgings$Dealing" (4 : Nat) ∈ gw_tbl := gw_at 193 (by decide +kernel) (by decide +kernel)
theorem wt_194 : Jvm.Cond.methodLink "TermLodgings" (40 : Nat) ({ cls := "TermLodgings$Dealing", name := "<init>", desc := "(LTermLodgings$Town;)V" } : Jvm.MethodName) ∈ gw_tbl := gw_at 194 (by decide +kernel) (by decide +kernel)
theorem wt_195 : Jvm.Cond.instanceMethod ({ cls := "TermLodgings$Dealing", name := "<init>", desc := "(LTermLodgings$Town;)V" } : Jvm.MethodName) ∈ gw_tbl := gw_at 195 (by decide +kernel) (by decide +kernel)
theorem wt_196 : Jvm.Cond.code ({ cls := "TermLodgings$Dealing", name := "<init>", desc := "(LTermLodgings$Town;)V" } : Jvm.MethodName) prog_2_method_1_code (2 : Nat) (Option.none : Option Jvm.ClassFile.FieldType) ∈ gw_tbl := gw_at 196 (by decide +kernel) (by decide +kernel)
theorem wt_197 : Jvm.Cond.methodLink "TermLodgings$Dealing" (3 : Nat) ({ cls := "java/lang/Object", name := "<init>", desc := "()V" } : Jvm.MethodName) ∈ gw_tbl := gw_at 197 (by decide +kernel) (by decide +kernel)
theorem wt_198 : Jvm.Cond.fieldLink "TermLodgings$Dealing" (15 : Nat) "TermLodgings$Dealing" "town" "LTermLodgings$Town;" ∈ gw_tbl := gw_at 198 (by decide +kernel) (by decide +kernel)
theorem wt_199 : Jvm.Cond.fieldLink "TermLodgings$Dealing" (25 : Nat) "TermLodgings$Dealing" "people" "LTermLodgings$People;" ∈ gw_tbl := gw_at 199 (by decide +kernel) (by decide +kernel)
theorem wt_200 : Jvm.Cond.fieldLink "TermLodgings$Dealing" (30 : Nat) "TermLodgings$Dealing" "rooms" "LTermLodgings$Rooms;" ∈ gw_tbl := gw_at 200 (by decide +kernel) (by decide +kernel)
theorem wt_201 : Jvm.Cond.fieldLink "TermLodgings$Dealing" (9 : Nat) "TermLodgings$Dealing" "picks" "[I" ∈ gw_tbl := gw_at 201 (by decide +kernel) (by decide +kernel)
theorem wt_202 : Jvm.Cond.laysFinal "TermLodgings$Dealing" "TermLodgings$Dealing" "town" "LTermLodgings$Town;" ∈ gw_tbl := gw_at 202 (by decide +kernel) (by decide +kernel)
theorem wt_204 : Jvm.Cond.laysFinal "TermLodgings$Dealing" "TermLodgings$Dealing" "people" "LTermLodgings$People;" ∈ gw_tbl := gw_at 204 (by decide +kernel) (by decide +kernel)
theorem wt_206 : Jvm.Cond.laysFinal "TermLodgings$Dealing" "TermLodgings$Dealing" "rooms" "LTermLodgings$Rooms;" ∈ gw_tbl := gw_at 206 (by decide +kernel) (by decide +kernel)
theorem wt_208 : Jvm.Cond.laysFinal "TermLodgings$Dealing" "TermLodgings$Dealing" "picks" "[I" ∈ gw_tbl := gw_at 208 (by decide +kernel) (by decide +kernel)
theorem wt_211 : Jvm.Cond.classLink "TermLodgings" (47 : Nat) "TermLodgings$Trading" ∈ gw_tbl := gw_at 211 (by decide +kernel) (by decide +kernel)
theorem wt_212 : Jvm.Cond.instantiable "TermLodgings$Trading" (8 : Nat) ∈ gw_tbl := gw_at 212 (by decide +kernel) (by decide +kernel)
theorem wt_213 : Jvm.Cond.methodLink "TermLodgings" (49 : Nat) ({ cls := "TermLodgings$Trading", name := "<init>", desc := "(LTermLodgings$Town;)V" } : Jvm.MethodName) ∈ gw_tbl := gw_at 213 (by decide +kernel) (by decide +kernel)
theorem wt_214 : Jvm.Cond.instanceMethod ({ cls := "TermLodgings$Trading", name := "<init>", desc := "(LTermLodgings$Town;)V" } : Jvm.MethodName) ∈ gw_tbl := gw_at 214 (by decide +kernel) (by decide +kernel)
theorem wt_215 : Jvm.Cond.code ({ cls := "TermLodgings$Trading", name := "<init>", desc := "(LTermLodgings$Town;)V" } : Jvm.MethodName) prog_10_method_1_code (2 : Nat) (Option.none : Option Jvm.ClassFile.FieldType) ∈ gw_tbl := gw_at 215 (by decide +kernel) (by decide +kernel)
theorem wt_216 : Jvm.Cond.methodLink "TermLodgings$Trading" (3 : Nat) ({ cls := "java/lang/Object", name := "<init>", desc := "()V" } : Jvm.MethodName) ∈ gw_tbl := gw_at 216 (by decide +kernel) (by decide +kernel)
theorem wt_217 : Jvm.Cond.fieldLink "TermLodgings$Trading" (36 : Nat) "TermLodgings$Trading" "rings" "I" ∈ gw_tbl := gw_at 217 (by decide +kernel) (by decide +kernel)
theorem wt_218 : Jvm.Cond.fieldLink "TermLodgings" (202 : Nat) "TermLodgings$Trading" "rings" "I" ∈ gw_tbl := gw_at 218 (by decide +kernel) (by decide +kernel)
theorem wt_219 : Jvm.Cond.fieldLink "TermLodgings$Trading" (40 : Nat) "TermLodgings$Trading" "longest" "I" ∈ gw_tbl := gw_at 219 (by decide +kernel) (by decide +kernel)
theorem wt_220 : Jvm.Cond.fieldLink "TermLodgings" (205 : Nat) "TermLodgings$Trading" "longest" "I" ∈ gw_tbl := gw_at 220 (by decide +kernel) (by decide +kernel)
theorem wt_221 : Jvm.Cond.fieldLink "TermLodgings$Trading" (43 : Nat) "TermLodgings$Trading" "rounds" "I" ∈ gw_tbl := gw_at 221 (by decide +kernel) (by decide +kernel)
theorem wt_222 : Jvm.Cond.fieldLink "TermLodgings" (208 : Nat) "TermLodgings$Trading" "rounds" "I" ∈ gw_tbl := gw_at 222 (by decide +kernel) (by decide +kernel)
theorem wt_223 : Jvm.Cond.fieldLink "TermLodgings$Trading" (46 : Nat) "TermLodgings$Trading" "left" "I" ∈ gw_tbl := gw_at 223 (by decide +kernel) (by decide +kernel)
theorem wt_224 : Jvm.Cond.fieldLink "TermLodgings$Trading" (18 : Nat) "TermLodgings$Trading" "town" "LTermLodgings$Town;" ∈ gw_tbl := gw_at 224 (by decide +kernel) (by decide +kernel)
theorem wt_225 : Jvm.Cond.fieldLink "TermLodgings$Trading" (28 : Nat) "TermLodgings$Trading" "people" "LTermLodgings$People;" ∈ gw_tbl := gw_at 225 (by decide +kernel) (by decide +kernel)
theorem wt_226 : Jvm.Cond.fieldLink "TermLodgings$Trading" (9 : Nat) "TermLodgings$Trading" "target" "[I" ∈ gw_tbl := gw_at 226 (by decide +kernel) (by decide +kernel)
theorem wt_227 : Jvm.Cond.fieldLink "TermLodgings$Trading" (15 : Nat) "TermLodgings$Trading" "gets" "[I" ∈ gw_tbl := gw_at 227 (by decide +kernel) (by decide +kernel)
theorem wt_228 : Jvm.Cond.lays "TermLodgings$Trading" "TermLodgings$Trading" "rings" "I" ∈ gw_tbl := gw_at 228 (by decide +kernel) (by decide +kernel)
theorem wt_230 : Jvm.Cond.lays "TermLodgings$Trading" "TermLodgings$Trading" "longest" "I" ∈ gw_tbl := gw_at 230 (by decide +kernel) (by decide +kernel)
theorem wt_232 : Jvm.Cond.lays "TermLodgings$Trading" "TermLodgings$Trading" "rounds" "I" ∈ gw_tbl := gw_at 232 (by decide +kernel) (by decide +kernel)
theorem wt_234 : Jvm.Cond.lays "TermLodgings$Trading" "TermLodgings$Trading" "left" "I" ∈ gw_tbl := gw_at 234 (by decide +kernel) (by decide +kernel)
theorem wt_236 : Jvm.Cond.laysFinal "TermLodgings$Trading" "TermLodgings$Trading" "town" "LTermLodgings$Town;" ∈ gw_tbl := gw_at 236 (by decide +kernel) (by decide +kernel)
theorem wt_238 : Jvm.Cond.laysFinal "TermLodgings$Trading" "TermLodgings$Trading" "people" "LTermLodgings$People;" ∈ gw_tbl := gw_at 238 (by decide +kernel) (by decide +kernel)
theorem wt_240 : Jvm.Cond.laysFinal "TermLodgings$Trading" "TermLodgings$Trading" "target" "[I" ∈ gw_tbl := gw_at 240 (by decide +kernel) (by decide +kernel)
theorem wt_242 : Jvm.Cond.laysFinal "TermLodgings$Trading" "TermLodgings$Trading" "gets" "[I" ∈ gw_tbl := gw_at 242 (by decide +kernel) (by decide +kernel)
theorem wt_245 : Jvm.Cond.classLink "TermLodgings" (54 : Nat) "TermLodgings$Moving" ∈ gw_tbl := gw_at 245 (by decide +kernel) (by decide +kernel)
theorem wt_246 : Jvm.Cond.instantiable "TermLodgings$Moving" (10 : Nat) ∈ gw_tbl := gw_at 246 (by decide +kernel) (by decide +kernel)
theorem wt_247 : Jvm.Cond.methodLink "TermLodgings" (56 : Nat) ({ cls := "TermLodgings$Moving", name := "<init>", desc := "(LTermLodgings$Town;)V" } : Jvm.MethodName) ∈ gw_tbl := gw_at 247 (by decide +kernel) (by decide +kernel)
theorem wt_248 : Jvm.Cond.instanceMethod ({ cls := "TermLodgings$Moving", name := "<init>", desc := "(LTermLodgings$Town;)V" } : Jvm.MethodName) ∈ gw_tbl := gw_at 248 (by decide +kernel) (by decide +kernel)
theorem wt_249 : Jvm.Cond.code ({ cls := "TermLodgings$Moving", name := "<init>", desc := "(LTermLodgings$Town;)V" } : Jvm.MethodName) prog_3_method_1_code (2 : Nat) (Option.none : Option Jvm.ClassFile.FieldType) ∈ gw_tbl := gw_at 249 (by decide +kernel) (by decide +kernel)
theorem wt_250 : Jvm.Cond.methodLink "TermLodgings$Moving" (3 : Nat) ({ cls := "java/lang/Object", name := "<init>", desc := "()V" } : Jvm.MethodName) ∈ gw_tbl := gw_at 250 (by decide +kernel) (by decide +kernel)
theorem wt_251 : Jvm.Cond.fieldLink "TermLodgings$Moving" (30 : Nat) "TermLodgings$Moving" "town" "LTermLodgings$Town;" ∈ gw_tbl := gw_at 251 (by decide +kernel) (by decide +kernel)
theorem wt_252 : Jvm.Cond.fieldLink "TermLodgings$Moving" (40 : Nat) "TermLodgings$Moving" "people" "LTermLodgings$People;" ∈ gw_tbl := gw_at 252 (by decide +kernel) (by decide +kernel)
theorem wt_253 : Jvm.Cond.fieldLink "TermLodgings$Moving" (45 : Nat) "TermLodgings$Moving" "rooms" "LTermLodgings$Rooms;" ∈ gw_tbl := gw_at 253 (by decide +kernel) (by decide +kernel)
theorem wt_254 : Jvm.Cond.fieldLink "TermLodgings$Moving" (59 : Nat) "TermLodgings$Moving" "movers" "I" ∈ gw_tbl := gw_at 254 (by decide +kernel) (by decide +kernel)
theorem wt_255 : Jvm.Cond.fieldLink "TermLodgings$Moving" (9 : Nat) "TermLodgings$Moving" "mover" "[I" ∈ gw_tbl := gw_at 255 (by decide +kernel) (by decide +kernel)
theorem wt_256 : Jvm.Cond.fieldLink "TermLodgings$Moving" (15 : Nat) "TermLodgings$Moving" "choice" "[I" ∈ gw_tbl := gw_at 256 (by decide +kernel) (by decide +kernel)
theorem wt_257 : Jvm.Cond.fieldLink "TermLodgings$Moving" (18 : Nat) "TermLodgings$Moving" "inside" "[I" ∈ gw_tbl := gw_at 257 (by decide +kernel) (by decide +kernel)
theorem wt_258 : Jvm.Cond.fieldLink "TermLodgings$Moving" (21 : Nat) "TermLodgings$Moving" "place" "[I" ∈ gw_tbl := gw_at 258 (by decide +kernel) (by decide +kernel)
theorem wt_259 : Jvm.Cond.fieldLink "TermLodgings$Moving" (24 : Nat) "TermLodgings$Moving" "asking" "[I" ∈ gw_tbl := gw_at 259 (by decide +kernel) (by decide +kernel)
theorem wt_260 : Jvm.Cond.fieldLink "TermLodgings$Moving" (27 : Nat) "TermLodgings$Moving" "askedBy" "[I" ∈ gw_tbl := gw_at 260 (by decide +kernel) (by decide +kernel)
theorem wt_261 : Jvm.Cond.laysFinal "TermLodgings$Moving" "TermLodgings$Moving" "town" "LTermLodgings$Town;" ∈ gw_tbl := gw_at 261 (by decide +kernel) (by decide +kernel)
theorem wt_263 : Jvm.Cond.laysFinal "TermLodgings$Moving" "TermLodgings$Moving" "people" "LTermLodgings$People;" ∈ gw_tbl := gw_at 263 (by decide +kernel) (by decide +kernel)
theorem wt_265 : Jvm.Cond.laysFinal "TermLodgings$Moving" "TermLodgings$Moving" "rooms" "LTermLodgings$Rooms;" ∈ gw_tbl := gw_at 265 (by decide +kernel) (by decide +kernel)
theorem wt_267 : Jvm.Cond.lays "TermLodgings$Moving" "TermLodgings$Moving" "movers" "I" ∈ gw_tbl := gw_at 267 (by decide +kernel) (by decide +kernel)
theorem wt_269 : Jvm.Cond.laysFinal "TermLodgings$Moving" "TermLodgings$Moving" "mover" "[I" ∈ gw_tbl := gw_at 269 (by decide +kernel) (by decide +kernel)
theorem wt_271 : Jvm.Cond.laysFinal "TermLodgings$Moving" "TermLodgings$Moving" "choice" "[I" ∈ gw_tbl := gw_at 271 (by decide +kernel) (by decide +kernel)
theorem wt_273 : Jvm.Cond.laysFinal "TermLodgings$Moving" "TermLodgings$Moving" "inside" "[I" ∈ gw_tbl := gw_at 273 (by decide +kernel) (by decide +kernel)
theorem wt_275 : Jvm.Cond.laysFinal "TermLodgings$Moving" "TermLodgings$Moving" "place" "[I" ∈ gw_tbl := gw_at 275 (by decide +kernel) (by decide +kernel)
theorem wt_277 : Jvm.Cond.laysFinal "TermLodgings$Moving" "TermLodgings$Moving" "asking" "[I" ∈ gw_tbl := gw_at 277 (by decide +kernel) (by decide +kernel)
theorem wt_279 : Jvm.Cond.laysFinal "TermLodgings$Moving" "TermLodgings$Moving" "askedBy" "[I" ∈ gw_tbl := gw_at 279 (by decide +kernel) (by decide +kernel)
theorem wt_282 : Jvm.Cond.classLink "TermLodgings" (61 : Nat) "TermLodgings$Nights" ∈ gw_tbl := gw_at 282 (by decide +kernel) (by decide +kernel)
theorem wt_283 : Jvm.Cond.instantiable "TermLodgings$Nights" (2 : Nat) ∈ gw_tbl := gw_at 283 (by decide +kernel) (by decide +kernel)
theorem wt_284 : Jvm.Cond.methodLink "TermLodgings" (63 : Nat) ({ cls := "TermLodgings$Nights", name := "<init>", desc := "()V" } : Jvm.MethodName) ∈ gw_tbl := gw_at 284 (by decide +kernel) (by decide +kernel)
theorem wt_285 : Jvm.Cond.instanceMethod ({ cls := "TermLodgings$Nights", name := "<init>", desc := "()V" } : Jvm.MethodName) ∈ gw_tbl := gw_at 285 (by decide +kernel) (by decide +kernel)
theorem wt_286 : Jvm.Cond.code ({ cls := "TermLodgings$Nights", name := "<init>", desc := "()V" } : Jvm.MethodName) prog_4_method_1_code (1 : Nat) (Option.none : Option Jvm.ClassFile.FieldType) ∈ gw_tbl := gw_at 286 (by decide +kernel) (by decide +kernel)
theorem wt_287 : Jvm.Cond.methodLink "TermLodgings$Nights" (3 : Nat) ({ cls := "java/lang/Object", name := "<init>", desc := "()V" } : Jvm.MethodName) ∈ gw_tbl := gw_at 287 (by decide +kernel) (by decide +kernel)
theorem wt_288 : Jvm.Cond.methodLink "TermLodgings$Nights" (15 : Nat) ({ cls := "java/util/Arrays", name := "fill", desc := "([II)V" } : Jvm.MethodName) ∈ gw_tbl := gw_at 288 (by decide +kernel) (by decide +kernel)
theorem wt_289 : Jvm.Cond.static ({ cls := "java/util/Arrays", name := "fill", desc := "([II)V" } : Jvm.MethodName) ∈ gw_tbl := gw_at 289 (by decide +kernel) (by decide +kernel)
theorem wt_290 : Jvm.Cond.code ({ cls := "java/util/Arrays", name := "fill", desc := "([II)V" } : Jvm.MethodName) prog_16_method_103_code (4 : Nat) (Option.none : Option Jvm.ClassFile.FieldType) ∈ gw_tbl := gw_at 290 (by decide +kernel) (by decide +kernel)
theorem wt_291 : Jvm.Cond.fieldLink "TermLodgings$Nights" (21 : Nat) "TermLodgings$Nights" "passed" "I" ∈ gw_tbl := gw_at 291 (by decide +kernel) (by decide +kernel)
theorem wt_292 : Jvm.Cond.fieldLink "TermLodgings" (219 : Nat) "TermLodgings$Nights" "passed" "I" ∈ gw_tbl := gw_at 292 (by decide +kernel) (by decide +kernel)
theorem wt_293 : Jvm.Cond.fieldLink "TermLodgings$Nights" (9 : Nat) "TermLodgings$Nights" "lodgings" "[I" ∈ gw_tbl := gw_at 293 (by decide +kernel) (by decide +kernel)
theorem wt_294 : Jvm.Cond.lays "TermLodgings$Nights" "TermLodgings$Nights" "passed" "I" ∈ gw_tbl := gw_at 294 (by decide +kernel) (by decide +kernel)
theorem wt_296 : Jvm.Cond.laysFinal "TermLodgings$Nights" "TermLodgings$Nights" "lodgings" "[I" ∈ gw_tbl := gw_at 296 (by decide +kernel) (by decide +kernel)
theorem wt_299 : Jvm.Cond.classLink "TermLodgings" (68 : Nat) "TermLodgings$Prices" ∈ gw_tbl := gw_at 299 (by decide +kernel) (by decide +kernel)
theorem wt_300 : Jvm.Cond.instantiable "TermLodgings$Prices" (6 : Nat) ∈ gw_tbl := gw_at 300 (by decide +kernel) (by decide +kernel)
theorem wt_301 : Jvm.Cond.methodLink "TermLodgings" (70 : Nat) ({ cls := "TermLodgings$Prices", name := "<init>", desc := "()V" } : Jvm.MethodName) ∈ gw_tbl := gw_at 301 (by decide +kernel) (by decide +kernel)
theorem wt_302 : Jvm.Cond.instanceMethod ({ cls := "TermLodgings$Prices", name := "<init>", desc := "()V" } : Jvm.MethodName) ∈ gw_tbl := gw_at 302 (by decide +kernel) (by decide +kernel)
theorem wt_303 : Jvm.Cond.code ({ cls := "TermLodgings$Prices", name := "<init>", desc := "()V" } : Jvm.MethodName) prog_6_method_1_code (1 : Nat) (Option.none : Option Jvm.ClassFile.FieldType) ∈ gw_tbl := gw_at 303 (by decide +kernel) (by decide +kernel)
theorem wt_304 : Jvm.Cond.methodLink "TermLodgings$Prices" (3 : Nat) ({ cls := "java/lang/Object", name := "<init>", desc := "()V" } : Jvm.MethodName) ∈ gw_tbl := gw_at 304 (by decide +kernel) (by decide +kernel)
theorem wt_305 : Jvm.Cond.methodLink "TermLodgings$Prices" (28 : Nat) ({ cls := "java/util/Arrays", name := "fill", desc := "([II)V" } : Jvm.MethodName) ∈ gw_tbl := gw_at 305 (by decide +kernel) (by decide +kernel)
theorem wt_306 : Jvm.Cond.fieldLink "TermLodgings$Prices" (34 : Nat) "TermLodgings$Prices" "tellings" "I" ∈ gw_tbl := gw_at 306 (by decide +kernel) (by decide +kernel)
theorem wt_307 : Jvm.Cond.fieldLink "TermLodgings" (226 : Nat) "TermLodgings$Prices" "tellings" "I" ∈ gw_tbl := gw_at 307 (by decide +kernel) (by decide +kernel)
theorem wt_308 : Jvm.Cond.fieldLink "TermLodgings$Prices" (9 : Nat) "TermLodgings$Prices" "latestHouse" "I" ∈ gw_tbl := gw_at 308 (by decide +kernel) (by decide +kernel)
theorem wt_309 : Jvm.Cond.fieldLink "TermLodgings" (241 : Nat) "TermLodgings$Prices" "latestHouse" "I" ∈ gw_tbl := gw_at 309 (by decide +kernel) (by decide +kernel)
theorem wt_310 : Jvm.Cond.fieldLink "TermLodgings$Prices" (15 : Nat) "TermLodgings$Prices" "since" "[I" ∈ gw_tbl := gw_at 310 (by decide +kernel) (by decide +kernel)
theorem wt_311 : Jvm.Cond.fieldLink "TermLodgings$Prices" (19 : Nat) "TermLodgings$Prices" "value" "[I" ∈ gw_tbl := gw_at 311 (by decide +kernel) (by decide +kernel)
theorem wt_312 : Jvm.Cond.fieldLink "TermLodgings$Prices" (22 : Nat) "TermLodgings$Prices" "counting" "[I" ∈ gw_tbl := gw_at 312 (by decide +kernel) (by decide +kernel)
theorem wt_313 : Jvm.Cond.fieldLink "TermLodgings$Prices" (25 : Nat) "TermLodgings$Prices" "former" "[I" ∈ gw_tbl := gw_at 313 (by decide +kernel) (by decide +kernel)
theorem wt_314 : Jvm.Cond.lays "TermLodgings$Prices" "TermLodgings$Prices" "tellings" "I" ∈ gw_tbl := gw_at 314 (by decide +kernel) (by decide +kernel)
theorem wt_316 : Jvm.Cond.lays "TermLodgings$Prices" "TermLodgings$Prices" "latestHouse" "I" ∈ gw_tbl := gw_at 316 (by decide +kernel) (by decide +kernel)
theorem wt_318 : Jvm.Cond.laysFinal "TermLodgings$Prices" "TermLodgings$Prices" "since" "[I" ∈ gw_tbl := gw_at 318 (by decide +kernel) (by decide +kernel)
theorem wt_320 : Jvm.Cond.laysFinal "TermLodgings$Prices" "TermLodgings$Prices" "value" "[I" ∈ gw_tbl := gw_at 320 (by decide +kernel) (by decide +kernel)
theorem wt_322 : Jvm.Cond.laysFinal "TermLodgings$Prices" "TermLodgings$Prices" "counting" "[I" ∈ gw_tbl := gw_at 322 (by decide +kernel) (by decide +kernel)
theorem wt_324 : Jvm.Cond.laysFinal "TermLodgings$Prices" "TermLodgings$Prices" "former" "[I" ∈ gw_tbl := gw_at 324 (by decide +kernel) (by decide +kernel)
theorem wt_327 : Jvm.Cond.fieldLink "TermLodgings" (20 : Nat) "TermLodgings" "rooms" "LTermLodgings$Rooms;" ∈ gw_tbl := gw_at 327 (by decide +kernel) (by decide +kernel)
theorem wt_328 : Jvm.Cond.fieldLink "TermLodgings" (25 : Nat) "TermLodgings" "people" "LTermLodgings$People;" ∈ gw_tbl := gw_at 328 (by decide +kernel) (by decide +kernel)
theorem wt_329 : Jvm.Cond.fieldLink "TermLodgings" (30 : Nat) "TermLodgings" "statute" "LTermLodgings$Statute;" ∈ gw_tbl := gw_at 329 (by decide +kernel) (by decide +kernel)
theorem wt_330 : Jvm.Cond.fieldLink "TermLodgings" (10 : Nat) "TermLodgings" "town" "LTermLodgings$Town;" ∈ gw_tbl := gw_at 330 (by decide +kernel) (by decide +kernel)
theorem wt_331 : Jvm.Cond.fieldLink "TermLodgings" (34 : Nat) "TermLodgings" "turns" "LTermLodgings$Turns;" ∈ gw_tbl := gw_at 331 (by decide +kernel) (by decide +kernel)
theorem wt_332 : Jvm.Cond.fieldLink "TermLodgings" (43 : Nat) "TermLodgings" "dealing" "LTermLodgings$Dealing;" ∈ gw_tbl := gw_at 332 (by decide +kernel) (by decide +kernel)
theorem wt_333 : Jvm.Cond.fieldLink "TermLodgings" (50 : Nat) "TermLodgings" "trading" "LTermLodgings$Trading;" ∈ gw_tbl := gw_at 333 (by decide +kernel) (by decide +kernel)
theorem wt_334 : Jvm.Cond.fieldLink "TermLodgings" (57 : Nat) "TermLodgings" "moving" "LTermLodgings$Moving;" ∈ gw_tbl := gw_at 334 (by decide +kernel) (by decide +kernel)
theorem wt_335 : Jvm.Cond.fieldLink "TermLodgings" (64 : Nat) "TermLodgings" "nights" "LTermLodgings$Nights;" ∈ gw_tbl := gw_at 335 (by decide +kernel) (by decide +kernel)
theorem wt_336 : Jvm.Cond.fieldLink "TermLodgings" (71 : Nat) "TermLodgings" "prices" "LTermLodgings$Prices;" ∈ gw_tbl := gw_at 336 (by decide +kernel) (by decide +kernel)
theorem wt_337 : Jvm.Cond.laysFinal "TermLodgings" "TermLodgings" "rooms" "LTermLodgings$Rooms;" ∈ gw_tbl := gw_at 337 (by decide +kernel) (by decide +kernel)
theorem wt_339 : Jvm.Cond.laysFinal "TermLodgings" "TermLodgings" "people" "LTermLodgings$People;" ∈ gw_tbl := gw_at 339 (by decide +kernel) (by decide +kernel)
theorem wt_341 : Jvm.Cond.laysFinal "TermLodgings" "TermLodgings" "statute" "LTermLodgings$Statute;" ∈ gw_tbl := gw_at 341 (by decide +kernel) (by decide +kernel)
theorem wt_343 : Jvm.Cond.laysFinal "TermLodgings" "TermLodgings" "town" "LTermLodgings$Town;" ∈ gw_tbl := gw_at 343 (by decide +kernel) (by decide +kernel)
theorem wt_345 : Jvm.Cond.laysFinal "TermLodgings" "TermLodgings" "turns" "LTermLodgings$Turns;" ∈ gw_tbl := gw_at 345 (by decide +kernel) (by decide +kernel)
theorem wt_347 : Jvm.Cond.laysFinal "TermLodgings" "TermLodgings" "dealing" "LTermLodgings$Dealing;" ∈ gw_tbl := gw_at 347 (by decide +kernel) (by decide +kernel)
theorem wt_349 : Jvm.Cond.laysFinal "TermLodgings" "TermLodgings" "trading" "LTermLodgings$Trading;" ∈ gw_tbl := gw_at 349 (by decide +kernel) (by decide +kernel)
theorem wt_351 : Jvm.Cond.laysFinal "TermLodgings" "TermLodgings" "moving" "LTermLodgings$Moving;" ∈ gw_tbl := gw_at 351 (by decide +kernel) (by decide +kernel)
theorem wt_353 : Jvm.Cond.laysFinal "TermLodgings" "TermLodgings" "nights" "LTermLodgings$Nights;" ∈ gw_tbl := gw_at 353 (by decide +kernel) (by decide +kernel)
theorem wt_355 : Jvm.Cond.laysFinal "TermLodgings" "TermLodgings" "prices" "LTermLodgings$Prices;" ∈ gw_tbl := gw_at 355 (by decide +kernel) (by decide +kernel)
theorem wt_358 : Jvm.Cond.methodLink "TermLodgingsLaw" (13 : Nat) ({ cls := "TermLodgings", name := "room", desc := "(III)I" } : Jvm.MethodName) ∈ gw_tbl := gw_at 358 (by decide +kernel) (by decide +kernel)
theorem wt_359 : Jvm.Cond.instanceMethod ({ cls := "TermLodgings", name := "room", desc := "(III)I" } : Jvm.MethodName) ∈ gw_tbl := gw_at 359 (by decide +kernel) (by decide +kernel)
theorem wt_360 : Jvm.Cond.selects "TermLodgings" ({ cls := "TermLodgings", name := "room", desc := "(III)I" } : Jvm.MethodName) ({ cls := "TermLodgings", name := "room", desc := "(III)I" } : Jvm.MethodName) ∈ gw_tbl := gw_at 360 (by decide +kernel) (by decide +kernel)
theorem wt_361 : Jvm.Cond.code ({ cls := "TermLodgings", name := "room", desc := "(III)I" } : Jvm.MethodName) prog_1_method_2_code (4 : Nat) (Option.some Jvm.ClassFile.FieldType.int) ∈ gw_tbl := gw_at 361 (by decide +kernel) (by decide +kernel)
theorem wt_362 : Jvm.Cond.methodLink "TermLodgings" (75 : Nat) ({ cls := "TermLodgings", name := "within", desc := "(III)Z" } : Jvm.MethodName) ∈ gw_tbl := gw_at 362 (by decide +kernel) (by decide +kernel)
theorem wt_363 : Jvm.Cond.static ({ cls := "TermLodgings", name := "within", desc := "(III)Z" } : Jvm.MethodName) ∈ gw_tbl := gw_at 363 (by decide +kernel) (by decide +kernel)
theorem wt_364 : Jvm.Cond.code ({ cls := "TermLodgings", name := "within", desc := "(III)Z" } : Jvm.MethodName) prog_1_method_34_code (3 : Nat) (Option.some Jvm.ClassFile.FieldType.boolean) ∈ gw_tbl := gw_at 364 (by decide +kernel) (by decide +kernel)
theorem wt_365 : Jvm.Cond.methodLink "TermLodgings" (85 : Nat) ({ cls := "TermLodgings$Rooms", name := "add", desc := "(III)I" } : Jvm.MethodName) ∈ gw_tbl := gw_at 365 (by decide +kernel) (by decide +kernel)
theorem wt_366 : Jvm.Cond.instanceMethod ({ cls := "TermLodgings$Rooms", name := "add", desc := "(III)I" } : Jvm.MethodName) ∈ gw_tbl := gw_at 366 (by decide +kernel) (by decide +kernel)
theorem wt_367 : Jvm.Cond.selects "TermLodgings$Rooms" ({ cls := "TermLodgings$Rooms", name := "add", desc := "(III)I" } : Jvm.MethodName) ({ cls := "TermLodgings$Rooms", name := "add", desc := "(III)I" } : Jvm.MethodName) ∈ gw_tbl := gw_at 367 (by decide +kernel) (by decide +kernel)
theorem wt_368 : Jvm.Cond.code ({ cls := "TermLodgings$Rooms", name := "add", desc := "(III)I" } : Jvm.MethodName) prog_7_method_3_code (4 : Nat) (Option.some Jvm.ClassFile.FieldType.int) ∈ gw_tbl := gw_at 368 (by decide +kernel) (by decide +kernel)
theorem wt_369 : Jvm.Cond.methodLink "TermLodgingsLaw" (18 : Nat) ({ cls := "TermLodgings", name := "person", desc := "(II)I" } : Jvm.MethodName) ∈ gw_tbl := gw_at 369 (by decide +kernel) (by decide +kernel)
theorem wt_370 : Jvm.Cond.instanceMethod ({ cls := "TermLodgings", name := "person", desc := "(II)I" } : Jvm.MethodName) ∈ gw_tbl := gw_at 370 (by decide +kernel) (by decide +kernel)
theorem wt_371 : Jvm.Cond.selects "TermLodgings" ({ cls := "TermLodgings", name := "person", desc := "(II)I" } : Jvm.MethodName) ({ cls := "TermLodgings", name := "person", desc := "(II)I" } : Jvm.MethodName) ∈ gw_tbl := gw_at 371 (by decide +kernel) (by decide +kernel)
theorem wt_372 : Jvm.Cond.code ({ cls := "TermLodgings", name := "person", desc := "(II)I" } : Jvm.MethodName) prog_1_method_3_code (4 : Nat) (Option.some Jvm.ClassFile.FieldType.int) ∈ gw_tbl := gw_at 372 (by decide +kernel) (by decide +kernel)
theorem wt_373 : Jvm.Cond.methodLink "TermLodgings" (92 : Nat) ({ cls := "TermLodgings$People", name := "add", desc := "(II)I" } : Jvm.MethodName) ∈ gw_tbl := gw_at 373 (by decide +kernel) (by decide +kernel)
theorem wt_374 : Jvm.Cond.instanceMethod ({ cls := "TermLodgings$People", name := "add", desc := "(II)I" } : Jvm.MethodName) ∈ gw_tbl := gw_at 374 (by decide +kernel) (by decide +kernel)
theorem wt_375 : Jvm.Cond.selects "TermLodgings$People" ({ cls := "TermLodgings$People", name := "add", desc := "(II)I" } : Jvm.MethodName) ({ cls := "TermLodgings$People", name := "add", desc := "(II)I" } : Jvm.MethodName) ∈ gw_tbl := gw_at 375 (by decide +kernel) (by decide +kernel)
theorem wt_376 : Jvm.Cond.code ({ cls := "TermLodgings$People", name := "add", desc := "(II)I" } : Jvm.MethodName) prog_5_method_3_code (3 : Nat) (Option.some Jvm.ClassFile.FieldType.int) ∈ gw_tbl := gw_at 376 (by decide +kernel) (by decide +kernel)
theorem wt_377 : Jvm.Cond.methodLink "TermLodgings" (95 : Nat) ({ cls := "TermLodgings$Turns", name := "addLast", desc := "(I)V" } : Jvm.MethodName) ∈ gw_tbl := gw_at 377 (by decide +kernel) (by decide +kernel)
theorem wt_378 : Jvm.Cond.instanceMethod ({ cls := "TermLodgings$Turns", name := "addLast", desc := "(I)V" } : Jvm.MethodName) ∈ gw_tbl := gw_at 378 (by decide +kernel) (by decide +kernel)
theorem wt_379 : Jvm.Cond.selects "TermLodgings$Turns" ({ cls := "TermLodgings$Turns", name := "addLast", desc := "(I)V" } : Jvm.MethodName) ({ cls := "TermLodgings$Turns", name := "addLast", desc := "(I)V" } : Jvm.MethodName) ∈ gw_tbl := gw_at 379 (by decide +kernel) (by decide +kernel)
theorem wt_380 : Jvm.Cond.code ({ cls := "TermLodgings$Turns", name := "addLast", desc := "(I)V" } : Jvm.MethodName) prog_11_method_4_code (2 : Nat) (Option.none : Option Jvm.ClassFile.FieldType) ∈ gw_tbl := gw_at 380 (by decide +kernel) (by decide +kernel)
theorem wt_381 : Jvm.Cond.methodLink "TermLodgingsLaw" (23 : Nat) ({ cls := "TermLodgings", name := "wish", desc := "(II)I" } : Jvm.MethodName) ∈ gw_tbl := gw_at 381 (by decide +kernel) (by decide +kernel)
theorem wt_382 : Jvm.Cond.instanceMethod ({ cls := "TermLodgings", name := "wish", desc := "(II)I" } : Jvm.MethodName) ∈ gw_tbl := gw_at 382 (by decide +kernel) (by decide +kernel)
theorem wt_383 : Jvm.Cond.selects "TermLodgings" ({ cls := "TermLodgings", name := "wish", desc := "(II)I" } : Jvm.MethodName) ({ cls := "TermLodgings", name := "wish", desc := "(II)I" } : Jvm.MethodName) ∈ gw_tbl := gw_at 383 (by decide +kernel) (by decide +kernel)
theorem wt_384 : Jvm.Cond.code ({ cls := "TermLodgings", name := "wish", desc := "(II)I" } : Jvm.MethodName) prog_1_method_4_code (3 : Nat) (Option.some Jvm.ClassFile.FieldType.int) ∈ gw_tbl := gw_at 384 (by decide +kernel) (by decide +kernel)
theorem wt_385 : Jvm.Cond.methodLink "TermLodgings" (99 : Nat) ({ cls := "TermLodgings$People", name := "has", desc := "(I)Z" } : Jvm.MethodName) ∈ gw_tbl := gw_at 385 (by decide +kernel) (by decide +kernel)
theorem wt_386 : Jvm.Cond.instanceMethod ({ cls := "TermLodgings$People", name := "has", desc := "(I)Z" } : Jvm.MethodName) ∈ gw_tbl := gw_at 386 (by decide +kernel) (by decide +kernel)
theorem wt_387 : Jvm.Cond.selects "TermLodgings$People" ({ cls := "TermLodgings$People", name := "has", desc := "(I)Z" } : Jvm.MethodName) ({ cls := "TermLodgings$People", name := "has", desc := "(I)Z" } : Jvm.MethodName) ∈ gw_tbl := gw_at 387 (by decide +kernel) (by decide +kernel)
theorem wt_388 : Jvm.Cond.code ({ cls := "TermLodgings$People", name := "has", desc := "(I)Z" } : Jvm.MethodName) prog_5_method_2_code (2 : Nat) (Option.some Jvm.ClassFile.FieldType.boolean) ∈ gw_tbl := gw_at 388 (by decide +kernel) (by decide +kernel)
theorem wt_389 : Jvm.Cond.methodLink "TermLodgings" (103 : Nat) ({ cls := "TermLodgings$Rooms", name := "has", desc := "(I)Z" } : Jvm.MethodName) ∈ gw_tbl := gw_at 389 (by decide +kernel) (by decide +kernel)
theorem wt_390 : Jvm.Cond.instanceMethod ({ cls := "TermLodgings$Rooms", name := "has", desc := "(I)Z" } : Jvm.MethodName) ∈ gw_tbl := gw_at 390 (by decide +kernel) (by decide +kernel)
theorem wt_391 : Jvm.Cond.selects "TermLodgings$Rooms" ({ cls := "TermLodgings$Rooms", name := "has", desc := "(I)Z" } : Jvm.MethodName) ({ cls := "TermLodgings$Rooms", name := "has", desc := "(I)Z" } : Jvm.MethodName) ∈ gw_tbl := gw_at 391 (by decide +kernel) (by decide +kernel)
theorem wt_392 : Jvm.Cond.code ({ cls := "TermLodgings$Rooms", name := "has", desc := "(I)Z" } : Jvm.MethodName) prog_7_method_2_code (2 : Nat) (Option.some Jvm.ClassFile.FieldType.boolean) ∈ gw_tbl := gw_at 392 (by decide +kernel) (by decide +kernel)
theorem wt_393 : Jvm.Cond.methodLink "TermLodgings" (104 : Nat) ({ cls := "TermLodgings$People", name := "wishesFor", desc := "(II)Z" } : Jvm.MethodName) ∈ gw_tbl := gw_at 393 (by decide +kernel) (by decide +kernel)
theorem wt_394 : Jvm.Cond.instanceMethod ({ cls := "TermLodgings$People", name := "wishesFor", desc := "(II)Z" } : Jvm.MethodName) ∈ gw_tbl := gw_at 394 (by decide +kernel) (by decide +kernel)
theorem wt_395 : Jvm.Cond.selects "TermLodgings$People" ({ cls := "TermLodgings$People", name := "wishesFor", desc := "(II)Z" } : Jvm.MethodName) ({ cls := "TermLodgings$People", name := "wishesFor", desc := "(II)Z" } : Jvm.MethodName) ∈ gw_tbl := gw_at 395 (by decide +kernel) (by decide +kernel)
theorem wt_396 : Jvm.Cond.code ({ cls := "TermLodgings$People", name := "wishesFor", desc := "(II)Z" } : Jvm.MethodName) prog_5_method_7_code (4 : Nat) (Option.some Jvm.ClassFile.FieldType.boolean) ∈ gw_tbl := gw_at 396 (by decide +kernel) (by decide +kernel)
theorem wt_397 : Jvm.Cond.methodLink "TermLodgings$People" (42 : Nat) ({ cls := "TermLodgings$People", name := "wishesOf", desc := "(I)I" } : Jvm.MethodName) ∈ gw_tbl := gw_at 397 (by decide +kernel) (by decide +kernel)
theorem wt_398 : Jvm.Cond.instanceMethod ({ cls := "TermLodgings$People", name := "wishesOf", desc := "(I)I" } : Jvm.MethodName) ∈ gw_tbl := gw_at 398 (by decide +kernel) (by decide +kernel)
theorem wt_399 : Jvm.Cond.selects "TermLodgings$People" ({ cls := "TermLodgings$People", name := "wishesOf", desc := "(I)I" } : Jvm.MethodName) ({ cls := "TermLodgings$People", name := "wishesOf", desc := "(I)I" } : Jvm.MethodName) ∈ gw_tbl := gw_at 399 (by decide +kernel) (by decide +kernel)
theorem wt_400 : Jvm.Cond.code ({ cls := "TermLodgings$People", name := "wishesOf", desc := "(I)I" } : Jvm.MethodName) prog_5_method_5_code (2 : Nat) (Option.some Jvm.ClassFile.FieldType.int) ∈ gw_tbl := gw_at 400 (by decide +kernel) (by decide +kernel)
theorem wt_401 : Jvm.Cond.methodLink "TermLodgings$People" (38 : Nat) ({ cls := "TermLodgings$People", name := "has", desc := "(I)Z" } : Jvm.MethodName) ∈ gw_tbl := gw_at 401 (by decide +kernel) (by decide +kernel)
theorem wt_402 : Jvm.Cond.methodLink "TermLodgings$People" (46 : Nat) ({ cls := "TermLodgings$People", name := "wishAt", desc := "(II)I" } : Jvm.MethodName) ∈ gw_tbl := gw_at 402 (by decide +kernel) (by decide +kernel)
theorem wt_403 : Jvm.Cond.instanceMethod ({ cls := "TermLodgings$People", name := "wishAt", desc := "(II)I" } : Jvm.MethodName) ∈ gw_tbl := gw_at 403 (by decide +kernel) (by decide +kernel)
theorem wt_404 : Jvm.Cond.selects "TermLodgings$People" ({ cls := "TermLodgings$People", name := "wishAt", desc := "(II)I" } : Jvm.MethodName) ({ cls := "TermLodgings$People", name := "wishAt", desc := "(II)I" } : Jvm.MethodName) ∈ gw_tbl := gw_at 404 (by decide +kernel) (by decide +kernel)
theorem wt_405 : Jvm.Cond.code ({ cls := "TermLodgings$People", name := "wishAt", desc := "(II)I" } : Jvm.MethodName) prog_5_method_6_code (4 : Nat) (Option.some Jvm.ClassFile.FieldType.int) ∈ gw_tbl := gw_at 405 (by decide +kernel) (by decide +kernel)
theorem wt_406 : Jvm.Cond.methodLink "TermLodgings" (112 : Nat) ({ cls := "TermLodgings$People", name := "addWish", desc := "(II)I" } : Jvm.MethodName) ∈ gw_tbl := gw_at 406 (by decide +kernel) (by decide +kernel)
theorem wt_407 : Jvm.Cond.instanceMethod ({ cls := "TermLodgings$People", name := "addWish", desc := "(II)I" } : Jvm.MethodName) ∈ gw_tbl := gw_at 407 (by decide +kernel) (by decide +kernel)
theorem wt_408 : Jvm.Cond.selects "TermLodgings$People" ({ cls := "TermLodgings$People", name := "addWish", desc := "(II)I" } : Jvm.MethodName) ({ cls := "TermLodgings$People", name := "addWish", desc := "(II)I" } : Jvm.MethodName) ∈ gw_tbl := gw_at 408 (by decide +kernel) (by decide +kernel)
theorem wt_409 : Jvm.Cond.code ({ cls := "TermLodgings$People", name := "addWish", desc := "(II)I" } : Jvm.MethodName) prog_5_method_8_code (4 : Nat) (Option.some Jvm.ClassFile.FieldType.int) ∈ gw_tbl := gw_at 409 (by decide +kernel) (by decide +kernel)
theorem wt_410 : Jvm.Cond.methodLink "TermLodgingsLaw" (27 : Nat) ({ cls := "TermLodgings", name := "content", desc := "(I)I" } : Jvm.MethodName) ∈ gw_tbl := gw_at 410 (by decide +kernel) (by decide +kernel)
theorem wt_411 : Jvm.Cond.instanceMethod ({ cls := "TermLodgings", name := "content", desc := "(I)I" } : Jvm.MethodName) ∈ gw_tbl := gw_at 411 (by decide +kernel) (by decide +kernel)
theorem wt_412 : Jvm.Cond.selects "TermLodgings" ({ cls := "TermLodgings", name := "content", desc := "(I)I" } : Jvm.MethodName) ({ cls := "TermLodgings", name := "content", desc := "(I)I" } : Jvm.MethodName) ∈ gw_tbl := gw_at 412 (by decide +kernel) (by decide +kernel)
theorem wt_413 : Jvm.Cond.code ({ cls := "TermLodgings", name := "content", desc := "(I)I" } : Jvm.MethodName) prog_1_method_5_code (3 : Nat) (Option.some Jvm.ClassFile.FieldType.int) ∈ gw_tbl := gw_at 413 (by decide +kernel) (by decide +kernel)
theorem wt_414 : Jvm.Cond.methodLink "TermLodgingsLaw" (32 : Nat) ({ cls := "TermLodgings", name := "about", desc := "(II)I" } : Jvm.MethodName) ∈ gw_tbl := gw_at 414 (by decide +kernel) (by decide +kernel)
theorem wt_415 : Jvm.Cond.instanceMethod ({ cls := "TermLodgings", name := "about", desc := "(II)I" } : Jvm.MethodName) ∈ gw_tbl := gw_at 415 (by decide +kernel) (by decide +kernel)
theorem wt_416 : Jvm.Cond.selects "TermLodgings" ({ cls := "TermLodgings", name := "about", desc := "(II)I" } : Jvm.MethodName) ({ cls := "TermLodgings", name := "about", desc := "(II)I" } : Jvm.MethodName) ∈ gw_tbl := gw_at 416 (by decide +kernel) (by decide +kernel)
theorem wt_417 : Jvm.Cond.code ({ cls := "TermLodgings", name := "about", desc := "(II)I" } : Jvm.MethodName) prog_1_method_6_code (3 : Nat) (Option.some Jvm.ClassFile.FieldType.int) ∈ gw_tbl := gw_at 417 (by decide +kernel) (by decide +kernel)
theorem wt_418 : Jvm.Cond.methodLink "TermLodgings" (131 : Nat) ({ cls := "TermLodgings", name := "wishTold", desc := "(II)I" } : Jvm.MethodName) ∈ gw_tbl := gw_at 418 (by decide +kernel) (by decide +kernel)
theorem wt_420 : Jvm.Cond.instanceMethod ({ cls := "TermLodgings", name := "wishTold", desc := "(II)I" } : Jvm.MethodName) ∈ gw_tbl := gw_at 420 (by decide +kernel) (by decide +kernel)
theorem wt_421 : Jvm.Cond.code ({ cls := "TermLodgings", name := "wishTold", desc := "(II)I" } : Jvm.MethodName) prog_1_method_7_code (4 : Nat) (Option.some Jvm.ClassFile.FieldType.int) ∈ gw_tbl := gw_at 421 (by decide +kernel) (by decide +kernel)
theorem wt_422 : Jvm.Cond.methodLink "TermLodgings" (134 : Nat) ({ cls := "TermLodgings$People", name := "wishAt", desc := "(II)I" } : Jvm.MethodName) ∈ gw_tbl := gw_at 422 (by decide +kernel) (by decide +kernel)
theorem wt_423 : Jvm.Cond.methodLink "TermLodgingsLaw" (36 : Nat) ({ cls := "TermLodgings", name := "of", desc := "(II)I" } : Jvm.MethodName) ∈ gw_tbl := gw_at 423 (by decide +kernel) (by decide +kernel)
theorem wt_424 : Jvm.Cond.instanceMethod ({ cls := "TermLodgings", name := "of", desc := "(II)I" } : Jvm.MethodName) ∈ gw_tbl := gw_at 424 (by decide +kernel) (by decide +kernel)
theorem wt_425 : Jvm.Cond.selects "TermLodgings" ({ cls := "TermLodgings", name := "of", desc := "(II)I" } : Jvm.MethodName) ({ cls := "TermLodgings", name := "of", desc := "(II)I" } : Jvm.MethodName) ∈ gw_tbl := gw_at 425 (by decide +kernel) (by decide +kernel)
theorem wt_426 : Jvm.Cond.code ({ cls := "TermLodgings", name := "of", desc := "(II)I" } : Jvm.MethodName) prog_1_method_8_code (3 : Nat) (Option.some Jvm.ClassFile.FieldType.int) ∈ gw_tbl := gw_at 426 (by decide +kernel) (by decide +kernel)
theorem wt_427 : Jvm.Cond.methodLink "TermLodgingsLaw" (40 : Nat) ({ cls := "TermLodgings", name := "give", desc := "(II)I" } : Jvm.MethodName) ∈ gw_tbl := gw_at 427 (by decide +kernel) (by decide +kernel)
theorem wt_428 : Jvm.Cond.instanceMethod ({ cls := "TermLodgings", name := "give", desc := "(II)I" } : Jvm.MethodName) ∈ gw_tbl := gw_at 428 (by decide +kernel) (by decide +kernel)
theorem wt_429 : Jvm.Cond.selects "TermLodgings" ({ cls := "TermLodgings", name := "give", desc := "(II)I" } : Jvm.MethodName) ({ cls := "TermLodgings", name := "give", desc := "(II)I" } : Jvm.MethodName) ∈ gw_tbl := gw_at 429 (by decide +kernel) (by decide +kernel)
theorem wt_430 : Jvm.Cond.code ({ cls := "TermLodgings", name := "give", desc := "(II)I" } : Jvm.MethodName) prog_1_method_9_code (4 : Nat) (Option.some Jvm.ClassFile.FieldType.int) ∈ gw_tbl := gw_at 430 (by decide +kernel) (by decide +kernel)
theorem wt_431 : Jvm.Cond.methodLink "TermLodgings" (149 : Nat) ({ cls := "TermLodgings", name := "canBeGiven", desc := "(II)Z" } : Jvm.MethodName) ∈ gw_tbl := gw_at 431 (by decide +kernel) (by decide +kernel)
theorem wt_433 : Jvm.Cond.instanceMethod ({ cls := "TermLodgings", name := "canBeGiven", desc := "(II)Z" } : Jvm.MethodName) ∈ gw_tbl := gw_at 433 (by decide +kernel) (by decide +kernel)
theorem wt_434 : Jvm.Cond.code ({ cls := "TermLodgings", name := "canBeGiven", desc := "(II)Z" } : Jvm.MethodName) prog_1_method_10_code (4 : Nat) (Option.some Jvm.ClassFile.FieldType.boolean) ∈ gw_tbl := gw_at 434 (by decide +kernel) (by decide +kernel)
theorem wt_435 : Jvm.Cond.methodLink "TermLodgings" (159 : Nat) ({ cls := "TermLodgings$Rooms", name := "holderOf", desc := "(I)I" } : Jvm.MethodName) ∈ gw_tbl := gw_at 435 (by decide +kernel) (by decide +kernel)
theorem wt_436 : Jvm.Cond.instanceMethod ({ cls := "TermLodgings$Rooms", name := "holderOf", desc := "(I)I" } : Jvm.MethodName) ∈ gw_tbl := gw_at 436 (by decide +kernel) (by decide +kernel)
theorem wt_437 : Jvm.Cond.selects "TermLodgings$Rooms" ({ cls := "TermLodgings$Rooms", name := "holderOf", desc := "(I)I" } : Jvm.MethodName) ({ cls := "TermLodgings$Rooms", name := "holderOf", desc := "(I)I" } : Jvm.MethodName) ∈ gw_tbl := gw_at 437 (by decide +kernel) (by decide +kernel)
theorem wt_438 : Jvm.Cond.code ({ cls := "TermLodgings$Rooms", name := "holderOf", desc := "(I)I" } : Jvm.MethodName) prog_7_method_5_code (2 : Nat) (Option.some Jvm.ClassFile.FieldType.int) ∈ gw_tbl := gw_at 438 (by decide +kernel) (by decide +kernel)
theorem wt_439 : Jvm.Cond.methodLink "TermLodgings$Rooms" (28 : Nat) ({ cls := "TermLodgings$Rooms", name := "has", desc := "(I)Z" } : Jvm.MethodName) ∈ gw_tbl := gw_at 439 (by decide +kernel) (by decide +kernel)
theorem wt_440 : Jvm.Cond.methodLink "TermLodgings" (163 : Nat) ({ cls := "TermLodgings$Town", name := "suits", desc := "(II)Z" } : Jvm.MethodName) ∈ gw_tbl := gw_at 440 (by decide +kernel) (by decide +kernel)
theorem wt_441 : Jvm.Cond.instanceMethod ({ cls := "TermLodgings$Town", name := "suits", desc := "(II)Z" } : Jvm.MethodName) ∈ gw_tbl := gw_at 441 (by decide +kernel) (by decide +kernel)
theorem wt_442 : Jvm.Cond.selects "TermLodgings$Town" ({ cls := "TermLodgings$Town", name := "suits", desc := "(II)Z" } : Jvm.MethodName) ({ cls := "TermLodgings$Town", name := "suits", desc := "(II)Z" } : Jvm.MethodName) ∈ gw_tbl := gw_at 442 (by decide +kernel) (by decide +kernel)
theorem wt_443 : Jvm.Cond.code ({ cls := "TermLodgings$Town", name := "suits", desc := "(II)Z" } : Jvm.MethodName) prog_9_method_2_code (3 : Nat) (Option.some Jvm.ClassFile.FieldType.boolean) ∈ gw_tbl := gw_at 443 (by decide +kernel) (by decide +kernel)
theorem wt_444 : Jvm.Cond.methodLink "TermLodgings$Town" (36 : Nat) ({ cls := "TermLodgings$People", name := "has", desc := "(I)Z" } : Jvm.MethodName) ∈ gw_tbl := gw_at 444 (by decide +kernel) (by decide +kernel)
theorem wt_445 : Jvm.Cond.methodLink "TermLodgings$Town" (40 : Nat) ({ cls := "TermLodgings$Rooms", name := "has", desc := "(I)Z" } : Jvm.MethodName) ∈ gw_tbl := gw_at 445 (by decide +kernel) (by decide +kernel)
theorem wt_446 : Jvm.Cond.methodLink "TermLodgings$Town" (44 : Nat) ({ cls := "TermLodgings$Rooms", name := "isStruck", desc := "(I)Z" } : Jvm.MethodName) ∈ gw_tbl := gw_at 446 (by decide +kernel) (by decide +kernel)
theorem wt_447 : Jvm.Cond.instanceMethod ({ cls := "TermLodgings$Rooms", name := "isStruck", desc := "(I)Z" } : Jvm.MethodName) ∈ gw_tbl := gw_at 447 (by decide +kernel) (by decide +kernel)
theorem wt_448 : Jvm.Cond.selects "TermLodgings$Rooms" ({ cls := "TermLodgings$Rooms", name := "isStruck", desc := "(I)Z" } : Jvm.MethodName) ({ cls := "TermLodgings$Rooms", name := "isStruck", desc := "(I)Z" } : Jvm.MethodName) ∈ gw_tbl := gw_at 448 (by decide +kernel) (by decide +kernel)
theorem wt_449 : Jvm.Cond.code ({ cls := "TermLodgings$Rooms", name := "isStruck", desc := "(I)Z" } : Jvm.MethodName) prog_7_method_7_code (2 : Nat) (Option.some Jvm.ClassFile.FieldType.boolean) ∈ gw_tbl := gw_at 449 (by decide +kernel) (by decide +kernel)
theorem wt_451 : Jvm.Cond.static ({ cls := "TermLodgings", name := "inBits", desc := "(II)Z" } : Jvm.MethodName) ∈ gw_tbl := gw_at 451 (by decide +kernel) (by decide +kernel)
theorem wt_452 : Jvm.Cond.code ({ cls := "TermLodgings", name := "inBits", desc := "(II)Z" } : Jvm.MethodName) prog_1_method_35_code (2 : Nat) (Option.some Jvm.ClassFile.FieldType.boolean) ∈ gw_tbl := gw_at 452 (by decide +kernel) (by decide +kernel)
theorem wt_453 : Jvm.Cond.methodLink "TermLodgings$Town" (56 : Nat) ({ cls := "TermLodgings$Statute", name := "allows", desc := "(IIII)Z" } : Jvm.MethodName) ∈ gw_tbl := gw_at 453 (by decide +kernel) (by decide +kernel)
theorem wt_454 : Jvm.Cond.instanceMethod ({ cls := "TermLodgings$Statute", name := "allows", desc := "(IIII)Z" } : Jvm.MethodName) ∈ gw_tbl := gw_at 454 (by decide +kernel) (by decide +kernel)
theorem wt_455 : Jvm.Cond.selects "TermLodgings$Statute" ({ cls := "TermLodgings$Statute", name := "allows", desc := "(IIII)Z" } : Jvm.MethodName) ({ cls := "TermLodgings$Statute", name := "allows", desc := "(IIII)Z" } : Jvm.MethodName) ∈ gw_tbl := gw_at 455 (by decide +kernel) (by decide +kernel)
theorem wt_456 : Jvm.Cond.code ({ cls := "TermLodgings$Statute", name := "allows", desc := "(IIII)Z" } : Jvm.MethodName) prog_8_method_10_code (7 : Nat) (Option.some Jvm.ClassFile.FieldType.boolean) ∈ gw_tbl := gw_at 456 (by decide +kernel) (by decide +kernel)
theorem wt_457 : Jvm.Cond.methodLink "TermLodgings$Statute" (62 : Nat) ({ cls := "TermLodgings$Statute", name := "faultPlace", desc := "()I" } : Jvm.MethodName) ∈ gw_tbl := gw_at 457 (by decide +kernel) (by decide +kernel)
theorem wt_458 : Jvm.Cond.instanceMethod ({ cls := "TermLodgings$Statute", name := "faultPlace", desc := "()I" } : Jvm.MethodName) ∈ gw_tbl := gw_at 458 (by decide +kernel) (by decide +kernel)
theorem wt_459 : Jvm.Cond.selects "TermLodgings$Statute" ({ cls := "TermLodgings$Statute", name := "faultPlace", desc := "()I" } : Jvm.MethodName) ({ cls := "TermLodgings$Statute", name := "faultPlace", desc := "()I" } : Jvm.MethodName) ∈ gw_tbl := gw_at 459 (by decide +kernel) (by decide +kernel)
theorem wt_460 : Jvm.Cond.code ({ cls := "TermLodgings$Statute", name := "faultPlace", desc := "()I" } : Jvm.MethodName) prog_8_method_4_code (1 : Nat) (Option.some Jvm.ClassFile.FieldType.int) ∈ gw_tbl := gw_at 460 (by decide +kernel) (by decide +kernel)
theorem wt_461 : Jvm.Cond.methodLink "TermLodgings$Statute" (66 : Nat) ({ cls := "TermLodgings$Statute", name := "asked", desc := "(IIIII)I" } : Jvm.MethodName) ∈ gw_tbl := gw_at 461 (by decide +kernel) (by decide +kernel)
theorem wt_462 : Jvm.Cond.static ({ cls := "TermLodgings$Statute", name := "asked", desc := "(IIIII)I" } : Jvm.MethodName) ∈ gw_tbl := gw_at 462 (by decide +kernel) (by decide +kernel)
theorem wt_463 : Jvm.Cond.code ({ cls := "TermLodgings$Statute", name := "asked", desc := "(IIIII)I" } : Jvm.MethodName) prog_8_method_11_code (5 : Nat) (Option.some Jvm.ClassFile.FieldType.int) ∈ gw_tbl := gw_at 463 (by decide +kernel) (by decide +kernel)
theorem wt_464 : Jvm.Cond.methodLink "TermLodgings$Statute" (70 : Nat) ({ cls := "TermLodgings$Statute", name := "compares", desc := "(III)Z" } : Jvm.MethodName) ∈ gw_tbl := gw_at 464 (by decide +kernel) (by decide +kernel)
theorem wt_465 : Jvm.Cond.static ({ cls := "TermLodgings$Statute", name := "compares", desc := "(III)Z" } : Jvm.MethodName) ∈ gw_tbl := gw_at 465 (by decide +kernel) (by decide +kernel)
theorem wt_466 : Jvm.Cond.code ({ cls := "TermLodgings$Statute", name := "compares", desc := "(III)Z" } : Jvm.MethodName) prog_8_method_12_code (3 : Nat) (Option.some Jvm.ClassFile.FieldType.boolean) ∈ gw_tbl := gw_at 466 (by decide +kernel) (by decide +kernel)
theorem wt_467 : Jvm.Cond.methodLink "TermLodgings" (152 : Nat) ({ cls := "TermLodgings$Town", name := "leave", desc := "(I)V" } : Jvm.MethodName) ∈ gw_tbl := gw_at 467 (by decide +kernel) (by decide +kernel)
theorem wt_468 : Jvm.Cond.instanceMethod ({ cls := "TermLodgings$Town", name := "leave", desc := "(I)V" } : Jvm.MethodName) ∈ gw_tbl := gw_at 468 (by decide +kernel) (by decide +kernel)
theorem wt_469 : Jvm.Cond.selects "TermLodgings$Town" ({ cls := "TermLodgings$Town", name := "leave", desc := "(I)V" } : Jvm.MethodName) ({ cls := "TermLodgings$Town", name := "leave", desc := "(I)V" } : Jvm.MethodName) ∈ gw_tbl := gw_at 469 (by decide +kernel) (by decide +kernel)
theorem wt_470 : Jvm.Cond.code ({ cls := "TermLodgings$Town", name := "leave", desc := "(I)V" } : Jvm.MethodName) prog_9_method_7_code (3 : Nat) (Option.none : Option Jvm.ClassFile.FieldType) ∈ gw_tbl := gw_at 470 (by decide +kernel) (by decide +kernel)
theorem wt_471 : Jvm.Cond.methodLink "TermLodgings$Town" (78 : Nat) ({ cls := "TermLodgings$People", name := "lodgingOf", desc := "(I)I" } : Jvm.MethodName) ∈ gw_tbl := gw_at 471 (by decide +kernel) (by decide +kernel)
theorem wt_472 : Jvm.Cond.instanceMethod ({ cls := "TermLodgings$People", name := "lodgingOf", desc := "(I)I" } : Jvm.MethodName) ∈ gw_tbl := gw_at 472 (by decide +kernel) (by decide +kernel)
theorem wt_473 : Jvm.Cond.selects "TermLodgings$People" ({ cls := "TermLodgings$People", name := "lodgingOf", desc := "(I)I" } : Jvm.MethodName) ({ cls := "TermLodgings$People", name := "lodgingOf", desc := "(I)I" } : Jvm.MethodName) ∈ gw_tbl := gw_at 473 (by decide +kernel) (by decide +kernel)
theorem wt_474 : Jvm.Cond.code ({ cls := "TermLodgings$People", name := "lodgingOf", desc := "(I)I" } : Jvm.MethodName) prog_5_method_4_code (2 : Nat) (Option.some Jvm.ClassFile.FieldType.int) ∈ gw_tbl := gw_at 474 (by decide +kernel) (by decide +kernel)
theorem wt_475 : Jvm.Cond.methodLink "TermLodgings" (155 : Nat) ({ cls := "TermLodgings$Town", name := "settle", desc := "(II)V" } : Jvm.MethodName) ∈ gw_tbl := gw_at 475 (by decide +kernel) (by decide +kernel)
theorem wt_476 : Jvm.Cond.instanceMethod ({ cls := "TermLodgings$Town", name := "settle", desc := "(II)V" } : Jvm.MethodName) ∈ gw_tbl := gw_at 476 (by decide +kernel) (by decide +kernel)
theorem wt_477 : Jvm.Cond.selects "TermLodgings$Town" ({ cls := "TermLodgings$Town", name := "settle", desc := "(II)V" } : Jvm.MethodName) ({ cls := "TermLodgings$Town", name := "settle", desc := "(II)V" } : Jvm.MethodName) ∈ gw_tbl := gw_at 477 (by decide +kernel) (by decide +kernel)
theorem wt_478 : Jvm.Cond.code ({ cls := "TermLodgings$Town", name := "settle", desc := "(II)V" } : Jvm.MethodName) prog_9_method_6_code (3 : Nat) (Option.none : Option Jvm.ClassFile.FieldType) ∈ gw_tbl := gw_at 478 (by decide +kernel) (by decide +kernel)
theorem wt_479 : Jvm.Cond.methodLink "TermLodgingsLaw" (44 : Nat) ({ cls := "TermLodgings", name := "type", desc := "(I)I" } : Jvm.MethodName) ∈ gw_tbl := gw_at 479 (by decide +kernel) (by decide +kernel)
theorem wt_480 : Jvm.Cond.instanceMethod ({ cls := "TermLodgings", name := "type", desc := "(I)I" } : Jvm.MethodName) ∈ gw_tbl := gw_at 480 (by decide +kernel) (by decide +kernel)
theorem wt_481 : Jvm.Cond.selects "TermLodgings" ({ cls := "TermLodgings", name := "type", desc := "(I)I" } : Jvm.MethodName) ({ cls := "TermLodgings", name := "type", desc := "(I)I" } : Jvm.MethodName) ∈ gw_tbl := gw_at 481 (by decide +kernel) (by decide +kernel)
theorem wt_482 : Jvm.Cond.code ({ cls := "TermLodgings", name := "type", desc := "(I)I" } : Jvm.MethodName) prog_1_method_11_code (2 : Nat) (Option.some Jvm.ClassFile.FieldType.int) ∈ gw_tbl := gw_at 482 (by decide +kernel) (by decide +kernel)
theorem wt_483 : Jvm.Cond.methodLink "TermLodgings" (171 : Nat) ({ cls := "TermLodgings$Statute", name := "add", desc := "(I)I" } : Jvm.MethodName) ∈ gw_tbl := gw_at 483 (by decide +kernel) (by decide +kernel)
theorem wt_484 : Jvm.Cond.instanceMethod ({ cls := "TermLodgings$Statute", name := "add", desc := "(I)I" } : Jvm.MethodName) ∈ gw_tbl := gw_at 484 (by decide +kernel) (by decide +kernel)
theorem wt_485 : Jvm.Cond.selects "TermLodgings$Statute" ({ cls := "TermLodgings$Statute", name := "add", desc := "(I)I" } : Jvm.MethodName) ({ cls := "TermLodgings$Statute", name := "add", desc := "(I)I" } : Jvm.MethodName) ∈ gw_tbl := gw_at 485 (by decide +kernel) (by decide +kernel)
theorem wt_486 : Jvm.Cond.code ({ cls := "TermLodgings$Statute", name := "add", desc := "(I)I" } : Jvm.MethodName) prog_8_method_3_code (2 : Nat) (Option.some Jvm.ClassFile.FieldType.int) ∈ gw_tbl := gw_at 486 (by decide +kernel) (by decide +kernel)
theorem wt_487 : Jvm.Cond.methodLink "TermLodgings$Statute" (42 : Nat) ({ cls := "TermLodgings$Statute", name := "goesOnWith", desc := "(I)Z" } : Jvm.MethodName) ∈ gw_tbl := gw_at 487 (by decide +kernel) (by decide +kernel)
theorem wt_489 : Jvm.Cond.instanceMethod ({ cls := "TermLodgings$Statute", name := "goesOnWith", desc := "(I)Z" } : Jvm.MethodName) ∈ gw_tbl := gw_at 489 (by decide +kernel) (by decide +kernel)
theorem wt_490 : Jvm.Cond.code ({ cls := "TermLodgings$Statute", name := "goesOnWith", desc := "(I)Z" } : Jvm.MethodName) prog_8_method_5_code (2 : Nat) (Option.some Jvm.ClassFile.FieldType.boolean) ∈ gw_tbl := gw_at 490 (by decide +kernel) (by decide +kernel)
theorem wt_491 : Jvm.Cond.methodLink "TermLodgings$Statute" (46 : Nat) ({ cls := "TermLodgings$Statute", name := "beginTest", desc := "(I)Z" } : Jvm.MethodName) ∈ gw_tbl := gw_at 491 (by decide +kernel) (by decide +kernel)
theorem wt_493 : Jvm.Cond.instanceMethod ({ cls := "TermLodgings$Statute", name := "beginTest", desc := "(I)Z" } : Jvm.MethodName) ∈ gw_tbl := gw_at 493 (by decide +kernel) (by decide +kernel)
theorem wt_494 : Jvm.Cond.code ({ cls := "TermLodgings$Statute", name := "beginTest", desc := "(I)Z" } : Jvm.MethodName) prog_8_method_6_code (3 : Nat) (Option.some Jvm.ClassFile.FieldType.boolean) ∈ gw_tbl := gw_at 494 (by decide +kernel) (by decide +kernel)
theorem wt_496 : Jvm.Cond.methodLink "TermLodgings$Statute" (53 : Nat) ({ cls := "TermLodgings$Statute", name := "takeSign", desc := "(I)Z" } : Jvm.MethodName) ∈ gw_tbl := gw_at 496 (by decide +kernel) (by decide +kernel)
theorem wt_498 : Jvm.Cond.instanceMethod ({ cls := "TermLodgings$Statute", name := "takeSign", desc := "(I)Z" } : Jvm.MethodName) ∈ gw_tbl := gw_at 498 (by decide +kernel) (by decide +kernel)
theorem wt_499 : Jvm.Cond.code ({ cls := "TermLodgings$Statute", name := "takeSign", desc := "(I)Z" } : Jvm.MethodName) prog_8_method_7_code (2 : Nat) (Option.some Jvm.ClassFile.FieldType.boolean) ∈ gw_tbl := gw_at 499 (by decide +kernel) (by decide +kernel)
theorem wt_500 : Jvm.Cond.methodLink "TermLodgings$Statute" (56 : Nat) ({ cls := "TermLodgings$Statute", name := "takeFigure", desc := "(I)Z" } : Jvm.MethodName) ∈ gw_tbl := gw_at 500 (by decide +kernel) (by decide +kernel)
theorem wt_502 : Jvm.Cond.instanceMethod ({ cls := "TermLodgings$Statute", name := "takeFigure", desc := "(I)Z" } : Jvm.MethodName) ∈ gw_tbl := gw_at 502 (by decide +kernel) (by decide +kernel)
theorem wt_503 : Jvm.Cond.code ({ cls := "TermLodgings$Statute", name := "takeFigure", desc := "(I)Z" } : Jvm.MethodName) prog_8_method_8_code (2 : Nat) (Option.some Jvm.ClassFile.FieldType.boolean) ∈ gw_tbl := gw_at 503 (by decide +kernel) (by decide +kernel)
theorem wt_504 : Jvm.Cond.methodLink "TermLodgings$Statute" (59 : Nat) ({ cls := "TermLodgings$Statute", name := "endTest", desc := "(I)Z" } : Jvm.MethodName) ∈ gw_tbl := gw_at 504 (by decide +kernel) (by decide +kernel)
theorem wt_506 : Jvm.Cond.instanceMethod ({ cls := "TermLodgings$Statute", name := "endTest", desc := "(I)Z" } : Jvm.MethodName) ∈ gw_tbl := gw_at 506 (by decide +kernel) (by decide +kernel)
theorem wt_507 : Jvm.Cond.code ({ cls := "TermLodgings$Statute", name := "endTest", desc := "(I)Z" } : Jvm.MethodName) prog_8_method_9_code (2 : Nat) (Option.some Jvm.ClassFile.FieldType.boolean) ∈ gw_tbl := gw_at 507 (by decide +kernel) (by decide +kernel)
theorem wt_508 : Jvm.Cond.methodLink "TermLodgingsLaw" (48 : Nat) ({ cls := "TermLodgings", name := "repeal", desc := "()I" } : Jvm.MethodName) ∈ gw_tbl := gw_at 508 (by decide +kernel) (by decide +kernel)
theorem wt_509 : Jvm.Cond.instanceMethod ({ cls := "TermLodgings", name := "repeal", desc := "()I" } : Jvm.MethodName) ∈ gw_tbl := gw_at 509 (by decide +kernel) (by decide +kernel)
theorem wt_510 : Jvm.Cond.selects "TermLodgings" ({ cls := "TermLodgings", name := "repeal", desc := "()I" } : Jvm.MethodName) ({ cls := "TermLodgings", name := "repeal", desc := "()I" } : Jvm.MethodName) ∈ gw_tbl := gw_at 510 (by decide +kernel) (by decide +kernel)
theorem wt_511 : Jvm.Cond.code ({ cls := "TermLodgings", name := "repeal", desc := "()I" } : Jvm.MethodName) prog_1_method_12_code (2 : Nat) (Option.some Jvm.ClassFile.FieldType.int) ∈ gw_tbl := gw_at 511 (by decide +kernel) (by decide +kernel)
theorem wt_512 : Jvm.Cond.methodLink "TermLodgings" (173 : Nat) ({ cls := "TermLodgings$Statute", name := "clear", desc := "()V" } : Jvm.MethodName) ∈ gw_tbl := gw_at 512 (by decide +kernel) (by decide +kernel)
theorem wt_513 : Jvm.Cond.instanceMethod ({ cls := "TermLodgings$Statute", name := "clear", desc := "()V" } : Jvm.MethodName) ∈ gw_tbl := gw_at 513 (by decide +kernel) (by decide +kernel)
theorem wt_514 : Jvm.Cond.selects "TermLodgings$Statute" ({ cls := "TermLodgings$Statute", name := "clear", desc := "()V" } : Jvm.MethodName) ({ cls := "TermLodgings$Statute", name := "clear", desc := "()V" } : Jvm.MethodName) ∈ gw_tbl := gw_at 514 (by decide +kernel) (by decide +kernel)
theorem wt_515 : Jvm.Cond.code ({ cls := "TermLodgings$Statute", name := "clear", desc := "()V" } : Jvm.MethodName) prog_8_method_2_code (1 : Nat) (Option.none : Option Jvm.ClassFile.FieldType) ∈ gw_tbl := gw_at 515 (by decide +kernel) (by decide +kernel)
theorem wt_516 : Jvm.Cond.methodLink "TermLodgingsLaw" (53 : Nat) ({ cls := "TermLodgings", name := "fault", desc := "()I" } : Jvm.MethodName) ∈ gw_tbl := gw_at 516 (by decide +kernel) (by decide +kernel)
theorem wt_517 : Jvm.Cond.instanceMethod ({ cls := "TermLodgings", name := "fault", desc := "()I" } : Jvm.MethodName) ∈ gw_tbl := gw_at 517 (by decide +kernel) (by decide +kernel)
theorem wt_518 : Jvm.Cond.selects "TermLodgings" ({ cls := "TermLodgings", name := "fault", desc := "()I" } : Jvm.MethodName) ({ cls := "TermLodgings", name := "fault", desc := "()I" } : Jvm.MethodName) ∈ gw_tbl := gw_at 518 (by decide +kernel) (by decide +kernel)
theorem wt_519 : Jvm.Cond.code ({ cls := "TermLodgings", name := "fault", desc := "()I" } : Jvm.MethodName) prog_1_method_13_code (1 : Nat) (Option.some Jvm.ClassFile.FieldType.int) ∈ gw_tbl := gw_at 519 (by decide +kernel) (by decide +kernel)
theorem wt_520 : Jvm.Cond.methodLink "TermLodgings" (176 : Nat) ({ cls := "TermLodgings$Statute", name := "faultPlace", desc := "()I" } : Jvm.MethodName) ∈ gw_tbl := gw_at 520 (by decide +kernel) (by decide +kernel)
theorem wt_521 : Jvm.Cond.methodLink "TermLodgingsLaw" (57 : Nat) ({ cls := "TermLodgings", name := "may", desc := "(II)I" } : Jvm.MethodName) ∈ gw_tbl := gw_at 521 (by decide +kernel) (by decide +kernel)
theorem wt_522 : Jvm.Cond.instanceMethod ({ cls := "TermLodgings", name := "may", desc := "(II)I" } : Jvm.MethodName) ∈ gw_tbl := gw_at 522 (by decide +kernel) (by decide +kernel)
theorem wt_523 : Jvm.Cond.selects "TermLodgings" ({ cls := "TermLodgings", name := "may", desc := "(II)I" } : Jvm.MethodName) ({ cls := "TermLodgings", name := "may", desc := "(II)I" } : Jvm.MethodName) ∈ gw_tbl := gw_at 523 (by decide +kernel) (by decide +kernel)
theorem wt_524 : Jvm.Cond.code ({ cls := "TermLodgings", name := "may", desc := "(II)I" } : Jvm.MethodName) prog_1_method_14_code (3 : Nat) (Option.some Jvm.ClassFile.FieldType.int) ∈ gw_tbl := gw_at 524 (by decide +kernel) (by decide +kernel)
theorem wt_525 : Jvm.Cond.methodLink "TermLodgingsLaw" (61 : Nat) ({ cls := "TermLodgings", name := "wrong", desc := "()I" } : Jvm.MethodName) ∈ gw_tbl := gw_at 525 (by decide +kernel) (by decide +kernel)
theorem wt_526 : Jvm.Cond.instanceMethod ({ cls := "TermLodgings", name := "wrong", desc := "()I" } : Jvm.MethodName) ∈ gw_tbl := gw_at 526 (by decide +kernel) (by decide +kernel)
theorem wt_527 : Jvm.Cond.selects "TermLodgings" ({ cls := "TermLodgings", name := "wrong", desc := "()I" } : Jvm.MethodName) ({ cls := "TermLodgings", name := "wrong", desc := "()I" } : Jvm.MethodName) ∈ gw_tbl := gw_at 527 (by decide +kernel) (by decide +kernel)
theorem wt_528 : Jvm.Cond.code ({ cls := "TermLodgings", name := "wrong", desc := "()I" } : Jvm.MethodName) prog_1_method_15_code (4 : Nat) (Option.some Jvm.ClassFile.FieldType.int) ∈ gw_tbl := gw_at 528 (by decide +kernel) (by decide +kernel)
theorem wt_529 : Jvm.Cond.methodLink "TermLodgings" (180 : Nat) ({ cls := "TermLodgings$People", name := "lodgingOf", desc := "(I)I" } : Jvm.MethodName) ∈ gw_tbl := gw_at 529 (by decide +kernel) (by decide +kernel)
theorem wt_530 : Jvm.Cond.methodLink "TermLodgingsLaw" (65 : Nat) ({ cls := "TermLodgings", name := "draw", desc := "(I)I" } : Jvm.MethodName) ∈ gw_tbl := gw_at 530 (by decide +kernel) (by decide +kernel)
theorem wt_531 : Jvm.Cond.instanceMethod ({ cls := "TermLodgings", name := "draw", desc := "(I)I" } : Jvm.MethodName) ∈ gw_tbl := gw_at 531 (by decide +kernel) (by decide +kernel)
theorem wt_532 : Jvm.Cond.selects "TermLodgings" ({ cls := "TermLodgings", name := "draw", desc := "(I)I" } : Jvm.MethodName) ({ cls := "TermLodgings", name := "draw", desc := "(I)I" } : Jvm.MethodName) ∈ gw_tbl := gw_at 532 (by decide +kernel) (by decide +kernel)
theorem wt_533 : Jvm.Cond.code ({ cls := "TermLodgings", name := "draw", desc := "(I)I" } : Jvm.MethodName) prog_1_method_16_code (2 : Nat) (Option.some Jvm.ClassFile.FieldType.int) ∈ gw_tbl := gw_at 533 (by decide +kernel) (by decide +kernel)
theorem wt_534 : Jvm.Cond.methodLink "TermLodgings" (183 : Nat) ({ cls := "TermLodgings$Turns", name := "shuffle", desc := "(I)V" } : Jvm.MethodName) ∈ gw_tbl := gw_at 534 (by decide +kernel) (by decide +kernel)
theorem wt_535 : Jvm.Cond.instanceMethod ({ cls := "TermLodgings$Turns", name := "shuffle", desc := "(I)V" } : Jvm.MethodName) ∈ gw_tbl := gw_at 535 (by decide +kernel) (by decide +kernel)
theorem wt_536 : Jvm.Cond.selects "TermLodgings$Turns" ({ cls := "TermLodgings$Turns", name := "shuffle", desc := "(I)V" } : Jvm.MethodName) ({ cls := "TermLodgings$Turns", name := "shuffle", desc := "(I)V" } : Jvm.MethodName) ∈ gw_tbl := gw_at 536 (by decide +kernel) (by decide +kernel)
theorem wt_537 : Jvm.Cond.code ({ cls := "TermLodgings$Turns", name := "shuffle", desc := "(I)V" } : Jvm.MethodName) prog_11_method_6_code (4 : Nat) (Option.none : Option Jvm.ClassFile.FieldType) ∈ gw_tbl := gw_at 537 (by decide +kernel) (by decide +kernel)
theorem wt_538 : Jvm.Cond.constant "TermLodgings$Turns" (27 : Nat) (1103515245 : Int32) ∈ gw_tbl := gw_at 538 (by decide +kernel) (by decide +kernel)
theorem wt_539 : Jvm.Cond.methodLink "TermLodgings$Turns" (28 : Nat) ({ cls := "TermLodgings$Turns", name := "swap", desc := "(II)V" } : Jvm.MethodName) ∈ gw_tbl := gw_at 539 (by decide +kernel) (by decide +kernel)
theorem wt_540 : Jvm.Cond.instanceMethod ({ cls := "TermLodgings$Turns", name := "swap", desc := "(II)V" } : Jvm.MethodName) ∈ gw_tbl := gw_at 540 (by decide +kernel) (by decide +kernel)
theorem wt_541 : Jvm.Cond.selects "TermLodgings$Turns" ({ cls := "TermLodgings$Turns", name := "swap", desc := "(II)V" } : Jvm.MethodName) ({ cls := "TermLodgings$Turns", name := "swap", desc := "(II)V" } : Jvm.MethodName) ∈ gw_tbl := gw_at 541 (by decide +kernel) (by decide +kernel)
theorem wt_542 : Jvm.Cond.code ({ cls := "TermLodgings$Turns", name := "swap", desc := "(II)V" } : Jvm.MethodName) prog_11_method_5_code (4 : Nat) (Option.none : Option Jvm.ClassFile.FieldType) ∈ gw_tbl := gw_at 542 (by decide +kernel) (by decide +kernel)
theorem wt_543 : Jvm.Cond.methodLink "TermLodgings$Turns" (23 : Nat) ({ cls := "TermLodgings$Turns", name := "has", desc := "(I)Z" } : Jvm.MethodName) ∈ gw_tbl := gw_at 543 (by decide +kernel) (by decide +kernel)
theorem wt_544 : Jvm.Cond.instanceMethod ({ cls := "TermLodgings$Turns", name := "has", desc := "(I)Z" } : Jvm.MethodName) ∈ gw_tbl := gw_at 544 (by decide +kernel) (by decide +kernel)
theorem wt_545 : Jvm.Cond.selects "TermLodgings$Turns" ({ cls := "TermLodgings$Turns", name := "has", desc := "(I)Z" } : Jvm.MethodName) ({ cls := "TermLodgings$Turns", name := "has", desc := "(I)Z" } : Jvm.MethodName) ∈ gw_tbl := gw_at 545 (by decide +kernel) (by decide +kernel)
theorem wt_546 : Jvm.Cond.code ({ cls := "TermLodgings$Turns", name := "has", desc := "(I)Z" } : Jvm.MethodName) prog_11_method_2_code (2 : Nat) (Option.some Jvm.ClassFile.FieldType.boolean) ∈ gw_tbl := gw_at 546 (by decide +kernel) (by decide +kernel)
theorem wt_548 : Jvm.Cond.methodLink "TermLodgings" (186 : Nat) ({ cls := "TermLodgings$Turns", name := "at", desc := "(I)I" } : Jvm.MethodName) ∈ gw_tbl := gw_at 548 (by decide +kernel) (by decide +kernel)
theorem wt_549 : Jvm.Cond.instanceMethod ({ cls := "TermLodgings$Turns", name := "at", desc := "(I)I" } : Jvm.MethodName) ∈ gw_tbl := gw_at 549 (by decide +kernel) (by decide +kernel)
theorem wt_550 : Jvm.Cond.selects "TermLodgings$Turns" ({ cls := "TermLodgings$Turns", name := "at", desc := "(I)I" } : Jvm.MethodName) ({ cls := "TermLodgings$Turns", name := "at", desc := "(I)I" } : Jvm.MethodName) ∈ gw_tbl := gw_at 550 (by decide +kernel) (by decide +kernel)
theorem wt_551 : Jvm.Cond.code ({ cls := "TermLodgings$Turns", name := "at", desc := "(I)I" } : Jvm.MethodName) prog_11_method_3_code (2 : Nat) (Option.some Jvm.ClassFile.FieldType.int) ∈ gw_tbl := gw_at 551 (by decide +kernel) (by decide +kernel)
theorem wt_552 : Jvm.Cond.methodLink "TermLodgingsLaw" (69 : Nat) ({ cls := "TermLodgings", name := "change", desc := "(II)I" } : Jvm.MethodName) ∈ gw_tbl := gw_at 552 (by decide +kernel) (by decide +kernel)
theorem wt_553 : Jvm.Cond.instanceMethod ({ cls := "TermLodgings", name := "change", desc := "(II)I" } : Jvm.MethodName) ∈ gw_tbl := gw_at 553 (by decide +kernel) (by decide +kernel)
theorem wt_554 : Jvm.Cond.selects "TermLodgings" ({ cls := "TermLodgings", name := "change", desc := "(II)I" } : Jvm.MethodName) ({ cls := "TermLodgings", name := "change", desc := "(II)I" } : Jvm.MethodName) ∈ gw_tbl := gw_at 554 (by decide +kernel) (by decide +kernel)
theorem wt_555 : Jvm.Cond.code ({ cls := "TermLodgings", name := "change", desc := "(II)I" } : Jvm.MethodName) prog_1_method_17_code (3 : Nat) (Option.some Jvm.ClassFile.FieldType.int) ∈ gw_tbl := gw_at 555 (by decide +kernel) (by decide +kernel)
theorem wt_556 : Jvm.Cond.methodLink "TermLodgings" (189 : Nat) ({ cls := "TermLodgings$Turns", name := "has", desc := "(I)Z" } : Jvm.MethodName) ∈ gw_tbl := gw_at 556 (by decide +kernel) (by decide +kernel)
theorem wt_557 : Jvm.Cond.methodLink "TermLodgings" (190 : Nat) ({ cls := "TermLodgings$Turns", name := "swap", desc := "(II)V" } : Jvm.MethodName) ∈ gw_tbl := gw_at 557 (by decide +kernel) (by decide +kernel)
theorem wt_558 : Jvm.Cond.methodLink "TermLodgingsLaw" (73 : Nat) ({ cls := "TermLodgings", name := "turn", desc := "(I)I" } : Jvm.MethodName) ∈ gw_tbl := gw_at 558 (by decide +kernel) (by decide +kernel)
theorem wt_559 : Jvm.Cond.instanceMethod ({ cls := "TermLodgings", name := "turn", desc := "(I)I" } : Jvm.MethodName) ∈ gw_tbl := gw_at 559 (by decide +kernel) (by decide +kernel)
theorem wt_560 : Jvm.Cond.selects "TermLodgings" ({ cls := "TermLodgings", name := "turn", desc := "(I)I" } : Jvm.MethodName) ({ cls := "TermLodgings", name := "turn", desc := "(I)I" } : Jvm.MethodName) ∈ gw_tbl := gw_at 560 (by decide +kernel) (by decide +kernel)
theorem wt_561 : Jvm.Cond.code ({ cls := "TermLodgings", name := "turn", desc := "(I)I" } : Jvm.MethodName) prog_1_method_18_code (2 : Nat) (Option.some Jvm.ClassFile.FieldType.int) ∈ gw_tbl := gw_at 561 (by decide +kernel) (by decide +kernel)
theorem wt_562 : Jvm.Cond.methodLink "TermLodgingsLaw" (77 : Nat) ({ cls := "TermLodgings", name := "deal", desc := "()I" } : Jvm.MethodName) ∈ gw_tbl := gw_at 562 (by decide +kernel) (by decide +kernel)
theorem wt_563 : Jvm.Cond.instanceMethod ({ cls := "TermLodgings", name := "deal", desc := "()I" } : Jvm.MethodName) ∈ gw_tbl := gw_at 563 (by decide +kernel) (by decide +kernel)
theorem wt_564 : Jvm.Cond.selects "TermLodgings" ({ cls := "TermLodgings", name := "deal", desc := "()I" } : Jvm.MethodName) ({ cls := "TermLodgings", name := "deal", desc := "()I" } : Jvm.MethodName) ∈ gw_tbl := gw_at 564 (by decide +kernel) (by decide +kernel)
theorem wt_565 : Jvm.Cond.code ({ cls := "TermLodgings", name := "deal", desc := "()I" } : Jvm.MethodName) prog_1_method_19_code (1 : Nat) (Option.some Jvm.ClassFile.FieldType.int) ∈ gw_tbl := gw_at 565 (by decide +kernel) (by decide +kernel)
theorem wt_566 : Jvm.Cond.methodLink "TermLodgings" (193 : Nat) ({ cls := "TermLodgings$Dealing", name := "run", desc := "(LTermLodgings$Turns;)V" } : Jvm.MethodName) ∈ gw_tbl := gw_at 566 (by decide +kernel) (by decide +kernel)
theorem wt_567 : Jvm.Cond.instanceMethod ({ cls := "TermLodgings$Dealing", name := "run", desc := "(LTermLodgings$Turns;)V" } : Jvm.MethodName) ∈ gw_tbl := gw_at 567 (by decide +kernel) (by decide +kernel)
theorem wt_568 : Jvm.Cond.selects "TermLodgings$Dealing" ({ cls := "TermLodgings$Dealing", name := "run", desc := "(LTermLodgings$Turns;)V" } : Jvm.MethodName) ({ cls := "TermLodgings$Dealing", name := "run", desc := "(LTermLodgings$Turns;)V" } : Jvm.MethodName) ∈ gw_tbl := gw_at 568 (by decide +kernel) (by decide +kernel)
theorem wt_569 : Jvm.Cond.code ({ cls := "TermLodgings$Dealing", name := "run", desc := "(LTermLodgings$Turns;)V" } : Jvm.MethodName) prog_2_method_2_code (6 : Nat) (Option.none : Option Jvm.ClassFile.FieldType) ∈ gw_tbl := gw_at 569 (by decide +kernel) (by decide +kernel)
theorem wt_570 : Jvm.Cond.methodLink "TermLodgings$Dealing" (31 : Nat) ({ cls := "TermLodgings$Town", name := "weighAll", desc := "()V" } : Jvm.MethodName) ∈ gw_tbl := gw_at 570 (by decide +kernel) (by decide +kernel)
theorem wt_571 : Jvm.Cond.instanceMethod ({ cls := "TermLodgings$Town", name := "weighAll", desc := "()V" } : Jvm.MethodName) ∈ gw_tbl := gw_at 571 (by decide +kernel) (by decide +kernel)
theorem wt_572 : Jvm.Cond.selects "TermLodgings$Town" ({ cls := "TermLodgings$Town", name := "weighAll", desc := "()V" } : Jvm.MethodName) ({ cls := "TermLodgings$Town", name := "weighAll", desc := "()V" } : Jvm.MethodName) ∈ gw_tbl := gw_at 572 (by decide +kernel) (by decide +kernel)
theorem wt_573 : Jvm.Cond.code ({ cls := "TermLodgings$Town", name := "weighAll", desc := "()V" } : Jvm.MethodName) prog_9_method_3_code (3 : Nat) (Option.none : Option Jvm.ClassFile.FieldType) ∈ gw_tbl := gw_at 573 (by decide +kernel) (by decide +kernel)
theorem wt_574 : Jvm.Cond.methodLink "TermLodgings$Town" (65 : Nat) ({ cls := "TermLodgings$Town", name := "suits", desc := "(II)Z" } : Jvm.MethodName) ∈ gw_tbl := gw_at 574 (by decide +kernel) (by decide +kernel)
theorem wt_575 : Jvm.Cond.methodLink "TermLodgings$Dealing" (40 : Nat) ({ cls := "TermLodgings$Town", name := "leave", desc := "(I)V" } : Jvm.MethodName) ∈ gw_tbl := gw_at 575 (by decide +kernel) (by decide +kernel)
theorem wt_576 : Jvm.Cond.methodLink "TermLodgings$Dealing" (47 : Nat) ({ cls := "TermLodgings$Turns", name := "at", desc := "(I)I" } : Jvm.MethodName) ∈ gw_tbl := gw_at 576 (by decide +kernel) (by decide +kernel)
theorem wt_578 : Jvm.Cond.methodLink "TermLodgings$Dealing" (55 : Nat) ({ cls := "TermLodgings$People", name := "friendsOf", desc := "(I)I" } : Jvm.MethodName) ∈ gw_tbl := gw_at 578 (by decide +kernel) (by decide +kernel)
theorem wt_579 : Jvm.Cond.instanceMethod ({ cls := "TermLodgings$People", name := "friendsOf", desc := "(I)I" } : Jvm.MethodName) ∈ gw_tbl := gw_at 579 (by decide +kernel) (by decide +kernel)
theorem wt_580 : Jvm.Cond.selects "TermLodgings$People" ({ cls := "TermLodgings$People", name := "friendsOf", desc := "(I)I" } : Jvm.MethodName) ({ cls := "TermLodgings$People", name := "friendsOf", desc := "(I)I" } : Jvm.MethodName) ∈ gw_tbl := gw_at 580 (by decide +kernel) (by decide +kernel)
theorem wt_581 : Jvm.Cond.code ({ cls := "TermLodgings$People", name := "friendsOf", desc := "(I)I" } : Jvm.MethodName) prog_5_method_9_code (4 : Nat) (Option.some Jvm.ClassFile.FieldType.int) ∈ gw_tbl := gw_at 581 (by decide +kernel) (by decide +kernel)
theorem wt_582 : Jvm.Cond.methodLink "TermLodgings$Dealing" (58 : Nat) ({ cls := "TermLodgings$Dealing", name := "serve", desc := "(II)V" } : Jvm.MethodName) ∈ gw_tbl := gw_at 582 (by decide +kernel) (by decide +kernel)
theorem wt_584 : Jvm.Cond.instanceMethod ({ cls := "TermLodgings$Dealing", name := "serve", desc := "(II)V" } : Jvm.MethodName) ∈ gw_tbl := gw_at 584 (by decide +kernel) (by decide +kernel)
theorem wt_585 : Jvm.Cond.code ({ cls := "TermLodgings$Dealing", name := "serve", desc := "(II)V" } : Jvm.MethodName) prog_2_method_3_code (4 : Nat) (Option.none : Option Jvm.ClassFile.FieldType) ∈ gw_tbl := gw_at 585 (by decide +kernel) (by decide +kernel)
theorem wt_586 : Jvm.Cond.methodLink "TermLodgings$Dealing" (62 : Nat) ({ cls := "java/lang/Integer", name := "bitCount", desc := "(I)I" } : Jvm.MethodName) ∈ gw_tbl := gw_at 586 (by decide +kernel) (by decide +kernel)
theorem wt_587 : Jvm.Cond.static ({ cls := "java/lang/Integer", name := "bitCount", desc := "(I)I" } : Jvm.MethodName) ∈ gw_tbl := gw_at 587 (by decide +kernel) (by decide +kernel)
theorem wt_588 : Jvm.Cond.code ({ cls := "java/lang/Integer", name := "bitCount", desc := "(I)I" } : Jvm.MethodName) prog_14_method_49_code (1 : Nat) (Option.some Jvm.ClassFile.FieldType.int) ∈ gw_tbl := gw_at 588 (by decide +kernel) (by decide +kernel)
theorem wt_589 : Jvm.Cond.constant "java/lang/Integer" (265 : Nat) (1431655765 : Int32) ∈ gw_tbl := gw_at 589 (by decide +kernel) (by decide +kernel)
theorem wt_590 : Jvm.Cond.constant "java/lang/Integer" (266 : Nat) (858993459 : Int32) ∈ gw_tbl := gw_at 590 (by decide +kernel) (by decide +kernel)
theorem wt_591 : Jvm.Cond.constant "java/lang/Integer" (267 : Nat) (252645135 : Int32) ∈ gw_tbl := gw_at 591 (by decide +kernel) (by decide +kernel)
theorem wt_592 : Jvm.Cond.methodLink "TermLodgings$Dealing" (67 : Nat) ({ cls := "TermLodgings$Dealing", name := "settleTogether", desc := "(II)Z" } : Jvm.MethodName) ∈ gw_tbl := gw_at 592 (by decide +kernel) (by decide +kernel)
theorem wt_594 : Jvm.Cond.instanceMethod ({ cls := "TermLodgings$Dealing", name := "settleTogether", desc := "(II)Z" } : Jvm.MethodName) ∈ gw_tbl := gw_at 594 (by decide +kernel) (by decide +kernel)
theorem wt_595 : Jvm.Cond.code ({ cls := "TermLodgings$Dealing", name := "settleTogether", desc := "(II)Z" } : Jvm.MethodName) prog_2_method_4_code (5 : Nat) (Option.some Jvm.ClassFile.FieldType.boolean) ∈ gw_tbl := gw_at 595 (by decide +kernel) (by decide +kernel)
theorem wt_596 : Jvm.Cond.methodLink "TermLodgings$Dealing" (73 : Nat) ({ cls := "TermLodgings$People", name := "wishesOf", desc := "(I)I" } : Jvm.MethodName) ∈ gw_tbl := gw_at 596 (by decide +kernel) (by decide +kernel)
theorem wt_597 : Jvm.Cond.methodLink "TermLodgings$Dealing" (76 : Nat) ({ cls := "TermLodgings$People", name := "wishAt", desc := "(II)I" } : Jvm.MethodName) ∈ gw_tbl := gw_at 597 (by decide +kernel) (by decide +kernel)
theorem wt_598 : Jvm.Cond.methodLink "TermLodgings$Dealing" (80 : Nat) ({ cls := "TermLodgings$Rooms", name := "houseOf", desc := "(I)I" } : Jvm.MethodName) ∈ gw_tbl := gw_at 598 (by decide +kernel) (by decide +kernel)
theorem wt_599 : Jvm.Cond.instanceMethod ({ cls := "TermLodgings$Rooms", name := "houseOf", desc := "(I)I" } : Jvm.MethodName) ∈ gw_tbl := gw_at 599 (by decide +kernel) (by decide +kernel)
theorem wt_600 : Jvm.Cond.selects "TermLodgings$Rooms" ({ cls := "TermLodgings$Rooms", name := "houseOf", desc := "(I)I" } : Jvm.MethodName) ({ cls := "TermLodgings$Rooms", name := "houseOf", desc := "(I)I" } : Jvm.MethodName) ∈ gw_tbl := gw_at 600 (by decide +kernel) (by decide +kernel)
theorem wt_601 : Jvm.Cond.code ({ cls := "TermLodgings$Rooms", name := "houseOf", desc := "(I)I" } : Jvm.MethodName) prog_7_method_4_code (2 : Nat) (Option.some Jvm.ClassFile.FieldType.int) ∈ gw_tbl := gw_at 601 (by decide +kernel) (by decide +kernel)
theorem wt_602 : Jvm.Cond.methodLink "TermLodgings$Dealing" (85 : Nat) ({ cls := "TermLodgings$Rooms", name := "under", desc := "(I)I" } : Jvm.MethodName) ∈ gw_tbl := gw_at 602 (by decide +kernel) (by decide +kernel)
theorem wt_603 : Jvm.Cond.instanceMethod ({ cls := "TermLodgings$Rooms", name := "under", desc := "(I)I" } : Jvm.MethodName) ∈ gw_tbl := gw_at 603 (by decide +kernel) (by decide +kernel)
theorem wt_604 : Jvm.Cond.selects "TermLodgings$Rooms" ({ cls := "TermLodgings$Rooms", name := "under", desc := "(I)I" } : Jvm.MethodName) ({ cls := "TermLodgings$Rooms", name := "under", desc := "(I)I" } : Jvm.MethodName) ∈ gw_tbl := gw_at 604 (by decide +kernel) (by decide +kernel)
theorem wt_605 : Jvm.Cond.code ({ cls := "TermLodgings$Rooms", name := "under", desc := "(I)I" } : Jvm.MethodName) prog_7_method_6_code (4 : Nat) (Option.some Jvm.ClassFile.FieldType.int) ∈ gw_tbl := gw_at 605 (by decide +kernel) (by decide +kernel)
theorem wt_606 : Jvm.Cond.methodLink "TermLodgings$Dealing" (88 : Nat) ({ cls := "TermLodgings$Dealing", name := "pickAmong", desc := "(II)Z" } : Jvm.MethodName) ∈ gw_tbl := gw_at 606 (by decide +kernel) (by decide +kernel)
theorem wt_608 : Jvm.Cond.instanceMethod ({ cls := "TermLodgings$Dealing", name := "pickAmong", desc := "(II)Z" } : Jvm.MethodName) ∈ gw_tbl := gw_at 608 (by decide +kernel) (by decide +kernel)
theorem wt_609 : Jvm.Cond.code ({ cls := "TermLodgings$Dealing", name := "pickAmong", desc := "(II)Z" } : Jvm.MethodName) prog_2_method_5_code (6 : Nat) (Option.some Jvm.ClassFile.FieldType.boolean) ∈ gw_tbl := gw_at 609 (by decide +kernel) (by decide +kernel)
theorem wt_610 : Jvm.Cond.methodLink "TermLodgings$Dealing" (94 : Nat) ({ cls := "TermLodgings$Town", name := "openTo", desc := "(I)I" } : Jvm.MethodName) ∈ gw_tbl := gw_at 610 (by decide +kernel) (by decide +kernel)
theorem wt_611 : Jvm.Cond.instanceMethod ({ cls := "TermLodgings$Town", name := "openTo", desc := "(I)I" } : Jvm.MethodName) ∈ gw_tbl := gw_at 611 (by decide +kernel) (by decide +kernel)
theorem wt_612 : Jvm.Cond.selects "TermLodgings$Town" ({ cls := "TermLodgings$Town", name := "openTo", desc := "(I)I" } : Jvm.MethodName) ({ cls := "TermLodgings$Town", name := "openTo", desc := "(I)I" } : Jvm.MethodName) ∈ gw_tbl := gw_at 612 (by decide +kernel) (by decide +kernel)
theorem wt_613 : Jvm.Cond.code ({ cls := "TermLodgings$Town", name := "openTo", desc := "(I)I" } : Jvm.MethodName) prog_9_method_5_code (2 : Nat) (Option.some Jvm.ClassFile.FieldType.int) ∈ gw_tbl := gw_at 613 (by decide +kernel) (by decide +kernel)
theorem wt_615 : Jvm.Cond.static ({ cls := "TermLodgings", name := "leastIn", desc := "(I)I" } : Jvm.MethodName) ∈ gw_tbl := gw_at 615 (by decide +kernel) (by decide +kernel)
theorem wt_616 : Jvm.Cond.code ({ cls := "TermLodgings", name := "leastIn", desc := "(I)I" } : Jvm.MethodName) prog_1_method_36_code (2 : Nat) (Option.some Jvm.ClassFile.FieldType.int) ∈ gw_tbl := gw_at 616 (by decide +kernel) (by decide +kernel)
theorem wt_617 : Jvm.Cond.methodLink "TermLodgings" (272 : Nat) ({ cls := "TermLodgings", name := "inBits", desc := "(II)Z" } : Jvm.MethodName) ∈ gw_tbl := gw_at 617 (by decide +kernel) (by decide +kernel)
theorem wt_618 : Jvm.Cond.methodLink "TermLodgings$Dealing" (91 : Nat) ({ cls := "TermLodgings$Dealing", name := "settlePicks", desc := "(I)V" } : Jvm.MethodName) ∈ gw_tbl := gw_at 618 (by decide +kernel) (by decide +kernel)
theorem wt_620 : Jvm.Cond.instanceMethod ({ cls := "TermLodgings$Dealing", name := "settlePicks", desc := "(I)V" } : Jvm.MethodName) ∈ gw_tbl := gw_at 620 (by decide +kernel) (by decide +kernel)
theorem wt_621 : Jvm.Cond.code ({ cls := "TermLodgings$Dealing", name := "settlePicks", desc := "(I)V" } : Jvm.MethodName) prog_2_method_6_code (3 : Nat) (Option.none : Option Jvm.ClassFile.FieldType) ∈ gw_tbl := gw_at 621 (by decide +kernel) (by decide +kernel)
theorem wt_622 : Jvm.Cond.methodLink "TermLodgings$Dealing" (100 : Nat) ({ cls := "TermLodgings$Town", name := "settle", desc := "(II)V" } : Jvm.MethodName) ∈ gw_tbl := gw_at 622 (by decide +kernel) (by decide +kernel)
theorem wt_623 : Jvm.Cond.methodLink "TermLodgings$Dealing" (70 : Nat) ({ cls := "TermLodgings$Dealing", name := "settleEach", desc := "(I)V" } : Jvm.MethodName) ∈ gw_tbl := gw_at 623 (by decide +kernel) (by decide +kernel)
theorem wt_625 : Jvm.Cond.instanceMethod ({ cls := "TermLodgings$Dealing", name := "settleEach", desc := "(I)V" } : Jvm.MethodName) ∈ gw_tbl := gw_at 625 (by decide +kernel) (by decide +kernel)
theorem wt_626 : Jvm.Cond.code ({ cls := "TermLodgings$Dealing", name := "settleEach", desc := "(I)V" } : Jvm.MethodName) prog_2_method_7_code (3 : Nat) (Option.none : Option Jvm.ClassFile.FieldType) ∈ gw_tbl := gw_at 626 (by decide +kernel) (by decide +kernel)
theorem wt_627 : Jvm.Cond.methodLink "TermLodgings$Dealing" (103 : Nat) ({ cls := "TermLodgings$Dealing", name := "dearestOpenWish", desc := "(I)I" } : Jvm.MethodName) ∈ gw_tbl := gw_at 627 (by decide +kernel) (by decide +kernel)
theorem wt_629 : Jvm.Cond.instanceMethod ({ cls := "TermLodgings$Dealing", name := "dearestOpenWish", desc := "(I)I" } : Jvm.MethodName) ∈ gw_tbl := gw_at 629 (by decide +kernel) (by decide +kernel)
theorem wt_630 : Jvm.Cond.code ({ cls := "TermLodgings$Dealing", name := "dearestOpenWish", desc := "(I)I" } : Jvm.MethodName) prog_2_method_8_code (5 : Nat) (Option.some Jvm.ClassFile.FieldType.int) ∈ gw_tbl := gw_at 630 (by decide +kernel) (by decide +kernel)
theorem wt_631 : Jvm.Cond.methodLink "TermLodgings" (197 : Nat) ({ cls := "TermLodgings$People", name := "housed", desc := "()I" } : Jvm.MethodName) ∈ gw_tbl := gw_at 631 (by decide +kernel) (by decide +kernel)
theorem wt_632 : Jvm.Cond.instanceMethod ({ cls := "TermLodgings$People", name := "housed", desc := "()I" } : Jvm.MethodName) ∈ gw_tbl := gw_at 632 (by decide +kernel) (by decide +kernel)
theorem wt_633 : Jvm.Cond.selects "TermLodgings$People" ({ cls := "TermLodgings$People", name := "housed", desc := "()I" } : Jvm.MethodName) ({ cls := "TermLodgings$People", name := "housed", desc := "()I" } : Jvm.MethodName) ∈ gw_tbl := gw_at 633 (by decide +kernel) (by decide +kernel)
theorem wt_634 : Jvm.Cond.code ({ cls := "TermLodgings$People", name := "housed", desc := "()I" } : Jvm.MethodName) prog_5_method_10_code (3 : Nat) (Option.some Jvm.ClassFile.FieldType.int) ∈ gw_tbl := gw_at 634 (by decide +kernel) (by decide +kernel)
theorem wt_635 : Jvm.Cond.methodLink "TermLodgingsLaw" (81 : Nat) ({ cls := "TermLodgings", name := "trade", desc := "()I" } : Jvm.MethodName) ∈ gw_tbl := gw_at 635 (by decide +kernel) (by decide +kernel)
theorem wt_636 : Jvm.Cond.instanceMethod ({ cls := "TermLodgings", name := "trade", desc := "()I" } : Jvm.MethodName) ∈ gw_tbl := gw_at 636 (by decide +kernel) (by decide +kernel)
theorem wt_637 : Jvm.Cond.selects "TermLodgings" ({ cls := "TermLodgings", name := "trade", desc := "()I" } : Jvm.MethodName) ({ cls := "TermLodgings", name := "trade", desc := "()I" } : Jvm.MethodName) ∈ gw_tbl := gw_at 637 (by decide +kernel) (by decide +kernel)
theorem wt_638 : Jvm.Cond.code ({ cls := "TermLodgings", name := "trade", desc := "()I" } : Jvm.MethodName) prog_1_method_20_code (1 : Nat) (Option.some Jvm.ClassFile.FieldType.int) ∈ gw_tbl := gw_at 638 (by decide +kernel) (by decide +kernel)
theorem wt_639 : Jvm.Cond.methodLink "TermLodgings" (200 : Nat) ({ cls := "TermLodgings$Trading", name := "run", desc := "()I" } : Jvm.MethodName) ∈ gw_tbl := gw_at 639 (by decide +kernel) (by decide +kernel)
theorem wt_640 : Jvm.Cond.instanceMethod ({ cls := "TermLodgings$Trading", name := "run", desc := "()I" } : Jvm.MethodName) ∈ gw_tbl := gw_at 640 (by decide +kernel) (by decide +kernel)
theorem wt_641 : Jvm.Cond.selects "TermLodgings$Trading" ({ cls := "TermLodgings$Trading", name := "run", desc := "()I" } : Jvm.MethodName) ({ cls := "TermLodgings$Trading", name := "run", desc := "()I" } : Jvm.MethodName) ∈ gw_tbl := gw_at 641 (by decide +kernel) (by decide +kernel)
theorem wt_642 : Jvm.Cond.code ({ cls := "TermLodgings$Trading", name := "run", desc := "()I" } : Jvm.MethodName) prog_10_method_2_code (2 : Nat) (Option.some Jvm.ClassFile.FieldType.int) ∈ gw_tbl := gw_at 642 (by decide +kernel) (by decide +kernel)
theorem wt_643 : Jvm.Cond.methodLink "TermLodgings$Trading" (29 : Nat) ({ cls := "TermLodgings$Town", name := "weighAll", desc := "()V" } : Jvm.MethodName) ∈ gw_tbl := gw_at 643 (by decide +kernel) (by decide +kernel)
theorem wt_644 : Jvm.Cond.methodLink "TermLodgings$Trading" (32 : Nat) ({ cls := "TermLodgings$Trading", name := "traders", desc := "()I" } : Jvm.MethodName) ∈ gw_tbl := gw_at 644 (by decide +kernel) (by decide +kernel)
theorem wt_646 : Jvm.Cond.instanceMethod ({ cls := "TermLodgings$Trading", name := "traders", desc := "()I" } : Jvm.MethodName) ∈ gw_tbl := gw_at 646 (by decide +kernel) (by decide +kernel)
theorem wt_647 : Jvm.Cond.code ({ cls := "TermLodgings$Trading", name := "traders", desc := "()I" } : Jvm.MethodName) prog_10_method_3_code (3 : Nat) (Option.some Jvm.ClassFile.FieldType.int) ∈ gw_tbl := gw_at 647 (by decide +kernel) (by decide +kernel)
theorem wt_648 : Jvm.Cond.methodLink "TermLodgings$Trading" (64 : Nat) ({ cls := "TermLodgings$Town", name := "choiceOf", desc := "(I)I" } : Jvm.MethodName) ∈ gw_tbl := gw_at 648 (by decide +kernel) (by decide +kernel)
theorem wt_649 : Jvm.Cond.instanceMethod ({ cls := "TermLodgings$Town", name := "choiceOf", desc := "(I)I" } : Jvm.MethodName) ∈ gw_tbl := gw_at 649 (by decide +kernel) (by decide +kernel)
theorem wt_650 : Jvm.Cond.selects "TermLodgings$Town" ({ cls := "TermLodgings$Town", name := "choiceOf", desc := "(I)I" } : Jvm.MethodName) ({ cls := "TermLodgings$Town", name := "choiceOf", desc := "(I)I" } : Jvm.MethodName) ∈ gw_tbl := gw_at 650 (by decide +kernel) (by decide +kernel)
theorem wt_651 : Jvm.Cond.code ({ cls := "TermLodgings$Town", name := "choiceOf", desc := "(I)I" } : Jvm.MethodName) prog_9_method_4_code (2 : Nat) (Option.some Jvm.ClassFile.FieldType.int) ∈ gw_tbl := gw_at 651 (by decide +kernel) (by decide +kernel)
theorem wt_652 : Jvm.Cond.methodLink "TermLodgings$Trading" (67 : Nat) ({ cls := "TermLodgings$People", name := "lodgingOf", desc := "(I)I" } : Jvm.MethodName) ∈ gw_tbl := gw_at 652 (by decide +kernel) (by decide +kernel)
theorem wt_654 : Jvm.Cond.methodLink "TermLodgings$Trading" (49 : Nat) ({ cls := "TermLodgings$Trading", name := "pointAll", desc := "()V" } : Jvm.MethodName) ∈ gw_tbl := gw_at 654 (by decide +kernel) (by decide +kernel)
theorem wt_656 : Jvm.Cond.instanceMethod ({ cls := "TermLodgings$Trading", name := "pointAll", desc := "()V" } : Jvm.MethodName) ∈ gw_tbl := gw_at 656 (by decide +kernel) (by decide +kernel)
theorem wt_657 : Jvm.Cond.code ({ cls := "TermLodgings$Trading", name := "pointAll", desc := "()V" } : Jvm.MethodName) prog_10_method_4_code (2 : Nat) (Option.none : Option Jvm.ClassFile.FieldType) ∈ gw_tbl := gw_at 657 (by decide +kernel) (by decide +kernel)
theorem wt_658 : Jvm.Cond.methodLink "TermLodgings$Trading" (74 : Nat) ({ cls := "TermLodgings$Trading", name := "pointedAtBy", desc := "(I)I" } : Jvm.MethodName) ∈ gw_tbl := gw_at 658 (by decide +kernel) (by decide +kernel)
theorem wt_660 : Jvm.Cond.instanceMethod ({ cls := "TermLodgings$Trading", name := "pointedAtBy", desc := "(I)I" } : Jvm.MethodName) ∈ gw_tbl := gw_at 660 (by decide +kernel) (by decide +kernel)
theorem wt_661 : Jvm.Cond.code ({ cls := "TermLodgings$Trading", name := "pointedAtBy", desc := "(I)I" } : Jvm.MethodName) prog_10_method_5_code (7 : Nat) (Option.some Jvm.ClassFile.FieldType.int) ∈ gw_tbl := gw_at 661 (by decide +kernel) (by decide +kernel)
theorem wt_662 : Jvm.Cond.methodLink "TermLodgings$Trading" (77 : Nat) ({ cls := "TermLodgings$People", name := "wishesOf", desc := "(I)I" } : Jvm.MethodName) ∈ gw_tbl := gw_at 662 (by decide +kernel) (by decide +kernel)
theorem wt_663 : Jvm.Cond.methodLink "TermLodgings$Trading" (80 : Nat) ({ cls := "TermLodgings$People", name := "wishAt", desc := "(II)I" } : Jvm.MethodName) ∈ gw_tbl := gw_at 663 (by decide +kernel) (by decide +kernel)
theorem wt_664 : Jvm.Cond.methodLink "TermLodgings$Trading" (88 : Nat) ({ cls := "TermLodgings$Rooms", name := "holderOf", desc := "(I)I" } : Jvm.MethodName) ∈ gw_tbl := gw_at 664 (by decide +kernel) (by decide +kernel)
theorem wt_665 : Jvm.Cond.methodLink "TermLodgings$Trading" (52 : Nat) ({ cls := "TermLodgings$Trading", name := "closeAllRings", desc := "()V" } : Jvm.MethodName) ∈ gw_tbl := gw_at 665 (by decide +kernel) (by decide +kernel)
theorem wt_667 : Jvm.Cond.instanceMethod ({ cls := "TermLodgings$Trading", name := "closeAllRings", desc := "()V" } : Jvm.MethodName) ∈ gw_tbl := gw_at 667 (by decide +kernel) (by decide +kernel)
theorem wt_668 : Jvm.Cond.code ({ cls := "TermLodgings$Trading", name := "closeAllRings", desc := "()V" } : Jvm.MethodName) prog_10_method_6_code (3 : Nat) (Option.none : Option Jvm.ClassFile.FieldType) ∈ gw_tbl := gw_at 668 (by decide +kernel) (by decide +kernel)
theorem wt_669 : Jvm.Cond.methodLink "TermLodgings$Trading" (93 : Nat) ({ cls := "TermLodgings$Trading", name := "ringLength", desc := "(I)I" } : Jvm.MethodName) ∈ gw_tbl := gw_at 669 (by decide +kernel) (by decide +kernel)
theorem wt_671 : Jvm.Cond.instanceMethod ({ cls := "TermLodgings$Trading", name := "ringLength", desc := "(I)I" } : Jvm.MethodName) ∈ gw_tbl := gw_at 671 (by decide +kernel) (by decide +kernel)
theorem wt_672 : Jvm.Cond.code ({ cls := "TermLodgings$Trading", name := "ringLength", desc := "(I)I" } : Jvm.MethodName) prog_10_method_7_code (4 : Nat) (Option.some Jvm.ClassFile.FieldType.int) ∈ gw_tbl := gw_at 672 (by decide +kernel) (by decide +kernel)
theorem wt_673 : Jvm.Cond.methodLink "TermLodgings$Trading" (99 : Nat) ({ cls := "TermLodgings$Trading", name := "targetOf", desc := "(I)I" } : Jvm.MethodName) ∈ gw_tbl := gw_at 673 (by decide +kernel) (by decide +kernel)
theorem wt_675 : Jvm.Cond.instanceMethod ({ cls := "TermLodgings$Trading", name := "targetOf", desc := "(I)I" } : Jvm.MethodName) ∈ gw_tbl := gw_at 675 (by decide +kernel) (by decide +kernel)
theorem wt_676 : Jvm.Cond.code ({ cls := "TermLodgings$Trading", name := "targetOf", desc := "(I)I" } : Jvm.MethodName) prog_10_method_8_code (2 : Nat) (Option.some Jvm.ClassFile.FieldType.int) ∈ gw_tbl := gw_at 676 (by decide +kernel) (by decide +kernel)
theorem wt_677 : Jvm.Cond.methodLink "TermLodgings$Trading" (102 : Nat) ({ cls := "TermLodgings$People", name := "has", desc := "(I)Z" } : Jvm.MethodName) ∈ gw_tbl := gw_at 677 (by decide +kernel) (by decide +kernel)
theorem wt_678 : Jvm.Cond.methodLink "TermLodgings$Trading" (96 : Nat) ({ cls := "TermLodgings$Trading", name := "closeRing", desc := "(II)I" } : Jvm.MethodName) ∈ gw_tbl := gw_at 678 (by decide +kernel) (by decide +kernel)
theorem wt_680 : Jvm.Cond.instanceMethod ({ cls := "TermLodgings$Trading", name := "closeRing", desc := "(II)I" } : Jvm.MethodName) ∈ gw_tbl := gw_at 680 (by decide +kernel) (by decide +kernel)
theorem wt_681 : Jvm.Cond.code ({ cls := "TermLodgings$Trading", name := "closeRing", desc := "(II)I" } : Jvm.MethodName) prog_10_method_9_code (6 : Nat) (Option.some Jvm.ClassFile.FieldType.int) ∈ gw_tbl := gw_at 681 (by decide +kernel) (by decide +kernel)
theorem wt_682 : Jvm.Cond.methodLink "TermLodgings$Trading" (106 : Nat) ({ cls := "java/lang/Math", name := "max", desc := "(II)I" } : Jvm.MethodName) ∈ gw_tbl := gw_at 682 (by decide +kernel) (by decide +kernel)
theorem wt_683 : Jvm.Cond.static ({ cls := "java/lang/Math", name := "max", desc := "(II)I" } : Jvm.MethodName) ∈ gw_tbl := gw_at 683 (by decide +kernel) (by decide +kernel)
theorem wt_684 : Jvm.Cond.code ({ cls := "java/lang/Math", name := "max", desc := "(II)I" } : Jvm.MethodName) prog_15_method_65_code (2 : Nat) (Option.some Jvm.ClassFile.FieldType.int) ∈ gw_tbl := gw_at 684 (by decide +kernel) (by decide +kernel)
theorem wt_685 : Jvm.Cond.methodLink "TermLodgings$Trading" (55 : Nat) ({ cls := "TermLodgings$Trading", name := "moveAll", desc := "(I)I" } : Jvm.MethodName) ∈ gw_tbl := gw_at 685 (by decide +kernel) (by decide +kernel)
theorem wt_687 : Jvm.Cond.instanceMethod ({ cls := "TermLodgings$Trading", name := "moveAll", desc := "(I)I" } : Jvm.MethodName) ∈ gw_tbl := gw_at 687 (by decide +kernel) (by decide +kernel)
theorem wt_688 : Jvm.Cond.code ({ cls := "TermLodgings$Trading", name := "moveAll", desc := "(I)I" } : Jvm.MethodName) prog_10_method_10_code (4 : Nat) (Option.some Jvm.ClassFile.FieldType.int) ∈ gw_tbl := gw_at 688 (by decide +kernel) (by decide +kernel)
theorem wt_689 : Jvm.Cond.methodLink "TermLodgings$Trading" (111 : Nat) ({ cls := "TermLodgings$Town", name := "settle", desc := "(II)V" } : Jvm.MethodName) ∈ gw_tbl := gw_at 689 (by decide +kernel) (by decide +kernel)
theorem wt_690 : Jvm.Cond.methodLink "TermLodgingsLaw" (85 : Nat) ({ cls := "TermLodgings", name := "traded", desc := "(I)I" } : Jvm.MethodName) ∈ gw_tbl := gw_at 690 (by decide +kernel) (by decide +kernel)
theorem wt_691 : Jvm.Cond.instanceMethod ({ cls := "TermLodgings", name := "traded", desc := "(I)I" } : Jvm.MethodName) ∈ gw_tbl := gw_at 691 (by decide +kernel) (by decide +kernel)
theorem wt_692 : Jvm.Cond.selects "TermLodgings" ({ cls := "TermLodgings", name := "traded", desc := "(I)I" } : Jvm.MethodName) ({ cls := "TermLodgings", name := "traded", desc := "(I)I" } : Jvm.MethodName) ∈ gw_tbl := gw_at 692 (by decide +kernel) (by decide +kernel)
theorem wt_693 : Jvm.Cond.code ({ cls := "TermLodgings", name := "traded", desc := "(I)I" } : Jvm.MethodName) prog_1_method_21_code (2 : Nat) (Option.some Jvm.ClassFile.FieldType.int) ∈ gw_tbl := gw_at 693 (by decide +kernel) (by decide +kernel)
theorem wt_694 : Jvm.Cond.methodLink "TermLodgingsLaw" (89 : Nat) ({ cls := "TermLodgings", name := "strike", desc := "(I)I" } : Jvm.MethodName) ∈ gw_tbl := gw_at 694 (by decide +kernel) (by decide +kernel)
theorem wt_695 : Jvm.Cond.instanceMethod ({ cls := "TermLodgings", name := "strike", desc := "(I)I" } : Jvm.MethodName) ∈ gw_tbl := gw_at 695 (by decide +kernel) (by decide +kernel)
theorem wt_696 : Jvm.Cond.selects "TermLodgings" ({ cls := "TermLodgings", name := "strike", desc := "(I)I" } : Jvm.MethodName) ({ cls := "TermLodgings", name := "strike", desc := "(I)I" } : Jvm.MethodName) ∈ gw_tbl := gw_at 696 (by decide +kernel) (by decide +kernel)
theorem wt_697 : Jvm.Cond.code ({ cls := "TermLodgings", name := "strike", desc := "(I)I" } : Jvm.MethodName) prog_1_method_22_code (2 : Nat) (Option.some Jvm.ClassFile.FieldType.int) ∈ gw_tbl := gw_at 697 (by decide +kernel) (by decide +kernel)
theorem wt_698 : Jvm.Cond.methodLink "TermLodgings" (211 : Nat) ({ cls := "TermLodgings$Rooms", name := "isStruck", desc := "(I)Z" } : Jvm.MethodName) ∈ gw_tbl := gw_at 698 (by decide +kernel) (by decide +kernel)
theorem wt_699 : Jvm.Cond.methodLink "TermLodgings" (214 : Nat) ({ cls := "TermLodgings$Moving", name := "run", desc := "(I)I" } : Jvm.MethodName) ∈ gw_tbl := gw_at 699 (by decide +kernel) (by decide +kernel)
theorem wt_700 : Jvm.Cond.instanceMethod ({ cls := "TermLodgings$Moving", name := "run", desc := "(I)I" } : Jvm.MethodName) ∈ gw_tbl := gw_at 700 (by decide +kernel) (by decide +kernel)
theorem wt_701 : Jvm.Cond.selects "TermLodgings$Moving" ({ cls := "TermLodgings$Moving", name := "run", desc := "(I)I" } : Jvm.MethodName) ({ cls := "TermLodgings$Moving", name := "run", desc := "(I)I" } : Jvm.MethodName) ∈ gw_tbl := gw_at 701 (by decide +kernel) (by decide +kernel)
theorem wt_702 : Jvm.Cond.code ({ cls := "TermLodgings$Moving", name := "run", desc := "(I)I" } : Jvm.MethodName) prog_3_method_2_code (3 : Nat) (Option.some Jvm.ClassFile.FieldType.int) ∈ gw_tbl := gw_at 702 (by decide +kernel) (by decide +kernel)
theorem wt_703 : Jvm.Cond.methodLink "TermLodgings$Moving" (52 : Nat) ({ cls := "TermLodgings$Moving", name := "emptyHouse", desc := "(I)V" } : Jvm.MethodName) ∈ gw_tbl := gw_at 703 (by decide +kernel) (by decide +kernel)
theorem wt_705 : Jvm.Cond.instanceMethod ({ cls := "TermLodgings$Moving", name := "emptyHouse", desc := "(I)V" } : Jvm.MethodName) ∈ gw_tbl := gw_at 705 (by decide +kernel) (by decide +kernel)
theorem wt_706 : Jvm.Cond.code ({ cls := "TermLodgings$Moving", name := "emptyHouse", desc := "(I)V" } : Jvm.MethodName) prog_3_method_3_code (3 : Nat) (Option.none : Option Jvm.ClassFile.FieldType) ∈ gw_tbl := gw_at 706 (by decide +kernel) (by decide +kernel)
theorem wt_707 : Jvm.Cond.methodLink "TermLodgings$Moving" (78 : Nat) ({ cls := "TermLodgings$People", name := "lodgingOf", desc := "(I)I" } : Jvm.MethodName) ∈ gw_tbl := gw_at 707 (by decide +kernel) (by decide +kernel)
theorem wt_708 : Jvm.Cond.methodLink "TermLodgings$Moving" (81 : Nat) ({ cls := "TermLodgings$Rooms", name := "houseOf", desc := "(I)I" } : Jvm.MethodName) ∈ gw_tbl := gw_at 708 (by decide +kernel) (by decide +kernel)
theorem wt_709 : Jvm.Cond.methodLink "TermLodgings$Moving" (84 : Nat) ({ cls := "TermLodgings$Town", name := "leave", desc := "(I)V" } : Jvm.MethodName) ∈ gw_tbl := gw_at 709 (by decide +kernel) (by decide +kernel)
theorem wt_710 : Jvm.Cond.methodLink "TermLodgings$Moving" (56 : Nat) ({ cls := "TermLodgings$Town", name := "weighAll", desc := "()V" } : Jvm.MethodName) ∈ gw_tbl := gw_at 710 (by decide +kernel) (by decide +kernel)
theorem wt_711 : Jvm.Cond.methodLink "TermLodgings$Moving" (62 : Nat) ({ cls := "TermLodgings$Town", name := "openTo", desc := "(I)I" } : Jvm.MethodName) ∈ gw_tbl := gw_at 711 (by decide +kernel) (by decide +kernel)
theorem wt_712 : Jvm.Cond.methodLink "TermLodgings$Moving" (66 : Nat) ({ cls := "TermLodgings$Moving", name := "mostFrom", desc := "(II)I" } : Jvm.MethodName) ∈ gw_tbl := gw_at 712 (by decide +kernel) (by decide +kernel)
theorem wt_714 : Jvm.Cond.instanceMethod ({ cls := "TermLodgings$Moving", name := "mostFrom", desc := "(II)I" } : Jvm.MethodName) ∈ gw_tbl := gw_at 714 (by decide +kernel) (by decide +kernel)
theorem wt_715 : Jvm.Cond.code ({ cls := "TermLodgings$Moving", name := "mostFrom", desc := "(II)I" } : Jvm.MethodName) prog_3_method_6_code (6 : Nat) (Option.some Jvm.ClassFile.FieldType.int) ∈ gw_tbl := gw_at 715 (by decide +kernel) (by decide +kernel)
theorem wt_716 : Jvm.Cond.methodLink "TermLodgings$Moving" (100 : Nat) ({ cls := "java/util/Arrays", name := "fill", desc := "([II)V" } : Jvm.MethodName) ∈ gw_tbl := gw_at 716 (by decide +kernel) (by decide +kernel)
theorem wt_717 : Jvm.Cond.methodLink "TermLodgings$Moving" (106 : Nat) ({ cls := "TermLodgings$Moving", name := "findRoom", desc := "(II)I" } : Jvm.MethodName) ∈ gw_tbl := gw_at 717 (by decide +kernel) (by decide +kernel)
theorem wt_719 : Jvm.Cond.instanceMethod ({ cls := "TermLodgings$Moving", name := "findRoom", desc := "(II)I" } : Jvm.MethodName) ∈ gw_tbl := gw_at 719 (by decide +kernel) (by decide +kernel)
theorem wt_720 : Jvm.Cond.code ({ cls := "TermLodgings$Moving", name := "findRoom", desc := "(II)I" } : Jvm.MethodName) prog_3_method_7_code (8 : Nat) (Option.some Jvm.ClassFile.FieldType.int) ∈ gw_tbl := gw_at 720 (by decide +kernel) (by decide +kernel)
theorem wt_721 : Jvm.Cond.methodLink "TermLodgings$Moving" (112 : Nat) ({ cls := "TermLodgings$Moving", name := "choiceOf", desc := "(I)I" } : Jvm.MethodName) ∈ gw_tbl := gw_at 721 (by decide +kernel) (by decide +kernel)
theorem wt_723 : Jvm.Cond.instanceMethod ({ cls := "TermLodgings$Moving", name := "choiceOf", desc := "(I)I" } : Jvm.MethodName) ∈ gw_tbl := gw_at 723 (by decide +kernel) (by decide +kernel)
theorem wt_724 : Jvm.Cond.code ({ cls := "TermLodgings$Moving", name := "choiceOf", desc := "(I)I" } : Jvm.MethodName) prog_3_method_8_code (2 : Nat) (Option.some Jvm.ClassFile.FieldType.int) ∈ gw_tbl := gw_at 724 (by decide +kernel) (by decide +kernel)
theorem wt_726 : Jvm.Cond.methodLink "TermLodgings$Moving" (109 : Nat) ({ cls := "TermLodgings$Moving", name := "changeAlong", desc := "(I)V" } : Jvm.MethodName) ∈ gw_tbl := gw_at 726 (by decide +kernel) (by decide +kernel)
theorem wt_728 : Jvm.Cond.instanceMethod ({ cls := "TermLodgings$Moving", name := "changeAlong", desc := "(I)V" } : Jvm.MethodName) ∈ gw_tbl := gw_at 728 (by decide +kernel) (by decide +kernel)
theorem wt_729 : Jvm.Cond.code ({ cls := "TermLodgings$Moving", name := "changeAlong", desc := "(I)V" } : Jvm.MethodName) prog_3_method_9_code (6 : Nat) (Option.none : Option Jvm.ClassFile.FieldType) ∈ gw_tbl := gw_at 729 (by decide +kernel) (by decide +kernel)
theorem wt_730 : Jvm.Cond.methodLink "TermLodgings$Moving" (115 : Nat) ({ cls := "TermLodgings$Rooms", name := "has", desc := "(I)Z" } : Jvm.MethodName) ∈ gw_tbl := gw_at 730 (by decide +kernel) (by decide +kernel)
theorem wt_731 : Jvm.Cond.methodLink "TermLodgings$Moving" (70 : Nat) ({ cls := "TermLodgings$Moving", name := "settleMovers", desc := "(I)V" } : Jvm.MethodName) ∈ gw_tbl := gw_at 731 (by decide +kernel) (by decide +kernel)
theorem wt_733 : Jvm.Cond.instanceMethod ({ cls := "TermLodgings$Moving", name := "settleMovers", desc := "(I)V" } : Jvm.MethodName) ∈ gw_tbl := gw_at 733 (by decide +kernel) (by decide +kernel)
theorem wt_734 : Jvm.Cond.code ({ cls := "TermLodgings$Moving", name := "settleMovers", desc := "(I)V" } : Jvm.MethodName) prog_3_method_4_code (6 : Nat) (Option.none : Option Jvm.ClassFile.FieldType) ∈ gw_tbl := gw_at 734 (by decide +kernel) (by decide +kernel)
theorem wt_735 : Jvm.Cond.methodLink "TermLodgings$Moving" (87 : Nat) ({ cls := "TermLodgings$Moving", name := "leastRoom", desc := "(III)I" } : Jvm.MethodName) ∈ gw_tbl := gw_at 735 (by decide +kernel) (by decide +kernel)
theorem wt_737 : Jvm.Cond.instanceMethod ({ cls := "TermLodgings$Moving", name := "leastRoom", desc := "(III)I" } : Jvm.MethodName) ∈ gw_tbl := gw_at 737 (by decide +kernel) (by decide +kernel)
theorem wt_738 : Jvm.Cond.code ({ cls := "TermLodgings$Moving", name := "leastRoom", desc := "(III)I" } : Jvm.MethodName) prog_3_method_5_code (6 : Nat) (Option.some Jvm.ClassFile.FieldType.int) ∈ gw_tbl := gw_at 738 (by decide +kernel) (by decide +kernel)
theorem wt_739 : Jvm.Cond.methodLink "TermLodgings$Moving" (91 : Nat) ({ cls := "TermLodgings$Town", name := "settle", desc := "(II)V" } : Jvm.MethodName) ∈ gw_tbl := gw_at 739 (by decide +kernel) (by decide +kernel)
theorem wt_740 : Jvm.Cond.methodLink "TermLodgingsLaw" (93 : Nat) ({ cls := "TermLodgings", name := "license", desc := "(I)I" } : Jvm.MethodName) ∈ gw_tbl := gw_at 740 (by decide +kernel) (by decide +kernel)
theorem wt_741 : Jvm.Cond.instanceMethod ({ cls := "TermLodgings", name := "license", desc := "(I)I" } : Jvm.MethodName) ∈ gw_tbl := gw_at 741 (by decide +kernel) (by decide +kernel)
theorem wt_742 : Jvm.Cond.selects "TermLodgings" ({ cls := "TermLodgings", name := "license", desc := "(I)I" } : Jvm.MethodName) ({ cls := "TermLodgings", name := "license", desc := "(I)I" } : Jvm.MethodName) ∈ gw_tbl := gw_at 742 (by decide +kernel) (by decide +kernel)
theorem wt_743 : Jvm.Cond.code ({ cls := "TermLodgings", name := "license", desc := "(I)I" } : Jvm.MethodName) prog_1_method_23_code (2 : Nat) (Option.some Jvm.ClassFile.FieldType.int) ∈ gw_tbl := gw_at 743 (by decide +kernel) (by decide +kernel)
theorem wt_744 : Jvm.Cond.methodLink "TermLodgingsLaw" (97 : Nat) ({ cls := "TermLodgings", name := "away", desc := "(IZ)I" } : Jvm.MethodName) ∈ gw_tbl := gw_at 744 (by decide +kernel) (by decide +kernel)
theorem wt_745 : Jvm.Cond.instanceMethod ({ cls := "TermLodgings", name := "away", desc := "(IZ)I" } : Jvm.MethodName) ∈ gw_tbl := gw_at 745 (by decide +kernel) (by decide +kernel)
theorem wt_746 : Jvm.Cond.selects "TermLodgings" ({ cls := "TermLodgings", name := "away", desc := "(IZ)I" } : Jvm.MethodName) ({ cls := "TermLodgings", name := "away", desc := "(IZ)I" } : Jvm.MethodName) ∈ gw_tbl := gw_at 746 (by decide +kernel) (by decide +kernel)
theorem wt_747 : Jvm.Cond.code ({ cls := "TermLodgings", name := "away", desc := "(IZ)I" } : Jvm.MethodName) prog_1_method_24_code (3 : Nat) (Option.some Jvm.ClassFile.FieldType.int) ∈ gw_tbl := gw_at 747 (by decide +kernel) (by decide +kernel)
theorem wt_748 : Jvm.Cond.methodLink "TermLodgingsLaw" (102 : Nat) ({ cls := "TermLodgings", name := "pass", desc := "(I)I" } : Jvm.MethodName) ∈ gw_tbl := gw_at 748 (by decide +kernel) (by decide +kernel)
theorem wt_749 : Jvm.Cond.instanceMethod ({ cls := "TermLodgings", name := "pass", desc := "(I)I" } : Jvm.MethodName) ∈ gw_tbl := gw_at 749 (by decide +kernel) (by decide +kernel)
theorem wt_750 : Jvm.Cond.selects "TermLodgings" ({ cls := "TermLodgings", name := "pass", desc := "(I)I" } : Jvm.MethodName) ({ cls := "TermLodgings", name := "pass", desc := "(I)I" } : Jvm.MethodName) ∈ gw_tbl := gw_at 750 (by decide +kernel) (by decide +kernel)
theorem wt_751 : Jvm.Cond.code ({ cls := "TermLodgings", name := "pass", desc := "(I)I" } : Jvm.MethodName) prog_1_method_25_code (3 : Nat) (Option.some Jvm.ClassFile.FieldType.int) ∈ gw_tbl := gw_at 751 (by decide +kernel) (by decide +kernel)
theorem wt_752 : Jvm.Cond.methodLink "TermLodgings" (222 : Nat) ({ cls := "TermLodgings$Nights", name := "keepOne", desc := "(LTermLodgings$People;)V" } : Jvm.MethodName) ∈ gw_tbl := gw_at 752 (by decide +kernel) (by decide +kernel)
theorem wt_753 : Jvm.Cond.instanceMethod ({ cls := "TermLodgings$Nights", name := "keepOne", desc := "(LTermLodgings$People;)V" } : Jvm.MethodName) ∈ gw_tbl := gw_at 753 (by decide +kernel) (by decide +kernel)
theorem wt_754 : Jvm.Cond.selects "TermLodgings$Nights" ({ cls := "TermLodgings$Nights", name := "keepOne", desc := "(LTermLodgings$People;)V" } : Jvm.MethodName) ({ cls := "TermLodgings$Nights", name := "keepOne", desc := "(LTermLodgings$People;)V" } : Jvm.MethodName) ∈ gw_tbl := gw_at 754 (by decide +kernel) (by decide +kernel)
theorem wt_755 : Jvm.Cond.code ({ cls := "TermLodgings$Nights", name := "keepOne", desc := "(LTermLodgings$People;)V" } : Jvm.MethodName) prog_4_method_2_code (4 : Nat) (Option.none : Option Jvm.ClassFile.FieldType) ∈ gw_tbl := gw_at 755 (by decide +kernel) (by decide +kernel)
theorem wt_756 : Jvm.Cond.methodLink "TermLodgings$Nights" (30 : Nat) ({ cls := "TermLodgings$People", name := "lodgingOf", desc := "(I)I" } : Jvm.MethodName) ∈ gw_tbl := gw_at 756 (by decide +kernel) (by decide +kernel)
theorem wt_757 : Jvm.Cond.methodLink "TermLodgingsLaw" (106 : Nat) ({ cls := "TermLodgings", name := "price", desc := "(III)I" } : Jvm.MethodName) ∈ gw_tbl := gw_at 757 (by decide +kernel) (by decide +kernel)
theorem wt_758 : Jvm.Cond.instanceMethod ({ cls := "TermLodgings", name := "price", desc := "(III)I" } : Jvm.MethodName) ∈ gw_tbl := gw_at 758 (by decide +kernel) (by decide +kernel)
theorem wt_759 : Jvm.Cond.selects "TermLodgings" ({ cls := "TermLodgings", name := "price", desc := "(III)I" } : Jvm.MethodName) ({ cls := "TermLodgings", name := "price", desc := "(III)I" } : Jvm.MethodName) ∈ gw_tbl := gw_at 759 (by decide +kernel) (by decide +kernel)
theorem wt_760 : Jvm.Cond.code ({ cls := "TermLodgings", name := "price", desc := "(III)I" } : Jvm.MethodName) prog_1_method_26_code (4 : Nat) (Option.some Jvm.ClassFile.FieldType.int) ∈ gw_tbl := gw_at 760 (by decide +kernel) (by decide +kernel)
theorem wt_761 : Jvm.Cond.methodLink "TermLodgings" (229 : Nat) ({ cls := "TermLodgings$Prices", name := "tell", desc := "(III)I" } : Jvm.MethodName) ∈ gw_tbl := gw_at 761 (by decide +kernel) (by decide +kernel)
theorem wt_762 : Jvm.Cond.instanceMethod ({ cls := "TermLodgings$Prices", name := "tell", desc := "(III)I" } : Jvm.MethodName) ∈ gw_tbl := gw_at 762 (by decide +kernel) (by decide +kernel)
theorem wt_763 : Jvm.Cond.selects "TermLodgings$Prices" ({ cls := "TermLodgings$Prices", name := "tell", desc := "(III)I" } : Jvm.MethodName) ({ cls := "TermLodgings$Prices", name := "tell", desc := "(III)I" } : Jvm.MethodName) ∈ gw_tbl := gw_at 763 (by decide +kernel) (by decide +kernel)
theorem wt_764 : Jvm.Cond.code ({ cls := "TermLodgings$Prices", name := "tell", desc := "(III)I" } : Jvm.MethodName) prog_6_method_2_code (6 : Nat) (Option.some Jvm.ClassFile.FieldType.int) ∈ gw_tbl := gw_at 764 (by decide +kernel) (by decide +kernel)
theorem wt_765 : Jvm.Cond.methodLink "TermLodgings$Prices" (37 : Nat) ({ cls := "TermLodgings$Prices", name := "isListed", desc := "(II)Z" } : Jvm.MethodName) ∈ gw_tbl := gw_at 765 (by decide +kernel) (by decide +kernel)
theorem wt_766 : Jvm.Cond.static ({ cls := "TermLodgings$Prices", name := "isListed", desc := "(II)Z" } : Jvm.MethodName) ∈ gw_tbl := gw_at 766 (by decide +kernel) (by decide +kernel)
theorem wt_767 : Jvm.Cond.code ({ cls := "TermLodgings$Prices", name := "isListed", desc := "(II)Z" } : Jvm.MethodName) prog_6_method_7_code (2 : Nat) (Option.some Jvm.ClassFile.FieldType.boolean) ∈ gw_tbl := gw_at 767 (by decide +kernel) (by decide +kernel)
theorem wt_769 : Jvm.Cond.methodLink "TermLodgings$Prices" (41 : Nat) ({ cls := "TermLodgings$Prices", name := "sinceOf", desc := "(I)I" } : Jvm.MethodName) ∈ gw_tbl := gw_at 769 (by decide +kernel) (by decide +kernel)
theorem wt_771 : Jvm.Cond.instanceMethod ({ cls := "TermLodgings$Prices", name := "sinceOf", desc := "(I)I" } : Jvm.MethodName) ∈ gw_tbl := gw_at 771 (by decide +kernel) (by decide +kernel)
theorem wt_772 : Jvm.Cond.code ({ cls := "TermLodgings$Prices", name := "sinceOf", desc := "(I)I" } : Jvm.MethodName) prog_6_method_5_code (2 : Nat) (Option.some Jvm.ClassFile.FieldType.int) ∈ gw_tbl := gw_at 772 (by decide +kernel) (by decide +kernel)
theorem wt_773 : Jvm.Cond.methodLink "TermLodgingsLaw" (110 : Nat) ({ cls := "TermLodgings", name := "priced", desc := "(II)I" } : Jvm.MethodName) ∈ gw_tbl := gw_at 773 (by decide +kernel) (by decide +kernel)
theorem wt_774 : Jvm.Cond.instanceMethod ({ cls := "TermLodgings", name := "priced", desc := "(II)I" } : Jvm.MethodName) ∈ gw_tbl := gw_at 774 (by decide +kernel) (by decide +kernel)
theorem wt_775 : Jvm.Cond.selects "TermLodgings" ({ cls := "TermLodgings", name := "priced", desc := "(II)I" } : Jvm.MethodName) ({ cls := "TermLodgings", name := "priced", desc := "(II)I" } : Jvm.MethodName) ∈ gw_tbl := gw_at 775 (by decide +kernel) (by decide +kernel)
theorem wt_776 : Jvm.Cond.code ({ cls := "TermLodgings", name := "priced", desc := "(II)I" } : Jvm.MethodName) prog_1_method_27_code (3 : Nat) (Option.some Jvm.ClassFile.FieldType.int) ∈ gw_tbl := gw_at 776 (by decide +kernel) (by decide +kernel)
theorem wt_777 : Jvm.Cond.methodLink "TermLodgings" (232 : Nat) ({ cls := "TermLodgings$Prices", name := "at", desc := "(II)I" } : Jvm.MethodName) ∈ gw_tbl := gw_at 777 (by decide +kernel) (by decide +kernel)
theorem wt_778 : Jvm.Cond.instanceMethod ({ cls := "TermLodgings$Prices", name := "at", desc := "(II)I" } : Jvm.MethodName) ∈ gw_tbl := gw_at 778 (by decide +kernel) (by decide +kernel)
theorem wt_779 : Jvm.Cond.selects "TermLodgings$Prices" ({ cls := "TermLodgings$Prices", name := "at", desc := "(II)I" } : Jvm.MethodName) ({ cls := "TermLodgings$Prices", name := "at", desc := "(II)I" } : Jvm.MethodName) ∈ gw_tbl := gw_at 779 (by decide +kernel) (by decide +kernel)
theorem wt_780 : Jvm.Cond.code ({ cls := "TermLodgings$Prices", name := "at", desc := "(II)I" } : Jvm.MethodName) prog_6_method_3_code (3 : Nat) (Option.some Jvm.ClassFile.FieldType.int) ∈ gw_tbl := gw_at 780 (by decide +kernel) (by decide +kernel)
theorem wt_781 : Jvm.Cond.methodLink "TermLodgings$Prices" (45 : Nat) ({ cls := "TermLodgings$Prices", name := "valueOf", desc := "(I)I" } : Jvm.MethodName) ∈ gw_tbl := gw_at 781 (by decide +kernel) (by decide +kernel)
theorem wt_783 : Jvm.Cond.instanceMethod ({ cls := "TermLodgings$Prices", name := "valueOf", desc := "(I)I" } : Jvm.MethodName) ∈ gw_tbl := gw_at 783 (by decide +kernel) (by decide +kernel)
theorem wt_784 : Jvm.Cond.code ({ cls := "TermLodgings$Prices", name := "valueOf", desc := "(I)I" } : Jvm.MethodName) prog_6_method_6_code (2 : Nat) (Option.some Jvm.ClassFile.FieldType.int) ∈ gw_tbl := gw_at 784 (by decide +kernel) (by decide +kernel)
theorem wt_785 : Jvm.Cond.methodLink "TermLodgingsLaw" (114 : Nat) ({ cls := "TermLodgings", name := "had", desc := "(II)I" } : Jvm.MethodName) ∈ gw_tbl := gw_at 785 (by decide +kernel) (by decide +kernel)
theorem wt_786 : Jvm.Cond.instanceMethod ({ cls := "TermLodgings", name := "had", desc := "(II)I" } : Jvm.MethodName) ∈ gw_tbl := gw_at 786 (by decide +kernel) (by decide +kernel)
theorem wt_787 : Jvm.Cond.selects "TermLodgings" ({ cls := "TermLodgings", name := "had", desc := "(II)I" } : Jvm.MethodName) ({ cls := "TermLodgings", name := "had", desc := "(II)I" } : Jvm.MethodName) ∈ gw_tbl := gw_at 787 (by decide +kernel) (by decide +kernel)
theorem wt_788 : Jvm.Cond.code ({ cls := "TermLodgings", name := "had", desc := "(II)I" } : Jvm.MethodName) prog_1_method_28_code (3 : Nat) (Option.some Jvm.ClassFile.FieldType.int) ∈ gw_tbl := gw_at 788 (by decide +kernel) (by decide +kernel)
theorem wt_789 : Jvm.Cond.methodLink "TermLodgings" (234 : Nat) ({ cls := "TermLodgings$Nights", name := "lodgingIn", desc := "(II)I" } : Jvm.MethodName) ∈ gw_tbl := gw_at 789 (by decide +kernel) (by decide +kernel)
theorem wt_790 : Jvm.Cond.instanceMethod ({ cls := "TermLodgings$Nights", name := "lodgingIn", desc := "(II)I" } : Jvm.MethodName) ∈ gw_tbl := gw_at 790 (by decide +kernel) (by decide +kernel)
theorem wt_791 : Jvm.Cond.selects "TermLodgings$Nights" ({ cls := "TermLodgings$Nights", name := "lodgingIn", desc := "(II)I" } : Jvm.MethodName) ({ cls := "TermLodgings$Nights", name := "lodgingIn", desc := "(II)I" } : Jvm.MethodName) ∈ gw_tbl := gw_at 791 (by decide +kernel) (by decide +kernel)
theorem wt_792 : Jvm.Cond.code ({ cls := "TermLodgings$Nights", name := "lodgingIn", desc := "(II)I" } : Jvm.MethodName) prog_4_method_3_code (4 : Nat) (Option.some Jvm.ClassFile.FieldType.int) ∈ gw_tbl := gw_at 792 (by decide +kernel) (by decide +kernel)
theorem wt_794 : Jvm.Cond.methodLink "TermLodgingsLaw" (118 : Nat) ({ cls := "TermLodgings", name := "bill", desc := "(I)I" } : Jvm.MethodName) ∈ gw_tbl := gw_at 794 (by decide +kernel) (by decide +kernel)
theorem wt_795 : Jvm.Cond.instanceMethod ({ cls := "TermLodgings", name := "bill", desc := "(I)I" } : Jvm.MethodName) ∈ gw_tbl := gw_at 795 (by decide +kernel) (by decide +kernel)
theorem wt_796 : Jvm.Cond.selects "TermLodgings" ({ cls := "TermLodgings", name := "bill", desc := "(I)I" } : Jvm.MethodName) ({ cls := "TermLodgings", name := "bill", desc := "(I)I" } : Jvm.MethodName) ∈ gw_tbl := gw_at 796 (by decide +kernel) (by decide +kernel)
theorem wt_797 : Jvm.Cond.code ({ cls := "TermLodgings", name := "bill", desc := "(I)I" } : Jvm.MethodName) prog_1_method_29_code (4 : Nat) (Option.some Jvm.ClassFile.FieldType.int) ∈ gw_tbl := gw_at 797 (by decide +kernel) (by decide +kernel)
theorem wt_798 : Jvm.Cond.methodLink "TermLodgings" (237 : Nat) ({ cls := "TermLodgings$Rooms", name := "houseOf", desc := "(I)I" } : Jvm.MethodName) ∈ gw_tbl := gw_at 798 (by decide +kernel) (by decide +kernel)
theorem wt_799 : Jvm.Cond.methodLink "TermLodgingsLaw" (122 : Nat) ({ cls := "TermLodgings", name := "matter", desc := "()I" } : Jvm.MethodName) ∈ gw_tbl := gw_at 799 (by decide +kernel) (by decide +kernel)
theorem wt_800 : Jvm.Cond.instanceMethod ({ cls := "TermLodgings", name := "matter", desc := "()I" } : Jvm.MethodName) ∈ gw_tbl := gw_at 800 (by decide +kernel) (by decide +kernel)
theorem wt_801 : Jvm.Cond.selects "TermLodgings" ({ cls := "TermLodgings", name := "matter", desc := "()I" } : Jvm.MethodName) ({ cls := "TermLodgings", name := "matter", desc := "()I" } : Jvm.MethodName) ∈ gw_tbl := gw_at 801 (by decide +kernel) (by decide +kernel)
theorem wt_802 : Jvm.Cond.code ({ cls := "TermLodgings", name := "matter", desc := "()I" } : Jvm.MethodName) prog_1_method_30_code (3 : Nat) (Option.some Jvm.ClassFile.FieldType.int) ∈ gw_tbl := gw_at 802 (by decide +kernel) (by decide +kernel)
theorem wt_803 : Jvm.Cond.constant "TermLodgings" (240 : Nat) (-2147483648 : Int32) ∈ gw_tbl := gw_at 803 (by decide +kernel) (by decide +kernel)
theorem wt_804 : Jvm.Cond.methodLink "TermLodgings" (244 : Nat) ({ cls := "TermLodgings", name := "lodgersAt", desc := "(II)I" } : Jvm.MethodName) ∈ gw_tbl := gw_at 804 (by decide +kernel) (by decide +kernel)
theorem wt_806 : Jvm.Cond.instanceMethod ({ cls := "TermLodgings", name := "lodgersAt", desc := "(II)I" } : Jvm.MethodName) ∈ gw_tbl := gw_at 806 (by decide +kernel) (by decide +kernel)
theorem wt_807 : Jvm.Cond.code ({ cls := "TermLodgings", name := "lodgersAt", desc := "(II)I" } : Jvm.MethodName) prog_1_method_31_code (5 : Nat) (Option.some Jvm.ClassFile.FieldType.int) ∈ gw_tbl := gw_at 807 (by decide +kernel) (by decide +kernel)
theorem wt_808 : Jvm.Cond.methodLink "TermLodgings" (247 : Nat) ({ cls := "TermLodgings$Prices", name := "dropWithoutLatest", desc := "(I)I" } : Jvm.MethodName) ∈ gw_tbl := gw_at 808 (by decide +kernel) (by decide +kernel)
theorem wt_809 : Jvm.Cond.instanceMethod ({ cls := "TermLodgings$Prices", name := "dropWithoutLatest", desc := "(I)I" } : Jvm.MethodName) ∈ gw_tbl := gw_at 809 (by decide +kernel) (by decide +kernel)
theorem wt_810 : Jvm.Cond.selects "TermLodgings$Prices" ({ cls := "TermLodgings$Prices", name := "dropWithoutLatest", desc := "(I)I" } : Jvm.MethodName) ({ cls := "TermLodgings$Prices", name := "dropWithoutLatest", desc := "(I)I" } : Jvm.MethodName) ∈ gw_tbl := gw_at 810 (by decide +kernel) (by decide +kernel)
theorem wt_811 : Jvm.Cond.code ({ cls := "TermLodgings$Prices", name := "dropWithoutLatest", desc := "(I)I" } : Jvm.MethodName) prog_6_method_4_code (3 : Nat) (Option.some Jvm.ClassFile.FieldType.int) ∈ gw_tbl := gw_at 811 (by decide +kernel) (by decide +kernel)
theorem wt_812 : Jvm.Cond.methodLink "TermLodgings$Prices" (52 : Nat) ({ cls := "TermLodgings$Prices", name := "at", desc := "(II)I" } : Jvm.MethodName) ∈ gw_tbl := gw_at 812 (by decide +kernel) (by decide +kernel)
theorem wt_813 : Jvm.Cond.methodLink "TermLodgingsLaw" (126 : Nat) ({ cls := "TermLodgings", name := "count", desc := "(I)I" } : Jvm.MethodName) ∈ gw_tbl := gw_at 813 (by decide +kernel) (by decide +kernel)
theorem wt_814 : Jvm.Cond.instanceMethod ({ cls := "TermLodgings", name := "count", desc := "(I)I" } : Jvm.MethodName) ∈ gw_tbl := gw_at 814 (by decide +kernel) (by decide +kernel)
theorem wt_815 : Jvm.Cond.selects "TermLodgings" ({ cls := "TermLodgings", name := "count", desc := "(I)I" } : Jvm.MethodName) ({ cls := "TermLodgings", name := "count", desc := "(I)I" } : Jvm.MethodName) ∈ gw_tbl := gw_at 815 (by decide +kernel) (by decide +kernel)
theorem wt_816 : Jvm.Cond.code ({ cls := "TermLodgings", name := "count", desc := "(I)I" } : Jvm.MethodName) prog_1_method_32_code (2 : Nat) (Option.some Jvm.ClassFile.FieldType.int) ∈ gw_tbl := gw_at 816 (by decide +kernel) (by decide +kernel)
theorem wt_817 : Jvm.Cond.methodLink "TermLodgings" (250 : Nat) ({ cls := "java/lang/Integer", name := "bitCount", desc := "(I)I" } : Jvm.MethodName) ∈ gw_tbl := gw_at 817 (by decide +kernel) (by decide +kernel)
theorem wt_818 : Jvm.Cond.methodLink "TermLodgingsLaw" (130 : Nat) ({ cls := "TermLodgings", name := "digest", desc := "()J" } : Jvm.MethodName) ∈ gw_tbl := gw_at 818 (by decide +kernel) (by decide +kernel)
theorem wt_819 : Jvm.Cond.instanceMethod ({ cls := "TermLodgings", name := "digest", desc := "()J" } : Jvm.MethodName) ∈ gw_tbl := gw_at 819 (by decide +kernel) (by decide +kernel)
theorem wt_820 : Jvm.Cond.selects "TermLodgings" ({ cls := "TermLodgings", name := "digest", desc := "()J" } : Jvm.MethodName) ({ cls := "TermLodgings", name := "digest", desc := "()J" } : Jvm.MethodName) ∈ gw_tbl := gw_at 820 (by decide +kernel) (by decide +kernel)
theorem wt_821 : Jvm.Cond.code ({ cls := "TermLodgings", name := "digest", desc := "()J" } : Jvm.MethodName) prog_1_method_33_code (5 : Nat) (Option.some Jvm.ClassFile.FieldType.long) ∈ gw_tbl := gw_at 821 (by decide +kernel) (by decide +kernel)
theorem wt_822 : Jvm.Cond.constantLong "TermLodgings" (255 : Nat) (17 : Int64) ∈ gw_tbl := gw_at 822 (by decide +kernel) (by decide +kernel)
theorem wt_823 : Jvm.Cond.constantLong "TermLodgings" (257 : Nat) (31 : Int64) ∈ gw_tbl := gw_at 823 (by decide +kernel) (by decide +kernel)
theorem wt_824 : Jvm.Cond.methodLink "TermLodgings" (259 : Nat) ({ cls := "TermLodgings", name := "count", desc := "(I)I" } : Jvm.MethodName) ∈ gw_tbl := gw_at 824 (by decide +kernel) (by decide +kernel)
theorem wt_825 : Jvm.Cond.methodLink "TermLodgings" (262 : Nat) ({ cls := "TermLodgings", name := "about", desc := "(II)I" } : Jvm.MethodName) ∈ gw_tbl := gw_at 825 (by decide +kernel) (by decide +kernel)
theorem wt_826 : Jvm.Cond.methodLink "TermLodgings" (265 : Nat) ({ cls := "TermLodgings", name := "bill", desc := "(I)I" } : Jvm.MethodName) ∈ gw_tbl := gw_at 826 (by decide +kernel) (by decide +kernel)
theorem wt_827 : Jvm.Cond.methodLink "TermLodgings" (269 : Nat) ({ cls := "TermLodgings", name := "traded", desc := "(I)I" } : Jvm.MethodName) ∈ gw_tbl := gw_at 827 (by decide +kernel) (by decide +kernel)
theorem wt_828 : Jvm.Cond.classLink "TermLodgingsLaw" (10 : Nat) "TermLodgingsModel" ∈ gw_tbl := gw_at 828 (by decide +kernel) (by decide +kernel)
theorem wt_829 : Jvm.Cond.instantiable "TermLodgingsModel" (32 : Nat) ∈ gw_tbl := gw_at 829 (by decide +kernel) (by decide +kernel)
theorem wt_830 : Jvm.Cond.methodLink "TermLodgingsLaw" (12 : Nat) ({ cls := "TermLodgingsModel", name := "<init>", desc := "()V" } : Jvm.MethodName) ∈ gw_tbl := gw_at 830 (by decide +kernel) (by decide +kernel)
theorem wt_831 : Jvm.Cond.instanceMethod ({ cls := "TermLodgingsModel", name := "<init>", desc := "()V" } : Jvm.MethodName) ∈ gw_tbl := gw_at 831 (by decide +kernel) (by decide +kernel)
theorem wt_832 : Jvm.Cond.code ({ cls := "TermLodgingsModel", name := "<init>", desc := "()V" } : Jvm.MethodName) prog_13_method_1_code (1 : Nat) (Option.none : Option Jvm.ClassFile.FieldType) ∈ gw_tbl := gw_at 832 (by decide +kernel) (by decide +kernel)
theorem wt_833 : Jvm.Cond.methodLink "TermLodgingsModel" (1 : Nat) ({ cls := "java/lang/Object", name := "<init>", desc := "()V" } : Jvm.MethodName) ∈ gw_tbl := gw_at 833 (by decide +kernel) (by decide +kernel)
theorem wt_834 : Jvm.Cond.fieldLink "TermLodgingsModel" (86 : Nat) "TermLodgingsModel" "rooms" "I" ∈ gw_tbl := gw_at 834 (by decide +kernel) (by decide +kernel)
theorem wt_835 : Jvm.Cond.fieldLink "TermLodgingsModel" (7 : Nat) "TermLodgingsModel" "house" "[I" ∈ gw_tbl := gw_at 835 (by decide +kernel) (by decide +kernel)
theorem wt_836 : Jvm.Cond.fieldLink "TermLodgingsModel" (13 : Nat) "TermLodgingsModel" "miles" "[I" ∈ gw_tbl := gw_at 836 (by decide +kernel) (by decide +kernel)
theorem wt_837 : Jvm.Cond.fieldLink "TermLodgingsModel" (16 : Nat) "TermLodgingsModel" "sort" "[I" ∈ gw_tbl := gw_at 837 (by decide +kernel) (by decide +kernel)
theorem wt_838 : Jvm.Cond.fieldLink "TermLodgingsModel" (148 : Nat) "TermLodgingsModel" "struck" "I" ∈ gw_tbl := gw_at 838 (by decide +kernel) (by decide +kernel)
theorem wt_839 : Jvm.Cond.fieldLink "TermLodgingsModel" (94 : Nat) "TermLodgingsModel" "people" "I" ∈ gw_tbl := gw_at 839 (by decide +kernel) (by decide +kernel)
theorem wt_840 : Jvm.Cond.fieldLink "TermLodgingsModel" (19 : Nat) "TermLodgingsModel" "year" "[I" ∈ gw_tbl := gw_at 840 (by decide +kernel) (by decide +kernel)
theorem wt_841 : Jvm.Cond.fieldLink "TermLodgingsModel" (22 : Nat) "TermLodgingsModel" "group" "[I" ∈ gw_tbl := gw_at 841 (by decide +kernel) (by decide +kernel)
theorem wt_842 : Jvm.Cond.fieldLink "TermLodgingsModel" (25 : Nat) "TermLodgingsModel" "wishes" "[I" ∈ gw_tbl := gw_at 842 (by decide +kernel) (by decide +kernel)
theorem wt_843 : Jvm.Cond.fieldLink "TermLodgingsModel" (28 : Nat) "TermLodgingsModel" "wish" "[I" ∈ gw_tbl := gw_at 843 (by decide +kernel) (by decide +kernel)
theorem wt_844 : Jvm.Cond.fieldLink "TermLodgingsModel" (31 : Nat) "TermLodgingsModel" "has" "[I" ∈ gw_tbl := gw_at 844 (by decide +kernel) (by decide +kernel)
theorem wt_845 : Jvm.Cond.fieldLink "TermLodgingsModel" (34 : Nat) "TermLodgingsModel" "isAway" "[Z" ∈ gw_tbl := gw_at 845 (by decide +kernel) (by decide +kernel)
theorem wt_846 : Jvm.Cond.fieldLink "TermLodgingsModel" (38 : Nat) "TermLodgingsModel" "kept" "[I" ∈ gw_tbl := gw_at 846 (by decide +kernel) (by decide +kernel)
theorem wt_847 : Jvm.Cond.fieldLink "TermLodgingsModel" (41 : Nat) "TermLodgingsModel" "turns" "[I" ∈ gw_tbl := gw_at 847 (by decide +kernel) (by decide +kernel)
theorem wt_848 : Jvm.Cond.fieldLink "TermLodgingsModel" (44 : Nat) "TermLodgingsModel" "text" "[I" ∈ gw_tbl := gw_at 848 (by decide +kernel) (by decide +kernel)
theorem wt_849 : Jvm.Cond.fieldLink "TermLodgingsModel" (132 : Nat) "TermLodgingsModel" "typed" "I" ∈ gw_tbl := gw_at 849 (by decide +kernel) (by decide +kernel)
theorem wt_850 : Jvm.Cond.fieldLink "TermLodgingsModel" (47 : Nat) "TermLodgingsModel" "traded" "[I" ∈ gw_tbl := gw_at 850 (by decide +kernel) (by decide +kernel)
theorem wt_851 : Jvm.Cond.fieldLink "TermLodgingsModel" (50 : Nat) "TermLodgingsModel" "points" "[I" ∈ gw_tbl := gw_at 851 (by decide +kernel) (by decide +kernel)
theorem wt_852 : Jvm.Cond.fieldLink "TermLodgingsModel" (53 : Nat) "TermLodgingsModel" "gets" "[I" ∈ gw_tbl := gw_at 852 (by decide +kernel) (by decide +kernel)
theorem wt_853 : Jvm.Cond.fieldLink "TermLodgingsModel" (178 : Nat) "TermLodgingsModel" "moving" "I" ∈ gw_tbl := gw_at 853 (by decide +kernel) (by decide +kernel)
theorem wt_854 : Jvm.Cond.fieldLink "TermLodgingsModel" (56 : Nat) "TermLodgingsModel" "mover" "[I" ∈ gw_tbl := gw_at 854 (by decide +kernel) (by decide +kernel)
theorem wt_855 : Jvm.Cond.fieldLink "TermLodgingsModel" (59 : Nat) "TermLodgingsModel" "may" "[I" ∈ gw_tbl := gw_at 855 (by decide +kernel) (by decide +kernel)
theorem wt_856 : Jvm.Cond.fieldLink "TermLodgingsModel" (62 : Nat) "TermLodgingsModel" "goes" "[I" ∈ gw_tbl := gw_at 856 (by decide +kernel) (by decide +kernel)
theorem wt_857 : Jvm.Cond.fieldLink "TermLodgingsModel" (65 : Nat) "TermLodgingsModel" "queue" "[I" ∈ gw_tbl := gw_at 857 (by decide +kernel) (by decide +kernel)
theorem wt_858 : Jvm.Cond.fieldLink "TermLodgingsModel" (68 : Nat) "TermLodgingsModel" "came" "[I" ∈ gw_tbl := gw_at 858 (by decide +kernel) (by decide +kernel)
theorem wt_859 : Jvm.Cond.fieldLink "TermLodgingsModel" (71 : Nat) "TermLodgingsModel" "saved" "[I" ∈ gw_tbl := gw_at 859 (by decide +kernel) (by decide +kernel)
theorem wt_860 : Jvm.Cond.fieldLink "TermLodgingsModel" (196 : Nat) "TermLodgingsModel" "nights" "I" ∈ gw_tbl := gw_at 860 (by decide +kernel) (by decide +kernel)
theorem wt_861 : Jvm.Cond.fieldLink "TermLodgingsModel" (74 : Nat) "TermLodgingsModel" "had" "[I" ∈ gw_tbl := gw_at 861 (by decide +kernel) (by decide +kernel)
theorem wt_862 : Jvm.Cond.fieldLink "TermLodgingsModel" (203 : Nat) "TermLodgingsModel" "tellings" "I" ∈ gw_tbl := gw_at 862 (by decide +kernel) (by decide +kernel)
theorem wt_863 : Jvm.Cond.fieldLink "TermLodgingsModel" (77 : Nat) "TermLodgingsModel" "toldHouse" "[I" ∈ gw_tbl := gw_at 863 (by decide +kernel) (by decide +kernel)
theorem wt_864 : Jvm.Cond.fieldLink "TermLodgingsModel" (80 : Nat) "TermLodgingsModel" "toldFrom" "[I" ∈ gw_tbl := gw_at 864 (by decide +kernel) (by decide +kernel)
theorem wt_865 : Jvm.Cond.fieldLink "TermLodgingsModel" (83 : Nat) "TermLodgingsModel" "toldPrice" "[I" ∈ gw_tbl := gw_at 865 (by decide +kernel) (by decide +kernel)
theorem wt_866 : Jvm.Cond.lays "TermLodgingsModel" "TermLodgingsModel" "rooms" "I" ∈ gw_tbl := gw_at 866 (by decide +kernel) (by decide +kernel)
theorem wt_868 : Jvm.Cond.laysFinal "TermLodgingsModel" "TermLodgingsModel" "house" "[I" ∈ gw_tbl := gw_at 868 (by decide +kernel) (by decide +kernel)
theorem wt_870 : Jvm.Cond.laysFinal "TermLodgingsModel" "TermLodgingsModel" "miles" "[I" ∈ gw_tbl := gw_at 870 (by decide +kernel) (by decide +kernel)
theorem wt_872 : Jvm.Cond.laysFinal "TermLodgingsModel" "TermLodgingsModel" "sort" "[I" ∈ gw_tbl := gw_at 872 (by decide +kernel) (by decide +kernel)
theorem wt_874 : Jvm.Cond.lays "TermLodgingsModel" "TermLodgingsModel" "struck" "I" ∈ gw_tbl := gw_at 874 (by decide +kernel) (by decide +kernel)
theorem wt_876 : Jvm.Cond.lays "TermLodgingsModel" "TermLodgingsModel" "people" "I" ∈ gw_tbl := gw_at 876 (by decide +kernel) (by decide +kernel)
theorem wt_878 : Jvm.Cond.laysFinal "TermLodgingsModel" "TermLodgingsModel" "year" "[I" ∈ gw_tbl := gw_at 878 (by decide +kernel) (by decide +kernel)
theorem wt_880 : Jvm.Cond.laysFinal "TermLodgingsModel" "TermLodgingsModel" "group" "[I" ∈ gw_tbl := gw_at 880 (by decide +kernel) (by decide +kernel)
theorem wt_882 : Jvm.Cond.laysFinal "TermLodgingsModel" "TermLodgingsModel" "wishes" "[I" ∈ gw_tbl := gw_at 882 (by decide +kernel) (by decide +kernel)
theorem wt_884 : Jvm.Cond.laysFinal "TermLodgingsModel" "TermLodgingsModel" "wish" "[I" ∈ gw_tbl := gw_at 884 (by decide +kernel) (by decide +kernel)
theorem wt_886 : Jvm.Cond.laysFinal "TermLodgingsModel" "TermLodgingsModel" "has" "[I" ∈ gw_tbl := gw_at 886 (by decide +kernel) (by decide +kernel)
theorem wt_888 : Jvm.Cond.laysFinal "TermLodgingsModel" "TermLodgingsModel" "isAway" "[Z" ∈ gw_tbl := gw_at 888 (by decide +kernel) (by decide +kernel)
theorem wt_890 : Jvm.Cond.laysFinal "TermLodgingsModel" "TermLodgingsModel" "kept" "[I" ∈ gw_tbl := gw_at 890 (by decide +kernel) (by decide +kernel)
theorem wt_892 : Jvm.Cond.laysFinal "TermLodgingsModel" "TermLodgingsModel" "turns" "[I" ∈ gw_tbl := gw_at 892 (by decide +kernel) (by decide +kernel)
theorem wt_894 : Jvm.Cond.laysFinal "TermLodgingsModel" "TermLodgingsModel" "text" "[I" ∈ gw_tbl := gw_at 894 (by decide +kernel) (by decide +kernel)
theorem wt_896 : Jvm.Cond.lays "TermLodgingsModel" "TermLodgingsModel" "typed" "I" ∈ gw_tbl := gw_at 896 (by decide +kernel) (by decide +kernel)
theorem wt_898 : Jvm.Cond.laysFinal "TermLodgingsModel" "TermLodgingsModel" "traded" "[I" ∈ gw_tbl := gw_at 898 (by decide +kernel) (by decide +kernel)
theorem wt_900 : Jvm.Cond.laysFinal "TermLodgingsModel" "TermLodgingsModel" "points" "[I" ∈ gw_tbl := gw_at 900 (by decide +kernel) (by decide +kernel)
theorem wt_902 : Jvm.Cond.laysFinal "TermLodgingsModel" "TermLodgingsModel" "gets" "[I" ∈ gw_tbl := gw_at 902 (by decide +kernel) (by decide +kernel)
theorem wt_904 : Jvm.Cond.lays "TermLodgingsModel" "TermLodgingsModel" "moving" "I" ∈ gw_tbl := gw_at 904 (by decide +kernel) (by decide +kernel)
theorem wt_906 : Jvm.Cond.laysFinal "TermLodgingsModel" "TermLodgingsModel" "mover" "[I" ∈ gw_tbl := gw_at 906 (by decide +kernel) (by decide +kernel)
theorem wt_908 : Jvm.Cond.laysFinal "TermLodgingsModel" "TermLodgingsModel" "may" "[I" ∈ gw_tbl := gw_at 908 (by decide +kernel) (by decide +kernel)
theorem wt_910 : Jvm.Cond.laysFinal "TermLodgingsModel" "TermLodgingsModel" "goes" "[I" ∈ gw_tbl := gw_at 910 (by decide +kernel) (by decide +kernel)
theorem wt_912 : Jvm.Cond.laysFinal "TermLodgingsModel" "TermLodgingsModel" "queue" "[I" ∈ gw_tbl := gw_at 912 (by decide +kernel) (by decide +kernel)
theorem wt_914 : Jvm.Cond.laysFinal "TermLodgingsModel" "TermLodgingsModel" "came" "[I" ∈ gw_tbl := gw_at 914 (by decide +kernel) (by decide +kernel)
theorem wt_916 : Jvm.Cond.laysFinal "TermLodgingsModel" "TermLodgingsModel" "saved" "[I" ∈ gw_tbl := gw_at 916 (by decide +kernel) (by decide +kernel)
theorem wt_918 : Jvm.Cond.lays "TermLodgingsModel" "TermLodgingsModel" "nights" "I" ∈ gw_tbl := gw_at 918 (by decide +kernel) (by decide +kernel)
theorem wt_920 : Jvm.Cond.laysFinal "TermLodgingsModel" "TermLodgingsModel" "had" "[I" ∈ gw_tbl := gw_at 920 (by decide +kernel) (by decide +kernel)
theorem wt_922 : Jvm.Cond.lays "TermLodgingsModel" "TermLodgingsModel" "tellings" "I" ∈ gw_tbl := gw_at 922 (by decide +kernel) (by decide +kernel)
theorem wt_924 : Jvm.Cond.laysFinal "TermLodgingsModel" "TermLodgingsModel" "toldHouse" "[I" ∈ gw_tbl := gw_at 924 (by decide +kernel) (by decide +kernel)
theorem wt_926 : Jvm.Cond.laysFinal "TermLodgingsModel" "TermLodgingsModel" "toldFrom" "[I" ∈ gw_tbl := gw_at 926 (by decide +kernel) (by decide +kernel)
theorem wt_928 : Jvm.Cond.laysFinal "TermLodgingsModel" "TermLodgingsModel" "toldPrice" "[I" ∈ gw_tbl := gw_at 928 (by decide +kernel) (by decide +kernel)
theorem wt_931 : Jvm.Cond.methodLink "TermLodgingsLaw" (17 : Nat) ({ cls := "TermLodgingsModel", name := "room", desc := "(III)I" } : Jvm.MethodName) ∈ gw_tbl := gw_at 931 (by decide +kernel) (by decide +kernel)
theorem wt_932 : Jvm.Cond.instanceMethod ({ cls := "TermLodgingsModel", name := "room", desc := "(III)I" } : Jvm.MethodName) ∈ gw_tbl := gw_at 932 (by decide +kernel) (by decide +kernel)
theorem wt_933 : Jvm.Cond.selects "TermLodgingsModel" ({ cls := "TermLodgingsModel", name := "room", desc := "(III)I" } : Jvm.MethodName) ({ cls := "TermLodgingsModel", name := "room", desc := "(III)I" } : Jvm.MethodName) ∈ gw_tbl := gw_at 933 (by decide +kernel) (by decide +kernel)
theorem wt_934 : Jvm.Cond.code ({ cls := "TermLodgingsModel", name := "room", desc := "(III)I" } : Jvm.MethodName) prog_13_method_6_code (4 : Nat) (Option.some Jvm.ClassFile.FieldType.int) ∈ gw_tbl := gw_at 934 (by decide +kernel) (by decide +kernel)
theorem wt_935 : Jvm.Cond.constantLong "TermLodgingsModel" (97 : Nat) (7 : Int64) ∈ gw_tbl := gw_at 935 (by decide +kernel) (by decide +kernel)
theorem wt_936 : Jvm.Cond.methodLink "TermLodgingsModel" (90 : Nat) ({ cls := "TermLodgingsModel", name := "in", desc := "(JJJ)Z" } : Jvm.MethodName) ∈ gw_tbl := gw_at 936 (by decide +kernel) (by decide +kernel)
theorem wt_937 : Jvm.Cond.static ({ cls := "TermLodgingsModel", name := "in", desc := "(JJJ)Z" } : Jvm.MethodName) ∈ gw_tbl := gw_at 937 (by decide +kernel) (by decide +kernel)
theorem wt_938 : Jvm.Cond.code ({ cls := "TermLodgingsModel", name := "in", desc := "(JJJ)Z" } : Jvm.MethodName) prog_13_method_3_code (6 : Nat) (Option.some Jvm.ClassFile.FieldType.boolean) ∈ gw_tbl := gw_at 938 (by decide +kernel) (by decide +kernel)
theorem wt_939 : Jvm.Cond.constantLong "TermLodgingsModel" (99 : Nat) (20 : Int64) ∈ gw_tbl := gw_at 939 (by decide +kernel) (by decide +kernel)
theorem wt_940 : Jvm.Cond.constantLong "TermLodgingsModel" (101 : Nat) (3 : Int64) ∈ gw_tbl := gw_at 940 (by decide +kernel) (by decide +kernel)
theorem wt_941 : Jvm.Cond.methodLink "TermLodgingsLaw" (22 : Nat) ({ cls := "TermLodgingsModel", name := "person", desc := "(II)I" } : Jvm.MethodName) ∈ gw_tbl := gw_at 941 (by decide +kernel) (by decide +kernel)
theorem wt_942 : Jvm.Cond.instanceMethod ({ cls := "TermLodgingsModel", name := "person", desc := "(II)I" } : Jvm.MethodName) ∈ gw_tbl := gw_at 942 (by decide +kernel) (by decide +kernel)
theorem wt_943 : Jvm.Cond.selects "TermLodgingsModel" ({ cls := "TermLodgingsModel", name := "person", desc := "(II)I" } : Jvm.MethodName) ({ cls := "TermLodgingsModel", name := "person", desc := "(II)I" } : Jvm.MethodName) ∈ gw_tbl := gw_at 943 (by decide +kernel) (by decide +kernel)
theorem wt_944 : Jvm.Cond.code ({ cls := "TermLodgingsModel", name := "person", desc := "(II)I" } : Jvm.MethodName) prog_13_method_7_code (5 : Nat) (Option.some Jvm.ClassFile.FieldType.int) ∈ gw_tbl := gw_at 944 (by decide +kernel) (by decide +kernel)
theorem wt_945 : Jvm.Cond.constantLong "TermLodgingsModel" (103 : Nat) (4 : Int64) ∈ gw_tbl := gw_at 945 (by decide +kernel) (by decide +kernel)
theorem wt_946 : Jvm.Cond.constantLong "TermLodgingsModel" (105 : Nat) (-1 : Int64) ∈ gw_tbl := gw_at 946 (by decide +kernel) (by decide +kernel)
theorem wt_947 : Jvm.Cond.methodLink "TermLodgingsLaw" (26 : Nat) ({ cls := "TermLodgingsModel", name := "wish", desc := "(II)I" } : Jvm.MethodName) ∈ gw_tbl := gw_at 947 (by decide +kernel) (by decide +kernel)
theorem wt_948 : Jvm.Cond.instanceMethod ({ cls := "TermLodgingsModel", name := "wish", desc := "(II)I" } : Jvm.MethodName) ∈ gw_tbl := gw_at 948 (by decide +kernel) (by decide +kernel)
theorem wt_949 : Jvm.Cond.selects "TermLodgingsModel" ({ cls := "TermLodgingsModel", name := "wish", desc := "(II)I" } : Jvm.MethodName) ({ cls := "TermLodgingsModel", name := "wish", desc := "(II)I" } : Jvm.MethodName) ∈ gw_tbl := gw_at 949 (by decide +kernel) (by decide +kernel)
theorem wt_950 : Jvm.Cond.code ({ cls := "TermLodgingsModel", name := "wish", desc := "(II)I" } : Jvm.MethodName) prog_13_method_9_code (3 : Nat) (Option.some Jvm.ClassFile.FieldType.int) ∈ gw_tbl := gw_at 950 (by decide +kernel) (by decide +kernel)
theorem wt_951 : Jvm.Cond.methodLink "TermLodgingsModel" (107 : Nat) ({ cls := "TermLodgingsModel", name := "isOne", desc := "(I)Z" } : Jvm.MethodName) ∈ gw_tbl := gw_at 951 (by decide +kernel) (by decide +kernel)
theorem wt_953 : Jvm.Cond.instanceMethod ({ cls := "TermLodgingsModel", name := "isOne", desc := "(I)Z" } : Jvm.MethodName) ∈ gw_tbl := gw_at 953 (by decide +kernel) (by decide +kernel)
theorem wt_954 : Jvm.Cond.code ({ cls := "TermLodgingsModel", name := "isOne", desc := "(I)Z" } : Jvm.MethodName) prog_13_method_5_code (2 : Nat) (Option.some Jvm.ClassFile.FieldType.boolean) ∈ gw_tbl := gw_at 954 (by decide +kernel) (by decide +kernel)
theorem wt_955 : Jvm.Cond.methodLink "TermLodgingsModel" (111 : Nat) ({ cls := "TermLodgingsModel", name := "isRoom", desc := "(I)Z" } : Jvm.MethodName) ∈ gw_tbl := gw_at 955 (by decide +kernel) (by decide +kernel)
theorem wt_957 : Jvm.Cond.instanceMethod ({ cls := "TermLodgingsModel", name := "isRoom", desc := "(I)Z" } : Jvm.MethodName) ∈ gw_tbl := gw_at 957 (by decide +kernel) (by decide +kernel)
theorem wt_958 : Jvm.Cond.code ({ cls := "TermLodgingsModel", name := "isRoom", desc := "(I)Z" } : Jvm.MethodName) prog_13_method_4_code (2 : Nat) (Option.some Jvm.ClassFile.FieldType.boolean) ∈ gw_tbl := gw_at 958 (by decide +kernel) (by decide +kernel)
theorem wt_959 : Jvm.Cond.methodLink "TermLodgingsModel" (114 : Nat) ({ cls := "TermLodgingsModel", name := "rankOf", desc := "(II)I" } : Jvm.MethodName) ∈ gw_tbl := gw_at 959 (by decide +kernel) (by decide +kernel)
theorem wt_961 : Jvm.Cond.instanceMethod ({ cls := "TermLodgingsModel", name := "rankOf", desc := "(II)I" } : Jvm.MethodName) ∈ gw_tbl := gw_at 961 (by decide +kernel) (by decide +kernel)
theorem wt_962 : Jvm.Cond.code ({ cls := "TermLodgingsModel", name := "rankOf", desc := "(II)I" } : Jvm.MethodName) prog_13_method_8_code (4 : Nat) (Option.some Jvm.ClassFile.FieldType.int) ∈ gw_tbl := gw_at 962 (by decide +kernel) (by decide +kernel)
theorem wt_963 : Jvm.Cond.methodLink "TermLodgingsLaw" (31 : Nat) ({ cls := "TermLodgingsModel", name := "content", desc := "(I)I" } : Jvm.MethodName) ∈ gw_tbl := gw_at 963 (by decide +kernel) (by decide +kernel)
theorem wt_964 : Jvm.Cond.instanceMethod ({ cls := "TermLodgingsModel", name := "content", desc := "(I)I" } : Jvm.MethodName) ∈ gw_tbl := gw_at 964 (by decide +kernel) (by decide +kernel)
theorem wt_965 : Jvm.Cond.selects "TermLodgingsModel" ({ cls := "TermLodgingsModel", name := "content", desc := "(I)I" } : Jvm.MethodName) ({ cls := "TermLodgingsModel", name := "content", desc := "(I)I" } : Jvm.MethodName) ∈ gw_tbl := gw_at 965 (by decide +kernel) (by decide +kernel)
theorem wt_966 : Jvm.Cond.code ({ cls := "TermLodgingsModel", name := "content", desc := "(I)I" } : Jvm.MethodName) prog_13_method_10_code (3 : Nat) (Option.some Jvm.ClassFile.FieldType.int) ∈ gw_tbl := gw_at 966 (by decide +kernel) (by decide +kernel)
theorem wt_967 : Jvm.Cond.methodLink "TermLodgingsLaw" (35 : Nat) ({ cls := "TermLodgingsModel", name := "about", desc := "(II)I" } : Jvm.MethodName) ∈ gw_tbl := gw_at 967 (by decide +kernel) (by decide +kernel)
theorem wt_968 : Jvm.Cond.instanceMethod ({ cls := "TermLodgingsModel", name := "about", desc := "(II)I" } : Jvm.MethodName) ∈ gw_tbl := gw_at 968 (by decide +kernel) (by decide +kernel)
theorem wt_969 : Jvm.Cond.selects "TermLodgingsModel" ({ cls := "TermLodgingsModel", name := "about", desc := "(II)I" } : Jvm.MethodName) ({ cls := "TermLodgingsModel", name := "about", desc := "(II)I" } : Jvm.MethodName) ∈ gw_tbl := gw_at 969 (by decide +kernel) (by decide +kernel)
theorem wt_970 : Jvm.Cond.code ({ cls := "TermLodgingsModel", name := "about", desc := "(II)I" } : Jvm.MethodName) prog_13_method_11_code (3 : Nat) (Option.some Jvm.ClassFile.FieldType.int) ∈ gw_tbl := gw_at 970 (by decide +kernel) (by decide +kernel)
theorem wt_971 : Jvm.Cond.constantLong "TermLodgingsModel" (118 : Nat) (10 : Int64) ∈ gw_tbl := gw_at 971 (by decide +kernel) (by decide +kernel)
theorem wt_972 : Jvm.Cond.methodLink "TermLodgingsLaw" (39 : Nat) ({ cls := "TermLodgingsModel", name := "of", desc := "(II)I" } : Jvm.MethodName) ∈ gw_tbl := gw_at 972 (by decide +kernel) (by decide +kernel)
theorem wt_973 : Jvm.Cond.instanceMethod ({ cls := "TermLodgingsModel", name := "of", desc := "(II)I" } : Jvm.MethodName) ∈ gw_tbl := gw_at 973 (by decide +kernel) (by decide +kernel)
theorem wt_974 : Jvm.Cond.selects "TermLodgingsModel" ({ cls := "TermLodgingsModel", name := "of", desc := "(II)I" } : Jvm.MethodName) ({ cls := "TermLodgingsModel", name := "of", desc := "(II)I" } : Jvm.MethodName) ∈ gw_tbl := gw_at 974 (by decide +kernel) (by decide +kernel)
theorem wt_975 : Jvm.Cond.code ({ cls := "TermLodgingsModel", name := "of", desc := "(II)I" } : Jvm.MethodName) prog_13_method_13_code (3 : Nat) (Option.some Jvm.ClassFile.FieldType.int) ∈ gw_tbl := gw_at 975 (by decide +kernel) (by decide +kernel)
theorem wt_976 : Jvm.Cond.methodLink "TermLodgingsModel" (120 : Nat) ({ cls := "TermLodgingsModel", name := "whoHas", desc := "(I)I" } : Jvm.MethodName) ∈ gw_tbl := gw_at 976 (by decide +kernel) (by decide +kernel)
theorem wt_978 : Jvm.Cond.instanceMethod ({ cls := "TermLodgingsModel", name := "whoHas", desc := "(I)I" } : Jvm.MethodName) ∈ gw_tbl := gw_at 978 (by decide +kernel) (by decide +kernel)
theorem wt_979 : Jvm.Cond.code ({ cls := "TermLodgingsModel", name := "whoHas", desc := "(I)I" } : Jvm.MethodName) prog_13_method_12_code (3 : Nat) (Option.some Jvm.ClassFile.FieldType.int) ∈ gw_tbl := gw_at 979 (by decide +kernel) (by decide +kernel)
theorem wt_980 : Jvm.Cond.methodLink "TermLodgingsLaw" (43 : Nat) ({ cls := "TermLodgingsModel", name := "give", desc := "(II)I" } : Jvm.MethodName) ∈ gw_tbl := gw_at 980 (by decide +kernel) (by decide +kernel)
theorem wt_981 : Jvm.Cond.instanceMethod ({ cls := "TermLodgingsModel", name := "give", desc := "(II)I" } : Jvm.MethodName) ∈ gw_tbl := gw_at 981 (by decide +kernel) (by decide +kernel)
theorem wt_982 : Jvm.Cond.selects "TermLodgingsModel" ({ cls := "TermLodgingsModel", name := "give", desc := "(II)I" } : Jvm.MethodName) ({ cls := "TermLodgingsModel", name := "give", desc := "(II)I" } : Jvm.MethodName) ∈ gw_tbl := gw_at 982 (by decide +kernel) (by decide +kernel)
theorem wt_983 : Jvm.Cond.code ({ cls := "TermLodgingsModel", name := "give", desc := "(II)I" } : Jvm.MethodName) prog_13_method_14_code (4 : Nat) (Option.some Jvm.ClassFile.FieldType.int) ∈ gw_tbl := gw_at 983 (by decide +kernel) (by decide +kernel)
theorem wt_984 : Jvm.Cond.methodLink "TermLodgingsModel" (124 : Nat) ({ cls := "TermLodgingsModel", name := "mayLive", desc := "(II)Z" } : Jvm.MethodName) ∈ gw_tbl := gw_at 984 (by decide +kernel) (by decide +kernel)
theorem wt_986 : Jvm.Cond.instanceMethod ({ cls := "TermLodgingsModel", name := "mayLive", desc := "(II)Z" } : Jvm.MethodName) ∈ gw_tbl := gw_at 986 (by decide +kernel) (by decide +kernel)
theorem wt_987 : Jvm.Cond.code ({ cls := "TermLodgingsModel", name := "mayLive", desc := "(II)Z" } : Jvm.MethodName) prog_13_method_22_code (7 : Nat) (Option.some Jvm.ClassFile.FieldType.boolean) ∈ gw_tbl := gw_at 987 (by decide +kernel) (by decide +kernel)
theorem wt_988 : Jvm.Cond.methodLink "TermLodgingsModel" (151 : Nat) ({ cls := "TermLodgingsModel", name := "fault", desc := "()I" } : Jvm.MethodName) ∈ gw_tbl := gw_at 988 (by decide +kernel) (by decide +kernel)
theorem wt_989 : Jvm.Cond.instanceMethod ({ cls := "TermLodgingsModel", name := "fault", desc := "()I" } : Jvm.MethodName) ∈ gw_tbl := gw_at 989 (by decide +kernel) (by decide +kernel)
theorem wt_990 : Jvm.Cond.selects "TermLodgingsModel" ({ cls := "TermLodgingsModel", name := "fault", desc := "()I" } : Jvm.MethodName) ({ cls := "TermLodgingsModel", name := "fault", desc := "()I" } : Jvm.MethodName) ∈ gw_tbl := gw_at 990 (by decide +kernel) (by decide +kernel)
theorem wt_991 : Jvm.Cond.code ({ cls := "TermLodgingsModel", name := "fault", desc := "()I" } : Jvm.MethodName) prog_13_method_20_code (4 : Nat) (Option.some Jvm.ClassFile.FieldType.int) ∈ gw_tbl := gw_at 991 (by decide +kernel) (by decide +kernel)
theorem wt_992 : Jvm.Cond.methodLink "TermLodgingsModel" (139 : Nat) ({ cls := "TermLodgingsModel", name := "isLetter", desc := "(I)Z" } : Jvm.MethodName) ∈ gw_tbl := gw_at 992 (by decide +kernel) (by decide +kernel)
theorem wt_993 : Jvm.Cond.static ({ cls := "TermLodgingsModel", name := "isLetter", desc := "(I)Z" } : Jvm.MethodName) ∈ gw_tbl := gw_at 993 (by decide +kernel) (by decide +kernel)
theorem wt_994 : Jvm.Cond.code ({ cls := "TermLodgingsModel", name := "isLetter", desc := "(I)Z" } : Jvm.MethodName) prog_13_method_17_code (1 : Nat) (Option.some Jvm.ClassFile.FieldType.boolean) ∈ gw_tbl := gw_at 994 (by decide +kernel) (by decide +kernel)
theorem wt_995 : Jvm.Cond.methodLink "TermLodgingsModel" (142 : Nat) ({ cls := "TermLodgingsModel", name := "isSign", desc := "(I)Z" } : Jvm.MethodName) ∈ gw_tbl := gw_at 995 (by decide +kernel) (by decide +kernel)
theorem wt_996 : Jvm.Cond.static ({ cls := "TermLodgingsModel", name := "isSign", desc := "(I)Z" } : Jvm.MethodName) ∈ gw_tbl := gw_at 996 (by decide +kernel) (by decide +kernel)
theorem wt_997 : Jvm.Cond.code ({ cls := "TermLodgingsModel", name := "isSign", desc := "(I)Z" } : Jvm.MethodName) prog_13_method_18_code (1 : Nat) (Option.some Jvm.ClassFile.FieldType.boolean) ∈ gw_tbl := gw_at 997 (by decide +kernel) (by decide +kernel)
theorem wt_998 : Jvm.Cond.methodLink "TermLodgingsModel" (145 : Nat) ({ cls := "TermLodgingsModel", name := "isFigure", desc := "(I)Z" } : Jvm.MethodName) ∈ gw_tbl := gw_at 998 (by decide +kernel) (by decide +kernel)
theorem wt_999 : Jvm.Cond.static ({ cls := "TermLodgingsModel", name := "isFigure", desc := "(I)Z" } : Jvm.MethodName) ∈ gw_tbl := gw_at 999 (by decide +kernel) (by decide +kernel)
theorem wt_1000 : Jvm.Cond.code ({ cls := "TermLodgingsModel", name := "isFigure", desc := "(I)Z" } : Jvm.MethodName) prog_13_method_19_code (1 : Nat) (Option.some Jvm.ClassFile.FieldType.boolean) ∈ gw_tbl := gw_at 1000 (by decide +kernel) (by decide +kernel)
theorem wt_1001 : Jvm.Cond.constantLong "TermLodgingsModel" (135 : Nat) (48 : Int64) ∈ gw_tbl := gw_at 1001 (by decide +kernel) (by decide +kernel)
theorem wt_1002 : Jvm.Cond.constantLong "TermLodgingsModel" (137 : Nat) (57 : Int64) ∈ gw_tbl := gw_at 1002 (by decide +kernel) (by decide +kernel)
theorem wt_1003 : Jvm.Cond.methodLink "TermLodgingsModel" (155 : Nat) ({ cls := "TermLodgingsModel", name := "holds", desc := "(IIII)Z" } : Jvm.MethodName) ∈ gw_tbl := gw_at 1003 (by decide +kernel) (by decide +kernel)
theorem wt_1005 : Jvm.Cond.instanceMethod ({ cls := "TermLodgingsModel", name := "holds", desc := "(IIII)Z" } : Jvm.MethodName) ∈ gw_tbl := gw_at 1005 (by decide +kernel) (by decide +kernel)
theorem wt_1006 : Jvm.Cond.code ({ cls := "TermLodgingsModel", name := "holds", desc := "(IIII)Z" } : Jvm.MethodName) prog_13_method_21_code (8 : Nat) (Option.some Jvm.ClassFile.FieldType.boolean) ∈ gw_tbl := gw_at 1006 (by decide +kernel) (by decide +kernel)
theorem wt_1007 : Jvm.Cond.methodLink "TermLodgingsLaw" (47 : Nat) ({ cls := "TermLodgingsModel", name := "type", desc := "(I)I" } : Jvm.MethodName) ∈ gw_tbl := gw_at 1007 (by decide +kernel) (by decide +kernel)
theorem wt_1008 : Jvm.Cond.instanceMethod ({ cls := "TermLodgingsModel", name := "type", desc := "(I)I" } : Jvm.MethodName) ∈ gw_tbl := gw_at 1008 (by decide +kernel) (by decide +kernel)
theorem wt_1009 : Jvm.Cond.selects "TermLodgingsModel" ({ cls := "TermLodgingsModel", name := "type", desc := "(I)I" } : Jvm.MethodName) ({ cls := "TermLodgingsModel", name := "type", desc := "(I)I" } : Jvm.MethodName) ∈ gw_tbl := gw_at 1009 (by decide +kernel) (by decide +kernel)
theorem wt_1010 : Jvm.Cond.code ({ cls := "TermLodgingsModel", name := "type", desc := "(I)I" } : Jvm.MethodName) prog_13_method_15_code (2 : Nat) (Option.some Jvm.ClassFile.FieldType.int) ∈ gw_tbl := gw_at 1010 (by decide +kernel) (by decide +kernel)
theorem wt_1011 : Jvm.Cond.constantLong "TermLodgingsModel" (128 : Nat) (32 : Int64) ∈ gw_tbl := gw_at 1011 (by decide +kernel) (by decide +kernel)
theorem wt_1012 : Jvm.Cond.constantLong "TermLodgingsModel" (130 : Nat) (126 : Int64) ∈ gw_tbl := gw_at 1012 (by decide +kernel) (by decide +kernel)
theorem wt_1013 : Jvm.Cond.methodLink "TermLodgingsLaw" (52 : Nat) ({ cls := "TermLodgingsModel", name := "repeal", desc := "()I" } : Jvm.MethodName) ∈ gw_tbl := gw_at 1013 (by decide +kernel) (by decide +kernel)
theorem wt_1014 : Jvm.Cond.instanceMethod ({ cls := "TermLodgingsModel", name := "repeal", desc := "()I" } : Jvm.MethodName) ∈ gw_tbl := gw_at 1014 (by decide +kernel) (by decide +kernel)
theorem wt_1015 : Jvm.Cond.selects "TermLodgingsModel" ({ cls := "TermLodgingsModel", name := "repeal", desc := "()I" } : Jvm.MethodName) ({ cls := "TermLodgingsModel", name := "repeal", desc := "()I" } : Jvm.MethodName) ∈ gw_tbl := gw_at 1015 (by decide +kernel) (by decide +kernel)
theorem wt_1016 : Jvm.Cond.code ({ cls := "TermLodgingsModel", name := "repeal", desc := "()I" } : Jvm.MethodName) prog_13_method_16_code (2 : Nat) (Option.some Jvm.ClassFile.FieldType.int) ∈ gw_tbl := gw_at 1016 (by decide +kernel) (by decide +kernel)
theorem wt_1017 : Jvm.Cond.methodLink "TermLodgingsLaw" (56 : Nat) ({ cls := "TermLodgingsModel", name := "fault", desc := "()I" } : Jvm.MethodName) ∈ gw_tbl := gw_at 1017 (by decide +kernel) (by decide +kernel)
theorem wt_1018 : Jvm.Cond.methodLink "TermLodgingsLaw" (60 : Nat) ({ cls := "TermLodgingsModel", name := "may", desc := "(II)I" } : Jvm.MethodName) ∈ gw_tbl := gw_at 1018 (by decide +kernel) (by decide +kernel)
theorem wt_1019 : Jvm.Cond.instanceMethod ({ cls := "TermLodgingsModel", name := "may", desc := "(II)I" } : Jvm.MethodName) ∈ gw_tbl := gw_at 1019 (by decide +kernel) (by decide +kernel)
theorem wt_1020 : Jvm.Cond.selects "TermLodgingsModel" ({ cls := "TermLodgingsModel", name := "may", desc := "(II)I" } : Jvm.MethodName) ({ cls := "TermLodgingsModel", name := "may", desc := "(II)I" } : Jvm.MethodName) ∈ gw_tbl := gw_at 1020 (by decide +kernel) (by decide +kernel)
theorem wt_1021 : Jvm.Cond.code ({ cls := "TermLodgingsModel", name := "may", desc := "(II)I" } : Jvm.MethodName) prog_13_method_23_code (3 : Nat) (Option.some Jvm.ClassFile.FieldType.int) ∈ gw_tbl := gw_at 1021 (by decide +kernel) (by decide +kernel)
theorem wt_1022 : Jvm.Cond.methodLink "TermLodgingsLaw" (64 : Nat) ({ cls := "TermLodgingsModel", name := "wrong", desc := "()I" } : Jvm.MethodName) ∈ gw_tbl := gw_at 1022 (by decide +kernel) (by decide +kernel)
theorem wt_1023 : Jvm.Cond.instanceMethod ({ cls := "TermLodgingsModel", name := "wrong", desc := "()I" } : Jvm.MethodName) ∈ gw_tbl := gw_at 1023 (by decide +kernel) (by decide +kernel)
theorem wt_1024 : Jvm.Cond.selects "TermLodgingsModel" ({ cls := "TermLodgingsModel", name := "wrong", desc := "()I" } : Jvm.MethodName) ({ cls := "TermLodgingsModel", name := "wrong", desc := "()I" } : Jvm.MethodName) ∈ gw_tbl := gw_at 1024 (by decide +kernel) (by decide +kernel)
theorem wt_1025 : Jvm.Cond.code ({ cls := "TermLodgingsModel", name := "wrong", desc := "()I" } : Jvm.MethodName) prog_13_method_24_code (3 : Nat) (Option.some Jvm.ClassFile.FieldType.int) ∈ gw_tbl := gw_at 1025 (by decide +kernel) (by decide +kernel)
theorem wt_1026 : Jvm.Cond.methodLink "TermLodgingsLaw" (68 : Nat) ({ cls := "TermLodgingsModel", name := "draw", desc := "(I)I" } : Jvm.MethodName) ∈ gw_tbl := gw_at 1026 (by decide +kernel) (by decide +kernel)
theorem wt_1027 : Jvm.Cond.instanceMethod ({ cls := "TermLodgingsModel", name := "draw", desc := "(I)I" } : Jvm.MethodName) ∈ gw_tbl := gw_at 1027 (by decide +kernel) (by decide +kernel)
theorem wt_1028 : Jvm.Cond.selects "TermLodgingsModel" ({ cls := "TermLodgingsModel", name := "draw", desc := "(I)I" } : Jvm.MethodName) ({ cls := "TermLodgingsModel", name := "draw", desc := "(I)I" } : Jvm.MethodName) ∈ gw_tbl := gw_at 1028 (by decide +kernel) (by decide +kernel)
theorem wt_1029 : Jvm.Cond.code ({ cls := "TermLodgingsModel", name := "draw", desc := "(I)I" } : Jvm.MethodName) prog_13_method_25_code (6 : Nat) (Option.some Jvm.ClassFile.FieldType.int) ∈ gw_tbl := gw_at 1029 (by decide +kernel) (by decide +kernel)
theorem wt_1030 : Jvm.Cond.constant "TermLodgingsModel" (159 : Nat) (1103515245 : Int32) ∈ gw_tbl := gw_at 1030 (by decide +kernel) (by decide +kernel)
theorem wt_1031 : Jvm.Cond.methodLink "TermLodgingsLaw" (72 : Nat) ({ cls := "TermLodgingsModel", name := "change", desc := "(II)I" } : Jvm.MethodName) ∈ gw_tbl := gw_at 1031 (by decide +kernel) (by decide +kernel)
theorem wt_1032 : Jvm.Cond.instanceMethod ({ cls := "TermLodgingsModel", name := "change", desc := "(II)I" } : Jvm.MethodName) ∈ gw_tbl := gw_at 1032 (by decide +kernel) (by decide +kernel)
theorem wt_1033 : Jvm.Cond.selects "TermLodgingsModel" ({ cls := "TermLodgingsModel", name := "change", desc := "(II)I" } : Jvm.MethodName) ({ cls := "TermLodgingsModel", name := "change", desc := "(II)I" } : Jvm.MethodName) ∈ gw_tbl := gw_at 1033 (by decide +kernel) (by decide +kernel)
theorem wt_1034 : Jvm.Cond.code ({ cls := "TermLodgingsModel", name := "change", desc := "(II)I" } : Jvm.MethodName) prog_13_method_26_code (4 : Nat) (Option.some Jvm.ClassFile.FieldType.int) ∈ gw_tbl := gw_at 1034 (by decide +kernel) (by decide +kernel)
theorem wt_1035 : Jvm.Cond.methodLink "TermLodgingsLaw" (76 : Nat) ({ cls := "TermLodgingsModel", name := "turn", desc := "(I)I" } : Jvm.MethodName) ∈ gw_tbl := gw_at 1035 (by decide +kernel) (by decide +kernel)
theorem wt_1036 : Jvm.Cond.instanceMethod ({ cls := "TermLodgingsModel", name := "turn", desc := "(I)I" } : Jvm.MethodName) ∈ gw_tbl := gw_at 1036 (by decide +kernel) (by decide +kernel)
theorem wt_1037 : Jvm.Cond.selects "TermLodgingsModel" ({ cls := "TermLodgingsModel", name := "turn", desc := "(I)I" } : Jvm.MethodName) ({ cls := "TermLodgingsModel", name := "turn", desc := "(I)I" } : Jvm.MethodName) ∈ gw_tbl := gw_at 1037 (by decide +kernel) (by decide +kernel)
theorem wt_1038 : Jvm.Cond.code ({ cls := "TermLodgingsModel", name := "turn", desc := "(I)I" } : Jvm.MethodName) prog_13_method_27_code (2 : Nat) (Option.some Jvm.ClassFile.FieldType.int) ∈ gw_tbl := gw_at 1038 (by decide +kernel) (by decide +kernel)
theorem wt_1039 : Jvm.Cond.methodLink "TermLodgingsLaw" (80 : Nat) ({ cls := "TermLodgingsModel", name := "deal", desc := "()I" } : Jvm.MethodName) ∈ gw_tbl := gw_at 1039 (by decide +kernel) (by decide +kernel)
theorem wt_1040 : Jvm.Cond.instanceMethod ({ cls := "TermLodgingsModel", name := "deal", desc := "()I" } : Jvm.MethodName) ∈ gw_tbl := gw_at 1040 (by decide +kernel) (by decide +kernel)
theorem wt_1041 : Jvm.Cond.selects "TermLodgingsModel" ({ cls := "TermLodgingsModel", name := "deal", desc := "()I" } : Jvm.MethodName) ({ cls := "TermLodgingsModel", name := "deal", desc := "()I" } : Jvm.MethodName) ∈ gw_tbl := gw_at 1041 (by decide +kernel) (by decide +kernel)
theorem wt_1042 : Jvm.Cond.code ({ cls := "TermLodgingsModel", name := "deal", desc := "()I" } : Jvm.MethodName) prog_13_method_32_code (6 : Nat) (Option.some Jvm.ClassFile.FieldType.int) ∈ gw_tbl := gw_at 1042 (by decide +kernel) (by decide +kernel)
theorem wt_1043 : Jvm.Cond.methodLink "TermLodgingsModel" (160 : Nat) ({ cls := "TermLodgingsModel", name := "sizeOf", desc := "(I)I" } : Jvm.MethodName) ∈ gw_tbl := gw_at 1043 (by decide +kernel) (by decide +kernel)
theorem wt_1045 : Jvm.Cond.instanceMethod ({ cls := "TermLodgingsModel", name := "sizeOf", desc := "(I)I" } : Jvm.MethodName) ∈ gw_tbl := gw_at 1045 (by decide +kernel) (by decide +kernel)
theorem wt_1046 : Jvm.Cond.code ({ cls := "TermLodgingsModel", name := "sizeOf", desc := "(I)I" } : Jvm.MethodName) prog_13_method_31_code (4 : Nat) (Option.some Jvm.ClassFile.FieldType.int) ∈ gw_tbl := gw_at 1046 (by decide +kernel) (by decide +kernel)
theorem wt_1047 : Jvm.Cond.methodLink "TermLodgingsModel" (163 : Nat) ({ cls := "TermLodgingsModel", name := "dearest", desc := "(I)V" } : Jvm.MethodName) ∈ gw_tbl := gw_at 1047 (by decide +kernel) (by decide +kernel)
theorem wt_1049 : Jvm.Cond.instanceMethod ({ cls := "TermLodgingsModel", name := "dearest", desc := "(I)V" } : Jvm.MethodName) ∈ gw_tbl := gw_at 1049 (by decide +kernel) (by decide +kernel)
theorem wt_1050 : Jvm.Cond.code ({ cls := "TermLodgingsModel", name := "dearest", desc := "(I)V" } : Jvm.MethodName) prog_13_method_29_code (4 : Nat) (Option.none : Option Jvm.ClassFile.FieldType) ∈ gw_tbl := gw_at 1050 (by decide +kernel) (by decide +kernel)
theorem wt_1051 : Jvm.Cond.methodLink "TermLodgingsModel" (167 : Nat) ({ cls := "TermLodgingsModel", name := "moveInto", desc := "(II)Z" } : Jvm.MethodName) ∈ gw_tbl := gw_at 1051 (by decide +kernel) (by decide +kernel)
theorem wt_1053 : Jvm.Cond.instanceMethod ({ cls := "TermLodgingsModel", name := "moveInto", desc := "(II)Z" } : Jvm.MethodName) ∈ gw_tbl := gw_at 1053 (by decide +kernel) (by decide +kernel)
theorem wt_1054 : Jvm.Cond.code ({ cls := "TermLodgingsModel", name := "moveInto", desc := "(II)Z" } : Jvm.MethodName) prog_13_method_30_code (6 : Nat) (Option.some Jvm.ClassFile.FieldType.boolean) ∈ gw_tbl := gw_at 1054 (by decide +kernel) (by decide +kernel)
theorem wt_1055 : Jvm.Cond.methodLink "TermLodgingsModel" (170 : Nat) ({ cls := "TermLodgingsModel", name := "housed", desc := "()I" } : Jvm.MethodName) ∈ gw_tbl := gw_at 1055 (by decide +kernel) (by decide +kernel)
theorem wt_1057 : Jvm.Cond.instanceMethod ({ cls := "TermLodgingsModel", name := "housed", desc := "()I" } : Jvm.MethodName) ∈ gw_tbl := gw_at 1057 (by decide +kernel) (by decide +kernel)
theorem wt_1058 : Jvm.Cond.code ({ cls := "TermLodgingsModel", name := "housed", desc := "()I" } : Jvm.MethodName) prog_13_method_28_code (3 : Nat) (Option.some Jvm.ClassFile.FieldType.int) ∈ gw_tbl := gw_at 1058 (by decide +kernel) (by decide +kernel)
theorem wt_1059 : Jvm.Cond.methodLink "TermLodgingsLaw" (84 : Nat) ({ cls := "TermLodgingsModel", name := "trade", desc := "()I" } : Jvm.MethodName) ∈ gw_tbl := gw_at 1059 (by decide +kernel) (by decide +kernel)
theorem wt_1060 : Jvm.Cond.instanceMethod ({ cls := "TermLodgingsModel", name := "trade", desc := "()I" } : Jvm.MethodName) ∈ gw_tbl := gw_at 1060 (by decide +kernel) (by decide +kernel)
theorem wt_1061 : Jvm.Cond.selects "TermLodgingsModel" ({ cls := "TermLodgingsModel", name := "trade", desc := "()I" } : Jvm.MethodName) ({ cls := "TermLodgingsModel", name := "trade", desc := "()I" } : Jvm.MethodName) ∈ gw_tbl := gw_at 1061 (by decide +kernel) (by decide +kernel)
theorem wt_1062 : Jvm.Cond.code ({ cls := "TermLodgingsModel", name := "trade", desc := "()I" } : Jvm.MethodName) prog_13_method_34_code (11 : Nat) (Option.some Jvm.ClassFile.FieldType.int) ∈ gw_tbl := gw_at 1062 (by decide +kernel) (by decide +kernel)
theorem wt_1063 : Jvm.Cond.methodLink "TermLodgingsModel" (173 : Nat) ({ cls := "TermLodgingsModel", name := "pointOf", desc := "(II)I" } : Jvm.MethodName) ∈ gw_tbl := gw_at 1063 (by decide +kernel) (by decide +kernel)
theorem wt_1065 : Jvm.Cond.instanceMethod ({ cls := "TermLodgingsModel", name := "pointOf", desc := "(II)I" } : Jvm.MethodName) ∈ gw_tbl := gw_at 1065 (by decide +kernel) (by decide +kernel)
theorem wt_1066 : Jvm.Cond.code ({ cls := "TermLodgingsModel", name := "pointOf", desc := "(II)I" } : Jvm.MethodName) prog_13_method_33_code (6 : Nat) (Option.some Jvm.ClassFile.FieldType.int) ∈ gw_tbl := gw_at 1066 (by decide +kernel) (by decide +kernel)
theorem wt_1067 : Jvm.Cond.methodLink "TermLodgingsLaw" (88 : Nat) ({ cls := "TermLodgingsModel", name := "traded", desc := "(I)I" } : Jvm.MethodName) ∈ gw_tbl := gw_at 1067 (by decide +kernel) (by decide +kernel)
theorem wt_1068 : Jvm.Cond.instanceMethod ({ cls := "TermLodgingsModel", name := "traded", desc := "(I)I" } : Jvm.MethodName) ∈ gw_tbl := gw_at 1068 (by decide +kernel) (by decide +kernel)
theorem wt_1069 : Jvm.Cond.selects "TermLodgingsModel" ({ cls := "TermLodgingsModel", name := "traded", desc := "(I)I" } : Jvm.MethodName) ({ cls := "TermLodgingsModel", name := "traded", desc := "(I)I" } : Jvm.MethodName) ∈ gw_tbl := gw_at 1069 (by decide +kernel) (by decide +kernel)
theorem wt_1070 : Jvm.Cond.code ({ cls := "TermLodgingsModel", name := "traded", desc := "(I)I" } : Jvm.MethodName) prog_13_method_35_code (2 : Nat) (Option.some Jvm.ClassFile.FieldType.int) ∈ gw_tbl := gw_at 1070 (by decide +kernel) (by decide +kernel)
theorem wt_1071 : Jvm.Cond.constantLong "TermLodgingsModel" (176 : Nat) (2 : Int64) ∈ gw_tbl := gw_at 1071 (by decide +kernel) (by decide +kernel)
theorem wt_1072 : Jvm.Cond.methodLink "TermLodgingsLaw" (92 : Nat) ({ cls := "TermLodgingsModel", name := "strike", desc := "(I)I" } : Jvm.MethodName) ∈ gw_tbl := gw_at 1072 (by decide +kernel) (by decide +kernel)
theorem wt_1073 : Jvm.Cond.instanceMethod ({ cls := "TermLodgingsModel", name := "strike", desc := "(I)I" } : Jvm.MethodName) ∈ gw_tbl := gw_at 1073 (by decide +kernel) (by decide +kernel)
theorem wt_1074 : Jvm.Cond.selects "TermLodgingsModel" ({ cls := "TermLodgingsModel", name := "strike", desc := "(I)I" } : Jvm.MethodName) ({ cls := "TermLodgingsModel", name := "strike", desc := "(I)I" } : Jvm.MethodName) ∈ gw_tbl := gw_at 1074 (by decide +kernel) (by decide +kernel)
theorem wt_1075 : Jvm.Cond.code ({ cls := "TermLodgingsModel", name := "strike", desc := "(I)I" } : Jvm.MethodName) prog_13_method_38_code (6 : Nat) (Option.some Jvm.ClassFile.FieldType.int) ∈ gw_tbl := gw_at 1075 (by decide +kernel) (by decide +kernel)
theorem wt_1076 : Jvm.Cond.methodLink "TermLodgingsModel" (184 : Nat) ({ cls := "TermLodgingsModel", name := "most", desc := "(I)I" } : Jvm.MethodName) ∈ gw_tbl := gw_at 1076 (by decide +kernel) (by decide +kernel)
theorem wt_1078 : Jvm.Cond.instanceMethod ({ cls := "TermLodgingsModel", name := "most", desc := "(I)I" } : Jvm.MethodName) ∈ gw_tbl := gw_at 1078 (by decide +kernel) (by decide +kernel)
theorem wt_1079 : Jvm.Cond.code ({ cls := "TermLodgingsModel", name := "most", desc := "(I)I" } : Jvm.MethodName) prog_13_method_37_code (4 : Nat) (Option.some Jvm.ClassFile.FieldType.int) ∈ gw_tbl := gw_at 1079 (by decide +kernel) (by decide +kernel)
theorem wt_1080 : Jvm.Cond.methodLink "TermLodgingsModel" (181 : Nat) ({ cls := "TermLodgingsModel", name := "lays", desc := "(I)Z" } : Jvm.MethodName) ∈ gw_tbl := gw_at 1080 (by decide +kernel) (by decide +kernel)
theorem wt_1082 : Jvm.Cond.instanceMethod ({ cls := "TermLodgingsModel", name := "lays", desc := "(I)Z" } : Jvm.MethodName) ∈ gw_tbl := gw_at 1082 (by decide +kernel) (by decide +kernel)
theorem wt_1083 : Jvm.Cond.code ({ cls := "TermLodgingsModel", name := "lays", desc := "(I)Z" } : Jvm.MethodName) prog_13_method_36_code (11 : Nat) (Option.some Jvm.ClassFile.FieldType.boolean) ∈ gw_tbl := gw_at 1083 (by decide +kernel) (by decide +kernel)
theorem wt_1084 : Jvm.Cond.methodLink "TermLodgingsModel" (187 : Nat) ({ cls := "TermLodgingsModel", name := "take", desc := "(II)V" } : Jvm.MethodName) ∈ gw_tbl := gw_at 1084 (by decide +kernel) (by decide +kernel)
theorem wt_1086 : Jvm.Cond.instanceMethod ({ cls := "TermLodgingsModel", name := "take", desc := "(II)V" } : Jvm.MethodName) ∈ gw_tbl := gw_at 1086 (by decide +kernel) (by decide +kernel)
theorem wt_1087 : Jvm.Cond.code ({ cls := "TermLodgingsModel", name := "take", desc := "(II)V" } : Jvm.MethodName) prog_13_method_39_code (4 : Nat) (Option.none : Option Jvm.ClassFile.FieldType) ∈ gw_tbl := gw_at 1087 (by decide +kernel) (by decide +kernel)
theorem wt_1088 : Jvm.Cond.methodLink "TermLodgingsModel" (191 : Nat) ({ cls := "TermLodgingsModel", name := "untake", desc := "(I)V" } : Jvm.MethodName) ∈ gw_tbl := gw_at 1088 (by decide +kernel) (by decide +kernel)
theorem wt_1090 : Jvm.Cond.instanceMethod ({ cls := "TermLodgingsModel", name := "untake", desc := "(I)V" } : Jvm.MethodName) ∈ gw_tbl := gw_at 1090 (by decide +kernel) (by decide +kernel)
theorem wt_1091 : Jvm.Cond.code ({ cls := "TermLodgingsModel", name := "untake", desc := "(I)V" } : Jvm.MethodName) prog_13_method_40_code (3 : Nat) (Option.none : Option Jvm.ClassFile.FieldType) ∈ gw_tbl := gw_at 1091 (by decide +kernel) (by decide +kernel)
theorem wt_1092 : Jvm.Cond.methodLink "TermLodgingsLaw" (96 : Nat) ({ cls := "TermLodgingsModel", name := "license", desc := "(I)I" } : Jvm.MethodName) ∈ gw_tbl := gw_at 1092 (by decide +kernel) (by decide +kernel)
theorem wt_1093 : Jvm.Cond.instanceMethod ({ cls := "TermLodgingsModel", name := "license", desc := "(I)I" } : Jvm.MethodName) ∈ gw_tbl := gw_at 1093 (by decide +kernel) (by decide +kernel)
theorem wt_1094 : Jvm.Cond.selects "TermLodgingsModel" ({ cls := "TermLodgingsModel", name := "license", desc := "(I)I" } : Jvm.MethodName) ({ cls := "TermLodgingsModel", name := "license", desc := "(I)I" } : Jvm.MethodName) ∈ gw_tbl := gw_at 1094 (by decide +kernel) (by decide +kernel)
theorem wt_1095 : Jvm.Cond.code ({ cls := "TermLodgingsModel", name := "license", desc := "(I)I" } : Jvm.MethodName) prog_13_method_41_code (2 : Nat) (Option.some Jvm.ClassFile.FieldType.int) ∈ gw_tbl := gw_at 1095 (by decide +kernel) (by decide +kernel)
theorem wt_1096 : Jvm.Cond.methodLink "TermLodgingsLaw" (101 : Nat) ({ cls := "TermLodgingsModel", name := "away", desc := "(IZ)I" } : Jvm.MethodName) ∈ gw_tbl := gw_at 1096 (by decide +kernel) (by decide +kernel)
theorem wt_1097 : Jvm.Cond.instanceMethod ({ cls := "TermLodgingsModel", name := "away", desc := "(IZ)I" } : Jvm.MethodName) ∈ gw_tbl := gw_at 1097 (by decide +kernel) (by decide +kernel)
theorem wt_1098 : Jvm.Cond.selects "TermLodgingsModel" ({ cls := "TermLodgingsModel", name := "away", desc := "(IZ)I" } : Jvm.MethodName) ({ cls := "TermLodgingsModel", name := "away", desc := "(IZ)I" } : Jvm.MethodName) ∈ gw_tbl := gw_at 1098 (by decide +kernel) (by decide +kernel)
theorem wt_1099 : Jvm.Cond.code ({ cls := "TermLodgingsModel", name := "away", desc := "(IZ)I" } : Jvm.MethodName) prog_13_method_42_code (3 : Nat) (Option.some Jvm.ClassFile.FieldType.int) ∈ gw_tbl := gw_at 1099 (by decide +kernel) (by decide +kernel)
theorem wt_1100 : Jvm.Cond.methodLink "TermLodgingsLaw" (105 : Nat) ({ cls := "TermLodgingsModel", name := "pass", desc := "(I)I" } : Jvm.MethodName) ∈ gw_tbl := gw_at 1100 (by decide +kernel) (by decide +kernel)
theorem wt_1101 : Jvm.Cond.instanceMethod ({ cls := "TermLodgingsModel", name := "pass", desc := "(I)I" } : Jvm.MethodName) ∈ gw_tbl := gw_at 1101 (by decide +kernel) (by decide +kernel)
theorem wt_1102 : Jvm.Cond.selects "TermLodgingsModel" ({ cls := "TermLodgingsModel", name := "pass", desc := "(I)I" } : Jvm.MethodName) ({ cls := "TermLodgingsModel", name := "pass", desc := "(I)I" } : Jvm.MethodName) ∈ gw_tbl := gw_at 1102 (by decide +kernel) (by decide +kernel)
theorem wt_1103 : Jvm.Cond.code ({ cls := "TermLodgingsModel", name := "pass", desc := "(I)I" } : Jvm.MethodName) prog_13_method_43_code (4 : Nat) (Option.some Jvm.ClassFile.FieldType.int) ∈ gw_tbl := gw_at 1103 (by decide +kernel) (by decide +kernel)
theorem wt_1104 : Jvm.Cond.constantLong "TermLodgingsModel" (194 : Nat) (60 : Int64) ∈ gw_tbl := gw_at 1104 (by decide +kernel) (by decide +kernel)
theorem wt_1105 : Jvm.Cond.methodLink "TermLodgingsLaw" (109 : Nat) ({ cls := "TermLodgingsModel", name := "price", desc := "(III)I" } : Jvm.MethodName) ∈ gw_tbl := gw_at 1105 (by decide +kernel) (by decide +kernel)
theorem wt_1106 : Jvm.Cond.instanceMethod ({ cls := "TermLodgingsModel", name := "price", desc := "(III)I" } : Jvm.MethodName) ∈ gw_tbl := gw_at 1106 (by decide +kernel) (by decide +kernel)
theorem wt_1107 : Jvm.Cond.selects "TermLodgingsModel" ({ cls := "TermLodgingsModel", name := "price", desc := "(III)I" } : Jvm.MethodName) ({ cls := "TermLodgingsModel", name := "price", desc := "(III)I" } : Jvm.MethodName) ∈ gw_tbl := gw_at 1107 (by decide +kernel) (by decide +kernel)
theorem wt_1108 : Jvm.Cond.code ({ cls := "TermLodgingsModel", name := "price", desc := "(III)I" } : Jvm.MethodName) prog_13_method_44_code (4 : Nat) (Option.some Jvm.ClassFile.FieldType.int) ∈ gw_tbl := gw_at 1108 (by decide +kernel) (by decide +kernel)
theorem wt_1109 : Jvm.Cond.constantLong "TermLodgingsModel" (199 : Nat) (59 : Int64) ∈ gw_tbl := gw_at 1109 (by decide +kernel) (by decide +kernel)
theorem wt_1110 : Jvm.Cond.constantLong "TermLodgingsModel" (201 : Nat) (999 : Int64) ∈ gw_tbl := gw_at 1110 (by decide +kernel) (by decide +kernel)
theorem wt_1111 : Jvm.Cond.methodLink "TermLodgingsLaw" (113 : Nat) ({ cls := "TermLodgingsModel", name := "priced", desc := "(II)I" } : Jvm.MethodName) ∈ gw_tbl := gw_at 1111 (by decide +kernel) (by decide +kernel)
theorem wt_1112 : Jvm.Cond.instanceMethod ({ cls := "TermLodgingsModel", name := "priced", desc := "(II)I" } : Jvm.MethodName) ∈ gw_tbl := gw_at 1112 (by decide +kernel) (by decide +kernel)
theorem wt_1113 : Jvm.Cond.selects "TermLodgingsModel" ({ cls := "TermLodgingsModel", name := "priced", desc := "(II)I" } : Jvm.MethodName) ({ cls := "TermLodgingsModel", name := "priced", desc := "(II)I" } : Jvm.MethodName) ∈ gw_tbl := gw_at 1113 (by decide +kernel) (by decide +kernel)
theorem wt_1114 : Jvm.Cond.code ({ cls := "TermLodgingsModel", name := "priced", desc := "(II)I" } : Jvm.MethodName) prog_13_method_46_code (3 : Nat) (Option.some Jvm.ClassFile.FieldType.int) ∈ gw_tbl := gw_at 1114 (by decide +kernel) (by decide +kernel)
theorem wt_1115 : Jvm.Cond.methodLink "TermLodgingsModel" (206 : Nat) ({ cls := "TermLodgingsModel", name := "priceOf", desc := "(III)I" } : Jvm.MethodName) ∈ gw_tbl := gw_at 1115 (by decide +kernel) (by decide +kernel)
theorem wt_1117 : Jvm.Cond.instanceMethod ({ cls := "TermLodgingsModel", name := "priceOf", desc := "(III)I" } : Jvm.MethodName) ∈ gw_tbl := gw_at 1117 (by decide +kernel) (by decide +kernel)
theorem wt_1118 : Jvm.Cond.code ({ cls := "TermLodgingsModel", name := "priceOf", desc := "(III)I" } : Jvm.MethodName) prog_13_method_45_code (6 : Nat) (Option.some Jvm.ClassFile.FieldType.int) ∈ gw_tbl := gw_at 1118 (by decide +kernel) (by decide +kernel)
theorem wt_1119 : Jvm.Cond.methodLink "TermLodgingsLaw" (117 : Nat) ({ cls := "TermLodgingsModel", name := "had", desc := "(II)I" } : Jvm.MethodName) ∈ gw_tbl := gw_at 1119 (by decide +kernel) (by decide +kernel)
theorem wt_1120 : Jvm.Cond.instanceMethod ({ cls := "TermLodgingsModel", name := "had", desc := "(II)I" } : Jvm.MethodName) ∈ gw_tbl := gw_at 1120 (by decide +kernel) (by decide +kernel)
theorem wt_1121 : Jvm.Cond.selects "TermLodgingsModel" ({ cls := "TermLodgingsModel", name := "had", desc := "(II)I" } : Jvm.MethodName) ({ cls := "TermLodgingsModel", name := "had", desc := "(II)I" } : Jvm.MethodName) ∈ gw_tbl := gw_at 1121 (by decide +kernel) (by decide +kernel)
theorem wt_1122 : Jvm.Cond.code ({ cls := "TermLodgingsModel", name := "had", desc := "(II)I" } : Jvm.MethodName) prog_13_method_47_code (3 : Nat) (Option.some Jvm.ClassFile.FieldType.int) ∈ gw_tbl := gw_at 1122 (by decide +kernel) (by decide +kernel)
theorem wt_1123 : Jvm.Cond.methodLink "TermLodgingsLaw" (121 : Nat) ({ cls := "TermLodgingsModel", name := "bill", desc := "(I)I" } : Jvm.MethodName) ∈ gw_tbl := gw_at 1123 (by decide +kernel) (by decide +kernel)
theorem wt_1124 : Jvm.Cond.instanceMethod ({ cls := "TermLodgingsModel", name := "bill", desc := "(I)I" } : Jvm.MethodName) ∈ gw_tbl := gw_at 1124 (by decide +kernel) (by decide +kernel)
theorem wt_1125 : Jvm.Cond.selects "TermLodgingsModel" ({ cls := "TermLodgingsModel", name := "bill", desc := "(I)I" } : Jvm.MethodName) ({ cls := "TermLodgingsModel", name := "bill", desc := "(I)I" } : Jvm.MethodName) ∈ gw_tbl := gw_at 1125 (by decide +kernel) (by decide +kernel)
theorem wt_1126 : Jvm.Cond.code ({ cls := "TermLodgingsModel", name := "bill", desc := "(I)I" } : Jvm.MethodName) prog_13_method_49_code (2 : Nat) (Option.some Jvm.ClassFile.FieldType.int) ∈ gw_tbl := gw_at 1126 (by decide +kernel) (by decide +kernel)
theorem wt_1127 : Jvm.Cond.methodLink "TermLodgingsModel" (210 : Nat) ({ cls := "TermLodgingsModel", name := "billOf", desc := "(II)I" } : Jvm.MethodName) ∈ gw_tbl := gw_at 1127 (by decide +kernel) (by decide +kernel)
theorem wt_1129 : Jvm.Cond.instanceMethod ({ cls := "TermLodgingsModel", name := "billOf", desc := "(II)I" } : Jvm.MethodName) ∈ gw_tbl := gw_at 1129 (by decide +kernel) (by decide +kernel)
theorem wt_1130 : Jvm.Cond.code ({ cls := "TermLodgingsModel", name := "billOf", desc := "(II)I" } : Jvm.MethodName) prog_13_method_48_code (6 : Nat) (Option.some Jvm.ClassFile.FieldType.int) ∈ gw_tbl := gw_at 1130 (by decide +kernel) (by decide +kernel)
theorem wt_1131 : Jvm.Cond.methodLink "TermLodgingsLaw" (125 : Nat) ({ cls := "TermLodgingsModel", name := "matter", desc := "()I" } : Jvm.MethodName) ∈ gw_tbl := gw_at 1131 (by decide +kernel) (by decide +kernel)
theorem wt_1132 : Jvm.Cond.instanceMethod ({ cls := "TermLodgingsModel", name := "matter", desc := "()I" } : Jvm.MethodName) ∈ gw_tbl := gw_at 1132 (by decide +kernel) (by decide +kernel)
theorem wt_1133 : Jvm.Cond.selects "TermLodgingsModel" ({ cls := "TermLodgingsModel", name := "matter", desc := "()I" } : Jvm.MethodName) ({ cls := "TermLodgingsModel", name := "matter", desc := "()I" } : Jvm.MethodName) ∈ gw_tbl := gw_at 1133 (by decide +kernel) (by decide +kernel)
theorem wt_1134 : Jvm.Cond.code ({ cls := "TermLodgingsModel", name := "matter", desc := "()I" } : Jvm.MethodName) prog_13_method_50_code (3 : Nat) (Option.some Jvm.ClassFile.FieldType.int) ∈ gw_tbl := gw_at 1134 (by decide +kernel) (by decide +kernel)
theorem wt_1135 : Jvm.Cond.constant "TermLodgingsModel" (213 : Nat) (-2147483648 : Int32) ∈ gw_tbl := gw_at 1135 (by decide +kernel) (by decide +kernel)
theorem wt_1136 : Jvm.Cond.methodLink "TermLodgingsLaw" (129 : Nat) ({ cls := "TermLodgingsModel", name := "count", desc := "(I)I" } : Jvm.MethodName) ∈ gw_tbl := gw_at 1136 (by decide +kernel) (by decide +kernel)
theorem wt_1137 : Jvm.Cond.instanceMethod ({ cls := "TermLodgingsModel", name := "count", desc := "(I)I" } : Jvm.MethodName) ∈ gw_tbl := gw_at 1137 (by decide +kernel) (by decide +kernel)
theorem wt_1138 : Jvm.Cond.selects "TermLodgingsModel" ({ cls := "TermLodgingsModel", name := "count", desc := "(I)I" } : Jvm.MethodName) ({ cls := "TermLodgingsModel", name := "count", desc := "(I)I" } : Jvm.MethodName) ∈ gw_tbl := gw_at 1138 (by decide +kernel) (by decide +kernel)
theorem wt_1139 : Jvm.Cond.code ({ cls := "TermLodgingsModel", name := "count", desc := "(I)I" } : Jvm.MethodName) prog_13_method_51_code (4 : Nat) (Option.some Jvm.ClassFile.FieldType.int) ∈ gw_tbl := gw_at 1139 (by decide +kernel) (by decide +kernel)
theorem wt_1140 : Jvm.Cond.methodLink "TermLodgingsLaw" (134 : Nat) ({ cls := "TermLodgingsModel", name := "digest", desc := "()J" } : Jvm.MethodName) ∈ gw_tbl := gw_at 1140 (by decide +kernel) (by decide +kernel)
theorem wt_1141 : Jvm.Cond.instanceMethod ({ cls := "TermLodgingsModel", name := "digest", desc := "()J" } : Jvm.MethodName) ∈ gw_tbl := gw_at 1141 (by decide +kernel) (by decide +kernel)
theorem wt_1142 : Jvm.Cond.selects "TermLodgingsModel" ({ cls := "TermLodgingsModel", name := "digest", desc := "()J" } : Jvm.MethodName) ({ cls := "TermLodgingsModel", name := "digest", desc := "()J" } : Jvm.MethodName) ∈ gw_tbl := gw_at 1142 (by decide +kernel) (by decide +kernel)
theorem wt_1143 : Jvm.Cond.code ({ cls := "TermLodgingsModel", name := "digest", desc := "()J" } : Jvm.MethodName) prog_13_method_52_code (5 : Nat) (Option.some Jvm.ClassFile.FieldType.long) ∈ gw_tbl := gw_at 1143 (by decide +kernel) (by decide +kernel)
theorem wt_1144 : Jvm.Cond.constantLong "TermLodgingsModel" (214 : Nat) (17 : Int64) ∈ gw_tbl := gw_at 1144 (by decide +kernel) (by decide +kernel)
theorem wt_1145 : Jvm.Cond.constantLong "TermLodgingsModel" (216 : Nat) (31 : Int64) ∈ gw_tbl := gw_at 1145 (by decide +kernel) (by decide +kernel)
theorem wt_1146 : Jvm.Cond.methodLink "TermLodgingsModel" (218 : Nat) ({ cls := "TermLodgingsModel", name := "count", desc := "(I)I" } : Jvm.MethodName) ∈ gw_tbl := gw_at 1146 (by decide +kernel) (by decide +kernel)
theorem wt_1147 : Jvm.Cond.methodLink "TermLodgingsModel" (221 : Nat) ({ cls := "TermLodgingsModel", name := "about", desc := "(II)I" } : Jvm.MethodName) ∈ gw_tbl := gw_at 1147 (by decide +kernel) (by decide +kernel)
theorem wt_1148 : Jvm.Cond.methodLink "TermLodgingsModel" (224 : Nat) ({ cls := "TermLodgingsModel", name := "bill", desc := "(I)I" } : Jvm.MethodName) ∈ gw_tbl := gw_at 1148 (by decide +kernel) (by decide +kernel)
theorem ws_0 : Cond.selects "TermLodgings" ⟨"TermLodgings", "wishTold", "(II)I"⟩ ⟨"TermLodgings", "wishTold", "(II)I"⟩ ∈ gw_tbl := gw_sel 0 (by decide +kernel) (by decide +kernel)
theorem ws_1 : Cond.selects "TermLodgings" ⟨"TermLodgings", "canBeGiven", "(II)Z"⟩ ⟨"TermLodgings", "canBeGiven", "(II)Z"⟩ ∈ gw_tbl := gw_sel 1 (by decide +kernel) (by decide +kernel)
theorem ws_2 : Cond.selects "TermLodgings$Statute" ⟨"TermLodgings$Statute", "goesOnWith", "(I)Z"⟩ ⟨"TermLodgings$Statute", "goesOnWith", "(I)Z"⟩ ∈ gw_tbl := gw_sel 2 (by decide +kernel) (by decide +kernel)
theorem ws_3 : Cond.selects "TermLodgings$Statute" ⟨"TermLodgings$Statute", "beginTest", "(I)Z"⟩ ⟨"TermLodgings$Statute", "beginTest", "(I)Z"⟩ ∈ gw_tbl := gw_sel 3 (by decide +kernel) (by decide +kernel)
theorem ws_4 : Cond.selects "TermLodgings$Statute" ⟨"TermLodgings$Statute", "takeSign", "(I)Z"⟩ ⟨"TermLodgings$Statute", "takeSign", "(I)Z"⟩ ∈ gw_tbl := gw_sel 4 (by decide +kernel) (by decide +kernel)
theorem ws_5 : Cond.selects "TermLodgings$Statute" ⟨"TermLodgings$Statute", "takeFigure", "(I)Z"⟩ ⟨"TermLodgings$Statute", "takeFigure", "(I)Z"⟩ ∈ gw_tbl := gw_sel 5 (by decide +kernel) (by decide +kernel)
theorem ws_6 : Cond.selects "TermLodgings$Statute" ⟨"TermLodgings$Statute", "endTest", "(I)Z"⟩ ⟨"TermLodgings$Statute", "endTest", "(I)Z"⟩ ∈ gw_tbl := gw_sel 6 (by decide +kernel) (by decide +kernel)
theorem ws_7 : Cond.selects "TermLodgings$Dealing" ⟨"TermLodgings$Dealing", "serve", "(II)V"⟩ ⟨"TermLodgings$Dealing", "serve", "(II)V"⟩ ∈ gw_tbl := gw_sel 7 (by decide +kernel) (by decide +kernel)
theorem ws_8 : Cond.selects "TermLodgings$Dealing" ⟨"TermLodgings$Dealing", "settleTogether", "(II)Z"⟩ ⟨"TermLodgings$Dealing", "settleTogether", "(II)Z"⟩ ∈ gw_tbl := gw_sel 8 (by decide +kernel) (by decide +kernel)
theorem ws_9 : Cond.selects "TermLodgings$Dealing" ⟨"TermLodgings$Dealing", "pickAmong", "(II)Z"⟩ ⟨"TermLodgings$Dealing", "pickAmong", "(II)Z"⟩ ∈ gw_tbl := gw_sel 9 (by decide +kernel) (by decide +kernel)
theorem ws_10 : Cond.selects "TermLodgings$Dealing" ⟨"TermLodgings$Dealing", "settlePicks", "(I)V"⟩ ⟨"TermLodgings$Dealing", "settlePicks", "(I)V"⟩ ∈ gw_tbl := gw_sel 10 (by decide +kernel) (by decide +kernel)
theorem ws_11 : Cond.selects "TermLodgings$Dealing" ⟨"TermLodgings$Dealing", "settleEach", "(I)V"⟩ ⟨"TermLodgings$Dealing", "settleEach", "(I)V"⟩ ∈ gw_tbl := gw_sel 11 (by decide +kernel) (by decide +kernel)
theorem ws_12 : Cond.selects "TermLodgings$Dealing" ⟨"TermLodgings$Dealing", "dearestOpenWish", "(I)I"⟩ ⟨"TermLodgings$Dealing", "dearestOpenWish", "(I)I"⟩ ∈ gw_tbl := gw_sel 12 (by decide +kernel) (by decide +kernel)
theorem ws_13 : Cond.selects "TermLodgings$Trading" ⟨"TermLodgings$Trading", "traders", "()I"⟩ ⟨"TermLodgings$Trading", "traders", "()I"⟩ ∈ gw_tbl := gw_sel 13 (by decide +kernel) (by decide +kernel)
theorem ws_14 : Cond.selects "TermLodgings$Trading" ⟨"TermLodgings$Trading", "pointAll", "()V"⟩ ⟨"TermLodgings$Trading", "pointAll", "()V"⟩ ∈ gw_tbl := gw_sel 14 (by decide +kernel) (by decide +kernel)
theorem ws_15 : Cond.selects "TermLodgings$Trading" ⟨"TermLodgings$Trading", "pointedAtBy", "(I)I"⟩ ⟨"TermLodgings$Trading", "pointedAtBy", "(I)I"⟩ ∈ gw_tbl := gw_sel 15 (by decide +kernel) (by decide +kernel)
theorem ws_16 : Cond.selects "TermLodgings$Trading" ⟨"TermLodgings$Trading", "closeAllRings", "()V"⟩ ⟨"TermLodgings$Trading", "closeAllRings", "()V"⟩ ∈ gw_tbl := gw_sel 16 (by decide +kernel) (by decide +kernel)
theorem ws_17 : Cond.selects "TermLodgings$Trading" ⟨"TermLodgings$Trading", "ringLength", "(I)I"⟩ ⟨"TermLodgings$Trading", "ringLength", "(I)I"⟩ ∈ gw_tbl := gw_sel 17 (by decide +kernel) (by decide +kernel)
theorem ws_18 : Cond.selects "TermLodgings$Trading" ⟨"TermLodgings$Trading", "targetOf", "(I)I"⟩ ⟨"TermLodgings$Trading", "targetOf", "(I)I"⟩ ∈ gw_tbl := gw_sel 18 (by decide +kernel) (by decide +kernel)
theorem ws_19 : Cond.selects "TermLodgings$Trading" ⟨"TermLodgings$Trading", "closeRing", "(II)I"⟩ ⟨"TermLodgings$Trading", "closeRing", "(II)I"⟩ ∈ gw_tbl := gw_sel 19 (by decide +kernel) (by decide +kernel)
theorem ws_20 : Cond.selects "TermLodgings$Trading" ⟨"TermLodgings$Trading", "moveAll", "(I)I"⟩ ⟨"TermLodgings$Trading", "moveAll", "(I)I"⟩ ∈ gw_tbl := gw_sel 20 (by decide +kernel) (by decide +kernel)
theorem ws_21 : Cond.selects "TermLodgings$Moving" ⟨"TermLodgings$Moving", "emptyHouse", "(I)V"⟩ ⟨"TermLodgings$Moving", "emptyHouse", "(I)V"⟩ ∈ gw_tbl := gw_sel 21 (by decide +kernel) (by decide +kernel)
theorem ws_22 : Cond.selects "TermLodgings$Moving" ⟨"TermLodgings$Moving", "mostFrom", "(II)I"⟩ ⟨"TermLodgings$Moving", "mostFrom", "(II)I"⟩ ∈ gw_tbl := gw_sel 22 (by decide +kernel) (by decide +kernel)
theorem ws_23 : Cond.selects "TermLodgings$Moving" ⟨"TermLodgings$Moving", "findRoom", "(II)I"⟩ ⟨"TermLodgings$Moving", "findRoom", "(II)I"⟩ ∈ gw_tbl := gw_sel 23 (by decide +kernel) (by decide +kernel)
theorem ws_24 : Cond.selects "TermLodgings$Moving" ⟨"TermLodgings$Moving", "choiceOf", "(I)I"⟩ ⟨"TermLodgings$Moving", "choiceOf", "(I)I"⟩ ∈ gw_tbl := gw_sel 24 (by decide +kernel) (by decide +kernel)
theorem ws_25 : Cond.selects "TermLodgings$Moving" ⟨"TermLodgings$Moving", "changeAlong", "(I)V"⟩ ⟨"TermLodgings$Moving", "changeAlong", "(I)V"⟩ ∈ gw_tbl := gw_sel 25 (by decide +kernel) (by decide +kernel)
theorem ws_26 : Cond.selects "TermLodgings$Moving" ⟨"TermLodgings$Moving", "settleMovers", "(I)V"⟩ ⟨"TermLodgings$Moving", "settleMovers", "(I)V"⟩ ∈ gw_tbl := gw_sel 26 (by decide +kernel) (by decide +kernel)
theorem ws_27 : Cond.selects "TermLodgings$Moving" ⟨"TermLodgings$Moving", "leastRoom", "(III)I"⟩ ⟨"TermLodgings$Moving", "leastRoom", "(III)I"⟩ ∈ gw_tbl := gw_sel 27 (by decide +kernel) (by decide +kernel)
theorem ws_28 : Cond.selects "TermLodgings$Prices" ⟨"TermLodgings$Prices", "sinceOf", "(I)I"⟩ ⟨"TermLodgings$Prices", "sinceOf", "(I)I"⟩ ∈ gw_tbl := gw_sel 28 (by decide +kernel) (by decide +kernel)
theorem ws_29 : Cond.selects "TermLodgings$Prices" ⟨"TermLodgings$Prices", "valueOf", "(I)I"⟩ ⟨"TermLodgings$Prices", "valueOf", "(I)I"⟩ ∈ gw_tbl := gw_sel 29 (by decide +kernel) (by decide +kernel)
theorem ws_30 : Cond.selects "TermLodgings" ⟨"TermLodgings", "lodgersAt", "(II)I"⟩ ⟨"TermLodgings", "lodgersAt", "(II)I"⟩ ∈ gw_tbl := gw_sel 30 (by decide +kernel) (by decide +kernel)
theorem ws_31 : Cond.selects "TermLodgingsModel" ⟨"TermLodgingsModel", "isOne", "(I)Z"⟩ ⟨"TermLodgingsModel", "isOne", "(I)Z"⟩ ∈ gw_tbl := gw_sel 31 (by decide +kernel) (by decide +kernel)
theorem ws_32 : Cond.selects "TermLodgingsModel" ⟨"TermLodgingsModel", "isRoom", "(I)Z"⟩ ⟨"TermLodgingsModel", "isRoom", "(I)Z"⟩ ∈ gw_tbl := gw_sel 32 (by decide +kernel) (by decide +kernel)
theorem ws_33 : Cond.selects "TermLodgingsModel" ⟨"TermLodgingsModel", "rankOf", "(II)I"⟩ ⟨"TermLodgingsModel", "rankOf", "(II)I"⟩ ∈ gw_tbl := gw_sel 33 (by decide +kernel) (by decide +kernel)
theorem ws_34 : Cond.selects "TermLodgingsModel" ⟨"TermLodgingsModel", "whoHas", "(I)I"⟩ ⟨"TermLodgingsModel", "whoHas", "(I)I"⟩ ∈ gw_tbl := gw_sel 34 (by decide +kernel) (by decide +kernel)
theorem ws_35 : Cond.selects "TermLodgingsModel" ⟨"TermLodgingsModel", "mayLive", "(II)Z"⟩ ⟨"TermLodgingsModel", "mayLive", "(II)Z"⟩ ∈ gw_tbl := gw_sel 35 (by decide +kernel) (by decide +kernel)
theorem ws_36 : Cond.selects "TermLodgingsModel" ⟨"TermLodgingsModel", "holds", "(IIII)Z"⟩ ⟨"TermLodgingsModel", "holds", "(IIII)Z"⟩ ∈ gw_tbl := gw_sel 36 (by decide +kernel) (by decide +kernel)
theorem ws_37 : Cond.selects "TermLodgingsModel" ⟨"TermLodgingsModel", "sizeOf", "(I)I"⟩ ⟨"TermLodgingsModel", "sizeOf", "(I)I"⟩ ∈ gw_tbl := gw_sel 37 (by decide +kernel) (by decide +kernel)
theorem ws_38 : Cond.selects "TermLodgingsModel" ⟨"TermLodgingsModel", "dearest", "(I)V"⟩ ⟨"TermLodgingsModel", "dearest", "(I)V"⟩ ∈ gw_tbl := gw_sel 38 (by decide +kernel) (by decide +kernel)
theorem ws_39 : Cond.selects "TermLodgingsModel" ⟨"TermLodgingsModel", "moveInto", "(II)Z"⟩ ⟨"TermLodgingsModel", "moveInto", "(II)Z"⟩ ∈ gw_tbl := gw_sel 39 (by decide +kernel) (by decide +kernel)
theorem ws_40 : Cond.selects "TermLodgingsModel" ⟨"TermLodgingsModel", "housed", "()I"⟩ ⟨"TermLodgingsModel", "housed", "()I"⟩ ∈ gw_tbl := gw_sel 40 (by decide +kernel) (by decide +kernel)
theorem ws_41 : Cond.selects "TermLodgingsModel" ⟨"TermLodgingsModel", "pointOf", "(II)I"⟩ ⟨"TermLodgingsModel", "pointOf", "(II)I"⟩ ∈ gw_tbl := gw_sel 41 (by decide +kernel) (by decide +kernel)
theorem ws_42 : Cond.selects "TermLodgingsModel" ⟨"TermLodgingsModel", "most", "(I)I"⟩ ⟨"TermLodgingsModel", "most", "(I)I"⟩ ∈ gw_tbl := gw_sel 42 (by decide +kernel) (by decide +kernel)
theorem ws_43 : Cond.selects "TermLodgingsModel" ⟨"TermLodgingsModel", "lays", "(I)Z"⟩ ⟨"TermLodgingsModel", "lays", "(I)Z"⟩ ∈ gw_tbl := gw_sel 43 (by decide +kernel) (by decide +kernel)
theorem ws_44 : Cond.selects "TermLodgingsModel" ⟨"TermLodgingsModel", "take", "(II)V"⟩ ⟨"TermLodgingsModel", "take", "(II)V"⟩ ∈ gw_tbl := gw_sel 44 (by decide +kernel) (by decide +kernel)
theorem ws_45 : Cond.selects "TermLodgingsModel" ⟨"TermLodgingsModel", "untake", "(I)V"⟩ ⟨"TermLodgingsModel", "untake", "(I)V"⟩ ∈ gw_tbl := gw_sel 45 (by decide +kernel) (by decide +kernel)
theorem ws_46 : Cond.selects "TermLodgingsModel" ⟨"TermLodgingsModel", "priceOf", "(III)I"⟩ ⟨"TermLodgingsModel", "priceOf", "(III)I"⟩ ∈ gw_tbl := gw_sel 46 (by decide +kernel) (by decide +kernel)
theorem ws_47 : Cond.selects "TermLodgingsModel" ⟨"TermLodgingsModel", "billOf", "(II)I"⟩ ⟨"TermLodgingsModel", "billOf", "(II)I"⟩ ∈ gw_tbl := gw_sel 47 (by decide +kernel) (by decide +kernel)
theorem inX0 : ∀ w ∈ u_ws RX0 TX0 4, w ∈ gw_tbl := by
  intro w hw
  obtain ⟨k, hk, rfl⟩ := List.mem_map.mp hw
  have hk := List.mem_range.mp hk
  match k, hk with
  | 0, _ => exact wt_202
  | 1, _ => exact wt_204
  | 2, _ => exact wt_206
  | 3, _ => exact wt_208
  | k + 4, h => exact absurd h (by omega)
theorem inX1 : ∀ w ∈ u_ws RX1 TX1 10, w ∈ gw_tbl := by
  intro w hw
  obtain ⟨k, hk, rfl⟩ := List.mem_map.mp hw
  have hk := List.mem_range.mp hk
  match k, hk with
  | 0, _ => exact wt_261
  | 1, _ => exact wt_263
  | 2, _ => exact wt_265
  | 3, _ => exact wt_267
  | 4, _ => exact wt_269
  | 5, _ => exact wt_271
  | 6, _ => exact wt_273
  | 7, _ => exact wt_275
  | 8, _ => exact wt_277
  | 9, _ => exact wt_279
  | k + 10, h => exact absurd h (by omega)
theorem inX2 : ∀ w ∈ u_ws RX2 TX2 2, w ∈ gw_tbl := by
  intro w hw
  obtain ⟨k, hk, rfl⟩ := List.mem_map.mp hw
  have hk := List.mem_range.mp hk
  match k, hk with
  | 0, _ => exact wt_294
  | 1, _ => exact wt_296
  | k + 2, h => exact absurd h (by omega)
theorem inX3 : ∀ w ∈ u_ws RX3 TX3 8, w ∈ gw_tbl := by
  intro w hw
  obtain ⟨k, hk, rfl⟩ := List.mem_map.mp hw
  have hk := List.mem_range.mp hk
  match k, hk with
  | 0, _ => exact wt_102
  | 1, _ => exact wt_104
  | 2, _ => exact wt_106
  | 3, _ => exact wt_108
  | 4, _ => exact wt_110
  | 5, _ => exact wt_112
  | 6, _ => exact wt_114
  | 7, _ => exact wt_116
  | k + 8, h => exact absurd h (by omega)
theorem inX4 : ∀ w ∈ u_ws RX4 TX4 6, w ∈ gw_tbl := by
  intro w hw
  obtain ⟨k, hk, rfl⟩ := List.mem_map.mp hw
  have hk := List.mem_range.mp hk
  match k, hk with
  | 0, _ => exact wt_314
  | 1, _ => exact wt_316
  | 2, _ => exact wt_318
  | 3, _ => exact wt_320
  | 4, _ => exact wt_322
  | 5, _ => exact wt_324
  | k + 6, h => exact absurd h (by omega)
theorem inX5 : ∀ w ∈ u_ws RX5 TX5 7, w ∈ gw_tbl := by
  intro w hw
  obtain ⟨k, hk, rfl⟩ := List.mem_map.mp hw
  have hk := List.mem_range.mp hk
  match k, hk with
  | 0, _ => exact wt_56
  | 1, _ => exact wt_58
  | 2, _ => exact wt_60
  | 3, _ => exact wt_62
  | 4, _ => exact wt_64
  | 5, _ => exact wt_66
  | 6, _ => exact wt_68
  | k + 7, h => exact absurd h (by omega)
theorem inX6 : ∀ w ∈ u_ws RX6 TX6 9, w ∈ gw_tbl := by
  intro w hw
  obtain ⟨k, hk, rfl⟩ := List.mem_map.mp hw
  have hk := List.mem_range.mp hk
  match k, hk with
  | 0, _ => exact wt_136
  | 1, _ => exact wt_138
  | 2, _ => exact wt_140
  | 3, _ => exact wt_142
  | 4, _ => exact wt_144
  | 5, _ => exact wt_146
  | 6, _ => exact wt_148
  | 7, _ => exact wt_150
  | 8, _ => exact wt_152
  | k + 9, h => exact absurd h (by omega)
theorem inX7 : ∀ w ∈ u_ws RX7 TX7 4, w ∈ gw_tbl := by
  intro w hw
  obtain ⟨k, hk, rfl⟩ := List.mem_map.mp hw
  have hk := List.mem_range.mp hk
  match k, hk with
  | 0, _ => exact wt_168
  | 1, _ => exact wt_170
  | 2, _ => exact wt_172
  | 3, _ => exact wt_174
  | k + 4, h => exact absurd h (by omega)
theorem inX8 : ∀ w ∈ u_ws RX8 TX8 8, w ∈ gw_tbl := by
  intro w hw
  obtain ⟨k, hk, rfl⟩ := List.mem_map.mp hw
  have hk := List.mem_range.mp hk
  match k, hk with
  | 0, _ => exact wt_228
  | 1, _ => exact wt_230
  | 2, _ => exact wt_232
  | 3, _ => exact wt_234
  | 4, _ => exact wt_236
  | 5, _ => exact wt_238
  | 6, _ => exact wt_240
  | 7, _ => exact wt_242
  | k + 8, h => exact absurd h (by omega)
theorem inX9 : ∀ w ∈ u_ws RX9 TX9 2, w ∈ gw_tbl := by
  intro w hw
  obtain ⟨k, hk, rfl⟩ := List.mem_map.mp hw
  have hk := List.mem_range.mp hk
  match k, hk with
  | 0, _ => exact wt_187
  | 1, _ => exact wt_189
  | k + 2, h => exact absurd h (by omega)
theorem inX10 : ∀ w ∈ u_ws RX10 TX10 10, w ∈ gw_tbl := by
  intro w hw
  obtain ⟨k, hk, rfl⟩ := List.mem_map.mp hw
  have hk := List.mem_range.mp hk
  match k, hk with
  | 0, _ => exact wt_337
  | 1, _ => exact wt_339
  | 2, _ => exact wt_341
  | 3, _ => exact wt_343
  | 4, _ => exact wt_345
  | 5, _ => exact wt_347
  | 6, _ => exact wt_349
  | 7, _ => exact wt_351
  | 8, _ => exact wt_353
  | 9, _ => exact wt_355
  | k + 10, h => exact absurd h (by omega)
theorem inX11 : ∀ w ∈ u_ws RX11 TX11 32, w ∈ gw_tbl := by
  intro w hw
  obtain ⟨k, hk, rfl⟩ := List.mem_map.mp hw
  have hk := List.mem_range.mp hk
  match k, hk with
  | 0, _ => exact wt_866
  | 1, _ => exact wt_868
  | 2, _ => exact wt_870
  | 3, _ => exact wt_872
  | 4, _ => exact wt_874
  | 5, _ => exact wt_876
  | 6, _ => exact wt_878
  | 7, _ => exact wt_880
  | 8, _ => exact wt_882
  | 9, _ => exact wt_884
  | 10, _ => exact wt_886
  | 11, _ => exact wt_888
  | 12, _ => exact wt_890
  | 13, _ => exact wt_892
  | 14, _ => exact wt_894
  | 15, _ => exact wt_896
  | 16, _ => exact wt_898
  | 17, _ => exact wt_900
  | 18, _ => exact wt_902
  | 19, _ => exact wt_904
  | 20, _ => exact wt_906
  | 21, _ => exact wt_908
  | 22, _ => exact wt_910
  | 23, _ => exact wt_912
  | 24, _ => exact wt_914
  | 25, _ => exact wt_916
  | 26, _ => exact wt_918
  | 27, _ => exact wt_920
  | 28, _ => exact wt_922
  | 29, _ => exact wt_924
  | 30, _ => exact wt_926
  | 31, _ => exact wt_928
  | k + 32, h => exact absurd h (by omega)
def MF (y : MethodName) (b : ByteArray) (mL : Nat) (rt : Option FieldType) (n : Nat) : Prop := Cond.code y b mL rt ∈ gw_tbl ∧ Cond.initialized y.cls ∈ gw_tbl ∧ y.cls ≠ "java/lang/invoke/MethodHandle" ∧ y.cls ≠ "java/lang/invoke/VarHandle" ∧ (parseMethodDescriptor y.desc).map (fun d => d.parameters.length) = some n ∧ plainName y.cls = true
theorem mf_X0_init : MF yX0_init cX0_init 2 none 1 := ⟨wt_196, wt_7, by decide +kernel, by decide +kernel, by decide +kernel, by decide +kernel⟩
theorem mf_X0_run : MF yX0_run cX0_run 6 none 1 := ⟨wt_569, wt_7, by decide +kernel, by decide +kernel, by decide +kernel, by decide +kernel⟩
theorem mf_X0_serve : MF yX0_serve cX0_serve 4 none 2 := ⟨wt_585, wt_7, by decide +kernel, by decide +kernel, by decide +kernel, by decide +kernel⟩
theorem mf_X0_settleTogether : MF yX0_settleTogether cX0_settleTogether 5 (some .boolean) 2 := ⟨wt_595, wt_7, by decide +kernel, by decide +kernel, by decide +kernel, by decide +kernel⟩
theorem mf_X0_pickAmong : MF yX0_pickAmong cX0_pickAmong 6 (some .boolean) 2 := ⟨wt_609, wt_7, by decide +kernel, by decide +kernel, by decide +kernel, by decide +kernel⟩
theorem mf_X0_settlePicks : MF yX0_settlePicks cX0_settlePicks 3 none 1 := ⟨wt_621, wt_7, by decide +kernel, by decide +kernel, by decide +kernel, by decide +kernel⟩
theorem mf_X0_settleEach : MF yX0_settleEach cX0_settleEach 3 none 1 := ⟨wt_626, wt_7, by decide +kernel, by decide +kernel, by decide +kernel, by decide +kernel⟩
theorem mf_X0_dearestOpenWish : MF yX0_dearestOpenWish cX0_dearestOpenWish 5 (some .int) 1 := ⟨wt_630, wt_7, by decide +kernel, by decide +kernel, by decide +kernel, by decide +kernel⟩
theorem mf_X1_init : MF yX1_init cX1_init 2 none 1 := ⟨wt_249, wt_9, by decide +kernel, by decide +kernel, by decide +kernel, by decide +kernel⟩
theorem mf_X1_run : MF yX1_run cX1_run 3 (some .int) 1 := ⟨wt_702, wt_9, by decide +kernel, by decide +kernel, by decide +kernel, by decide +kernel⟩
theorem mf_X1_emptyHouse : MF yX1_emptyHouse cX1_emptyHouse 3 none 1 := ⟨wt_706, wt_9, by decide +kernel, by decide +kernel, by decide +kernel, by decide +kernel⟩
theorem mf_X1_settleMovers : MF yX1_settleMovers cX1_settleMovers 6 none 1 := ⟨wt_734, wt_9, by decide +kernel, by decide +kernel, by decide +kernel, by decide +kernel⟩
theorem mf_X1_leastRoom : MF yX1_leastRoom cX1_leastRoom 6 (some .int) 3 := ⟨wt_738, wt_9, by decide +kernel, by decide +kernel, by decide +kernel, by decide +kernel⟩
theorem mf_X1_mostFrom : MF yX1_mostFrom cX1_mostFrom 6 (some .int) 2 := ⟨wt_715, wt_9, by decide +kernel, by decide +kernel, by decide +kernel, by decide +kernel⟩
theorem mf_X1_findRoom : MF yX1_findRoom cX1_findRoom 8 (some .int) 2 := ⟨wt_720, wt_9, by decide +kernel, by decide +kernel, by decide +kernel, by decide +kernel⟩
theorem mf_X1_choiceOf : MF yX1_choiceOf cX1_choiceOf 2 (some .int) 1 := ⟨wt_724, wt_9, by decide +kernel, by decide +kernel, by decide +kernel, by decide +kernel⟩
theorem mf_X1_changeAlong : MF yX1_changeAlong cX1_changeAlong 6 none 1 := ⟨wt_729, wt_9, by decide +kernel, by decide +kernel, by decide +kernel, by decide +kernel⟩
theorem mf_X2_init : MF yX2_init cX2_init 1 none 0 := ⟨wt_286, wt_10, by decide +kernel, by decide +kernel, by decide +kernel, by decide +kernel⟩
theorem mf_X2_keepOne : MF yX2_keepOne cX2_keepOne 4 none 1 := ⟨wt_755, wt_10, by decide +kernel, by decide +kernel, by decide +kernel, by decide +kernel⟩
theorem mf_X2_lodgingIn : MF yX2_lodgingIn cX2_lodgingIn 4 (some .int) 2 := ⟨wt_792, wt_10, by decide +kernel, by decide +kernel, by decide +kernel, by decide +kernel⟩
theorem mf_X3_init : MF yX3_init cX3_init 1 none 0 := ⟨wt_76, wt_4, by decide +kernel, by decide +kernel, by decide +kernel, by decide +kernel⟩
theorem mf_X3_has : MF yX3_has cX3_has 2 (some .boolean) 1 := ⟨wt_388, wt_4, by decide +kernel, by decide +kernel, by decide +kernel, by decide +kernel⟩
theorem mf_X3_add : MF yX3_add cX3_add 3 (some .int) 2 := ⟨wt_376, wt_4, by decide +kernel, by decide +kernel, by decide +kernel, by decide +kernel⟩
theorem mf_X3_lodgingOf : MF yX3_lodgingOf cX3_lodgingOf 2 (some .int) 1 := ⟨wt_474, wt_4, by decide +kernel, by decide +kernel, by decide +kernel, by decide +kernel⟩
theorem mf_X3_wishesOf : MF yX3_wishesOf cX3_wishesOf 2 (some .int) 1 := ⟨wt_400, wt_4, by decide +kernel, by decide +kernel, by decide +kernel, by decide +kernel⟩
theorem mf_X3_wishAt : MF yX3_wishAt cX3_wishAt 4 (some .int) 2 := ⟨wt_405, wt_4, by decide +kernel, by decide +kernel, by decide +kernel, by decide +kernel⟩
theorem mf_X3_wishesFor : MF yX3_wishesFor cX3_wishesFor 4 (some .boolean) 2 := ⟨wt_396, wt_4, by decide +kernel, by decide +kernel, by decide +kernel, by decide +kernel⟩
theorem mf_X3_addWish : MF yX3_addWish cX3_addWish 4 (some .int) 2 := ⟨wt_409, wt_4, by decide +kernel, by decide +kernel, by decide +kernel, by decide +kernel⟩
theorem mf_X3_friendsOf : MF yX3_friendsOf cX3_friendsOf 4 (some .int) 1 := ⟨wt_581, wt_4, by decide +kernel, by decide +kernel, by decide +kernel, by decide +kernel⟩
theorem mf_X3_housed : MF yX3_housed cX3_housed 3 (some .int) 0 := ⟨wt_634, wt_4, by decide +kernel, by decide +kernel, by decide +kernel, by decide +kernel⟩
theorem mf_X4_init : MF yX4_init cX4_init 1 none 0 := ⟨wt_303, wt_12, by decide +kernel, by decide +kernel, by decide +kernel, by decide +kernel⟩
theorem mf_X4_tell : MF yX4_tell cX4_tell 6 (some .int) 3 := ⟨wt_764, wt_12, by decide +kernel, by decide +kernel, by decide +kernel, by decide +kernel⟩
theorem mf_X4_at : MF yX4_at cX4_at 3 (some .int) 2 := ⟨wt_780, wt_12, by decide +kernel, by decide +kernel, by decide +kernel, by decide +kernel⟩
theorem mf_X4_dropWithoutLatest : MF yX4_dropWithoutLatest cX4_dropWithoutLatest 3 (some .int) 1 := ⟨wt_811, wt_12, by decide +kernel, by decide +kernel, by decide +kernel, by decide +kernel⟩
theorem mf_X4_sinceOf : MF yX4_sinceOf cX4_sinceOf 2 (some .int) 1 := ⟨wt_772, wt_12, by decide +kernel, by decide +kernel, by decide +kernel, by decide +kernel⟩
theorem mf_X4_valueOf : MF yX4_valueOf cX4_valueOf 2 (some .int) 1 := ⟨wt_784, wt_12, by decide +kernel, by decide +kernel, by decide +kernel, by decide +kernel⟩
theorem mf_X4_isListed : MF yX4_isListed cX4_isListed 2 (some .boolean) 2 := ⟨wt_767, wt_12, by decide +kernel, by decide +kernel, by decide +kernel, by decide +kernel⟩
theorem mf_X5_init : MF yX5_init cX5_init 1 none 0 := ⟨wt_34, wt_3, by decide +kernel, by decide +kernel, by decide +kernel, by decide +kernel⟩
theorem mf_X5_has : MF yX5_has cX5_has 2 (some .boolean) 1 := ⟨wt_392, wt_3, by decide +kernel, by decide +kernel, by decide +kernel, by decide +kernel⟩
theorem mf_X5_add : MF yX5_add cX5_add 4 (some .int) 3 := ⟨wt_368, wt_3, by decide +kernel, by decide +kernel, by decide +kernel, by decide +kernel⟩
theorem mf_X5_houseOf : MF yX5_houseOf cX5_houseOf 2 (some .int) 1 := ⟨wt_601, wt_3, by decide +kernel, by decide +kernel, by decide +kernel, by decide +kernel⟩
theorem mf_X5_holderOf : MF yX5_holderOf cX5_holderOf 2 (some .int) 1 := ⟨wt_438, wt_3, by decide +kernel, by decide +kernel, by decide +kernel, by decide +kernel⟩
theorem mf_X5_under : MF yX5_under cX5_under 4 (some .int) 1 := ⟨wt_605, wt_3, by decide +kernel, by decide +kernel, by decide +kernel, by decide +kernel⟩
theorem mf_X5_isStruck : MF yX5_isStruck cX5_isStruck 2 (some .boolean) 1 := ⟨wt_449, wt_3, by decide +kernel, by decide +kernel, by decide +kernel, by decide +kernel⟩
theorem mf_X6_init : MF yX6_init cX6_init 1 none 0 := ⟨wt_124, wt_5, by decide +kernel, by decide +kernel, by decide +kernel, by decide +kernel⟩
theorem mf_X6_clear : MF yX6_clear cX6_clear 1 none 0 := ⟨wt_515, wt_5, by decide +kernel, by decide +kernel, by decide +kernel, by decide +kernel⟩
theorem mf_X6_add : MF yX6_add cX6_add 2 (some .int) 1 := ⟨wt_486, wt_5, by decide +kernel, by decide +kernel, by decide +kernel, by decide +kernel⟩
theorem mf_X6_faultPlace : MF yX6_faultPlace cX6_faultPlace 1 (some .int) 0 := ⟨wt_460, wt_5, by decide +kernel, by decide +kernel, by decide +kernel, by decide +kernel⟩
theorem mf_X6_goesOnWith : MF yX6_goesOnWith cX6_goesOnWith 2 (some .boolean) 1 := ⟨wt_490, wt_5, by decide +kernel, by decide +kernel, by decide +kernel, by decide +kernel⟩
theorem mf_X6_beginTest : MF yX6_beginTest cX6_beginTest 3 (some .boolean) 1 := ⟨wt_494, wt_5, by decide +kernel, by decide +kernel, by decide +kernel, by decide +kernel⟩
theorem mf_X6_takeSign : MF yX6_takeSign cX6_takeSign 2 (some .boolean) 1 := ⟨wt_499, wt_5, by decide +kernel, by decide +kernel, by decide +kernel, by decide +kernel⟩
theorem mf_X6_takeFigure : MF yX6_takeFigure cX6_takeFigure 2 (some .boolean) 1 := ⟨wt_503, wt_5, by decide +kernel, by decide +kernel, by decide +kernel, by decide +kernel⟩
theorem mf_X6_endTest : MF yX6_endTest cX6_endTest 2 (some .boolean) 1 := ⟨wt_507, wt_5, by decide +kernel, by decide +kernel, by decide +kernel, by decide +kernel⟩
theorem mf_X6_allows : MF yX6_allows cX6_allows 7 (some .boolean) 4 := ⟨wt_456, wt_5, by decide +kernel, by decide +kernel, by decide +kernel, by decide +kernel⟩
theorem mf_X6_asked : MF yX6_asked cX6_asked 5 (some .int) 5 := ⟨wt_463, wt_5, by decide +kernel, by decide +kernel, by decide +kernel, by decide +kernel⟩
theorem mf_X6_compares : MF yX6_compares cX6_compares 3 (some .boolean) 3 := ⟨wt_466, wt_5, by decide +kernel, by decide +kernel, by decide +kernel, by decide +kernel⟩
theorem mf_X7_init : MF yX7_init cX7_init 1 none 0 := ⟨wt_28, wt_2, by decide +kernel, by decide +kernel, by decide +kernel, by decide +kernel⟩
theorem mf_X7_suits : MF yX7_suits cX7_suits 3 (some .boolean) 2 := ⟨wt_443, wt_2, by decide +kernel, by decide +kernel, by decide +kernel, by decide +kernel⟩
theorem mf_X7_weighAll : MF yX7_weighAll cX7_weighAll 3 none 0 := ⟨wt_573, wt_2, by decide +kernel, by decide +kernel, by decide +kernel, by decide +kernel⟩
theorem mf_X7_choiceOf : MF yX7_choiceOf cX7_choiceOf 2 (some .int) 1 := ⟨wt_651, wt_2, by decide +kernel, by decide +kernel, by decide +kernel, by decide +kernel⟩
theorem mf_X7_openTo : MF yX7_openTo cX7_openTo 2 (some .int) 1 := ⟨wt_613, wt_2, by decide +kernel, by decide +kernel, by decide +kernel, by decide +kernel⟩
theorem mf_X7_settle : MF yX7_settle cX7_settle 3 none 2 := ⟨wt_478, wt_2, by decide +kernel, by decide +kernel, by decide +kernel, by decide +kernel⟩
theorem mf_X7_leave : MF yX7_leave cX7_leave 3 none 1 := ⟨wt_470, wt_2, by decide +kernel, by decide +kernel, by decide +kernel, by decide +kernel⟩
theorem mf_X8_init : MF yX8_init cX8_init 2 none 1 := ⟨wt_215, wt_8, by decide +kernel, by decide +kernel, by decide +kernel, by decide +kernel⟩
theorem mf_X8_run : MF yX8_run cX8_run 2 (some .int) 0 := ⟨wt_642, wt_8, by decide +kernel, by decide +kernel, by decide +kernel, by decide +kernel⟩
theorem mf_X8_traders : MF yX8_traders cX8_traders 3 (some .int) 0 := ⟨wt_647, wt_8, by decide +kernel, by decide +kernel, by decide +kernel, by decide +kernel⟩
theorem mf_X8_pointAll : MF yX8_pointAll cX8_pointAll 2 none 0 := ⟨wt_657, wt_8, by decide +kernel, by decide +kernel, by decide +kernel, by decide +kernel⟩
theorem mf_X8_pointedAtBy : MF yX8_pointedAtBy cX8_pointedAtBy 7 (some .int) 1 := ⟨wt_661, wt_8, by decide +kernel, by decide +kernel, by decide +kernel, by decide +kernel⟩
theorem mf_X8_closeAllRings : MF yX8_closeAllRings cX8_closeAllRings 3 none 0 := ⟨wt_668, wt_8, by decide +kernel, by decide +kernel, by decide +kernel, by decide +kernel⟩
theorem mf_X8_ringLength : MF yX8_ringLength cX8_ringLength 4 (some .int) 1 := ⟨wt_672, wt_8, by decide +kernel, by decide +kernel, by decide +kernel, by decide +kernel⟩
theorem mf_X8_targetOf : MF yX8_targetOf cX8_targetOf 2 (some .int) 1 := ⟨wt_676, wt_8, by decide +kernel, by decide +kernel, by decide +kernel, by decide +kernel⟩
theorem mf_X8_closeRing : MF yX8_closeRing cX8_closeRing 6 (some .int) 2 := ⟨wt_681, wt_8, by decide +kernel, by decide +kernel, by decide +kernel, by decide +kernel⟩
theorem mf_X8_moveAll : MF yX8_moveAll cX8_moveAll 4 (some .int) 1 := ⟨wt_688, wt_8, by decide +kernel, by decide +kernel, by decide +kernel, by decide +kernel⟩
theorem mf_X9_init : MF yX9_init cX9_init 1 none 0 := ⟨wt_181, wt_6, by decide +kernel, by decide +kernel, by decide +kernel, by decide +kernel⟩
theorem mf_X9_has : MF yX9_has cX9_has 2 (some .boolean) 1 := ⟨wt_546, wt_6, by decide +kernel, by decide +kernel, by decide +kernel, by decide +kernel⟩
theorem mf_X9_at : MF yX9_at cX9_at 2 (some .int) 1 := ⟨wt_551, wt_6, by decide +kernel, by decide +kernel, by decide +kernel, by decide +kernel⟩
theorem mf_X9_addLast : MF yX9_addLast cX9_addLast 2 none 1 := ⟨wt_380, wt_6, by decide +kernel, by decide +kernel, by decide +kernel, by decide +kernel⟩
theorem mf_X9_swap : MF yX9_swap cX9_swap 4 none 2 := ⟨wt_542, wt_6, by decide +kernel, by decide +kernel, by decide +kernel, by decide +kernel⟩
theorem mf_X9_shuffle : MF yX9_shuffle cX9_shuffle 4 none 1 := ⟨wt_537, wt_6, by decide +kernel, by decide +kernel, by decide +kernel, by decide +kernel⟩
theorem mf_X10_init : MF yX10_init cX10_init 2 none 0 := ⟨wt_20, wt_1, by decide +kernel, by decide +kernel, by decide +kernel, by decide +kernel⟩
theorem mf_X10_room : MF yX10_room cX10_room 4 (some .int) 3 := ⟨wt_361, wt_1, by decide +kernel, by decide +kernel, by decide +kernel, by decide +kernel⟩
theorem mf_X10_person : MF yX10_person cX10_person 4 (some .int) 2 := ⟨wt_372, wt_1, by decide +kernel, by decide +kernel, by decide +kernel, by decide +kernel⟩
theorem mf_X10_wish : MF yX10_wish cX10_wish 3 (some .int) 2 := ⟨wt_384, wt_1, by decide +kernel, by decide +kernel, by decide +kernel, by decide +kernel⟩
theorem mf_X10_content : MF yX10_content cX10_content 3 (some .int) 1 := ⟨wt_413, wt_1, by decide +kernel, by decide +kernel, by decide +kernel, by decide +kernel⟩
theorem mf_X10_about : MF yX10_about cX10_about 3 (some .int) 2 := ⟨wt_417, wt_1, by decide +kernel, by decide +kernel, by decide +kernel, by decide +kernel⟩
theorem mf_X10_wishTold : MF yX10_wishTold cX10_wishTold 4 (some .int) 2 := ⟨wt_421, wt_1, by decide +kernel, by decide +kernel, by decide +kernel, by decide +kernel⟩
theorem mf_X10_of : MF yX10_of cX10_of 3 (some .int) 2 := ⟨wt_426, wt_1, by decide +kernel, by decide +kernel, by decide +kernel, by decide +kernel⟩
theorem mf_X10_give : MF yX10_give cX10_give 4 (some .int) 2 := ⟨wt_430, wt_1, by decide +kernel, by decide +kernel, by decide +kernel, by decide +kernel⟩
theorem mf_X10_canBeGiven : MF yX10_canBeGiven cX10_canBeGiven 4 (some .boolean) 2 := ⟨wt_434, wt_1, by decide +kernel, by decide +kernel, by decide +kernel, by decide +kernel⟩
theorem mf_X10_type : MF yX10_type cX10_type 2 (some .int) 1 := ⟨wt_482, wt_1, by decide +kernel, by decide +kernel, by decide +kernel, by decide +kernel⟩
theorem mf_X10_repeal : MF yX10_repeal cX10_repeal 2 (some .int) 0 := ⟨wt_511, wt_1, by decide +kernel, by decide +kernel, by decide +kernel, by decide +kernel⟩
theorem mf_X10_fault : MF yX10_fault cX10_fault 1 (some .int) 0 := ⟨wt_519, wt_1, by decide +kernel, by decide +kernel, by decide +kernel, by decide +kernel⟩
theorem mf_X10_may : MF yX10_may cX10_may 3 (some .int) 2 := ⟨wt_524, wt_1, by decide +kernel, by decide +kernel, by decide +kernel, by decide +kernel⟩
theorem mf_X10_wrong : MF yX10_wrong cX10_wrong 4 (some .int) 0 := ⟨wt_528, wt_1, by decide +kernel, by decide +kernel, by decide +kernel, by decide +kernel⟩
theorem mf_X10_draw : MF yX10_draw cX10_draw 2 (some .int) 1 := ⟨wt_533, wt_1, by decide +kernel, by decide +kernel, by decide +kernel, by decide +kernel⟩
theorem mf_X10_change : MF yX10_change cX10_change 3 (some .int) 2 := ⟨wt_555, wt_1, by decide +kernel, by decide +kernel, by decide +kernel, by decide +kernel⟩
theorem mf_X10_turn : MF yX10_turn cX10_turn 2 (some .int) 1 := ⟨wt_561, wt_1, by decide +kernel, by decide +kernel, by decide +kernel, by decide +kernel⟩
theorem mf_X10_deal : MF yX10_deal cX10_deal 1 (some .int) 0 := ⟨wt_565, wt_1, by decide +kernel, by decide +kernel, by decide +kernel, by decide +kernel⟩
theorem mf_X10_trade : MF yX10_trade cX10_trade 1 (some .int) 0 := ⟨wt_638, wt_1, by decide +kernel, by decide +kernel, by decide +kernel, by decide +kernel⟩
theorem mf_X10_traded : MF yX10_traded cX10_traded 2 (some .int) 1 := ⟨wt_693, wt_1, by decide +kernel, by decide +kernel, by decide +kernel, by decide +kernel⟩
theorem mf_X10_strike : MF yX10_strike cX10_strike 2 (some .int) 1 := ⟨wt_697, wt_1, by decide +kernel, by decide +kernel, by decide +kernel, by decide +kernel⟩
theorem mf_X10_license : MF yX10_license cX10_license 2 (some .int) 1 := ⟨wt_743, wt_1, by decide +kernel, by decide +kernel, by decide +kernel, by decide +kernel⟩
theorem mf_X10_away : MF yX10_away cX10_away 3 (some .int) 2 := ⟨wt_747, wt_1, by decide +kernel, by decide +kernel, by decide +kernel, by decide +kernel⟩
theorem mf_X10_pass : MF yX10_pass cX10_pass 3 (some .int) 1 := ⟨wt_751, wt_1, by decide +kernel, by decide +kernel, by decide +kernel, by decide +kernel⟩
theorem mf_X10_price : MF yX10_price cX10_price 4 (some .int) 3 := ⟨wt_760, wt_1, by decide +kernel, by decide +kernel, by decide +kernel, by decide +kernel⟩
theorem mf_X10_priced : MF yX10_priced cX10_priced 3 (some .int) 2 := ⟨wt_776, wt_1, by decide +kernel, by decide +kernel, by decide +kernel, by decide +kernel⟩
theorem mf_X10_had : MF yX10_had cX10_had 3 (some .int) 2 := ⟨wt_788, wt_1, by decide +kernel, by decide +kernel, by decide +kernel, by decide +kernel⟩
theorem mf_X10_bill : MF yX10_bill cX10_bill 4 (some .int) 1 := ⟨wt_797, wt_1, by decide +kernel, by decide +kernel, by decide +kernel, by decide +kernel⟩
theorem mf_X10_matter : MF yX10_matter cX10_matter 3 (some .int) 0 := ⟨wt_802, wt_1, by decide +kernel, by decide +kernel, by decide +kernel, by decide +kernel⟩
theorem mf_X10_lodgersAt : MF yX10_lodgersAt cX10_lodgersAt 5 (some .int) 2 := ⟨wt_807, wt_1, by decide +kernel, by decide +kernel, by decide +kernel, by decide +kernel⟩
theorem mf_X10_count : MF yX10_count cX10_count 2 (some .int) 1 := ⟨wt_816, wt_1, by decide +kernel, by decide +kernel, by decide +kernel, by decide +kernel⟩
theorem mf_X10_digest : MF yX10_digest cX10_digest 5 (some .long) 0 := ⟨wt_821, wt_1, by decide +kernel, by decide +kernel, by decide +kernel, by decide +kernel⟩
theorem mf_X10_within : MF yX10_within cX10_within 3 (some .boolean) 3 := ⟨wt_364, wt_1, by decide +kernel, by decide +kernel, by decide +kernel, by decide +kernel⟩
theorem mf_X10_inBits : MF yX10_inBits cX10_inBits 2 (some .boolean) 2 := ⟨wt_452, wt_1, by decide +kernel, by decide +kernel, by decide +kernel, by decide +kernel⟩
theorem mf_X10_leastIn : MF yX10_leastIn cX10_leastIn 2 (some .int) 1 := ⟨wt_616, wt_1, by decide +kernel, by decide +kernel, by decide +kernel, by decide +kernel⟩
theorem mf_X11_init : MF yX11_init cX11_init 1 none 0 := ⟨wt_832, wt_13, by decide +kernel, by decide +kernel, by decide +kernel, by decide +kernel⟩
theorem mf_X11_in : MF yX11_in cX11_in 6 (some .boolean) 3 := ⟨wt_938, wt_13, by decide +kernel, by decide +kernel, by decide +kernel, by decide +kernel⟩
theorem mf_X11_isRoom : MF yX11_isRoom cX11_isRoom 2 (some .boolean) 1 := ⟨wt_958, wt_13, by decide +kernel, by decide +kernel, by decide +kernel, by decide +kernel⟩
theorem mf_X11_isOne : MF yX11_isOne cX11_isOne 2 (some .boolean) 1 := ⟨wt_954, wt_13, by decide +kernel, by decide +kernel, by decide +kernel, by decide +kernel⟩
theorem mf_X11_room : MF yX11_room cX11_room 4 (some .int) 3 := ⟨wt_934, wt_13, by decide +kernel, by decide +kernel, by decide +kernel, by decide +kernel⟩
theorem mf_X11_person : MF yX11_person cX11_person 5 (some .int) 2 := ⟨wt_944, wt_13, by decide +kernel, by decide +kernel, by decide +kernel, by decide +kernel⟩
theorem mf_X11_rankOf : MF yX11_rankOf cX11_rankOf 4 (some .int) 2 := ⟨wt_962, wt_13, by decide +kernel, by decide +kernel, by decide +kernel, by decide +kernel⟩
theorem mf_X11_wish : MF yX11_wish cX11_wish 3 (some .int) 2 := ⟨wt_950, wt_13, by decide +kernel, by decide +kernel, by decide +kernel, by decide +kernel⟩
theorem mf_X11_content : MF yX11_content cX11_content 3 (some .int) 1 := ⟨wt_966, wt_13, by decide +kernel, by decide +kernel, by decide +kernel, by decide +kernel⟩
theorem mf_X11_about : MF yX11_about cX11_about 3 (some .int) 2 := ⟨wt_970, wt_13, by decide +kernel, by decide +kernel, by decide +kernel, by decide +kernel⟩
theorem mf_X11_whoHas : MF yX11_whoHas cX11_whoHas 3 (some .int) 1 := ⟨wt_979, wt_13, by decide +kernel, by decide +kernel, by decide +kernel, by decide +kernel⟩
theorem mf_X11_of : MF yX11_of cX11_of 3 (some .int) 2 := ⟨wt_975, wt_13, by decide +kernel, by decide +kernel, by decide +kernel, by decide +kernel⟩
theorem mf_X11_give : MF yX11_give cX11_give 4 (some .int) 2 := ⟨wt_983, wt_13, by decide +kernel, by decide +kernel, by decide +kernel, by decide +kernel⟩
theorem mf_X11_type : MF yX11_type cX11_type 2 (some .int) 1 := ⟨wt_1010, wt_13, by decide +kernel, by decide +kernel, by decide +kernel, by decide +kernel⟩
theorem mf_X11_repeal : MF yX11_repeal cX11_repeal 2 (some .int) 0 := ⟨wt_1016, wt_13, by decide +kernel, by decide +kernel, by decide +kernel, by decide +kernel⟩
theorem mf_X11_isLetter : MF yX11_isLetter cX11_isLetter 1 (some .boolean) 1 := ⟨wt_994, wt_13, by decide +kernel, by decide +kernel, by decide +kernel, by decide +kernel⟩
theorem mf_X11_isSign : MF yX11_isSign cX11_isSign 1 (some .boolean) 1 := ⟨wt_997, wt_13, by decide +kernel, by decide +kernel, by decide +kernel, by decide +kernel⟩
theorem mf_X11_isFigure : MF yX11_isFigure cX11_isFigure 1 (some .boolean) 1 := ⟨wt_1000, wt_13, by decide +kernel, by decide +kernel, by decide +kernel, by decide +kernel⟩
theorem mf_X11_fault : MF yX11_fault cX11_fault 4 (some .int) 0 := ⟨wt_991, wt_13, by decide +kernel, by decide +kernel, by decide +kernel, by decide +kernel⟩
theorem mf_X11_holds : MF yX11_holds cX11_holds 8 (some .boolean) 4 := ⟨wt_1006, wt_13, by decide +kernel, by decide +kernel, by decide +kernel, by decide +kernel⟩
theorem mf_X11_mayLive : MF yX11_mayLive cX11_mayLive 7 (some .boolean) 2 := ⟨wt_987, wt_13, by decide +kernel, by decide +kernel, by decide +kernel, by decide +kernel⟩
theorem mf_X11_may : MF yX11_may cX11_may 3 (some .int) 2 := ⟨wt_1021, wt_13, by decide +kernel, by decide +kernel, by decide +kernel, by decide +kernel⟩
theorem mf_X11_wrong : MF yX11_wrong cX11_wrong 3 (some .int) 0 := ⟨wt_1025, wt_13, by decide +kernel, by decide +kernel, by decide +kernel, by decide +kernel⟩
theorem mf_X11_draw : MF yX11_draw cX11_draw 6 (some .int) 1 := ⟨wt_1029, wt_13, by decide +kernel, by decide +kernel, by decide +kernel, by decide +kernel⟩
theorem mf_X11_change : MF yX11_change cX11_change 4 (some .int) 2 := ⟨wt_1034, wt_13, by decide +kernel, by decide +kernel, by decide +kernel, by decide +kernel⟩
theorem mf_X11_turn : MF yX11_turn cX11_turn 2 (some .int) 1 := ⟨wt_1038, wt_13, by decide +kernel, by decide +kernel, by decide +kernel, by decide +kernel⟩
theorem mf_X11_housed : MF yX11_housed cX11_housed 3 (some .int) 0 := ⟨wt_1058, wt_13, by decide +kernel, by decide +kernel, by decide +kernel, by decide +kernel⟩
theorem mf_X11_dearest : MF yX11_dearest cX11_dearest 4 none 1 := ⟨wt_1050, wt_13, by decide +kernel, by decide +kernel, by decide +kernel, by decide +kernel⟩
theorem mf_X11_moveInto : MF yX11_moveInto cX11_moveInto 6 (some .boolean) 2 := ⟨wt_1054, wt_13, by decide +kernel, by decide +kernel, by decide +kernel, by decide +kernel⟩
theorem mf_X11_sizeOf : MF yX11_sizeOf cX11_sizeOf 4 (some .int) 1 := ⟨wt_1046, wt_13, by decide +kernel, by decide +kernel, by decide +kernel, by decide +kernel⟩
theorem mf_X11_deal : MF yX11_deal cX11_deal 6 (some .int) 0 := ⟨wt_1042, wt_13, by decide +kernel, by decide +kernel, by decide +kernel, by decide +kernel⟩
theorem mf_X11_pointOf : MF yX11_pointOf cX11_pointOf 6 (some .int) 2 := ⟨wt_1066, wt_13, by decide +kernel, by decide +kernel, by decide +kernel, by decide +kernel⟩
theorem mf_X11_trade : MF yX11_trade cX11_trade 11 (some .int) 0 := ⟨wt_1062, wt_13, by decide +kernel, by decide +kernel, by decide +kernel, by decide +kernel⟩
theorem mf_X11_traded : MF yX11_traded cX11_traded 2 (some .int) 1 := ⟨wt_1070, wt_13, by decide +kernel, by decide +kernel, by decide +kernel, by decide +kernel⟩
theorem mf_X11_lays : MF yX11_lays cX11_lays 11 (some .boolean) 1 := ⟨wt_1083, wt_13, by decide +kernel, by decide +kernel, by decide +kernel, by decide +kernel⟩
theorem mf_X11_most : MF yX11_most cX11_most 4 (some .int) 1 := ⟨wt_1079, wt_13, by decide +kernel, by decide +kernel, by decide +kernel, by decide +kernel⟩
theorem mf_X11_strike : MF yX11_strike cX11_strike 6 (some .int) 1 := ⟨wt_1075, wt_13, by decide +kernel, by decide +kernel, by decide +kernel, by decide +kernel⟩
theorem mf_X11_take : MF yX11_take cX11_take 4 none 2 := ⟨wt_1087, wt_13, by decide +kernel, by decide +kernel, by decide +kernel, by decide +kernel⟩
theorem mf_X11_untake : MF yX11_untake cX11_untake 3 none 1 := ⟨wt_1091, wt_13, by decide +kernel, by decide +kernel, by decide +kernel, by decide +kernel⟩
theorem mf_X11_license : MF yX11_license cX11_license 2 (some .int) 1 := ⟨wt_1095, wt_13, by decide +kernel, by decide +kernel, by decide +kernel, by decide +kernel⟩
theorem mf_X11_away : MF yX11_away cX11_away 3 (some .int) 2 := ⟨wt_1099, wt_13, by decide +kernel, by decide +kernel, by decide +kernel, by decide +kernel⟩
theorem mf_X11_pass : MF yX11_pass cX11_pass 4 (some .int) 1 := ⟨wt_1103, wt_13, by decide +kernel, by decide +kernel, by decide +kernel, by decide +kernel⟩
theorem mf_X11_price : MF yX11_price cX11_price 4 (some .int) 3 := ⟨wt_1108, wt_13, by decide +kernel, by decide +kernel, by decide +kernel, by decide +kernel⟩
theorem mf_X11_priceOf : MF yX11_priceOf cX11_priceOf 6 (some .int) 3 := ⟨wt_1118, wt_13, by decide +kernel, by decide +kernel, by decide +kernel, by decide +kernel⟩
theorem mf_X11_priced : MF yX11_priced cX11_priced 3 (some .int) 2 := ⟨wt_1114, wt_13, by decide +kernel, by decide +kernel, by decide +kernel, by decide +kernel⟩
theorem mf_X11_had : MF yX11_had cX11_had 3 (some .int) 2 := ⟨wt_1122, wt_13, by decide +kernel, by decide +kernel, by decide +kernel, by decide +kernel⟩
theorem mf_X11_billOf : MF yX11_billOf cX11_billOf 6 (some .int) 2 := ⟨wt_1130, wt_13, by decide +kernel, by decide +kernel, by decide +kernel, by decide +kernel⟩
theorem mf_X11_bill : MF yX11_bill cX11_bill 2 (some .int) 1 := ⟨wt_1126, wt_13, by decide +kernel, by decide +kernel, by decide +kernel, by decide +kernel⟩
theorem mf_X11_matter : MF yX11_matter cX11_matter 3 (some .int) 0 := ⟨wt_1134, wt_13, by decide +kernel, by decide +kernel, by decide +kernel, by decide +kernel⟩
theorem mf_X11_count : MF yX11_count cX11_count 4 (some .int) 1 := ⟨wt_1139, wt_13, by decide +kernel, by decide +kernel, by decide +kernel, by decide +kernel⟩
theorem mf_X11_digest : MF yX11_digest cX11_digest 5 (some .long) 0 := ⟨wt_1143, wt_13, by decide +kernel, by decide +kernel, by decide +kernel, by decide +kernel⟩
theorem mf_J6_bitCount_0f7a4 : MF yJ6_bitCount_0f7a4 cJ6_bitCount_0f7a4 1 (some .int) 1 := ⟨wt_588, wt_14, by decide +kernel, by decide +kernel, by decide +kernel, by decide +kernel⟩
theorem mf_J7_fill_53178 : MF yJ7_fill_53178 cJ7_fill_53178 4 none 2 := ⟨wt_290, wt_11, by decide +kernel, by decide +kernel, by decide +kernel, by decide +kernel⟩
