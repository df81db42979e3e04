def gTs : List Cond := lw_tbl.filter goodWord
theorem gTs_mem {w : Cond} {i : Nat} (h : lw_tbl[i]? = some w) (hg : goodWord w = true) : w ∈ gTs := List.mem_filter.mpr ⟨List.mem_of_getElem? h, hg⟩
theorem gTs_good {big : List Cond} (h : ∀ w ∈ gTs, w ∈ big) : GoodIn big gTs := fun w hw => ⟨h w hw, good_of_word (List.mem_filter.mp hw).2⟩
theorem wd_0 : (Jvm.Cond.selects "CutStore" ⟨"CutStore", "isPlace", "(II)Z"⟩ ⟨"CutStore", "isPlace", "(II)Z"⟩) ∈ gTs := gTs_mem (i := 0) (by decide +kernel) rfl
theorem wd_1 : (Jvm.Cond.selects "CutStore" ⟨"CutStore", "isSetRule", "(I)Z"⟩ ⟨"CutStore", "isSetRule", "(I)Z"⟩) ∈ gTs := gTs_mem (i := 1) (by decide +kernel) rfl
theorem wd_2 : (Jvm.Cond.selects "CutStore$Cutter" ⟨"CutStore$Cutter", "endOfPiece", "(LCutStore$Rule;I)I"⟩ ⟨"CutStore$Cutter", "endOfPiece", "(LCutStore$Rule;I)I"⟩) ∈ gTs := gTs_mem (i := 2) (by decide +kernel) rfl
theorem wd_3 : (Jvm.Cond.selects "CutStore$Rule" ⟨"CutStore$Rule", "hasSign", "(II)Z"⟩ ⟨"CutStore$Rule", "hasSign", "(II)Z"⟩) ∈ gTs := gTs_mem (i := 3) (by decide +kernel) rfl
theorem wd_4 : (Jvm.Cond.selects "CutStore" ⟨"CutStore", "agreesFromEnd", "(I)Z"⟩ ⟨"CutStore", "agreesFromEnd", "(I)Z"⟩) ∈ gTs := gTs_mem (i := 4) (by decide +kernel) rfl
theorem wd_5 : (Jvm.Cond.selects "CutStore$Distinct" ⟨"CutStore$Distinct", "addPiece", "(II)Z"⟩ ⟨"CutStore$Distinct", "addPiece", "(II)Z"⟩) ∈ gTs := gTs_mem (i := 5) (by decide +kernel) rfl
theorem wd_6 : (Jvm.Cond.selects "CutStore$Distinct" ⟨"CutStore$Distinct", "homeOf", "(II)I"⟩ ⟨"CutStore$Distinct", "homeOf", "(II)I"⟩) ∈ gTs := gTs_mem (i := 6) (by decide +kernel) rfl
theorem wd_7 : (Jvm.Cond.selects "CutStore" ⟨"CutStore", "roomByRule", "(LCutStore$Rule;I)I"⟩ ⟨"CutStore", "roomByRule", "(LCutStore$Rule;I)I"⟩) ∈ gTs := gTs_mem (i := 7) (by decide +kernel) rfl
theorem wd_8 : (Jvm.Cond.selects "CutStore" ⟨"CutStore", "roomOf", "(III)I"⟩ ⟨"CutStore", "roomOf", "(III)I"⟩) ∈ gTs := gTs_mem (i := 8) (by decide +kernel) rfl
theorem wd_9 : (Jvm.Cond.selects "CutStore$Store" ⟨"CutStore$Store", "share", "(II)I"⟩ ⟨"CutStore$Store", "share", "(II)I"⟩) ∈ gTs := gTs_mem (i := 9) (by decide +kernel) rfl
theorem wd_10 : (Jvm.Cond.selects "CutStore$Store" ⟨"CutStore$Store", "printOf", "(II)I"⟩ ⟨"CutStore$Store", "printOf", "(II)I"⟩) ∈ gTs := gTs_mem (i := 10) (by decide +kernel) rfl
theorem wd_11 : (Jvm.Cond.selects "CutStore$Store" ⟨"CutStore$Store", "findAlike", "(III)I"⟩ ⟨"CutStore$Store", "findAlike", "(III)I"⟩) ∈ gTs := gTs_mem (i := 11) (by decide +kernel) rfl
theorem wd_12 : (Jvm.Cond.selects "CutStore$Store" ⟨"CutStore$Store", "leastFree", "()I"⟩ ⟨"CutStore$Store", "leastFree", "()I"⟩) ∈ gTs := gTs_mem (i := 12) (by decide +kernel) rfl
theorem wd_13 : (Jvm.Cond.selects "CutStore$Store" ⟨"CutStore$Store", "addPiece", "(IIII)V"⟩ ⟨"CutStore$Store", "addPiece", "(IIII)V"⟩) ∈ gTs := gTs_mem (i := 13) (by decide +kernel) rfl
theorem wd_14 : (Jvm.Cond.selects "CutStore$Store" ⟨"CutStore$Store", "release", "([II)V"⟩ ⟨"CutStore$Store", "release", "([II)V"⟩) ∈ gTs := gTs_mem (i := 14) (by decide +kernel) rfl
theorem wd_15 : (Jvm.Cond.selects "CutStore$Store" ⟨"CutStore$Store", "removePiece", "(I)V"⟩ ⟨"CutStore$Store", "removePiece", "(I)V"⟩) ∈ gTs := gTs_mem (i := 15) (by decide +kernel) rfl
theorem wd_16 : (Jvm.Cond.selects "CutStore" ⟨"CutStore", "isKept", "(I)Z"⟩ ⟨"CutStore", "isKept", "(I)Z"⟩) ∈ gTs := gTs_mem (i := 16) (by decide +kernel) rfl
theorem wd_17 : (Jvm.Cond.selects "CutStore$Supers" ⟨"CutStore$Supers", "countPairs", "()V"⟩ ⟨"CutStore$Supers", "countPairs", "()V"⟩) ∈ gTs := gTs_mem (i := 17) (by decide +kernel) rfl
theorem wd_18 : (Jvm.Cond.selects "CutStore$PairTable" ⟨"CutStore$PairTable", "countOnceMore", "(I)I"⟩ ⟨"CutStore$PairTable", "countOnceMore", "(I)I"⟩) ∈ gTs := gTs_mem (i := 18) (by decide +kernel) rfl
theorem wd_19 : (Jvm.Cond.selects "CutStore$Supers" ⟨"CutStore$Supers", "putInPlace", "(III)I"⟩ ⟨"CutStore$Supers", "putInPlace", "(III)I"⟩) ∈ gTs := gTs_mem (i := 19) (by decide +kernel) rfl
theorem wd_20 : (Jvm.Cond.selects "CutStoreModel" ⟨"CutStoreModel", "rules", "(IIIIIII)Z"⟩ ⟨"CutStoreModel", "rules", "(IIIIIII)Z"⟩) ∈ gTs := gTs_mem (i := 20) (by decide +kernel) rfl
theorem wd_21 : (Jvm.Cond.selects "CutStoreModel" ⟨"CutStoreModel", "isRule", "(I)Z"⟩ ⟨"CutStoreModel", "isRule", "(I)Z"⟩) ∈ gTs := gTs_mem (i := 21) (by decide +kernel) rfl
theorem wd_22 : (Jvm.Cond.selects "CutStoreModel" ⟨"CutStoreModel", "isRolling", "(I)Z"⟩ ⟨"CutStoreModel", "isRolling", "(I)Z"⟩) ∈ gTs := gTs_mem (i := 22) (by decide +kernel) rfl
theorem wd_23 : (Jvm.Cond.selects "CutStoreModel" ⟨"CutStoreModel", "sumAt", "(III)I"⟩ ⟨"CutStoreModel", "sumAt", "(III)I"⟩) ∈ gTs := gTs_mem (i := 23) (by decide +kernel) rfl
theorem wd_24 : (Jvm.Cond.selects "CutStoreModel" ⟨"CutStoreModel", "cutsOf", "(II)V"⟩ ⟨"CutStoreModel", "cutsOf", "(II)V"⟩) ∈ gTs := gTs_mem (i := 24) (by decide +kernel) rfl
theorem wd_25 : (Jvm.Cond.selects "CutStoreModel" ⟨"CutStoreModel", "endOf", "(III)I"⟩ ⟨"CutStoreModel", "endOf", "(III)I"⟩) ∈ gTs := gTs_mem (i := 25) (by decide +kernel) rfl
theorem wd_26 : (Jvm.Cond.selects "CutStoreModel" ⟨"CutStoreModel", "isSign", "(III)Z"⟩ ⟨"CutStoreModel", "isSign", "(III)Z"⟩) ∈ gTs := gTs_mem (i := 26) (by decide +kernel) rfl
theorem wd_27 : (Jvm.Cond.selects "CutStoreModel" ⟨"CutStoreModel", "othersOf", "(II)V"⟩ ⟨"CutStoreModel", "othersOf", "(II)V"⟩) ∈ gTs := gTs_mem (i := 27) (by decide +kernel) rfl
theorem wd_28 : (Jvm.Cond.selects "CutStoreModel" ⟨"CutStoreModel", "isAlike", "(IIIIII)Z"⟩ ⟨"CutStoreModel", "isAlike", "(IIIIII)Z"⟩) ∈ gTs := gTs_mem (i := 28) (by decide +kernel) rfl
theorem wd_29 : (Jvm.Cond.selects "CutStoreModel" ⟨"CutStoreModel", "printOf", "(III)I"⟩ ⟨"CutStoreModel", "printOf", "(III)I"⟩) ∈ gTs := gTs_mem (i := 29) (by decide +kernel) rfl
theorem wd_30 : (Jvm.Cond.selects "CutStoreModel" ⟨"CutStoreModel", "lacks", "(I)I"⟩ ⟨"CutStoreModel", "lacks", "(I)I"⟩) ∈ gTs := gTs_mem (i := 30) (by decide +kernel) rfl
theorem wd_31 : (Jvm.Cond.selects "CutStoreModel" ⟨"CutStoreModel", "isPiece", "(I)Z"⟩ ⟨"CutStoreModel", "isPiece", "(I)Z"⟩) ∈ gTs := gTs_mem (i := 31) (by decide +kernel) rfl
theorem wd_32 : (Jvm.Cond.selects "CutStoreModel" ⟨"CutStoreModel", "isThat", "(IIII)Z"⟩ ⟨"CutStoreModel", "isThat", "(IIII)Z"⟩) ∈ gTs := gTs_mem (i := 32) (by decide +kernel) rfl
theorem wd_33 : (Jvm.Cond.selects "CutStoreModel" ⟨"CutStoreModel", "there", "()I"⟩ ⟨"CutStoreModel", "there", "()I"⟩) ∈ gTs := gTs_mem (i := 33) (by decide +kernel) rfl
theorem wd_34 : (Jvm.Cond.selects "CutStoreModel" ⟨"CutStoreModel", "comes", "(III)I"⟩ ⟨"CutStoreModel", "comes", "(III)I"⟩) ∈ gTs := gTs_mem (i := 34) (by decide +kernel) rfl
theorem wd_35 : (Jvm.Cond.selects "CutStoreModel" ⟨"CutStoreModel", "goes", "([III)I"⟩ ⟨"CutStoreModel", "goes", "([III)I"⟩) ∈ gTs := gTs_mem (i := 35) (by decide +kernel) rfl
theorem wd_36 : (Jvm.Cond.selects "CutStoreModel" ⟨"CutStoreModel", "mostOften", "()I"⟩ ⟨"CutStoreModel", "mostOften", "()I"⟩) ∈ gTs := gTs_mem (i := 36) (by decide +kernel) rfl
theorem wd_37 : (Jvm.Cond.selects "CutStoreModel" ⟨"CutStoreModel", "gives", "(II)I"⟩ ⟨"CutStoreModel", "gives", "(II)I"⟩) ∈ gTs := gTs_mem (i := 37) (by decide +kernel) rfl
theorem wd_38 : (Jvm.Cond.initialized "CutStoreLaw") ∈ gTs := gTs_mem (i := 38) (by decide +kernel) rfl
theorem wd_39 : (Jvm.Cond.initialized "CutStore") ∈ gTs := gTs_mem (i := 39) (by decide +kernel) rfl
theorem wd_40 : (Jvm.Cond.initialized "CutStore$Files") ∈ gTs := gTs_mem (i := 40) (by decide +kernel) rfl
theorem wd_41 : (Jvm.Cond.initialized "CutStore$Tape") ∈ gTs := gTs_mem (i := 41) (by decide +kernel) rfl
theorem wd_42 : (Jvm.Cond.initialized "CutStore$Rule") ∈ gTs := gTs_mem (i := 42) (by decide +kernel) rfl
theorem wd_43 : (Jvm.Cond.initialized "CutStore$Cutter") ∈ gTs := gTs_mem (i := 43) (by decide +kernel) rfl
theorem wd_44 : (Jvm.Cond.initialized "CutStore$Distinct") ∈ gTs := gTs_mem (i := 44) (by decide +kernel) rfl
theorem wd_45 : (Jvm.Cond.initialized "CutStore$Store") ∈ gTs := gTs_mem (i := 45) (by decide +kernel) rfl
theorem wd_46 : (Jvm.Cond.initialized "java/util/Arrays") ∈ gTs := gTs_mem (i := 46) (by decide +kernel) rfl
theorem wd_47 : (Jvm.Cond.initialized "CutStore$Supers") ∈ gTs := gTs_mem (i := 47) (by decide +kernel) rfl
theorem wd_48 : (Jvm.Cond.initialized "CutStore$PairTable") ∈ gTs := gTs_mem (i := 48) (by decide +kernel) rfl
theorem wd_49 : (Jvm.Cond.initialized "CutStoreModel") ∈ gTs := gTs_mem (i := 49) (by decide +kernel) rfl
theorem wd_50 : (Jvm.Cond.initialized "java/lang/System") ∈ gTs := gTs_mem (i := 50) (by decide +kernel) rfl
theorem wd_51 : (Jvm.Cond.initialized "java/lang/Math") ∈ gTs := gTs_mem (i := 51) (by decide +kernel) rfl
theorem wd_52 : (Jvm.Cond.classLink "CutStoreLaw" (7 : Nat) "CutStore") ∈ gTs := gTs_mem (i := 52) (by decide +kernel) rfl
theorem wd_53 : (Jvm.Cond.instantiable "CutStore" (10 : Nat)) ∈ gTs := gTs_mem (i := 53) (by decide +kernel) rfl
theorem wd_54 : (Jvm.Cond.methodLink "CutStoreLaw" (9 : Nat) ({ cls := "CutStore", name := "<init>", desc := "()V" } : Jvm.MethodName)) ∈ gTs := gTs_mem (i := 54) (by decide +kernel) rfl
theorem wd_55 : (Jvm.Cond.instanceMethod ({ cls := "CutStore", name := "<init>", desc := "()V" } : Jvm.MethodName)) ∈ gTs := gTs_mem (i := 55) (by decide +kernel) rfl
theorem wd_56 : (Jvm.Cond.code ({ cls := "CutStore", name := "<init>", desc := "()V" } : Jvm.MethodName) prog_1_method_1_code (2 : Nat) (Option.none : Option Jvm.ClassFile.FieldType)) ∈ gTs := gTs_mem (i := 56) (by decide +kernel) rfl
theorem wd_57 : (Jvm.Cond.methodLink "CutStore" (3 : Nat) ({ cls := "java/lang/Object", name := "<init>", desc := "()V" } : Jvm.MethodName)) ∈ gTs := gTs_mem (i := 57) (by decide +kernel) rfl
theorem wd_58 : (Jvm.Cond.instanceMethod ({ cls := "java/lang/Object", name := "<init>", desc := "()V" } : Jvm.MethodName)) ∈ gTs := gTs_mem (i := 58) (by decide +kernel) rfl
theorem wd_59 : (Jvm.Cond.code ({ cls := "java/lang/Object", name := "<init>", desc := "()V" } : Jvm.MethodName) object_method_1_code (1 : Nat) (Option.none : Option Jvm.ClassFile.FieldType)) ∈ gTs := gTs_mem (i := 59) (by decide +kernel) rfl
theorem wd_60 : (Jvm.Cond.classLink "CutStore" (9 : Nat) "CutStore$Files") ∈ gTs := gTs_mem (i := 60) (by decide +kernel) rfl
theorem wd_61 : (Jvm.Cond.instantiable "CutStore$Files" (2 : Nat)) ∈ gTs := gTs_mem (i := 61) (by decide +kernel) rfl
theorem wn_62 : (Jvm.Cond.methodLinkNest "CutStore" (11 : Nat) ({ cls := "CutStore$Files", name := "<init>", desc := "()V" } : Jvm.MethodName) "CutStore") ∈ lw_tbl := List.mem_of_getElem? (i := 62) (by decide +kernel)
theorem wd_63 : (Jvm.Cond.instanceMethod ({ cls := "CutStore$Files", name := "<init>", desc := "()V" } : Jvm.MethodName)) ∈ gTs := gTs_mem (i := 63) (by decide +kernel) rfl
theorem wd_64 : (Jvm.Cond.code ({ cls := "CutStore$Files", name := "<init>", desc := "()V" } : Jvm.MethodName) prog_4_method_1_code (1 : Nat) (Option.none : Option Jvm.ClassFile.FieldType)) ∈ gTs := gTs_mem (i := 64) (by decide +kernel) rfl
theorem wd_65 : (Jvm.Cond.methodLink "CutStore$Files" (3 : Nat) ({ cls := "java/lang/Object", name := "<init>", desc := "()V" } : Jvm.MethodName)) ∈ gTs := gTs_mem (i := 65) (by decide +kernel) rfl
theorem wd_66 : (Jvm.Cond.fieldLink "CutStore$Files" (9 : Nat) "CutStore$Files" "bytes" "[B") ∈ gTs := gTs_mem (i := 66) (by decide +kernel) rfl
theorem wd_67 : (Jvm.Cond.fieldLink "CutStore$Distinct" (52 : Nat) "CutStore$Files" "bytes" "[B") ∈ gTs := gTs_mem (i := 67) (by decide +kernel) rfl
theorem wd_68 : (Jvm.Cond.fieldLink "CutStore$Store" (106 : Nat) "CutStore$Files" "bytes" "[B") ∈ gTs := gTs_mem (i := 68) (by decide +kernel) rfl
theorem wd_69 : (Jvm.Cond.fieldLink "CutStore" (242 : Nat) "CutStore$Files" "bytes" "[B") ∈ gTs := gTs_mem (i := 69) (by decide +kernel) rfl
theorem wd_70 : (Jvm.Cond.fieldLink "CutStore$Files" (15 : Nat) "CutStore$Files" "lengths" "[I") ∈ gTs := gTs_mem (i := 70) (by decide +kernel) rfl
theorem wd_71 : (Jvm.Cond.fieldLink "CutStore$Store" (79 : Nat) "CutStore$Files" "lengths" "[I") ∈ gTs := gTs_mem (i := 71) (by decide +kernel) rfl
theorem wd_72 : (Jvm.Cond.fieldLink "CutStore" (81 : Nat) "CutStore$Files" "lengths" "[I") ∈ gTs := gTs_mem (i := 72) (by decide +kernel) rfl
theorem wd_73 : (Jvm.Cond.fieldLink "CutStore$Cutter" (37 : Nat) "CutStore$Files" "lengths" "[I") ∈ gTs := gTs_mem (i := 73) (by decide +kernel) rfl
theorem wd_74 : (Jvm.Cond.laysFinal "CutStore$Files" "CutStore$Files" "bytes" "[B") ∈ gTs := gTs_mem (i := 74) (by decide +kernel) rfl
theorem wd_76 : (Jvm.Cond.laysFinal "CutStore$Files" "CutStore$Files" "lengths" "[I") ∈ gTs := gTs_mem (i := 76) (by decide +kernel) rfl
theorem wd_79 : (Jvm.Cond.arrayClass Jvm.ClassFile.FieldType.byte) ∈ gTs := gTs_mem (i := 79) (by decide +kernel) rfl
theorem wd_80 : (Jvm.Cond.arrayClass Jvm.ClassFile.FieldType.int) ∈ gTs := gTs_mem (i := 80) (by decide +kernel) rfl
theorem wd_81 : (Jvm.Cond.classLink "CutStore" (16 : Nat) "CutStore$Tape") ∈ gTs := gTs_mem (i := 81) (by decide +kernel) rfl
theorem wd_82 : (Jvm.Cond.instantiable "CutStore$Tape" (2 : Nat)) ∈ gTs := gTs_mem (i := 82) (by decide +kernel) rfl
theorem wn_83 : (Jvm.Cond.methodLinkNest "CutStore" (18 : Nat) ({ cls := "CutStore$Tape", name := "<init>", desc := "()V" } : Jvm.MethodName) "CutStore") ∈ lw_tbl := List.mem_of_getElem? (i := 83) (by decide +kernel)
theorem wd_84 : (Jvm.Cond.instanceMethod ({ cls := "CutStore$Tape", name := "<init>", desc := "()V" } : Jvm.MethodName)) ∈ gTs := gTs_mem (i := 84) (by decide +kernel) rfl
theorem wd_85 : (Jvm.Cond.code ({ cls := "CutStore$Tape", name := "<init>", desc := "()V" } : Jvm.MethodName) prog_9_method_1_code (1 : Nat) (Option.none : Option Jvm.ClassFile.FieldType)) ∈ gTs := gTs_mem (i := 85) (by decide +kernel) rfl
theorem wd_86 : (Jvm.Cond.methodLink "CutStore$Tape" (3 : Nat) ({ cls := "java/lang/Object", name := "<init>", desc := "()V" } : Jvm.MethodName)) ∈ gTs := gTs_mem (i := 86) (by decide +kernel) rfl
theorem wd_87 : (Jvm.Cond.fieldLink "CutStore$Tape" (9 : Nat) "CutStore$Tape" "bytes" "[B") ∈ gTs := gTs_mem (i := 87) (by decide +kernel) rfl
theorem wd_88 : (Jvm.Cond.fieldLink "CutStore$Files" (35 : Nat) "CutStore$Tape" "bytes" "[B") ∈ gTs := gTs_mem (i := 88) (by decide +kernel) rfl
theorem wd_89 : (Jvm.Cond.fieldLink "CutStore" (70 : Nat) "CutStore$Tape" "length" "I") ∈ gTs := gTs_mem (i := 89) (by decide +kernel) rfl
theorem wd_90 : (Jvm.Cond.fieldLink "CutStore$Tape" (15 : Nat) "CutStore$Tape" "length" "I") ∈ gTs := gTs_mem (i := 90) (by decide +kernel) rfl
theorem wd_91 : (Jvm.Cond.fieldLink "CutStore$Files" (29 : Nat) "CutStore$Tape" "length" "I") ∈ gTs := gTs_mem (i := 91) (by decide +kernel) rfl
theorem wd_92 : (Jvm.Cond.laysFinal "CutStore$Tape" "CutStore$Tape" "bytes" "[B") ∈ gTs := gTs_mem (i := 92) (by decide +kernel) rfl
theorem wd_94 : (Jvm.Cond.lays "CutStore$Tape" "CutStore$Tape" "length" "I") ∈ gTs := gTs_mem (i := 94) (by decide +kernel) rfl
theorem wd_97 : (Jvm.Cond.classLink "CutStore" (23 : Nat) "CutStore$Rule") ∈ gTs := gTs_mem (i := 97) (by decide +kernel) rfl
theorem wn_98 : (Jvm.Cond.arrayOver (Jvm.ClassFile.FieldType.object "CutStore$Rule")) ∈ lw_tbl := List.mem_of_getElem? (i := 98) (by decide +kernel)
theorem wd_99 : (Jvm.Cond.instantiable "CutStore$Rule" (6 : Nat)) ∈ gTs := gTs_mem (i := 99) (by decide +kernel) rfl
theorem wn_100 : (Jvm.Cond.methodLinkNest "CutStore" (29 : Nat) ({ cls := "CutStore$Rule", name := "<init>", desc := "()V" } : Jvm.MethodName) "CutStore") ∈ lw_tbl := List.mem_of_getElem? (i := 100) (by decide +kernel)
theorem wd_101 : (Jvm.Cond.instanceMethod ({ cls := "CutStore$Rule", name := "<init>", desc := "()V" } : Jvm.MethodName)) ∈ gTs := gTs_mem (i := 101) (by decide +kernel) rfl
theorem wd_102 : (Jvm.Cond.code ({ cls := "CutStore$Rule", name := "<init>", desc := "()V" } : Jvm.MethodName) prog_6_method_1_code (1 : Nat) (Option.none : Option Jvm.ClassFile.FieldType)) ∈ gTs := gTs_mem (i := 102) (by decide +kernel) rfl
theorem wd_103 : (Jvm.Cond.methodLink "CutStore$Rule" (1 : Nat) ({ cls := "java/lang/Object", name := "<init>", desc := "()V" } : Jvm.MethodName)) ∈ gTs := gTs_mem (i := 103) (by decide +kernel) rfl
theorem wd_104 : (Jvm.Cond.fieldLink "CutStore$Rule" (9 : Nat) "CutStore$Rule" "kind" "I") ∈ gTs := gTs_mem (i := 104) (by decide +kernel) rfl
theorem wd_105 : (Jvm.Cond.fieldLink "CutStore" (236 : Nat) "CutStore$Rule" "kind" "I") ∈ gTs := gTs_mem (i := 105) (by decide +kernel) rfl
theorem wd_106 : (Jvm.Cond.fieldLink "CutStore$Rule" (13 : Nat) "CutStore$Rule" "least" "I") ∈ gTs := gTs_mem (i := 106) (by decide +kernel) rfl
theorem wd_107 : (Jvm.Cond.fieldLink "CutStore$Cutter" (68 : Nat) "CutStore$Rule" "least" "I") ∈ gTs := gTs_mem (i := 107) (by decide +kernel) rfl
theorem wd_108 : (Jvm.Cond.fieldLink "CutStore$Rule" (16 : Nat) "CutStore$Rule" "most" "I") ∈ gTs := gTs_mem (i := 108) (by decide +kernel) rfl
theorem wd_109 : (Jvm.Cond.fieldLink "CutStore$Cutter" (60 : Nat) "CutStore$Rule" "most" "I") ∈ gTs := gTs_mem (i := 109) (by decide +kernel) rfl
theorem wd_110 : (Jvm.Cond.fieldLink "CutStore$Rule" (22 : Nat) "CutStore$Rule" "window" "I") ∈ gTs := gTs_mem (i := 110) (by decide +kernel) rfl
theorem wd_111 : (Jvm.Cond.fieldLink "CutStore$Cutter" (32 : Nat) "CutStore$Rule" "window" "I") ∈ gTs := gTs_mem (i := 111) (by decide +kernel) rfl
theorem wd_112 : (Jvm.Cond.fieldLink "CutStore$Rule" (25 : Nat) "CutStore$Rule" "bits" "I") ∈ gTs := gTs_mem (i := 112) (by decide +kernel) rfl
theorem wd_113 : (Jvm.Cond.fieldLink "CutStore$Rule" (19 : Nat) "CutStore$Rule" "mark" "I") ∈ gTs := gTs_mem (i := 113) (by decide +kernel) rfl
theorem wd_114 : (Jvm.Cond.lays "CutStore$Rule" "CutStore$Rule" "kind" "I") ∈ gTs := gTs_mem (i := 114) (by decide +kernel) rfl
theorem wd_116 : (Jvm.Cond.lays "CutStore$Rule" "CutStore$Rule" "least" "I") ∈ gTs := gTs_mem (i := 116) (by decide +kernel) rfl
theorem wd_118 : (Jvm.Cond.lays "CutStore$Rule" "CutStore$Rule" "most" "I") ∈ gTs := gTs_mem (i := 118) (by decide +kernel) rfl
theorem wd_120 : (Jvm.Cond.lays "CutStore$Rule" "CutStore$Rule" "window" "I") ∈ gTs := gTs_mem (i := 120) (by decide +kernel) rfl
theorem wd_122 : (Jvm.Cond.lays "CutStore$Rule" "CutStore$Rule" "bits" "I") ∈ gTs := gTs_mem (i := 122) (by decide +kernel) rfl
theorem wd_124 : (Jvm.Cond.lays "CutStore$Rule" "CutStore$Rule" "mark" "I") ∈ gTs := gTs_mem (i := 124) (by decide +kernel) rfl
theorem wd_127 : (Jvm.Cond.classLink "CutStore" (30 : Nat) "CutStore$Cutter") ∈ gTs := gTs_mem (i := 127) (by decide +kernel) rfl
theorem wd_128 : (Jvm.Cond.instantiable "CutStore$Cutter" (5 : Nat)) ∈ gTs := gTs_mem (i := 128) (by decide +kernel) rfl
theorem wd_129 : (Jvm.Cond.methodLink "CutStore" (32 : Nat) ({ cls := "CutStore$Cutter", name := "<init>", desc := "(LCutStore$Files;)V" } : Jvm.MethodName)) ∈ gTs := gTs_mem (i := 129) (by decide +kernel) rfl
theorem wd_130 : (Jvm.Cond.instanceMethod ({ cls := "CutStore$Cutter", name := "<init>", desc := "(LCutStore$Files;)V" } : Jvm.MethodName)) ∈ gTs := gTs_mem (i := 130) (by decide +kernel) rfl
theorem wd_131 : (Jvm.Cond.code ({ cls := "CutStore$Cutter", name := "<init>", desc := "(LCutStore$Files;)V" } : Jvm.MethodName) prog_2_method_1_code (2 : Nat) (Option.none : Option Jvm.ClassFile.FieldType)) ∈ gTs := gTs_mem (i := 131) (by decide +kernel) rfl
theorem wd_132 : (Jvm.Cond.methodLink "CutStore$Cutter" (3 : Nat) ({ cls := "java/lang/Object", name := "<init>", desc := "()V" } : Jvm.MethodName)) ∈ gTs := gTs_mem (i := 132) (by decide +kernel) rfl
theorem wd_133 : (Jvm.Cond.fieldLink "CutStore$Cutter" (18 : Nat) "CutStore$Cutter" "files" "LCutStore$Files;") ∈ gTs := gTs_mem (i := 133) (by decide +kernel) rfl
theorem wd_134 : (Jvm.Cond.fieldLink "CutStore$Cutter" (9 : Nat) "CutStore$Cutter" "sums" "[I") ∈ gTs := gTs_mem (i := 134) (by decide +kernel) rfl
theorem wd_135 : (Jvm.Cond.fieldLink "CutStore" (133 : Nat) "CutStore$Cutter" "sums" "[I") ∈ gTs := gTs_mem (i := 135) (by decide +kernel) rfl
theorem wd_136 : (Jvm.Cond.fieldLink "CutStore$Cutter" (15 : Nat) "CutStore$Cutter" "begins" "[I") ∈ gTs := gTs_mem (i := 136) (by decide +kernel) rfl
theorem wd_137 : (Jvm.Cond.fieldLink "CutStore" (142 : Nat) "CutStore$Cutter" "begins" "[I") ∈ gTs := gTs_mem (i := 137) (by decide +kernel) rfl
theorem wd_138 : (Jvm.Cond.fieldLink "CutStore$Store" (56 : Nat) "CutStore$Cutter" "pieces" "I") ∈ gTs := gTs_mem (i := 138) (by decide +kernel) rfl
theorem wd_139 : (Jvm.Cond.fieldLink "CutStore$Distinct" (32 : Nat) "CutStore$Cutter" "pieces" "I") ∈ gTs := gTs_mem (i := 139) (by decide +kernel) rfl
theorem wd_140 : (Jvm.Cond.fieldLink "CutStore$Cutter" (53 : Nat) "CutStore$Cutter" "pieces" "I") ∈ gTs := gTs_mem (i := 140) (by decide +kernel) rfl
theorem wd_141 : (Jvm.Cond.fieldLink "CutStore" (139 : Nat) "CutStore$Cutter" "pieces" "I") ∈ gTs := gTs_mem (i := 141) (by decide +kernel) rfl
theorem wd_142 : (Jvm.Cond.fieldLink "CutStore$Cutter" (22 : Nat) "CutStore$Cutter" "file" "I") ∈ gTs := gTs_mem (i := 142) (by decide +kernel) rfl
theorem wd_143 : (Jvm.Cond.laysFinal "CutStore$Cutter" "CutStore$Cutter" "files" "LCutStore$Files;") ∈ gTs := gTs_mem (i := 143) (by decide +kernel) rfl
theorem wd_145 : (Jvm.Cond.laysFinal "CutStore$Cutter" "CutStore$Cutter" "sums" "[I") ∈ gTs := gTs_mem (i := 145) (by decide +kernel) rfl
theorem wd_147 : (Jvm.Cond.laysFinal "CutStore$Cutter" "CutStore$Cutter" "begins" "[I") ∈ gTs := gTs_mem (i := 147) (by decide +kernel) rfl
theorem wd_149 : (Jvm.Cond.lays "CutStore$Cutter" "CutStore$Cutter" "pieces" "I") ∈ gTs := gTs_mem (i := 149) (by decide +kernel) rfl
theorem wd_151 : (Jvm.Cond.lays "CutStore$Cutter" "CutStore$Cutter" "file" "I") ∈ gTs := gTs_mem (i := 151) (by decide +kernel) rfl
theorem wd_154 : (Jvm.Cond.classLink "CutStore" (42 : Nat) "CutStore$Distinct") ∈ gTs := gTs_mem (i := 154) (by decide +kernel) rfl
theorem wd_155 : (Jvm.Cond.instantiable "CutStore$Distinct" (4 : Nat)) ∈ gTs := gTs_mem (i := 155) (by decide +kernel) rfl
theorem wd_156 : (Jvm.Cond.methodLink "CutStore" (44 : Nat) ({ cls := "CutStore$Distinct", name := "<init>", desc := "(LCutStore$Files;)V" } : Jvm.MethodName)) ∈ gTs := gTs_mem (i := 156) (by decide +kernel) rfl
theorem wd_157 : (Jvm.Cond.instanceMethod ({ cls := "CutStore$Distinct", name := "<init>", desc := "(LCutStore$Files;)V" } : Jvm.MethodName)) ∈ gTs := gTs_mem (i := 157) (by decide +kernel) rfl
theorem wd_158 : (Jvm.Cond.code ({ cls := "CutStore$Distinct", name := "<init>", desc := "(LCutStore$Files;)V" } : Jvm.MethodName) prog_3_method_1_code (2 : Nat) (Option.none : Option Jvm.ClassFile.FieldType)) ∈ gTs := gTs_mem (i := 158) (by decide +kernel) rfl
theorem wd_159 : (Jvm.Cond.methodLink "CutStore$Distinct" (3 : Nat) ({ cls := "java/lang/Object", name := "<init>", desc := "()V" } : Jvm.MethodName)) ∈ gTs := gTs_mem (i := 159) (by decide +kernel) rfl
theorem wd_160 : (Jvm.Cond.fieldLink "CutStore$Distinct" (18 : Nat) "CutStore$Distinct" "files" "LCutStore$Files;") ∈ gTs := gTs_mem (i := 160) (by decide +kernel) rfl
theorem wd_161 : (Jvm.Cond.fieldLink "CutStore$Distinct" (9 : Nat) "CutStore$Distinct" "starts" "[I") ∈ gTs := gTs_mem (i := 161) (by decide +kernel) rfl
theorem wd_162 : (Jvm.Cond.fieldLink "CutStore$Distinct" (15 : Nat) "CutStore$Distinct" "lengths" "[I") ∈ gTs := gTs_mem (i := 162) (by decide +kernel) rfl
theorem wd_163 : (Jvm.Cond.fieldLink "CutStore$Distinct" (28 : Nat) "CutStore$Distinct" "size" "I") ∈ gTs := gTs_mem (i := 163) (by decide +kernel) rfl
theorem wd_164 : (Jvm.Cond.fieldLink "CutStore" (253 : Nat) "CutStore$Distinct" "size" "I") ∈ gTs := gTs_mem (i := 164) (by decide +kernel) rfl
theorem wd_165 : (Jvm.Cond.laysFinal "CutStore$Distinct" "CutStore$Distinct" "files" "LCutStore$Files;") ∈ gTs := gTs_mem (i := 165) (by decide +kernel) rfl
theorem wd_167 : (Jvm.Cond.laysFinal "CutStore$Distinct" "CutStore$Distinct" "starts" "[I") ∈ gTs := gTs_mem (i := 167) (by decide +kernel) rfl
theorem wd_169 : (Jvm.Cond.laysFinal "CutStore$Distinct" "CutStore$Distinct" "lengths" "[I") ∈ gTs := gTs_mem (i := 169) (by decide +kernel) rfl
theorem wd_171 : (Jvm.Cond.lays "CutStore$Distinct" "CutStore$Distinct" "size" "I") ∈ gTs := gTs_mem (i := 171) (by decide +kernel) rfl
theorem wd_174 : (Jvm.Cond.classLink "CutStore" (49 : Nat) "CutStore$Store") ∈ gTs := gTs_mem (i := 174) (by decide +kernel) rfl
theorem wd_175 : (Jvm.Cond.instantiable "CutStore$Store" (12 : Nat)) ∈ gTs := gTs_mem (i := 175) (by decide +kernel) rfl
theorem wd_176 : (Jvm.Cond.methodLink "CutStore" (51 : Nat) ({ cls := "CutStore$Store", name := "<init>", desc := "(LCutStore$Files;)V" } : Jvm.MethodName)) ∈ gTs := gTs_mem (i := 176) (by decide +kernel) rfl
theorem wd_177 : (Jvm.Cond.instanceMethod ({ cls := "CutStore$Store", name := "<init>", desc := "(LCutStore$Files;)V" } : Jvm.MethodName)) ∈ gTs := gTs_mem (i := 177) (by decide +kernel) rfl
theorem wd_178 : (Jvm.Cond.code ({ cls := "CutStore$Store", name := "<init>", desc := "(LCutStore$Files;)V" } : Jvm.MethodName) prog_7_method_1_code (2 : Nat) (Option.none : Option Jvm.ClassFile.FieldType)) ∈ gTs := gTs_mem (i := 178) (by decide +kernel) rfl
theorem wd_179 : (Jvm.Cond.methodLink "CutStore$Store" (3 : Nat) ({ cls := "java/lang/Object", name := "<init>", desc := "()V" } : Jvm.MethodName)) ∈ gTs := gTs_mem (i := 179) (by decide +kernel) rfl
theorem wd_180 : (Jvm.Cond.classLink "CutStore$Store" (28 : Nat) "[[I") ∈ gTs := gTs_mem (i := 180) (by decide +kernel) rfl
theorem wn_181 : (Jvm.Cond.arrayOver (Jvm.ClassFile.FieldType.array Jvm.ClassFile.FieldType.int)) ∈ lw_tbl := List.mem_of_getElem? (i := 181) (by decide +kernel)
theorem wd_182 : (Jvm.Cond.methodLink "CutStore$Store" (43 : Nat) ({ cls := "java/util/Arrays", name := "fill", desc := "([II)V" } : Jvm.MethodName)) ∈ gTs := gTs_mem (i := 182) (by decide +kernel) rfl
theorem wd_183 : (Jvm.Cond.static ({ cls := "java/util/Arrays", name := "fill", desc := "([II)V" } : Jvm.MethodName)) ∈ gTs := gTs_mem (i := 183) (by decide +kernel) rfl
theorem wd_184 : (Jvm.Cond.code ({ cls := "java/util/Arrays", name := "fill", desc := "([II)V" } : Jvm.MethodName) prog_14_method_103_code (4 : Nat) (Option.none : Option Jvm.ClassFile.FieldType)) ∈ gTs := gTs_mem (i := 184) (by decide +kernel) rfl
theorem wd_185 : (Jvm.Cond.fieldLink "CutStore$Store" (39 : Nat) "CutStore$Store" "files" "LCutStore$Files;") ∈ gTs := gTs_mem (i := 185) (by decide +kernel) rfl
theorem wd_186 : (Jvm.Cond.fieldLink "CutStore$Store" (9 : Nat) "CutStore$Store" "bytes" "[B") ∈ gTs := gTs_mem (i := 186) (by decide +kernel) rfl
theorem wd_187 : (Jvm.Cond.fieldLink "CutStore$Store" (15 : Nat) "CutStore$Store" "starts" "[I") ∈ gTs := gTs_mem (i := 187) (by decide +kernel) rfl
theorem wd_188 : (Jvm.Cond.fieldLink "CutStore$Store" (19 : Nat) "CutStore$Store" "lengths" "[I") ∈ gTs := gTs_mem (i := 188) (by decide +kernel) rfl
theorem wd_189 : (Jvm.Cond.fieldLink "CutStore" (191 : Nat) "CutStore$Store" "lengths" "[I") ∈ gTs := gTs_mem (i := 189) (by decide +kernel) rfl
theorem wd_190 : (Jvm.Cond.fieldLink "CutStore$Store" (22 : Nat) "CutStore$Store" "prints" "[I") ∈ gTs := gTs_mem (i := 190) (by decide +kernel) rfl
theorem wd_191 : (Jvm.Cond.fieldLink "CutStore" (192 : Nat) "CutStore$Store" "prints" "[I") ∈ gTs := gTs_mem (i := 191) (by decide +kernel) rfl
theorem wd_192 : (Jvm.Cond.fieldLink "CutStore$Store" (25 : Nat) "CutStore$Store" "holds" "[I") ∈ gTs := gTs_mem (i := 192) (by decide +kernel) rfl
theorem wd_193 : (Jvm.Cond.fieldLink "CutStore" (188 : Nat) "CutStore$Store" "holds" "[I") ∈ gTs := gTs_mem (i := 193) (by decide +kernel) rfl
theorem wd_194 : (Jvm.Cond.fieldLink "CutStore$Store" (30 : Nat) "CutStore$Store" "kept" "[[I") ∈ gTs := gTs_mem (i := 194) (by decide +kernel) rfl
theorem wd_195 : (Jvm.Cond.fieldLink "CutStore" (184 : Nat) "CutStore$Store" "kept" "[[I") ∈ gTs := gTs_mem (i := 195) (by decide +kernel) rfl
theorem wd_196 : (Jvm.Cond.fieldLink "CutStore$Store" (33 : Nat) "CutStore$Store" "keptLengths" "[I") ∈ gTs := gTs_mem (i := 196) (by decide +kernel) rfl
theorem wd_197 : (Jvm.Cond.fieldLink "CutStore" (181 : Nat) "CutStore$Store" "keptLengths" "[I") ∈ gTs := gTs_mem (i := 197) (by decide +kernel) rfl
theorem wd_198 : (Jvm.Cond.fieldLink "CutStore$Store" (36 : Nat) "CutStore$Store" "coming" "[I") ∈ gTs := gTs_mem (i := 198) (by decide +kernel) rfl
theorem wd_199 : (Jvm.Cond.fieldLink "CutStore$Store" (49 : Nat) "CutStore$Store" "pieces" "I") ∈ gTs := gTs_mem (i := 199) (by decide +kernel) rfl
theorem wd_200 : (Jvm.Cond.fieldLink "CutStore" (195 : Nat) "CutStore$Store" "pieces" "I") ∈ gTs := gTs_mem (i := 200) (by decide +kernel) rfl
theorem wd_201 : (Jvm.Cond.fieldLink "CutStore$Store" (111 : Nat) "CutStore$Store" "used" "I") ∈ gTs := gTs_mem (i := 201) (by decide +kernel) rfl
theorem wd_202 : (Jvm.Cond.fieldLink "CutStore" (196 : Nat) "CutStore$Store" "used" "I") ∈ gTs := gTs_mem (i := 202) (by decide +kernel) rfl
theorem wd_203 : (Jvm.Cond.fieldLink "CutStore$Store" (53 : Nat) "CutStore$Store" "meetings" "I") ∈ gTs := gTs_mem (i := 203) (by decide +kernel) rfl
theorem wd_204 : (Jvm.Cond.fieldLink "CutStore" (207 : Nat) "CutStore$Store" "meetings" "I") ∈ gTs := gTs_mem (i := 204) (by decide +kernel) rfl
theorem wd_205 : (Jvm.Cond.laysFinal "CutStore$Store" "CutStore$Store" "files" "LCutStore$Files;") ∈ gTs := gTs_mem (i := 205) (by decide +kernel) rfl
theorem wd_207 : (Jvm.Cond.laysFinal "CutStore$Store" "CutStore$Store" "bytes" "[B") ∈ gTs := gTs_mem (i := 207) (by decide +kernel) rfl
theorem wd_209 : (Jvm.Cond.laysFinal "CutStore$Store" "CutStore$Store" "starts" "[I") ∈ gTs := gTs_mem (i := 209) (by decide +kernel) rfl
theorem wd_211 : (Jvm.Cond.laysFinal "CutStore$Store" "CutStore$Store" "lengths" "[I") ∈ gTs := gTs_mem (i := 211) (by decide +kernel) rfl
theorem wd_213 : (Jvm.Cond.laysFinal "CutStore$Store" "CutStore$Store" "prints" "[I") ∈ gTs := gTs_mem (i := 213) (by decide +kernel) rfl
theorem wd_215 : (Jvm.Cond.laysFinal "CutStore$Store" "CutStore$Store" "holds" "[I") ∈ gTs := gTs_mem (i := 215) (by decide +kernel) rfl
theorem wd_217 : (Jvm.Cond.laysFinal "CutStore$Store" "CutStore$Store" "kept" "[[I") ∈ gTs := gTs_mem (i := 217) (by decide +kernel) rfl
theorem wd_219 : (Jvm.Cond.laysFinal "CutStore$Store" "CutStore$Store" "keptLengths" "[I") ∈ gTs := gTs_mem (i := 219) (by decide +kernel) rfl
theorem wd_221 : (Jvm.Cond.laysFinal "CutStore$Store" "CutStore$Store" "coming" "[I") ∈ gTs := gTs_mem (i := 221) (by decide +kernel) rfl
theorem wd_223 : (Jvm.Cond.lays "CutStore$Store" "CutStore$Store" "pieces" "I") ∈ gTs := gTs_mem (i := 223) (by decide +kernel) rfl
theorem wd_225 : (Jvm.Cond.lays "CutStore$Store" "CutStore$Store" "used" "I") ∈ gTs := gTs_mem (i := 225) (by decide +kernel) rfl
theorem wd_227 : (Jvm.Cond.lays "CutStore$Store" "CutStore$Store" "meetings" "I") ∈ gTs := gTs_mem (i := 227) (by decide +kernel) rfl
theorem wd_230 : (Jvm.Cond.classLink "CutStore" (56 : Nat) "CutStore$Supers") ∈ gTs := gTs_mem (i := 230) (by decide +kernel) rfl
theorem wd_231 : (Jvm.Cond.instantiable "CutStore$Supers" (8 : Nat)) ∈ gTs := gTs_mem (i := 231) (by decide +kernel) rfl
theorem wn_232 : (Jvm.Cond.methodLinkNest "CutStore" (58 : Nat) ({ cls := "CutStore$Supers", name := "<init>", desc := "()V" } : Jvm.MethodName) "CutStore") ∈ lw_tbl := List.mem_of_getElem? (i := 232) (by decide +kernel)
theorem wd_233 : (Jvm.Cond.instanceMethod ({ cls := "CutStore$Supers", name := "<init>", desc := "()V" } : Jvm.MethodName)) ∈ gTs := gTs_mem (i := 233) (by decide +kernel) rfl
theorem wd_234 : (Jvm.Cond.code ({ cls := "CutStore$Supers", name := "<init>", desc := "()V" } : Jvm.MethodName) prog_8_method_1_code (1 : Nat) (Option.none : Option Jvm.ClassFile.FieldType)) ∈ gTs := gTs_mem (i := 234) (by decide +kernel) rfl
theorem wd_235 : (Jvm.Cond.methodLink "CutStore$Supers" (3 : Nat) ({ cls := "java/lang/Object", name := "<init>", desc := "()V" } : Jvm.MethodName)) ∈ gTs := gTs_mem (i := 235) (by decide +kernel) rfl
theorem wd_236 : (Jvm.Cond.classLink "CutStore$Supers" (15 : Nat) "CutStore$PairTable") ∈ gTs := gTs_mem (i := 236) (by decide +kernel) rfl
theorem wd_237 : (Jvm.Cond.instantiable "CutStore$PairTable" (8 : Nat)) ∈ gTs := gTs_mem (i := 237) (by decide +kernel) rfl
theorem wn_238 : (Jvm.Cond.methodLinkNest "CutStore$Supers" (17 : Nat) ({ cls := "CutStore$PairTable", name := "<init>", desc := "()V" } : Jvm.MethodName) "CutStore") ∈ lw_tbl := List.mem_of_getElem? (i := 238) (by decide +kernel)
theorem wd_239 : (Jvm.Cond.instanceMethod ({ cls := "CutStore$PairTable", name := "<init>", desc := "()V" } : Jvm.MethodName)) ∈ gTs := gTs_mem (i := 239) (by decide +kernel) rfl
theorem wd_240 : (Jvm.Cond.code ({ cls := "CutStore$PairTable", name := "<init>", desc := "()V" } : Jvm.MethodName) prog_5_method_1_code (1 : Nat) (Option.none : Option Jvm.ClassFile.FieldType)) ∈ gTs := gTs_mem (i := 240) (by decide +kernel) rfl
theorem wd_241 : (Jvm.Cond.methodLink "CutStore$PairTable" (3 : Nat) ({ cls := "java/lang/Object", name := "<init>", desc := "()V" } : Jvm.MethodName)) ∈ gTs := gTs_mem (i := 241) (by decide +kernel) rfl
theorem wd_242 : (Jvm.Cond.fieldLink "CutStore$PairTable" (9 : Nat) "CutStore$PairTable" "keys" "[I") ∈ gTs := gTs_mem (i := 242) (by decide +kernel) rfl
theorem wd_243 : (Jvm.Cond.fieldLink "CutStore$PairTable" (15 : Nat) "CutStore$PairTable" "counts" "[I") ∈ gTs := gTs_mem (i := 243) (by decide +kernel) rfl
theorem wd_244 : (Jvm.Cond.fieldLink "CutStore$PairTable" (18 : Nat) "CutStore$PairTable" "rounds" "[I") ∈ gTs := gTs_mem (i := 244) (by decide +kernel) rfl
theorem wd_245 : (Jvm.Cond.fieldLink "CutStore$PairTable" (21 : Nat) "CutStore$PairTable" "round" "I") ∈ gTs := gTs_mem (i := 245) (by decide +kernel) rfl
theorem wd_246 : (Jvm.Cond.fieldLink "CutStore$PairTable" (32 : Nat) "CutStore$PairTable" "mostKey" "I") ∈ gTs := gTs_mem (i := 246) (by decide +kernel) rfl
theorem wd_247 : (Jvm.Cond.fieldLink "CutStore$PairTable" (25 : Nat) "CutStore$PairTable" "most" "I") ∈ gTs := gTs_mem (i := 247) (by decide +kernel) rfl
theorem wd_248 : (Jvm.Cond.fieldLink "CutStore$Supers" (50 : Nat) "CutStore$PairTable" "most" "I") ∈ gTs := gTs_mem (i := 248) (by decide +kernel) rfl
theorem wd_249 : (Jvm.Cond.fieldLink "CutStore$PairTable" (35 : Nat) "CutStore$PairTable" "mostFirst" "I") ∈ gTs := gTs_mem (i := 249) (by decide +kernel) rfl
theorem wd_250 : (Jvm.Cond.fieldLink "CutStore$Supers" (53 : Nat) "CutStore$PairTable" "mostFirst" "I") ∈ gTs := gTs_mem (i := 250) (by decide +kernel) rfl
theorem wd_251 : (Jvm.Cond.fieldLink "CutStore$PairTable" (38 : Nat) "CutStore$PairTable" "mostSecond" "I") ∈ gTs := gTs_mem (i := 251) (by decide +kernel) rfl
theorem wd_252 : (Jvm.Cond.fieldLink "CutStore$Supers" (56 : Nat) "CutStore$PairTable" "mostSecond" "I") ∈ gTs := gTs_mem (i := 252) (by decide +kernel) rfl
theorem wd_253 : (Jvm.Cond.laysFinal "CutStore$PairTable" "CutStore$PairTable" "keys" "[I") ∈ gTs := gTs_mem (i := 253) (by decide +kernel) rfl
theorem wd_255 : (Jvm.Cond.laysFinal "CutStore$PairTable" "CutStore$PairTable" "counts" "[I") ∈ gTs := gTs_mem (i := 255) (by decide +kernel) rfl
theorem wd_257 : (Jvm.Cond.laysFinal "CutStore$PairTable" "CutStore$PairTable" "rounds" "[I") ∈ gTs := gTs_mem (i := 257) (by decide +kernel) rfl
theorem wd_259 : (Jvm.Cond.lays "CutStore$PairTable" "CutStore$PairTable" "round" "I") ∈ gTs := gTs_mem (i := 259) (by decide +kernel) rfl
theorem wd_261 : (Jvm.Cond.lays "CutStore$PairTable" "CutStore$PairTable" "mostKey" "I") ∈ gTs := gTs_mem (i := 261) (by decide +kernel) rfl
theorem wd_263 : (Jvm.Cond.lays "CutStore$PairTable" "CutStore$PairTable" "most" "I") ∈ gTs := gTs_mem (i := 263) (by decide +kernel) rfl
theorem wd_265 : (Jvm.Cond.lays "CutStore$PairTable" "CutStore$PairTable" "mostFirst" "I") ∈ gTs := gTs_mem (i := 265) (by decide +kernel) rfl
theorem wd_267 : (Jvm.Cond.lays "CutStore$PairTable" "CutStore$PairTable" "mostSecond" "I") ∈ gTs := gTs_mem (i := 267) (by decide +kernel) rfl
theorem wd_270 : (Jvm.Cond.fieldLink "CutStore$Supers" (9 : Nat) "CutStore$Supers" "line" "[I") ∈ gTs := gTs_mem (i := 270) (by decide +kernel) rfl
theorem wd_271 : (Jvm.Cond.fieldLink "CutStore$Supers" (31 : Nat) "CutStore$Supers" "length" "I") ∈ gTs := gTs_mem (i := 271) (by decide +kernel) rfl
theorem wd_272 : (Jvm.Cond.fieldLink "CutStore$Supers" (35 : Nat) "CutStore$Supers" "rows" "I") ∈ gTs := gTs_mem (i := 272) (by decide +kernel) rfl
theorem wd_273 : (Jvm.Cond.fieldLink "CutStore$Supers" (18 : Nat) "CutStore$Supers" "table" "LCutStore$PairTable;") ∈ gTs := gTs_mem (i := 273) (by decide +kernel) rfl
theorem wd_274 : (Jvm.Cond.fieldLink "CutStore$Supers" (22 : Nat) "CutStore$Supers" "firsts" "[I") ∈ gTs := gTs_mem (i := 274) (by decide +kernel) rfl
theorem wd_275 : (Jvm.Cond.fieldLink "CutStore" (227 : Nat) "CutStore$Supers" "firsts" "[I") ∈ gTs := gTs_mem (i := 275) (by decide +kernel) rfl
theorem wd_276 : (Jvm.Cond.fieldLink "CutStore$Supers" (25 : Nat) "CutStore$Supers" "seconds" "[I") ∈ gTs := gTs_mem (i := 276) (by decide +kernel) rfl
theorem wd_277 : (Jvm.Cond.fieldLink "CutStore" (230 : Nat) "CutStore$Supers" "seconds" "[I") ∈ gTs := gTs_mem (i := 277) (by decide +kernel) rfl
theorem wd_278 : (Jvm.Cond.fieldLink "CutStore$Supers" (28 : Nat) "CutStore$Supers" "takes" "[I") ∈ gTs := gTs_mem (i := 278) (by decide +kernel) rfl
theorem wd_279 : (Jvm.Cond.fieldLink "CutStore" (233 : Nat) "CutStore$Supers" "takes" "[I") ∈ gTs := gTs_mem (i := 279) (by decide +kernel) rfl
theorem wd_280 : (Jvm.Cond.fieldLink "CutStore$Supers" (38 : Nat) "CutStore$Supers" "made" "I") ∈ gTs := gTs_mem (i := 280) (by decide +kernel) rfl
theorem wd_281 : (Jvm.Cond.fieldLink "CutStore" (224 : Nat) "CutStore$Supers" "made" "I") ∈ gTs := gTs_mem (i := 281) (by decide +kernel) rfl
theorem wd_282 : (Jvm.Cond.laysFinal "CutStore$Supers" "CutStore$Supers" "line" "[I") ∈ gTs := gTs_mem (i := 282) (by decide +kernel) rfl
theorem wd_284 : (Jvm.Cond.lays "CutStore$Supers" "CutStore$Supers" "length" "I") ∈ gTs := gTs_mem (i := 284) (by decide +kernel) rfl
theorem wd_286 : (Jvm.Cond.lays "CutStore$Supers" "CutStore$Supers" "rows" "I") ∈ gTs := gTs_mem (i := 286) (by decide +kernel) rfl
theorem wd_288 : (Jvm.Cond.laysFinal "CutStore$Supers" "CutStore$Supers" "table" "LCutStore$PairTable;") ∈ gTs := gTs_mem (i := 288) (by decide +kernel) rfl
theorem wd_290 : (Jvm.Cond.laysFinal "CutStore$Supers" "CutStore$Supers" "firsts" "[I") ∈ gTs := gTs_mem (i := 290) (by decide +kernel) rfl
theorem wd_292 : (Jvm.Cond.laysFinal "CutStore$Supers" "CutStore$Supers" "seconds" "[I") ∈ gTs := gTs_mem (i := 292) (by decide +kernel) rfl
theorem wd_294 : (Jvm.Cond.laysFinal "CutStore$Supers" "CutStore$Supers" "takes" "[I") ∈ gTs := gTs_mem (i := 294) (by decide +kernel) rfl
theorem wd_296 : (Jvm.Cond.lays "CutStore$Supers" "CutStore$Supers" "made" "I") ∈ gTs := gTs_mem (i := 296) (by decide +kernel) rfl
theorem wd_299 : (Jvm.Cond.fieldLink "CutStore" (12 : Nat) "CutStore" "files" "LCutStore$Files;") ∈ gTs := gTs_mem (i := 299) (by decide +kernel) rfl
theorem wd_300 : (Jvm.Cond.fieldLink "CutStore" (19 : Nat) "CutStore" "tape" "LCutStore$Tape;") ∈ gTs := gTs_mem (i := 300) (by decide +kernel) rfl
theorem wd_301 : (Jvm.Cond.fieldLink "CutStore" (25 : Nat) "CutStore" "rules" "[LCutStore$Rule;") ∈ gTs := gTs_mem (i := 301) (by decide +kernel) rfl
theorem wd_302 : (Jvm.Cond.fieldLink "CutStore" (35 : Nat) "CutStore" "cutter" "LCutStore$Cutter;") ∈ gTs := gTs_mem (i := 302) (by decide +kernel) rfl
theorem wd_303 : (Jvm.Cond.fieldLink "CutStore" (39 : Nat) "CutStore" "otherCutter" "LCutStore$Cutter;") ∈ gTs := gTs_mem (i := 303) (by decide +kernel) rfl
theorem wd_304 : (Jvm.Cond.fieldLink "CutStore" (45 : Nat) "CutStore" "distinct" "LCutStore$Distinct;") ∈ gTs := gTs_mem (i := 304) (by decide +kernel) rfl
theorem wd_305 : (Jvm.Cond.fieldLink "CutStore" (52 : Nat) "CutStore" "store" "LCutStore$Store;") ∈ gTs := gTs_mem (i := 305) (by decide +kernel) rfl
theorem wd_306 : (Jvm.Cond.fieldLink "CutStore" (59 : Nat) "CutStore" "latest" "LCutStore$Supers;") ∈ gTs := gTs_mem (i := 306) (by decide +kernel) rfl
theorem wd_307 : (Jvm.Cond.fieldLink "CutStore" (63 : Nat) "CutStore" "entry" "I") ∈ gTs := gTs_mem (i := 307) (by decide +kernel) rfl
theorem wd_308 : (Jvm.Cond.fieldLink "CutStore" (67 : Nat) "CutStore" "pointer" "I") ∈ gTs := gTs_mem (i := 308) (by decide +kernel) rfl
theorem wd_309 : (Jvm.Cond.laysFinal "CutStore" "CutStore" "files" "LCutStore$Files;") ∈ gTs := gTs_mem (i := 309) (by decide +kernel) rfl
theorem wd_311 : (Jvm.Cond.laysFinal "CutStore" "CutStore" "tape" "LCutStore$Tape;") ∈ gTs := gTs_mem (i := 311) (by decide +kernel) rfl
theorem wd_313 : (Jvm.Cond.laysFinal "CutStore" "CutStore" "rules" "[LCutStore$Rule;") ∈ gTs := gTs_mem (i := 313) (by decide +kernel) rfl
theorem wd_315 : (Jvm.Cond.laysFinal "CutStore" "CutStore" "cutter" "LCutStore$Cutter;") ∈ gTs := gTs_mem (i := 315) (by decide +kernel) rfl
theorem wd_317 : (Jvm.Cond.laysFinal "CutStore" "CutStore" "otherCutter" "LCutStore$Cutter;") ∈ gTs := gTs_mem (i := 317) (by decide +kernel) rfl
theorem wd_319 : (Jvm.Cond.laysFinal "CutStore" "CutStore" "distinct" "LCutStore$Distinct;") ∈ gTs := gTs_mem (i := 319) (by decide +kernel) rfl
theorem wd_321 : (Jvm.Cond.laysFinal "CutStore" "CutStore" "store" "LCutStore$Store;") ∈ gTs := gTs_mem (i := 321) (by decide +kernel) rfl
theorem wd_323 : (Jvm.Cond.laysFinal "CutStore" "CutStore" "latest" "LCutStore$Supers;") ∈ gTs := gTs_mem (i := 323) (by decide +kernel) rfl
theorem wd_325 : (Jvm.Cond.lays "CutStore" "CutStore" "entry" "I") ∈ gTs := gTs_mem (i := 325) (by decide +kernel) rfl
theorem wd_327 : (Jvm.Cond.lays "CutStore" "CutStore" "pointer" "I") ∈ gTs := gTs_mem (i := 327) (by decide +kernel) rfl
theorem wd_330 : (Jvm.Cond.methodLink "CutStoreLaw" (13 : Nat) ({ cls := "CutStore", name := "feed", desc := "(IIIII)I" } : Jvm.MethodName)) ∈ gTs := gTs_mem (i := 330) (by decide +kernel) rfl
theorem wd_331 : (Jvm.Cond.instanceMethod ({ cls := "CutStore", name := "feed", desc := "(IIIII)I" } : Jvm.MethodName)) ∈ gTs := gTs_mem (i := 331) (by decide +kernel) rfl
theorem wd_332 : (Jvm.Cond.selects "CutStore" ({ cls := "CutStore", name := "feed", desc := "(IIIII)I" } : Jvm.MethodName) ({ cls := "CutStore", name := "feed", desc := "(IIIII)I" } : Jvm.MethodName)) ∈ gTs := gTs_mem (i := 332) (by decide +kernel) rfl
theorem wd_333 : (Jvm.Cond.code ({ cls := "CutStore", name := "feed", desc := "(IIIII)I" } : Jvm.MethodName) prog_1_method_2_code (6 : Nat) (Option.some Jvm.ClassFile.FieldType.int)) ∈ gTs := gTs_mem (i := 333) (by decide +kernel) rfl
theorem wd_334 : (Jvm.Cond.methodLink "CutStore" (73 : Nat) ({ cls := "CutStore$Tape", name := "addNumber", desc := "(I)V" } : Jvm.MethodName)) ∈ gTs := gTs_mem (i := 334) (by decide +kernel) rfl
theorem wd_335 : (Jvm.Cond.instanceMethod ({ cls := "CutStore$Tape", name := "addNumber", desc := "(I)V" } : Jvm.MethodName)) ∈ gTs := gTs_mem (i := 335) (by decide +kernel) rfl
theorem wd_336 : (Jvm.Cond.selects "CutStore$Tape" ({ cls := "CutStore$Tape", name := "addNumber", desc := "(I)V" } : Jvm.MethodName) ({ cls := "CutStore$Tape", name := "addNumber", desc := "(I)V" } : Jvm.MethodName)) ∈ gTs := gTs_mem (i := 336) (by decide +kernel) rfl
theorem wd_337 : (Jvm.Cond.code ({ cls := "CutStore$Tape", name := "addNumber", desc := "(I)V" } : Jvm.MethodName) prog_9_method_2_code (3 : Nat) (Option.none : Option Jvm.ClassFile.FieldType)) ∈ gTs := gTs_mem (i := 337) (by decide +kernel) rfl
theorem wd_338 : (Jvm.Cond.methodLink "CutStoreLaw" (18 : Nat) ({ cls := "CutStore", name := "end", desc := "(I)Z" } : Jvm.MethodName)) ∈ gTs := gTs_mem (i := 338) (by decide +kernel) rfl
theorem wd_339 : (Jvm.Cond.instanceMethod ({ cls := "CutStore", name := "end", desc := "(I)Z" } : Jvm.MethodName)) ∈ gTs := gTs_mem (i := 339) (by decide +kernel) rfl
theorem wd_340 : (Jvm.Cond.selects "CutStore" ({ cls := "CutStore", name := "end", desc := "(I)Z" } : Jvm.MethodName) ({ cls := "CutStore", name := "end", desc := "(I)Z" } : Jvm.MethodName)) ∈ gTs := gTs_mem (i := 340) (by decide +kernel) rfl
theorem wd_341 : (Jvm.Cond.code ({ cls := "CutStore", name := "end", desc := "(I)Z" } : Jvm.MethodName) prog_1_method_3_code (2 : Nat) (Option.some Jvm.ClassFile.FieldType.boolean)) ∈ gTs := gTs_mem (i := 341) (by decide +kernel) rfl
theorem wd_342 : (Jvm.Cond.methodLink "CutStoreLaw" (23 : Nat) ({ cls := "CutStore", name := "edit", desc := "(III)I" } : Jvm.MethodName)) ∈ gTs := gTs_mem (i := 342) (by decide +kernel) rfl
theorem wd_343 : (Jvm.Cond.instanceMethod ({ cls := "CutStore", name := "edit", desc := "(III)I" } : Jvm.MethodName)) ∈ gTs := gTs_mem (i := 343) (by decide +kernel) rfl
theorem wd_344 : (Jvm.Cond.selects "CutStore" ({ cls := "CutStore", name := "edit", desc := "(III)I" } : Jvm.MethodName) ({ cls := "CutStore", name := "edit", desc := "(III)I" } : Jvm.MethodName)) ∈ gTs := gTs_mem (i := 344) (by decide +kernel) rfl
theorem wd_345 : (Jvm.Cond.code ({ cls := "CutStore", name := "edit", desc := "(III)I" } : Jvm.MethodName) prog_1_method_4_code (4 : Nat) (Option.some Jvm.ClassFile.FieldType.int)) ∈ gTs := gTs_mem (i := 345) (by decide +kernel) rfl
theorem wd_346 : (Jvm.Cond.methodLink "CutStore" (77 : Nat) ({ cls := "CutStore", name := "isFile", desc := "(I)Z" } : Jvm.MethodName)) ∈ gTs := gTs_mem (i := 346) (by decide +kernel) rfl
theorem wd_347 : (Jvm.Cond.static ({ cls := "CutStore", name := "isFile", desc := "(I)Z" } : Jvm.MethodName)) ∈ gTs := gTs_mem (i := 347) (by decide +kernel) rfl
theorem wd_348 : (Jvm.Cond.code ({ cls := "CutStore", name := "isFile", desc := "(I)Z" } : Jvm.MethodName) prog_1_method_29_code (1 : Nat) (Option.some Jvm.ClassFile.FieldType.boolean)) ∈ gTs := gTs_mem (i := 348) (by decide +kernel) rfl
theorem wd_349 : (Jvm.Cond.methodLink "CutStore" (85 : Nat) ({ cls := "CutStore", name := "isWithin", desc := "(III)Z" } : Jvm.MethodName)) ∈ gTs := gTs_mem (i := 349) (by decide +kernel) rfl
theorem wd_350 : (Jvm.Cond.static ({ cls := "CutStore", name := "isWithin", desc := "(III)Z" } : Jvm.MethodName)) ∈ gTs := gTs_mem (i := 350) (by decide +kernel) rfl
theorem wd_351 : (Jvm.Cond.code ({ cls := "CutStore", name := "isWithin", desc := "(III)Z" } : Jvm.MethodName) prog_1_method_28_code (3 : Nat) (Option.some Jvm.ClassFile.FieldType.boolean)) ∈ gTs := gTs_mem (i := 351) (by decide +kernel) rfl
theorem wd_352 : (Jvm.Cond.methodLink "CutStore" (89 : Nat) ({ cls := "CutStore$Files", name := "replace", desc := "(IIILCutStore$Tape;)V" } : Jvm.MethodName)) ∈ gTs := gTs_mem (i := 352) (by decide +kernel) rfl
theorem wd_353 : (Jvm.Cond.instanceMethod ({ cls := "CutStore$Files", name := "replace", desc := "(IIILCutStore$Tape;)V" } : Jvm.MethodName)) ∈ gTs := gTs_mem (i := 353) (by decide +kernel) rfl
theorem wd_354 : (Jvm.Cond.selects "CutStore$Files" ({ cls := "CutStore$Files", name := "replace", desc := "(IIILCutStore$Tape;)V" } : Jvm.MethodName) ({ cls := "CutStore$Files", name := "replace", desc := "(IIILCutStore$Tape;)V" } : Jvm.MethodName)) ∈ gTs := gTs_mem (i := 354) (by decide +kernel) rfl
theorem wd_355 : (Jvm.Cond.code ({ cls := "CutStore$Files", name := "replace", desc := "(IIILCutStore$Tape;)V" } : Jvm.MethodName) prog_4_method_7_code (7 : Nat) (Option.none : Option Jvm.ClassFile.FieldType)) ∈ gTs := gTs_mem (i := 355) (by decide +kernel) rfl
theorem wd_356 : (Jvm.Cond.methodLink "CutStore$Files" (19 : Nat) ({ cls := "CutStore$Files", name := "startOf", desc := "(I)I" } : Jvm.MethodName)) ∈ gTs := gTs_mem (i := 356) (by decide +kernel) rfl
theorem wd_357 : (Jvm.Cond.instanceMethod ({ cls := "CutStore$Files", name := "startOf", desc := "(I)I" } : Jvm.MethodName)) ∈ gTs := gTs_mem (i := 357) (by decide +kernel) rfl
theorem wd_358 : (Jvm.Cond.selects "CutStore$Files" ({ cls := "CutStore$Files", name := "startOf", desc := "(I)I" } : Jvm.MethodName) ({ cls := "CutStore$Files", name := "startOf", desc := "(I)I" } : Jvm.MethodName)) ∈ gTs := gTs_mem (i := 358) (by decide +kernel) rfl
theorem wd_359 : (Jvm.Cond.code ({ cls := "CutStore$Files", name := "startOf", desc := "(I)I" } : Jvm.MethodName) prog_4_method_2_code (2 : Nat) (Option.some Jvm.ClassFile.FieldType.int)) ∈ gTs := gTs_mem (i := 359) (by decide +kernel) rfl
theorem wd_360 : (Jvm.Cond.methodLink "CutStore$Files" (23 : Nat) ({ cls := "java/lang/System", name := "arraycopy", desc := "(Ljava/lang/Object;ILjava/lang/Object;II)V" } : Jvm.MethodName)) ∈ gTs := gTs_mem (i := 360) (by decide +kernel) rfl
theorem wd_361 : (Jvm.Cond.static ({ cls := "java/lang/System", name := "arraycopy", desc := "(Ljava/lang/Object;ILjava/lang/Object;II)V" } : Jvm.MethodName)) ∈ gTs := gTs_mem (i := 361) (by decide +kernel) rfl
theorem wd_362 : (Jvm.Cond.native ({ cls := "java/lang/System", name := "arraycopy", desc := "(Ljava/lang/Object;ILjava/lang/Object;II)V" } : Jvm.MethodName)) ∈ gTs := gTs_mem (i := 362) (by decide +kernel) rfl
theorem wd_363 : (Jvm.Cond.methodLink "CutStoreLaw" (28 : Nat) ({ cls := "CutStore", name := "sow", desc := "(IIII)I" } : Jvm.MethodName)) ∈ gTs := gTs_mem (i := 363) (by decide +kernel) rfl
theorem wd_364 : (Jvm.Cond.instanceMethod ({ cls := "CutStore", name := "sow", desc := "(IIII)I" } : Jvm.MethodName)) ∈ gTs := gTs_mem (i := 364) (by decide +kernel) rfl
theorem wd_365 : (Jvm.Cond.selects "CutStore" ({ cls := "CutStore", name := "sow", desc := "(IIII)I" } : Jvm.MethodName) ({ cls := "CutStore", name := "sow", desc := "(IIII)I" } : Jvm.MethodName)) ∈ gTs := gTs_mem (i := 365) (by decide +kernel) rfl
theorem wd_366 : (Jvm.Cond.code ({ cls := "CutStore", name := "sow", desc := "(IIII)I" } : Jvm.MethodName) prog_1_method_5_code (7 : Nat) (Option.some Jvm.ClassFile.FieldType.int)) ∈ gTs := gTs_mem (i := 366) (by decide +kernel) rfl
theorem wd_367 : (Jvm.Cond.constant "CutStore" (93 : Nat) (1103515245 : Int32)) ∈ gTs := gTs_mem (i := 367) (by decide +kernel) rfl
theorem wd_368 : (Jvm.Cond.methodLink "CutStore" (94 : Nat) ({ cls := "CutStore$Files", name := "addByte", desc := "(II)V" } : Jvm.MethodName)) ∈ gTs := gTs_mem (i := 368) (by decide +kernel) rfl
theorem wd_369 : (Jvm.Cond.instanceMethod ({ cls := "CutStore$Files", name := "addByte", desc := "(II)V" } : Jvm.MethodName)) ∈ gTs := gTs_mem (i := 369) (by decide +kernel) rfl
theorem wd_370 : (Jvm.Cond.selects "CutStore$Files" ({ cls := "CutStore$Files", name := "addByte", desc := "(II)V" } : Jvm.MethodName) ({ cls := "CutStore$Files", name := "addByte", desc := "(II)V" } : Jvm.MethodName)) ∈ gTs := gTs_mem (i := 370) (by decide +kernel) rfl
theorem wd_371 : (Jvm.Cond.code ({ cls := "CutStore$Files", name := "addByte", desc := "(II)V" } : Jvm.MethodName) prog_4_method_4_code (3 : Nat) (Option.none : Option Jvm.ClassFile.FieldType)) ∈ gTs := gTs_mem (i := 371) (by decide +kernel) rfl
theorem wd_372 : (Jvm.Cond.methodLink "CutStoreLaw" (33 : Nat) ({ cls := "CutStore", name := "copy", desc := "(II)I" } : Jvm.MethodName)) ∈ gTs := gTs_mem (i := 372) (by decide +kernel) rfl
theorem wd_373 : (Jvm.Cond.instanceMethod ({ cls := "CutStore", name := "copy", desc := "(II)I" } : Jvm.MethodName)) ∈ gTs := gTs_mem (i := 373) (by decide +kernel) rfl
theorem wd_374 : (Jvm.Cond.selects "CutStore" ({ cls := "CutStore", name := "copy", desc := "(II)I" } : Jvm.MethodName) ({ cls := "CutStore", name := "copy", desc := "(II)I" } : Jvm.MethodName)) ∈ gTs := gTs_mem (i := 374) (by decide +kernel) rfl
theorem wd_375 : (Jvm.Cond.code ({ cls := "CutStore", name := "copy", desc := "(II)I" } : Jvm.MethodName) prog_1_method_6_code (3 : Nat) (Option.some Jvm.ClassFile.FieldType.int)) ∈ gTs := gTs_mem (i := 375) (by decide +kernel) rfl
theorem wd_376 : (Jvm.Cond.methodLink "CutStore" (98 : Nat) ({ cls := "CutStore$Files", name := "duplicate", desc := "(II)V" } : Jvm.MethodName)) ∈ gTs := gTs_mem (i := 376) (by decide +kernel) rfl
theorem wd_377 : (Jvm.Cond.instanceMethod ({ cls := "CutStore$Files", name := "duplicate", desc := "(II)V" } : Jvm.MethodName)) ∈ gTs := gTs_mem (i := 377) (by decide +kernel) rfl
theorem wd_378 : (Jvm.Cond.selects "CutStore$Files" ({ cls := "CutStore$Files", name := "duplicate", desc := "(II)V" } : Jvm.MethodName) ({ cls := "CutStore$Files", name := "duplicate", desc := "(II)V" } : Jvm.MethodName)) ∈ gTs := gTs_mem (i := 378) (by decide +kernel) rfl
theorem wd_379 : (Jvm.Cond.code ({ cls := "CutStore$Files", name := "duplicate", desc := "(II)V" } : Jvm.MethodName) prog_4_method_6_code (3 : Nat) (Option.none : Option Jvm.ClassFile.FieldType)) ∈ gTs := gTs_mem (i := 379) (by decide +kernel) rfl
theorem wd_380 : (Jvm.Cond.methodLink "CutStoreLaw" (38 : Nat) ({ cls := "CutStore", name := "at", desc := "(II)I" } : Jvm.MethodName)) ∈ gTs := gTs_mem (i := 380) (by decide +kernel) rfl
theorem wd_381 : (Jvm.Cond.instanceMethod ({ cls := "CutStore", name := "at", desc := "(II)I" } : Jvm.MethodName)) ∈ gTs := gTs_mem (i := 381) (by decide +kernel) rfl
theorem wd_382 : (Jvm.Cond.selects "CutStore" ({ cls := "CutStore", name := "at", desc := "(II)I" } : Jvm.MethodName) ({ cls := "CutStore", name := "at", desc := "(II)I" } : Jvm.MethodName)) ∈ gTs := gTs_mem (i := 382) (by decide +kernel) rfl
theorem wd_383 : (Jvm.Cond.code ({ cls := "CutStore", name := "at", desc := "(II)I" } : Jvm.MethodName) prog_1_method_7_code (3 : Nat) (Option.some Jvm.ClassFile.FieldType.int)) ∈ gTs := gTs_mem (i := 383) (by decide +kernel) rfl
theorem wd_384 : (Jvm.Cond.methodLink "CutStore" (101 : Nat) ({ cls := "CutStore", name := "isPlace", desc := "(II)Z" } : Jvm.MethodName)) ∈ gTs := gTs_mem (i := 384) (by decide +kernel) rfl
theorem wd_386 : (Jvm.Cond.instanceMethod ({ cls := "CutStore", name := "isPlace", desc := "(II)Z" } : Jvm.MethodName)) ∈ gTs := gTs_mem (i := 386) (by decide +kernel) rfl
theorem wd_387 : (Jvm.Cond.code ({ cls := "CutStore", name := "isPlace", desc := "(II)Z" } : Jvm.MethodName) prog_1_method_33_code (3 : Nat) (Option.some Jvm.ClassFile.FieldType.boolean)) ∈ gTs := gTs_mem (i := 387) (by decide +kernel) rfl
theorem wd_388 : (Jvm.Cond.methodLink "CutStore" (105 : Nat) ({ cls := "CutStore$Files", name := "byteAt", desc := "(II)I" } : Jvm.MethodName)) ∈ gTs := gTs_mem (i := 388) (by decide +kernel) rfl
theorem wd_389 : (Jvm.Cond.instanceMethod ({ cls := "CutStore$Files", name := "byteAt", desc := "(II)I" } : Jvm.MethodName)) ∈ gTs := gTs_mem (i := 389) (by decide +kernel) rfl
theorem wd_390 : (Jvm.Cond.selects "CutStore$Files" ({ cls := "CutStore$Files", name := "byteAt", desc := "(II)I" } : Jvm.MethodName) ({ cls := "CutStore$Files", name := "byteAt", desc := "(II)I" } : Jvm.MethodName)) ∈ gTs := gTs_mem (i := 390) (by decide +kernel) rfl
theorem wd_391 : (Jvm.Cond.code ({ cls := "CutStore$Files", name := "byteAt", desc := "(II)I" } : Jvm.MethodName) prog_4_method_3_code (3 : Nat) (Option.some Jvm.ClassFile.FieldType.int)) ∈ gTs := gTs_mem (i := 391) (by decide +kernel) rfl
theorem wd_392 : (Jvm.Cond.methodLink "CutStoreLaw" (42 : Nat) ({ cls := "CutStore", name := "fixed", desc := "(II)Z" } : Jvm.MethodName)) ∈ gTs := gTs_mem (i := 392) (by decide +kernel) rfl
theorem wd_393 : (Jvm.Cond.instanceMethod ({ cls := "CutStore", name := "fixed", desc := "(II)Z" } : Jvm.MethodName)) ∈ gTs := gTs_mem (i := 393) (by decide +kernel) rfl
theorem wd_394 : (Jvm.Cond.selects "CutStore" ({ cls := "CutStore", name := "fixed", desc := "(II)Z" } : Jvm.MethodName) ({ cls := "CutStore", name := "fixed", desc := "(II)Z" } : Jvm.MethodName)) ∈ gTs := gTs_mem (i := 394) (by decide +kernel) rfl
theorem wd_395 : (Jvm.Cond.code ({ cls := "CutStore", name := "fixed", desc := "(II)Z" } : Jvm.MethodName) prog_1_method_8_code (3 : Nat) (Option.some Jvm.ClassFile.FieldType.boolean)) ∈ gTs := gTs_mem (i := 395) (by decide +kernel) rfl
theorem wd_396 : (Jvm.Cond.methodLink "CutStore" (109 : Nat) ({ cls := "CutStore", name := "isRule", desc := "(I)Z" } : Jvm.MethodName)) ∈ gTs := gTs_mem (i := 396) (by decide +kernel) rfl
theorem wd_397 : (Jvm.Cond.static ({ cls := "CutStore", name := "isRule", desc := "(I)Z" } : Jvm.MethodName)) ∈ gTs := gTs_mem (i := 397) (by decide +kernel) rfl
theorem wd_398 : (Jvm.Cond.code ({ cls := "CutStore", name := "isRule", desc := "(I)Z" } : Jvm.MethodName) prog_1_method_30_code (1 : Nat) (Option.some Jvm.ClassFile.FieldType.boolean)) ∈ gTs := gTs_mem (i := 398) (by decide +kernel) rfl
theorem wd_399 : (Jvm.Cond.methodLink "CutStore" (112 : Nat) ({ cls := "CutStore$Rule", name := "become", desc := "(IIII)V" } : Jvm.MethodName)) ∈ gTs := gTs_mem (i := 399) (by decide +kernel) rfl
theorem wd_400 : (Jvm.Cond.instanceMethod ({ cls := "CutStore$Rule", name := "become", desc := "(IIII)V" } : Jvm.MethodName)) ∈ gTs := gTs_mem (i := 400) (by decide +kernel) rfl
theorem wd_401 : (Jvm.Cond.selects "CutStore$Rule" ({ cls := "CutStore$Rule", name := "become", desc := "(IIII)V" } : Jvm.MethodName) ({ cls := "CutStore$Rule", name := "become", desc := "(IIII)V" } : Jvm.MethodName)) ∈ gTs := gTs_mem (i := 401) (by decide +kernel) rfl
theorem wd_402 : (Jvm.Cond.code ({ cls := "CutStore$Rule", name := "become", desc := "(IIII)V" } : Jvm.MethodName) prog_6_method_2_code (5 : Nat) (Option.none : Option Jvm.ClassFile.FieldType)) ∈ gTs := gTs_mem (i := 402) (by decide +kernel) rfl
theorem wd_403 : (Jvm.Cond.methodLink "CutStoreLaw" (47 : Nat) ({ cls := "CutStore", name := "rolling", desc := "(IZIIIII)Z" } : Jvm.MethodName)) ∈ gTs := gTs_mem (i := 403) (by decide +kernel) rfl
theorem wd_404 : (Jvm.Cond.instanceMethod ({ cls := "CutStore", name := "rolling", desc := "(IZIIIII)Z" } : Jvm.MethodName)) ∈ gTs := gTs_mem (i := 404) (by decide +kernel) rfl
theorem wd_405 : (Jvm.Cond.selects "CutStore" ({ cls := "CutStore", name := "rolling", desc := "(IZIIIII)Z" } : Jvm.MethodName) ({ cls := "CutStore", name := "rolling", desc := "(IZIIIII)Z" } : Jvm.MethodName)) ∈ gTs := gTs_mem (i := 405) (by decide +kernel) rfl
theorem wd_406 : (Jvm.Cond.code ({ cls := "CutStore", name := "rolling", desc := "(IZIIIII)Z" } : Jvm.MethodName) prog_1_method_9_code (8 : Nat) (Option.some Jvm.ClassFile.FieldType.boolean)) ∈ gTs := gTs_mem (i := 406) (by decide +kernel) rfl
theorem wd_407 : (Jvm.Cond.methodLink "CutStore" (116 : Nat) ({ cls := "CutStore", name := "isMarkRule", desc := "(III)Z" } : Jvm.MethodName)) ∈ gTs := gTs_mem (i := 407) (by decide +kernel) rfl
theorem wd_408 : (Jvm.Cond.static ({ cls := "CutStore", name := "isMarkRule", desc := "(III)Z" } : Jvm.MethodName)) ∈ gTs := gTs_mem (i := 408) (by decide +kernel) rfl
theorem wd_409 : (Jvm.Cond.code ({ cls := "CutStore", name := "isMarkRule", desc := "(III)Z" } : Jvm.MethodName) prog_1_method_31_code (3 : Nat) (Option.some Jvm.ClassFile.FieldType.boolean)) ∈ gTs := gTs_mem (i := 409) (by decide +kernel) rfl
theorem wd_410 : (Jvm.Cond.methodLink "CutStore" (119 : Nat) ({ cls := "CutStore$Rule", name := "roll", desc := "(II)V" } : Jvm.MethodName)) ∈ gTs := gTs_mem (i := 410) (by decide +kernel) rfl
theorem wd_411 : (Jvm.Cond.instanceMethod ({ cls := "CutStore$Rule", name := "roll", desc := "(II)V" } : Jvm.MethodName)) ∈ gTs := gTs_mem (i := 411) (by decide +kernel) rfl
theorem wd_412 : (Jvm.Cond.selects "CutStore$Rule" ({ cls := "CutStore$Rule", name := "roll", desc := "(II)V" } : Jvm.MethodName) ({ cls := "CutStore$Rule", name := "roll", desc := "(II)V" } : Jvm.MethodName)) ∈ gTs := gTs_mem (i := 412) (by decide +kernel) rfl
theorem wd_413 : (Jvm.Cond.code ({ cls := "CutStore$Rule", name := "roll", desc := "(II)V" } : Jvm.MethodName) prog_6_method_3_code (3 : Nat) (Option.none : Option Jvm.ClassFile.FieldType)) ∈ gTs := gTs_mem (i := 413) (by decide +kernel) rfl
theorem wd_414 : (Jvm.Cond.methodLink "CutStoreLaw" (52 : Nat) ({ cls := "CutStore", name := "told", desc := "(IIII)Z" } : Jvm.MethodName)) ∈ gTs := gTs_mem (i := 414) (by decide +kernel) rfl
theorem wd_415 : (Jvm.Cond.instanceMethod ({ cls := "CutStore", name := "told", desc := "(IIII)Z" } : Jvm.MethodName)) ∈ gTs := gTs_mem (i := 415) (by decide +kernel) rfl
theorem wd_416 : (Jvm.Cond.selects "CutStore" ({ cls := "CutStore", name := "told", desc := "(IIII)Z" } : Jvm.MethodName) ({ cls := "CutStore", name := "told", desc := "(IIII)Z" } : Jvm.MethodName)) ∈ gTs := gTs_mem (i := 416) (by decide +kernel) rfl
theorem wd_417 : (Jvm.Cond.code ({ cls := "CutStore", name := "told", desc := "(IIII)Z" } : Jvm.MethodName) prog_1_method_10_code (5 : Nat) (Option.some Jvm.ClassFile.FieldType.boolean)) ∈ gTs := gTs_mem (i := 417) (by decide +kernel) rfl
theorem wd_418 : (Jvm.Cond.methodLink "CutStoreLaw" (57 : Nat) ({ cls := "CutStore", name := "sum", desc := "(III)I" } : Jvm.MethodName)) ∈ gTs := gTs_mem (i := 418) (by decide +kernel) rfl
theorem wd_419 : (Jvm.Cond.instanceMethod ({ cls := "CutStore", name := "sum", desc := "(III)I" } : Jvm.MethodName)) ∈ gTs := gTs_mem (i := 419) (by decide +kernel) rfl
theorem wd_420 : (Jvm.Cond.selects "CutStore" ({ cls := "CutStore", name := "sum", desc := "(III)I" } : Jvm.MethodName) ({ cls := "CutStore", name := "sum", desc := "(III)I" } : Jvm.MethodName)) ∈ gTs := gTs_mem (i := 420) (by decide +kernel) rfl
theorem wd_421 : (Jvm.Cond.code ({ cls := "CutStore", name := "sum", desc := "(III)I" } : Jvm.MethodName) prog_1_method_11_code (4 : Nat) (Option.some Jvm.ClassFile.FieldType.int)) ∈ gTs := gTs_mem (i := 421) (by decide +kernel) rfl
theorem wd_422 : (Jvm.Cond.methodLink "CutStore" (122 : Nat) ({ cls := "CutStore", name := "isSetRule", desc := "(I)Z" } : Jvm.MethodName)) ∈ gTs := gTs_mem (i := 422) (by decide +kernel) rfl
theorem wd_424 : (Jvm.Cond.instanceMethod ({ cls := "CutStore", name := "isSetRule", desc := "(I)Z" } : Jvm.MethodName)) ∈ gTs := gTs_mem (i := 424) (by decide +kernel) rfl
theorem wd_425 : (Jvm.Cond.code ({ cls := "CutStore", name := "isSetRule", desc := "(I)Z" } : Jvm.MethodName) prog_1_method_32_code (2 : Nat) (Option.some Jvm.ClassFile.FieldType.boolean)) ∈ gTs := gTs_mem (i := 425) (by decide +kernel) rfl
theorem wd_426 : (Jvm.Cond.methodLink "CutStore" (125 : Nat) ({ cls := "CutStore$Rule", name := "hasWindow", desc := "()Z" } : Jvm.MethodName)) ∈ gTs := gTs_mem (i := 426) (by decide +kernel) rfl
theorem wd_427 : (Jvm.Cond.instanceMethod ({ cls := "CutStore$Rule", name := "hasWindow", desc := "()Z" } : Jvm.MethodName)) ∈ gTs := gTs_mem (i := 427) (by decide +kernel) rfl
theorem wd_428 : (Jvm.Cond.selects "CutStore$Rule" ({ cls := "CutStore$Rule", name := "hasWindow", desc := "()Z" } : Jvm.MethodName) ({ cls := "CutStore$Rule", name := "hasWindow", desc := "()Z" } : Jvm.MethodName)) ∈ gTs := gTs_mem (i := 428) (by decide +kernel) rfl
theorem wd_429 : (Jvm.Cond.code ({ cls := "CutStore$Rule", name := "hasWindow", desc := "()Z" } : Jvm.MethodName) prog_6_method_4_code (1 : Nat) (Option.some Jvm.ClassFile.FieldType.boolean)) ∈ gTs := gTs_mem (i := 429) (by decide +kernel) rfl
theorem wd_430 : (Jvm.Cond.methodLink "CutStore" (129 : Nat) ({ cls := "CutStore$Cutter", name := "addUp", desc := "(LCutStore$Rule;I)V" } : Jvm.MethodName)) ∈ gTs := gTs_mem (i := 430) (by decide +kernel) rfl
theorem wd_431 : (Jvm.Cond.instanceMethod ({ cls := "CutStore$Cutter", name := "addUp", desc := "(LCutStore$Rule;I)V" } : Jvm.MethodName)) ∈ gTs := gTs_mem (i := 431) (by decide +kernel) rfl
theorem wd_432 : (Jvm.Cond.selects "CutStore$Cutter" ({ cls := "CutStore$Cutter", name := "addUp", desc := "(LCutStore$Rule;I)V" } : Jvm.MethodName) ({ cls := "CutStore$Cutter", name := "addUp", desc := "(LCutStore$Rule;I)V" } : Jvm.MethodName)) ∈ gTs := gTs_mem (i := 432) (by decide +kernel) rfl
theorem wd_433 : (Jvm.Cond.code ({ cls := "CutStore$Cutter", name := "addUp", desc := "(LCutStore$Rule;I)V" } : Jvm.MethodName) prog_2_method_4_code (6 : Nat) (Option.none : Option Jvm.ClassFile.FieldType)) ∈ gTs := gTs_mem (i := 433) (by decide +kernel) rfl
theorem wd_434 : (Jvm.Cond.methodLink "CutStore$Cutter" (40 : Nat) ({ cls := "CutStore$Files", name := "byteAt", desc := "(II)I" } : Jvm.MethodName)) ∈ gTs := gTs_mem (i := 434) (by decide +kernel) rfl
theorem wd_435 : (Jvm.Cond.constant "CutStore$Cutter" (44 : Nat) (65535 : Int32)) ∈ gTs := gTs_mem (i := 435) (by decide +kernel) rfl
theorem wd_436 : (Jvm.Cond.methodLink "CutStoreLaw" (61 : Nat) ({ cls := "CutStore", name := "cuts", desc := "(II)I" } : Jvm.MethodName)) ∈ gTs := gTs_mem (i := 436) (by decide +kernel) rfl
theorem wd_437 : (Jvm.Cond.instanceMethod ({ cls := "CutStore", name := "cuts", desc := "(II)I" } : Jvm.MethodName)) ∈ gTs := gTs_mem (i := 437) (by decide +kernel) rfl
theorem wd_438 : (Jvm.Cond.selects "CutStore" ({ cls := "CutStore", name := "cuts", desc := "(II)I" } : Jvm.MethodName) ({ cls := "CutStore", name := "cuts", desc := "(II)I" } : Jvm.MethodName)) ∈ gTs := gTs_mem (i := 438) (by decide +kernel) rfl
theorem wd_439 : (Jvm.Cond.code ({ cls := "CutStore", name := "cuts", desc := "(II)I" } : Jvm.MethodName) prog_1_method_12_code (3 : Nat) (Option.some Jvm.ClassFile.FieldType.int)) ∈ gTs := gTs_mem (i := 439) (by decide +kernel) rfl
theorem wd_440 : (Jvm.Cond.methodLink "CutStore" (136 : Nat) ({ cls := "CutStore$Cutter", name := "divide", desc := "(LCutStore$Rule;I)V" } : Jvm.MethodName)) ∈ gTs := gTs_mem (i := 440) (by decide +kernel) rfl
theorem wd_441 : (Jvm.Cond.instanceMethod ({ cls := "CutStore$Cutter", name := "divide", desc := "(LCutStore$Rule;I)V" } : Jvm.MethodName)) ∈ gTs := gTs_mem (i := 441) (by decide +kernel) rfl
theorem wd_442 : (Jvm.Cond.selects "CutStore$Cutter" ({ cls := "CutStore$Cutter", name := "divide", desc := "(LCutStore$Rule;I)V" } : Jvm.MethodName) ({ cls := "CutStore$Cutter", name := "divide", desc := "(LCutStore$Rule;I)V" } : Jvm.MethodName)) ∈ gTs := gTs_mem (i := 442) (by decide +kernel) rfl
theorem wd_443 : (Jvm.Cond.code ({ cls := "CutStore$Cutter", name := "divide", desc := "(LCutStore$Rule;I)V" } : Jvm.MethodName) prog_2_method_5_code (3 : Nat) (Option.none : Option Jvm.ClassFile.FieldType)) ∈ gTs := gTs_mem (i := 443) (by decide +kernel) rfl
theorem wd_444 : (Jvm.Cond.methodLink "CutStore$Cutter" (45 : Nat) ({ cls := "CutStore$Rule", name := "hasWindow", desc := "()Z" } : Jvm.MethodName)) ∈ gTs := gTs_mem (i := 444) (by decide +kernel) rfl
theorem wd_445 : (Jvm.Cond.methodLink "CutStore$Cutter" (49 : Nat) ({ cls := "CutStore$Cutter", name := "addUp", desc := "(LCutStore$Rule;I)V" } : Jvm.MethodName)) ∈ gTs := gTs_mem (i := 445) (by decide +kernel) rfl
theorem wd_446 : (Jvm.Cond.methodLink "CutStore$Cutter" (56 : Nat) ({ cls := "CutStore$Cutter", name := "endOfPiece", desc := "(LCutStore$Rule;I)I" } : Jvm.MethodName)) ∈ gTs := gTs_mem (i := 446) (by decide +kernel) rfl
theorem wd_448 : (Jvm.Cond.instanceMethod ({ cls := "CutStore$Cutter", name := "endOfPiece", desc := "(LCutStore$Rule;I)I" } : Jvm.MethodName)) ∈ gTs := gTs_mem (i := 448) (by decide +kernel) rfl
theorem wd_449 : (Jvm.Cond.code ({ cls := "CutStore$Cutter", name := "endOfPiece", desc := "(LCutStore$Rule;I)I" } : Jvm.MethodName) prog_2_method_6_code (7 : Nat) (Option.some Jvm.ClassFile.FieldType.int)) ∈ gTs := gTs_mem (i := 449) (by decide +kernel) rfl
theorem wd_450 : (Jvm.Cond.methodLink "CutStore$Cutter" (63 : Nat) ({ cls := "java/lang/Math", name := "min", desc := "(II)I" } : Jvm.MethodName)) ∈ gTs := gTs_mem (i := 450) (by decide +kernel) rfl
theorem wd_451 : (Jvm.Cond.static ({ cls := "java/lang/Math", name := "min", desc := "(II)I" } : Jvm.MethodName)) ∈ gTs := gTs_mem (i := 451) (by decide +kernel) rfl
theorem wd_452 : (Jvm.Cond.code ({ cls := "java/lang/Math", name := "min", desc := "(II)I" } : Jvm.MethodName) prog_12_method_69_code (2 : Nat) (Option.some Jvm.ClassFile.FieldType.int)) ∈ gTs := gTs_mem (i := 452) (by decide +kernel) rfl
theorem wd_453 : (Jvm.Cond.methodLink "CutStore$Cutter" (71 : Nat) ({ cls := "CutStore$Rule", name := "endsBehind", desc := "(II)Z" } : Jvm.MethodName)) ∈ gTs := gTs_mem (i := 453) (by decide +kernel) rfl
theorem wd_454 : (Jvm.Cond.instanceMethod ({ cls := "CutStore$Rule", name := "endsBehind", desc := "(II)Z" } : Jvm.MethodName)) ∈ gTs := gTs_mem (i := 454) (by decide +kernel) rfl
theorem wd_455 : (Jvm.Cond.selects "CutStore$Rule" ({ cls := "CutStore$Rule", name := "endsBehind", desc := "(II)Z" } : Jvm.MethodName) ({ cls := "CutStore$Rule", name := "endsBehind", desc := "(II)Z" } : Jvm.MethodName)) ∈ gTs := gTs_mem (i := 455) (by decide +kernel) rfl
theorem wd_456 : (Jvm.Cond.code ({ cls := "CutStore$Rule", name := "endsBehind", desc := "(II)Z" } : Jvm.MethodName) prog_6_method_5_code (3 : Nat) (Option.some Jvm.ClassFile.FieldType.boolean)) ∈ gTs := gTs_mem (i := 456) (by decide +kernel) rfl
theorem wd_457 : (Jvm.Cond.methodLink "CutStore$Rule" (28 : Nat) ({ cls := "CutStore$Rule", name := "hasSign", desc := "(II)Z" } : Jvm.MethodName)) ∈ gTs := gTs_mem (i := 457) (by decide +kernel) rfl
theorem wd_459 : (Jvm.Cond.instanceMethod ({ cls := "CutStore$Rule", name := "hasSign", desc := "(II)Z" } : Jvm.MethodName)) ∈ gTs := gTs_mem (i := 459) (by decide +kernel) rfl
theorem wd_460 : (Jvm.Cond.code ({ cls := "CutStore$Rule", name := "hasSign", desc := "(II)Z" } : Jvm.MethodName) prog_6_method_7_code (4 : Nat) (Option.some Jvm.ClassFile.FieldType.boolean)) ∈ gTs := gTs_mem (i := 460) (by decide +kernel) rfl
theorem wd_461 : (Jvm.Cond.methodLink "CutStore$Cutter" (75 : Nat) ({ cls := "CutStore$Rule", name := "mayEndBehind", desc := "(I)Z" } : Jvm.MethodName)) ∈ gTs := gTs_mem (i := 461) (by decide +kernel) rfl
theorem wd_462 : (Jvm.Cond.instanceMethod ({ cls := "CutStore$Rule", name := "mayEndBehind", desc := "(I)Z" } : Jvm.MethodName)) ∈ gTs := gTs_mem (i := 462) (by decide +kernel) rfl
theorem wd_463 : (Jvm.Cond.selects "CutStore$Rule" ({ cls := "CutStore$Rule", name := "mayEndBehind", desc := "(I)Z" } : Jvm.MethodName) ({ cls := "CutStore$Rule", name := "mayEndBehind", desc := "(I)Z" } : Jvm.MethodName)) ∈ gTs := gTs_mem (i := 463) (by decide +kernel) rfl
theorem wd_464 : (Jvm.Cond.code ({ cls := "CutStore$Rule", name := "mayEndBehind", desc := "(I)Z" } : Jvm.MethodName) prog_6_method_6_code (2 : Nat) (Option.some Jvm.ClassFile.FieldType.boolean)) ∈ gTs := gTs_mem (i := 464) (by decide +kernel) rfl
theorem wd_465 : (Jvm.Cond.methodLink "CutStore$Rule" (32 : Nat) ({ cls := "java/lang/Math", name := "max", desc := "(II)I" } : Jvm.MethodName)) ∈ gTs := gTs_mem (i := 465) (by decide +kernel) rfl
theorem wd_466 : (Jvm.Cond.static ({ cls := "java/lang/Math", name := "max", desc := "(II)I" } : Jvm.MethodName)) ∈ gTs := gTs_mem (i := 466) (by decide +kernel) rfl
theorem wd_467 : (Jvm.Cond.code ({ cls := "java/lang/Math", name := "max", desc := "(II)I" } : Jvm.MethodName) prog_12_method_65_code (2 : Nat) (Option.some Jvm.ClassFile.FieldType.int)) ∈ gTs := gTs_mem (i := 467) (by decide +kernel) rfl
theorem wd_468 : (Jvm.Cond.methodLink "CutStoreLaw" (65 : Nat) ({ cls := "CutStore", name := "cut", desc := "(III)I" } : Jvm.MethodName)) ∈ gTs := gTs_mem (i := 468) (by decide +kernel) rfl
theorem wd_469 : (Jvm.Cond.instanceMethod ({ cls := "CutStore", name := "cut", desc := "(III)I" } : Jvm.MethodName)) ∈ gTs := gTs_mem (i := 469) (by decide +kernel) rfl
theorem wd_470 : (Jvm.Cond.selects "CutStore" ({ cls := "CutStore", name := "cut", desc := "(III)I" } : Jvm.MethodName) ({ cls := "CutStore", name := "cut", desc := "(III)I" } : Jvm.MethodName)) ∈ gTs := gTs_mem (i := 470) (by decide +kernel) rfl
theorem wd_471 : (Jvm.Cond.code ({ cls := "CutStore", name := "cut", desc := "(III)I" } : Jvm.MethodName) prog_1_method_13_code (4 : Nat) (Option.some Jvm.ClassFile.FieldType.int)) ∈ gTs := gTs_mem (i := 471) (by decide +kernel) rfl
theorem wd_472 : (Jvm.Cond.methodLink "CutStoreLaw" (69 : Nat) ({ cls := "CutStore", name := "agree", desc := "(III)I" } : Jvm.MethodName)) ∈ gTs := gTs_mem (i := 472) (by decide +kernel) rfl
theorem wd_473 : (Jvm.Cond.instanceMethod ({ cls := "CutStore", name := "agree", desc := "(III)I" } : Jvm.MethodName)) ∈ gTs := gTs_mem (i := 473) (by decide +kernel) rfl
theorem wd_474 : (Jvm.Cond.selects "CutStore" ({ cls := "CutStore", name := "agree", desc := "(III)I" } : Jvm.MethodName) ({ cls := "CutStore", name := "agree", desc := "(III)I" } : Jvm.MethodName)) ∈ gTs := gTs_mem (i := 474) (by decide +kernel) rfl
theorem wd_475 : (Jvm.Cond.code ({ cls := "CutStore", name := "agree", desc := "(III)I" } : Jvm.MethodName) prog_1_method_14_code (6 : Nat) (Option.some Jvm.ClassFile.FieldType.int)) ∈ gTs := gTs_mem (i := 475) (by decide +kernel) rfl
theorem wd_476 : (Jvm.Cond.methodLink "CutStore" (145 : Nat) ({ cls := "java/lang/Math", name := "min", desc := "(II)I" } : Jvm.MethodName)) ∈ gTs := gTs_mem (i := 476) (by decide +kernel) rfl
theorem wd_477 : (Jvm.Cond.methodLink "CutStore" (150 : Nat) ({ cls := "CutStore", name := "agreesFromEnd", desc := "(I)Z" } : Jvm.MethodName)) ∈ gTs := gTs_mem (i := 477) (by decide +kernel) rfl
theorem wd_479 : (Jvm.Cond.instanceMethod ({ cls := "CutStore", name := "agreesFromEnd", desc := "(I)Z" } : Jvm.MethodName)) ∈ gTs := gTs_mem (i := 479) (by decide +kernel) rfl
theorem wd_480 : (Jvm.Cond.code ({ cls := "CutStore", name := "agreesFromEnd", desc := "(I)Z" } : Jvm.MethodName) prog_1_method_35_code (5 : Nat) (Option.some Jvm.ClassFile.FieldType.boolean)) ∈ gTs := gTs_mem (i := 480) (by decide +kernel) rfl
theorem wd_481 : (Jvm.Cond.methodLink "CutStore" (239 : Nat) ({ cls := "CutStore$Cutter", name := "lengthOf", desc := "(I)I" } : Jvm.MethodName)) ∈ gTs := gTs_mem (i := 481) (by decide +kernel) rfl
theorem wd_482 : (Jvm.Cond.instanceMethod ({ cls := "CutStore$Cutter", name := "lengthOf", desc := "(I)I" } : Jvm.MethodName)) ∈ gTs := gTs_mem (i := 482) (by decide +kernel) rfl
theorem wd_483 : (Jvm.Cond.selects "CutStore$Cutter" ({ cls := "CutStore$Cutter", name := "lengthOf", desc := "(I)I" } : Jvm.MethodName) ({ cls := "CutStore$Cutter", name := "lengthOf", desc := "(I)I" } : Jvm.MethodName)) ∈ gTs := gTs_mem (i := 483) (by decide +kernel) rfl
theorem wd_484 : (Jvm.Cond.code ({ cls := "CutStore$Cutter", name := "lengthOf", desc := "(I)I" } : Jvm.MethodName) prog_2_method_3_code (2 : Nat) (Option.some Jvm.ClassFile.FieldType.int)) ∈ gTs := gTs_mem (i := 484) (by decide +kernel) rfl
theorem wd_485 : (Jvm.Cond.methodLink "CutStore" (246 : Nat) ({ cls := "CutStore$Cutter", name := "startOf", desc := "(I)I" } : Jvm.MethodName)) ∈ gTs := gTs_mem (i := 485) (by decide +kernel) rfl
theorem wd_486 : (Jvm.Cond.instanceMethod ({ cls := "CutStore$Cutter", name := "startOf", desc := "(I)I" } : Jvm.MethodName)) ∈ gTs := gTs_mem (i := 486) (by decide +kernel) rfl
theorem wd_487 : (Jvm.Cond.selects "CutStore$Cutter" ({ cls := "CutStore$Cutter", name := "startOf", desc := "(I)I" } : Jvm.MethodName) ({ cls := "CutStore$Cutter", name := "startOf", desc := "(I)I" } : Jvm.MethodName)) ∈ gTs := gTs_mem (i := 487) (by decide +kernel) rfl
theorem wd_488 : (Jvm.Cond.code ({ cls := "CutStore$Cutter", name := "startOf", desc := "(I)I" } : Jvm.MethodName) prog_2_method_2_code (2 : Nat) (Option.some Jvm.ClassFile.FieldType.int)) ∈ gTs := gTs_mem (i := 488) (by decide +kernel) rfl
theorem wd_489 : (Jvm.Cond.methodLink "CutStore$Cutter" (26 : Nat) ({ cls := "CutStore$Files", name := "startOf", desc := "(I)I" } : Jvm.MethodName)) ∈ gTs := gTs_mem (i := 489) (by decide +kernel) rfl
theorem wd_490 : (Jvm.Cond.methodLink "CutStore" (249 : Nat) ({ cls := "CutStore", name := "areAlike", desc := "([BI[BII)Z" } : Jvm.MethodName)) ∈ gTs := gTs_mem (i := 490) (by decide +kernel) rfl
theorem wd_491 : (Jvm.Cond.static ({ cls := "CutStore", name := "areAlike", desc := "([BI[BII)Z" } : Jvm.MethodName)) ∈ gTs := gTs_mem (i := 491) (by decide +kernel) rfl
theorem wd_492 : (Jvm.Cond.code ({ cls := "CutStore", name := "areAlike", desc := "([BI[BII)Z" } : Jvm.MethodName) prog_1_method_38_code (6 : Nat) (Option.some Jvm.ClassFile.FieldType.boolean)) ∈ gTs := gTs_mem (i := 492) (by decide +kernel) rfl
theorem wd_493 : (Jvm.Cond.methodLink "CutStoreLaw" (73 : Nat) ({ cls := "CutStore", name := "sent", desc := "(III)I" } : Jvm.MethodName)) ∈ gTs := gTs_mem (i := 493) (by decide +kernel) rfl
theorem wd_494 : (Jvm.Cond.instanceMethod ({ cls := "CutStore", name := "sent", desc := "(III)I" } : Jvm.MethodName)) ∈ gTs := gTs_mem (i := 494) (by decide +kernel) rfl
theorem wd_495 : (Jvm.Cond.selects "CutStore" ({ cls := "CutStore", name := "sent", desc := "(III)I" } : Jvm.MethodName) ({ cls := "CutStore", name := "sent", desc := "(III)I" } : Jvm.MethodName)) ∈ gTs := gTs_mem (i := 495) (by decide +kernel) rfl
theorem wd_496 : (Jvm.Cond.code ({ cls := "CutStore", name := "sent", desc := "(III)I" } : Jvm.MethodName) prog_1_method_15_code (4 : Nat) (Option.some Jvm.ClassFile.FieldType.int)) ∈ gTs := gTs_mem (i := 496) (by decide +kernel) rfl
theorem wd_497 : (Jvm.Cond.methodLink "CutStore" (153 : Nat) ({ cls := "CutStore$Distinct", name := "clear", desc := "()V" } : Jvm.MethodName)) ∈ gTs := gTs_mem (i := 497) (by decide +kernel) rfl
theorem wd_498 : (Jvm.Cond.instanceMethod ({ cls := "CutStore$Distinct", name := "clear", desc := "()V" } : Jvm.MethodName)) ∈ gTs := gTs_mem (i := 498) (by decide +kernel) rfl
theorem wd_499 : (Jvm.Cond.selects "CutStore$Distinct" ({ cls := "CutStore$Distinct", name := "clear", desc := "()V" } : Jvm.MethodName) ({ cls := "CutStore$Distinct", name := "clear", desc := "()V" } : Jvm.MethodName)) ∈ gTs := gTs_mem (i := 499) (by decide +kernel) rfl
theorem wd_500 : (Jvm.Cond.code ({ cls := "CutStore$Distinct", name := "clear", desc := "()V" } : Jvm.MethodName) prog_3_method_2_code (1 : Nat) (Option.none : Option Jvm.ClassFile.FieldType)) ∈ gTs := gTs_mem (i := 500) (by decide +kernel) rfl
theorem wd_501 : (Jvm.Cond.methodLink "CutStore$Distinct" (22 : Nat) ({ cls := "java/util/Arrays", name := "fill", desc := "([II)V" } : Jvm.MethodName)) ∈ gTs := gTs_mem (i := 501) (by decide +kernel) rfl
theorem wd_502 : (Jvm.Cond.methodLink "CutStore" (156 : Nat) ({ cls := "CutStore$Distinct", name := "addPieces", desc := "(LCutStore$Cutter;)I" } : Jvm.MethodName)) ∈ gTs := gTs_mem (i := 502) (by decide +kernel) rfl
theorem wd_503 : (Jvm.Cond.instanceMethod ({ cls := "CutStore$Distinct", name := "addPieces", desc := "(LCutStore$Cutter;)I" } : Jvm.MethodName)) ∈ gTs := gTs_mem (i := 503) (by decide +kernel) rfl
theorem wd_504 : (Jvm.Cond.selects "CutStore$Distinct" ({ cls := "CutStore$Distinct", name := "addPieces", desc := "(LCutStore$Cutter;)I" } : Jvm.MethodName) ({ cls := "CutStore$Distinct", name := "addPieces", desc := "(LCutStore$Cutter;)I" } : Jvm.MethodName)) ∈ gTs := gTs_mem (i := 504) (by decide +kernel) rfl
theorem wd_505 : (Jvm.Cond.code ({ cls := "CutStore$Distinct", name := "addPieces", desc := "(LCutStore$Cutter;)I" } : Jvm.MethodName) prog_3_method_3_code (4 : Nat) (Option.some Jvm.ClassFile.FieldType.int)) ∈ gTs := gTs_mem (i := 505) (by decide +kernel) rfl
theorem wd_506 : (Jvm.Cond.methodLink "CutStore$Distinct" (37 : Nat) ({ cls := "CutStore$Cutter", name := "startOf", desc := "(I)I" } : Jvm.MethodName)) ∈ gTs := gTs_mem (i := 506) (by decide +kernel) rfl
theorem wd_507 : (Jvm.Cond.methodLink "CutStore$Distinct" (41 : Nat) ({ cls := "CutStore$Cutter", name := "lengthOf", desc := "(I)I" } : Jvm.MethodName)) ∈ gTs := gTs_mem (i := 507) (by decide +kernel) rfl
theorem wd_508 : (Jvm.Cond.methodLink "CutStore$Distinct" (44 : Nat) ({ cls := "CutStore$Distinct", name := "addPiece", desc := "(II)Z" } : Jvm.MethodName)) ∈ gTs := gTs_mem (i := 508) (by decide +kernel) rfl
theorem wd_510 : (Jvm.Cond.instanceMethod ({ cls := "CutStore$Distinct", name := "addPiece", desc := "(II)Z" } : Jvm.MethodName)) ∈ gTs := gTs_mem (i := 510) (by decide +kernel) rfl
theorem wd_511 : (Jvm.Cond.code ({ cls := "CutStore$Distinct", name := "addPiece", desc := "(II)Z" } : Jvm.MethodName) prog_3_method_4_code (6 : Nat) (Option.some Jvm.ClassFile.FieldType.boolean)) ∈ gTs := gTs_mem (i := 511) (by decide +kernel) rfl
theorem wd_512 : (Jvm.Cond.methodLink "CutStore$Distinct" (48 : Nat) ({ cls := "CutStore$Distinct", name := "homeOf", desc := "(II)I" } : Jvm.MethodName)) ∈ gTs := gTs_mem (i := 512) (by decide +kernel) rfl
theorem wd_514 : (Jvm.Cond.instanceMethod ({ cls := "CutStore$Distinct", name := "homeOf", desc := "(II)I" } : Jvm.MethodName)) ∈ gTs := gTs_mem (i := 514) (by decide +kernel) rfl
theorem wd_515 : (Jvm.Cond.code ({ cls := "CutStore$Distinct", name := "homeOf", desc := "(II)I" } : Jvm.MethodName) prog_3_method_5_code (5 : Nat) (Option.some Jvm.ClassFile.FieldType.int)) ∈ gTs := gTs_mem (i := 515) (by decide +kernel) rfl
theorem wn_516 : (Jvm.Cond.methodLinkNest "CutStore$Distinct" (62 : Nat) ({ cls := "CutStore", name := "spread", desc := "(I)I" } : Jvm.MethodName) "CutStore") ∈ lw_tbl := List.mem_of_getElem? (i := 516) (by decide +kernel)
theorem wd_517 : (Jvm.Cond.static ({ cls := "CutStore", name := "spread", desc := "(I)I" } : Jvm.MethodName)) ∈ gTs := gTs_mem (i := 517) (by decide +kernel) rfl
theorem wd_518 : (Jvm.Cond.code ({ cls := "CutStore", name := "spread", desc := "(I)I" } : Jvm.MethodName) prog_1_method_39_code (1 : Nat) (Option.some Jvm.ClassFile.FieldType.int)) ∈ gTs := gTs_mem (i := 518) (by decide +kernel) rfl
theorem wd_519 : (Jvm.Cond.constant "CutStore" (256 : Nat) (-1640531535 : Int32)) ∈ gTs := gTs_mem (i := 519) (by decide +kernel) rfl
theorem wn_520 : (Jvm.Cond.methodLinkNest "CutStore$Distinct" (58 : Nat) ({ cls := "CutStore", name := "areAlike", desc := "([BI[BII)Z" } : Jvm.MethodName) "CutStore") ∈ lw_tbl := List.mem_of_getElem? (i := 520) (by decide +kernel)
theorem wd_521 : (Jvm.Cond.methodLink "CutStoreLaw" (77 : Nat) ({ cls := "CutStore", name := "cost", desc := "(II)I" } : Jvm.MethodName)) ∈ gTs := gTs_mem (i := 521) (by decide +kernel) rfl
theorem wd_522 : (Jvm.Cond.instanceMethod ({ cls := "CutStore", name := "cost", desc := "(II)I" } : Jvm.MethodName)) ∈ gTs := gTs_mem (i := 522) (by decide +kernel) rfl
theorem wd_523 : (Jvm.Cond.selects "CutStore" ({ cls := "CutStore", name := "cost", desc := "(II)I" } : Jvm.MethodName) ({ cls := "CutStore", name := "cost", desc := "(II)I" } : Jvm.MethodName)) ∈ gTs := gTs_mem (i := 523) (by decide +kernel) rfl
theorem wd_524 : (Jvm.Cond.code ({ cls := "CutStore", name := "cost", desc := "(II)I" } : Jvm.MethodName) prog_1_method_16_code (3 : Nat) (Option.some Jvm.ClassFile.FieldType.int)) ∈ gTs := gTs_mem (i := 524) (by decide +kernel) rfl
theorem wd_525 : (Jvm.Cond.methodLink "CutStore" (160 : Nat) ({ cls := "CutStore", name := "roomByRule", desc := "(LCutStore$Rule;I)I" } : Jvm.MethodName)) ∈ gTs := gTs_mem (i := 525) (by decide +kernel) rfl
theorem wd_527 : (Jvm.Cond.instanceMethod ({ cls := "CutStore", name := "roomByRule", desc := "(LCutStore$Rule;I)I" } : Jvm.MethodName)) ∈ gTs := gTs_mem (i := 527) (by decide +kernel) rfl
theorem wd_528 : (Jvm.Cond.code ({ cls := "CutStore", name := "roomByRule", desc := "(LCutStore$Rule;I)I" } : Jvm.MethodName) prog_1_method_36_code (6 : Nat) (Option.some Jvm.ClassFile.FieldType.int)) ∈ gTs := gTs_mem (i := 528) (by decide +kernel) rfl
theorem wd_529 : (Jvm.Cond.methodLink "CutStore" (203 : Nat) ({ cls := "CutStore", name := "roomOf", desc := "(III)I" } : Jvm.MethodName)) ∈ gTs := gTs_mem (i := 529) (by decide +kernel) rfl
theorem wd_531 : (Jvm.Cond.instanceMethod ({ cls := "CutStore", name := "roomOf", desc := "(III)I" } : Jvm.MethodName)) ∈ gTs := gTs_mem (i := 531) (by decide +kernel) rfl
theorem wd_532 : (Jvm.Cond.code ({ cls := "CutStore", name := "roomOf", desc := "(III)I" } : Jvm.MethodName) prog_1_method_37_code (4 : Nat) (Option.some Jvm.ClassFile.FieldType.int)) ∈ gTs := gTs_mem (i := 532) (by decide +kernel) rfl
theorem wd_533 : (Jvm.Cond.methodLink "CutStoreLaw" (81 : Nat) ({ cls := "CutStore", name := "best", desc := "(I)I" } : Jvm.MethodName)) ∈ gTs := gTs_mem (i := 533) (by decide +kernel) rfl
theorem wd_534 : (Jvm.Cond.instanceMethod ({ cls := "CutStore", name := "best", desc := "(I)I" } : Jvm.MethodName)) ∈ gTs := gTs_mem (i := 534) (by decide +kernel) rfl
theorem wd_535 : (Jvm.Cond.selects "CutStore" ({ cls := "CutStore", name := "best", desc := "(I)I" } : Jvm.MethodName) ({ cls := "CutStore", name := "best", desc := "(I)I" } : Jvm.MethodName)) ∈ gTs := gTs_mem (i := 535) (by decide +kernel) rfl
theorem wd_536 : (Jvm.Cond.code ({ cls := "CutStore", name := "best", desc := "(I)I" } : Jvm.MethodName) prog_1_method_17_code (6 : Nat) (Option.some Jvm.ClassFile.FieldType.int)) ∈ gTs := gTs_mem (i := 536) (by decide +kernel) rfl
theorem wd_537 : (Jvm.Cond.methodLink "CutStoreLaw" (86 : Nat) ({ cls := "CutStore", name := "keep", desc := "(II)I" } : Jvm.MethodName)) ∈ gTs := gTs_mem (i := 537) (by decide +kernel) rfl
theorem wd_538 : (Jvm.Cond.instanceMethod ({ cls := "CutStore", name := "keep", desc := "(II)I" } : Jvm.MethodName)) ∈ gTs := gTs_mem (i := 538) (by decide +kernel) rfl
theorem wd_539 : (Jvm.Cond.selects "CutStore" ({ cls := "CutStore", name := "keep", desc := "(II)I" } : Jvm.MethodName) ({ cls := "CutStore", name := "keep", desc := "(II)I" } : Jvm.MethodName)) ∈ gTs := gTs_mem (i := 539) (by decide +kernel) rfl
theorem wd_540 : (Jvm.Cond.code ({ cls := "CutStore", name := "keep", desc := "(II)I" } : Jvm.MethodName) prog_1_method_18_code (3 : Nat) (Option.some Jvm.ClassFile.FieldType.int)) ∈ gTs := gTs_mem (i := 540) (by decide +kernel) rfl
theorem wd_541 : (Jvm.Cond.methodLink "CutStore" (164 : Nat) ({ cls := "CutStore$Store", name := "take", desc := "(LCutStore$Cutter;I)I" } : Jvm.MethodName)) ∈ gTs := gTs_mem (i := 541) (by decide +kernel) rfl
theorem wd_542 : (Jvm.Cond.instanceMethod ({ cls := "CutStore$Store", name := "take", desc := "(LCutStore$Cutter;I)I" } : Jvm.MethodName)) ∈ gTs := gTs_mem (i := 542) (by decide +kernel) rfl
theorem wd_543 : (Jvm.Cond.selects "CutStore$Store" ({ cls := "CutStore$Store", name := "take", desc := "(LCutStore$Cutter;I)I" } : Jvm.MethodName) ({ cls := "CutStore$Store", name := "take", desc := "(LCutStore$Cutter;I)I" } : Jvm.MethodName)) ∈ gTs := gTs_mem (i := 543) (by decide +kernel) rfl
theorem wd_544 : (Jvm.Cond.code ({ cls := "CutStore$Store", name := "take", desc := "(LCutStore$Cutter;I)I" } : Jvm.MethodName) prog_7_method_2_code (7 : Nat) (Option.some Jvm.ClassFile.FieldType.int)) ∈ gTs := gTs_mem (i := 544) (by decide +kernel) rfl
theorem wd_545 : (Jvm.Cond.methodLink "CutStore$Store" (59 : Nat) ({ cls := "CutStore$Cutter", name := "startOf", desc := "(I)I" } : Jvm.MethodName)) ∈ gTs := gTs_mem (i := 545) (by decide +kernel) rfl
theorem wd_546 : (Jvm.Cond.methodLink "CutStore$Store" (63 : Nat) ({ cls := "CutStore$Cutter", name := "lengthOf", desc := "(I)I" } : Jvm.MethodName)) ∈ gTs := gTs_mem (i := 546) (by decide +kernel) rfl
theorem wd_547 : (Jvm.Cond.methodLink "CutStore$Store" (66 : Nat) ({ cls := "CutStore$Store", name := "share", desc := "(II)I" } : Jvm.MethodName)) ∈ gTs := gTs_mem (i := 547) (by decide +kernel) rfl
theorem wd_549 : (Jvm.Cond.instanceMethod ({ cls := "CutStore$Store", name := "share", desc := "(II)I" } : Jvm.MethodName)) ∈ gTs := gTs_mem (i := 549) (by decide +kernel) rfl
theorem wd_550 : (Jvm.Cond.code ({ cls := "CutStore$Store", name := "share", desc := "(II)I" } : Jvm.MethodName) prog_7_method_8_code (5 : Nat) (Option.some Jvm.ClassFile.FieldType.int)) ∈ gTs := gTs_mem (i := 550) (by decide +kernel) rfl
theorem wd_551 : (Jvm.Cond.methodLink "CutStore$Store" (91 : Nat) ({ cls := "CutStore$Store", name := "printOf", desc := "(II)I" } : Jvm.MethodName)) ∈ gTs := gTs_mem (i := 551) (by decide +kernel) rfl
theorem wd_553 : (Jvm.Cond.instanceMethod ({ cls := "CutStore$Store", name := "printOf", desc := "(II)I" } : Jvm.MethodName)) ∈ gTs := gTs_mem (i := 553) (by decide +kernel) rfl
theorem wd_554 : (Jvm.Cond.code ({ cls := "CutStore$Store", name := "printOf", desc := "(II)I" } : Jvm.MethodName) prog_7_method_11_code (5 : Nat) (Option.some Jvm.ClassFile.FieldType.int)) ∈ gTs := gTs_mem (i := 554) (by decide +kernel) rfl
theorem wd_555 : (Jvm.Cond.methodLink "CutStore$Store" (94 : Nat) ({ cls := "CutStore$Store", name := "findAlike", desc := "(III)I" } : Jvm.MethodName)) ∈ gTs := gTs_mem (i := 555) (by decide +kernel) rfl
theorem wd_557 : (Jvm.Cond.instanceMethod ({ cls := "CutStore$Store", name := "findAlike", desc := "(III)I" } : Jvm.MethodName)) ∈ gTs := gTs_mem (i := 557) (by decide +kernel) rfl
theorem wd_558 : (Jvm.Cond.code ({ cls := "CutStore$Store", name := "findAlike", desc := "(III)I" } : Jvm.MethodName) prog_7_method_9_code (6 : Nat) (Option.some Jvm.ClassFile.FieldType.int)) ∈ gTs := gTs_mem (i := 558) (by decide +kernel) rfl
theorem wn_559 : (Jvm.Cond.methodLinkNest "CutStore$Store" (107 : Nat) ({ cls := "CutStore", name := "areAlike", desc := "([BI[BII)Z" } : Jvm.MethodName) "CutStore") ∈ lw_tbl := List.mem_of_getElem? (i := 559) (by decide +kernel)
theorem wd_560 : (Jvm.Cond.methodLink "CutStore$Store" (98 : Nat) ({ cls := "CutStore$Store", name := "leastFree", desc := "()I" } : Jvm.MethodName)) ∈ gTs := gTs_mem (i := 560) (by decide +kernel) rfl
theorem wd_562 : (Jvm.Cond.instanceMethod ({ cls := "CutStore$Store", name := "leastFree", desc := "()I" } : Jvm.MethodName)) ∈ gTs := gTs_mem (i := 562) (by decide +kernel) rfl
theorem wd_563 : (Jvm.Cond.code ({ cls := "CutStore$Store", name := "leastFree", desc := "()I" } : Jvm.MethodName) prog_7_method_10_code (2 : Nat) (Option.some Jvm.ClassFile.FieldType.int)) ∈ gTs := gTs_mem (i := 563) (by decide +kernel) rfl
theorem wd_564 : (Jvm.Cond.methodLink "CutStore$Store" (102 : Nat) ({ cls := "CutStore$Store", name := "addPiece", desc := "(IIII)V" } : Jvm.MethodName)) ∈ gTs := gTs_mem (i := 564) (by decide +kernel) rfl
theorem wd_566 : (Jvm.Cond.instanceMethod ({ cls := "CutStore$Store", name := "addPiece", desc := "(IIII)V" } : Jvm.MethodName)) ∈ gTs := gTs_mem (i := 566) (by decide +kernel) rfl
theorem wd_567 : (Jvm.Cond.code ({ cls := "CutStore$Store", name := "addPiece", desc := "(IIII)V" } : Jvm.MethodName) prog_7_method_12_code (5 : Nat) (Option.none : Option Jvm.ClassFile.FieldType)) ∈ gTs := gTs_mem (i := 567) (by decide +kernel) rfl
theorem wd_568 : (Jvm.Cond.methodLink "CutStore$Store" (73 : Nat) ({ cls := "java/lang/System", name := "arraycopy", desc := "(Ljava/lang/Object;ILjava/lang/Object;II)V" } : Jvm.MethodName)) ∈ gTs := gTs_mem (i := 568) (by decide +kernel) rfl
theorem wd_569 : (Jvm.Cond.methodLink "CutStore$Store" (70 : Nat) ({ cls := "CutStore$Store", name := "release", desc := "([II)V" } : Jvm.MethodName)) ∈ gTs := gTs_mem (i := 569) (by decide +kernel) rfl
theorem wd_571 : (Jvm.Cond.instanceMethod ({ cls := "CutStore$Store", name := "release", desc := "([II)V" } : Jvm.MethodName)) ∈ gTs := gTs_mem (i := 571) (by decide +kernel) rfl
theorem wd_572 : (Jvm.Cond.code ({ cls := "CutStore$Store", name := "release", desc := "([II)V" } : Jvm.MethodName) prog_7_method_13_code (5 : Nat) (Option.none : Option Jvm.ClassFile.FieldType)) ∈ gTs := gTs_mem (i := 572) (by decide +kernel) rfl
theorem wd_573 : (Jvm.Cond.methodLink "CutStore$Store" (114 : Nat) ({ cls := "CutStore$Store", name := "removePiece", desc := "(I)V" } : Jvm.MethodName)) ∈ gTs := gTs_mem (i := 573) (by decide +kernel) rfl
theorem wd_575 : (Jvm.Cond.instanceMethod ({ cls := "CutStore$Store", name := "removePiece", desc := "(I)V" } : Jvm.MethodName)) ∈ gTs := gTs_mem (i := 575) (by decide +kernel) rfl
theorem wd_576 : (Jvm.Cond.code ({ cls := "CutStore$Store", name := "removePiece", desc := "(I)V" } : Jvm.MethodName) prog_7_method_14_code (4 : Nat) (Option.none : Option Jvm.ClassFile.FieldType)) ∈ gTs := gTs_mem (i := 576) (by decide +kernel) rfl
theorem wd_577 : (Jvm.Cond.methodLink "CutStoreLaw" (90 : Nat) ({ cls := "CutStore", name := "drop", desc := "(I)I" } : Jvm.MethodName)) ∈ gTs := gTs_mem (i := 577) (by decide +kernel) rfl
theorem wd_578 : (Jvm.Cond.instanceMethod ({ cls := "CutStore", name := "drop", desc := "(I)I" } : Jvm.MethodName)) ∈ gTs := gTs_mem (i := 578) (by decide +kernel) rfl
theorem wd_579 : (Jvm.Cond.selects "CutStore" ({ cls := "CutStore", name := "drop", desc := "(I)I" } : Jvm.MethodName) ({ cls := "CutStore", name := "drop", desc := "(I)I" } : Jvm.MethodName)) ∈ gTs := gTs_mem (i := 579) (by decide +kernel) rfl
theorem wd_580 : (Jvm.Cond.code ({ cls := "CutStore", name := "drop", desc := "(I)I" } : Jvm.MethodName) prog_1_method_19_code (2 : Nat) (Option.some Jvm.ClassFile.FieldType.int)) ∈ gTs := gTs_mem (i := 580) (by decide +kernel) rfl
theorem wd_581 : (Jvm.Cond.methodLink "CutStore" (168 : Nat) ({ cls := "CutStore", name := "isKept", desc := "(I)Z" } : Jvm.MethodName)) ∈ gTs := gTs_mem (i := 581) (by decide +kernel) rfl
theorem wd_583 : (Jvm.Cond.instanceMethod ({ cls := "CutStore", name := "isKept", desc := "(I)Z" } : Jvm.MethodName)) ∈ gTs := gTs_mem (i := 583) (by decide +kernel) rfl
theorem wd_584 : (Jvm.Cond.code ({ cls := "CutStore", name := "isKept", desc := "(I)Z" } : Jvm.MethodName) prog_1_method_34_code (2 : Nat) (Option.some Jvm.ClassFile.FieldType.boolean)) ∈ gTs := gTs_mem (i := 584) (by decide +kernel) rfl
theorem wd_585 : (Jvm.Cond.methodLink "CutStore" (171 : Nat) ({ cls := "CutStore$Store", name := "letGo", desc := "(I)I" } : Jvm.MethodName)) ∈ gTs := gTs_mem (i := 585) (by decide +kernel) rfl
theorem wd_586 : (Jvm.Cond.instanceMethod ({ cls := "CutStore$Store", name := "letGo", desc := "(I)I" } : Jvm.MethodName)) ∈ gTs := gTs_mem (i := 586) (by decide +kernel) rfl
theorem wd_587 : (Jvm.Cond.selects "CutStore$Store" ({ cls := "CutStore$Store", name := "letGo", desc := "(I)I" } : Jvm.MethodName) ({ cls := "CutStore$Store", name := "letGo", desc := "(I)I" } : Jvm.MethodName)) ∈ gTs := gTs_mem (i := 587) (by decide +kernel) rfl
theorem wd_588 : (Jvm.Cond.code ({ cls := "CutStore$Store", name := "letGo", desc := "(I)I" } : Jvm.MethodName) prog_7_method_3_code (3 : Nat) (Option.some Jvm.ClassFile.FieldType.int)) ∈ gTs := gTs_mem (i := 588) (by decide +kernel) rfl
theorem wd_589 : (Jvm.Cond.methodLink "CutStoreLaw" (94 : Nat) ({ cls := "CutStore", name := "bring", desc := "(I)I" } : Jvm.MethodName)) ∈ gTs := gTs_mem (i := 589) (by decide +kernel) rfl
theorem wd_590 : (Jvm.Cond.instanceMethod ({ cls := "CutStore", name := "bring", desc := "(I)I" } : Jvm.MethodName)) ∈ gTs := gTs_mem (i := 590) (by decide +kernel) rfl
theorem wd_591 : (Jvm.Cond.selects "CutStore" ({ cls := "CutStore", name := "bring", desc := "(I)I" } : Jvm.MethodName) ({ cls := "CutStore", name := "bring", desc := "(I)I" } : Jvm.MethodName)) ∈ gTs := gTs_mem (i := 591) (by decide +kernel) rfl
theorem wd_592 : (Jvm.Cond.code ({ cls := "CutStore", name := "bring", desc := "(I)I" } : Jvm.MethodName) prog_1_method_20_code (2 : Nat) (Option.some Jvm.ClassFile.FieldType.int)) ∈ gTs := gTs_mem (i := 592) (by decide +kernel) rfl
theorem wd_593 : (Jvm.Cond.methodLink "CutStore" (175 : Nat) ({ cls := "CutStore$Store", name := "restore", desc := "(I)V" } : Jvm.MethodName)) ∈ gTs := gTs_mem (i := 593) (by decide +kernel) rfl
theorem wd_594 : (Jvm.Cond.instanceMethod ({ cls := "CutStore$Store", name := "restore", desc := "(I)V" } : Jvm.MethodName)) ∈ gTs := gTs_mem (i := 594) (by decide +kernel) rfl
theorem wd_595 : (Jvm.Cond.selects "CutStore$Store" ({ cls := "CutStore$Store", name := "restore", desc := "(I)V" } : Jvm.MethodName) ({ cls := "CutStore$Store", name := "restore", desc := "(I)V" } : Jvm.MethodName)) ∈ gTs := gTs_mem (i := 595) (by decide +kernel) rfl
theorem wd_596 : (Jvm.Cond.code ({ cls := "CutStore$Store", name := "restore", desc := "(I)V" } : Jvm.MethodName) prog_7_method_4_code (4 : Nat) (Option.none : Option Jvm.ClassFile.FieldType)) ∈ gTs := gTs_mem (i := 596) (by decide +kernel) rfl
theorem wd_597 : (Jvm.Cond.methodLink "CutStore$Store" (82 : Nat) ({ cls := "CutStore$Files", name := "addBytes", desc := "(I[BII)V" } : Jvm.MethodName)) ∈ gTs := gTs_mem (i := 597) (by decide +kernel) rfl
theorem wd_598 : (Jvm.Cond.instanceMethod ({ cls := "CutStore$Files", name := "addBytes", desc := "(I[BII)V" } : Jvm.MethodName)) ∈ gTs := gTs_mem (i := 598) (by decide +kernel) rfl
theorem wd_599 : (Jvm.Cond.selects "CutStore$Files" ({ cls := "CutStore$Files", name := "addBytes", desc := "(I[BII)V" } : Jvm.MethodName) ({ cls := "CutStore$Files", name := "addBytes", desc := "(I[BII)V" } : Jvm.MethodName)) ∈ gTs := gTs_mem (i := 599) (by decide +kernel) rfl
theorem wd_600 : (Jvm.Cond.code ({ cls := "CutStore$Files", name := "addBytes", desc := "(I[BII)V" } : Jvm.MethodName) prog_4_method_5_code (5 : Nat) (Option.none : Option Jvm.ClassFile.FieldType)) ∈ gTs := gTs_mem (i := 600) (by decide +kernel) rfl
theorem wd_601 : (Jvm.Cond.methodLink "CutStoreLaw" (98 : Nat) ({ cls := "CutStore", name := "jumps", desc := "(I)I" } : Jvm.MethodName)) ∈ gTs := gTs_mem (i := 601) (by decide +kernel) rfl
theorem wd_602 : (Jvm.Cond.instanceMethod ({ cls := "CutStore", name := "jumps", desc := "(I)I" } : Jvm.MethodName)) ∈ gTs := gTs_mem (i := 602) (by decide +kernel) rfl
theorem wd_603 : (Jvm.Cond.selects "CutStore" ({ cls := "CutStore", name := "jumps", desc := "(I)I" } : Jvm.MethodName) ({ cls := "CutStore", name := "jumps", desc := "(I)I" } : Jvm.MethodName)) ∈ gTs := gTs_mem (i := 603) (by decide +kernel) rfl
theorem wd_604 : (Jvm.Cond.code ({ cls := "CutStore", name := "jumps", desc := "(I)I" } : Jvm.MethodName) prog_1_method_21_code (2 : Nat) (Option.some Jvm.ClassFile.FieldType.int)) ∈ gTs := gTs_mem (i := 604) (by decide +kernel) rfl
theorem wd_605 : (Jvm.Cond.methodLink "CutStore" (178 : Nat) ({ cls := "CutStore$Store", name := "countJumps", desc := "(I)I" } : Jvm.MethodName)) ∈ gTs := gTs_mem (i := 605) (by decide +kernel) rfl
theorem wd_606 : (Jvm.Cond.instanceMethod ({ cls := "CutStore$Store", name := "countJumps", desc := "(I)I" } : Jvm.MethodName)) ∈ gTs := gTs_mem (i := 606) (by decide +kernel) rfl
theorem wd_607 : (Jvm.Cond.selects "CutStore$Store" ({ cls := "CutStore$Store", name := "countJumps", desc := "(I)I" } : Jvm.MethodName) ({ cls := "CutStore$Store", name := "countJumps", desc := "(I)I" } : Jvm.MethodName)) ∈ gTs := gTs_mem (i := 607) (by decide +kernel) rfl
theorem wd_608 : (Jvm.Cond.code ({ cls := "CutStore$Store", name := "countJumps", desc := "(I)I" } : Jvm.MethodName) prog_7_method_5_code (4 : Nat) (Option.some Jvm.ClassFile.FieldType.int)) ∈ gTs := gTs_mem (i := 608) (by decide +kernel) rfl
theorem wd_609 : (Jvm.Cond.methodLink "CutStoreLaw" (102 : Nat) ({ cls := "CutStore", name := "number", desc := "(II)I" } : Jvm.MethodName)) ∈ gTs := gTs_mem (i := 609) (by decide +kernel) rfl
theorem wd_610 : (Jvm.Cond.instanceMethod ({ cls := "CutStore", name := "number", desc := "(II)I" } : Jvm.MethodName)) ∈ gTs := gTs_mem (i := 610) (by decide +kernel) rfl
theorem wd_611 : (Jvm.Cond.selects "CutStore" ({ cls := "CutStore", name := "number", desc := "(II)I" } : Jvm.MethodName) ({ cls := "CutStore", name := "number", desc := "(II)I" } : Jvm.MethodName)) ∈ gTs := gTs_mem (i := 611) (by decide +kernel) rfl
theorem wd_612 : (Jvm.Cond.code ({ cls := "CutStore", name := "number", desc := "(II)I" } : Jvm.MethodName) prog_1_method_22_code (3 : Nat) (Option.some Jvm.ClassFile.FieldType.int)) ∈ gTs := gTs_mem (i := 612) (by decide +kernel) rfl
theorem wd_613 : (Jvm.Cond.methodLink "CutStoreLaw" (106 : Nat) ({ cls := "CutStore", name := "piece", desc := "(II)I" } : Jvm.MethodName)) ∈ gTs := gTs_mem (i := 613) (by decide +kernel) rfl
theorem wd_614 : (Jvm.Cond.instanceMethod ({ cls := "CutStore", name := "piece", desc := "(II)I" } : Jvm.MethodName)) ∈ gTs := gTs_mem (i := 614) (by decide +kernel) rfl
theorem wd_615 : (Jvm.Cond.selects "CutStore" ({ cls := "CutStore", name := "piece", desc := "(II)I" } : Jvm.MethodName) ({ cls := "CutStore", name := "piece", desc := "(II)I" } : Jvm.MethodName)) ∈ gTs := gTs_mem (i := 615) (by decide +kernel) rfl
theorem wd_616 : (Jvm.Cond.code ({ cls := "CutStore", name := "piece", desc := "(II)I" } : Jvm.MethodName) prog_1_method_23_code (3 : Nat) (Option.some Jvm.ClassFile.FieldType.int)) ∈ gTs := gTs_mem (i := 616) (by decide +kernel) rfl
theorem wd_617 : (Jvm.Cond.methodLink "CutStoreLaw" (110 : Nat) ({ cls := "CutStore", name := "count", desc := "(I)I" } : Jvm.MethodName)) ∈ gTs := gTs_mem (i := 617) (by decide +kernel) rfl
theorem wd_618 : (Jvm.Cond.instanceMethod ({ cls := "CutStore", name := "count", desc := "(I)I" } : Jvm.MethodName)) ∈ gTs := gTs_mem (i := 618) (by decide +kernel) rfl
theorem wd_619 : (Jvm.Cond.selects "CutStore" ({ cls := "CutStore", name := "count", desc := "(I)I" } : Jvm.MethodName) ({ cls := "CutStore", name := "count", desc := "(I)I" } : Jvm.MethodName)) ∈ gTs := gTs_mem (i := 619) (by decide +kernel) rfl
theorem wd_620 : (Jvm.Cond.code ({ cls := "CutStore", name := "count", desc := "(I)I" } : Jvm.MethodName) prog_1_method_24_code (2 : Nat) (Option.some Jvm.ClassFile.FieldType.int)) ∈ gTs := gTs_mem (i := 620) (by decide +kernel) rfl
theorem wd_621 : (Jvm.Cond.methodLink "CutStore" (199 : Nat) ({ cls := "CutStore$Store", name := "countNumbers", desc := "()I" } : Jvm.MethodName)) ∈ gTs := gTs_mem (i := 621) (by decide +kernel) rfl
theorem wd_622 : (Jvm.Cond.instanceMethod ({ cls := "CutStore$Store", name := "countNumbers", desc := "()I" } : Jvm.MethodName)) ∈ gTs := gTs_mem (i := 622) (by decide +kernel) rfl
theorem wd_623 : (Jvm.Cond.selects "CutStore$Store" ({ cls := "CutStore$Store", name := "countNumbers", desc := "()I" } : Jvm.MethodName) ({ cls := "CutStore$Store", name := "countNumbers", desc := "()I" } : Jvm.MethodName)) ∈ gTs := gTs_mem (i := 623) (by decide +kernel) rfl
theorem wd_624 : (Jvm.Cond.code ({ cls := "CutStore$Store", name := "countNumbers", desc := "()I" } : Jvm.MethodName) prog_7_method_6_code (3 : Nat) (Option.some Jvm.ClassFile.FieldType.int)) ∈ gTs := gTs_mem (i := 624) (by decide +kernel) rfl
theorem wd_625 : (Jvm.Cond.methodLink "CutStore$Store" (86 : Nat) ({ cls := "java/lang/Math", name := "max", desc := "(II)I" } : Jvm.MethodName)) ∈ gTs := gTs_mem (i := 625) (by decide +kernel) rfl
theorem wd_626 : (Jvm.Cond.methodLink "CutStore" (210 : Nat) ({ cls := "CutStore$Store", name := "countKeptFiles", desc := "()I" } : Jvm.MethodName)) ∈ gTs := gTs_mem (i := 626) (by decide +kernel) rfl
theorem wd_627 : (Jvm.Cond.instanceMethod ({ cls := "CutStore$Store", name := "countKeptFiles", desc := "()I" } : Jvm.MethodName)) ∈ gTs := gTs_mem (i := 627) (by decide +kernel) rfl
theorem wd_628 : (Jvm.Cond.selects "CutStore$Store" ({ cls := "CutStore$Store", name := "countKeptFiles", desc := "()I" } : Jvm.MethodName) ({ cls := "CutStore$Store", name := "countKeptFiles", desc := "()I" } : Jvm.MethodName)) ∈ gTs := gTs_mem (i := 628) (by decide +kernel) rfl
theorem wd_629 : (Jvm.Cond.code ({ cls := "CutStore$Store", name := "countKeptFiles", desc := "()I" } : Jvm.MethodName) prog_7_method_7_code (3 : Nat) (Option.some Jvm.ClassFile.FieldType.int)) ∈ gTs := gTs_mem (i := 629) (by decide +kernel) rfl
theorem wd_630 : (Jvm.Cond.methodLink "CutStoreLaw" (114 : Nat) ({ cls := "CutStore", name := "prices", desc := "(II)Z" } : Jvm.MethodName)) ∈ gTs := gTs_mem (i := 630) (by decide +kernel) rfl
theorem wd_631 : (Jvm.Cond.instanceMethod ({ cls := "CutStore", name := "prices", desc := "(II)Z" } : Jvm.MethodName)) ∈ gTs := gTs_mem (i := 631) (by decide +kernel) rfl
theorem wd_632 : (Jvm.Cond.selects "CutStore" ({ cls := "CutStore", name := "prices", desc := "(II)Z" } : Jvm.MethodName) ({ cls := "CutStore", name := "prices", desc := "(II)Z" } : Jvm.MethodName)) ∈ gTs := gTs_mem (i := 632) (by decide +kernel) rfl
theorem wd_633 : (Jvm.Cond.code ({ cls := "CutStore", name := "prices", desc := "(II)Z" } : Jvm.MethodName) prog_1_method_25_code (3 : Nat) (Option.some Jvm.ClassFile.FieldType.boolean)) ∈ gTs := gTs_mem (i := 633) (by decide +kernel) rfl
theorem wd_634 : (Jvm.Cond.methodLink "CutStoreLaw" (118 : Nat) ({ cls := "CutStore", name := "supers", desc := "()I" } : Jvm.MethodName)) ∈ gTs := gTs_mem (i := 634) (by decide +kernel) rfl
theorem wd_635 : (Jvm.Cond.instanceMethod ({ cls := "CutStore", name := "supers", desc := "()I" } : Jvm.MethodName)) ∈ gTs := gTs_mem (i := 635) (by decide +kernel) rfl
theorem wd_636 : (Jvm.Cond.selects "CutStore" ({ cls := "CutStore", name := "supers", desc := "()I" } : Jvm.MethodName) ({ cls := "CutStore", name := "supers", desc := "()I" } : Jvm.MethodName)) ∈ gTs := gTs_mem (i := 636) (by decide +kernel) rfl
theorem wd_637 : (Jvm.Cond.code ({ cls := "CutStore", name := "supers", desc := "()I" } : Jvm.MethodName) prog_1_method_26_code (2 : Nat) (Option.some Jvm.ClassFile.FieldType.int)) ∈ gTs := gTs_mem (i := 637) (by decide +kernel) rfl
theorem wd_638 : (Jvm.Cond.methodLink "CutStore" (213 : Nat) ({ cls := "CutStore$Supers", name := "clear", desc := "()V" } : Jvm.MethodName)) ∈ gTs := gTs_mem (i := 638) (by decide +kernel) rfl
theorem wd_639 : (Jvm.Cond.instanceMethod ({ cls := "CutStore$Supers", name := "clear", desc := "()V" } : Jvm.MethodName)) ∈ gTs := gTs_mem (i := 639) (by decide +kernel) rfl
theorem wd_640 : (Jvm.Cond.selects "CutStore$Supers" ({ cls := "CutStore$Supers", name := "clear", desc := "()V" } : Jvm.MethodName) ({ cls := "CutStore$Supers", name := "clear", desc := "()V" } : Jvm.MethodName)) ∈ gTs := gTs_mem (i := 640) (by decide +kernel) rfl
theorem wd_641 : (Jvm.Cond.code ({ cls := "CutStore$Supers", name := "clear", desc := "()V" } : Jvm.MethodName) prog_8_method_2_code (1 : Nat) (Option.none : Option Jvm.ClassFile.FieldType)) ∈ gTs := gTs_mem (i := 641) (by decide +kernel) rfl
theorem wd_642 : (Jvm.Cond.methodLink "CutStore" (214 : Nat) ({ cls := "CutStore$Supers", name := "addRow", desc := "([II)V" } : Jvm.MethodName)) ∈ gTs := gTs_mem (i := 642) (by decide +kernel) rfl
theorem wd_643 : (Jvm.Cond.instanceMethod ({ cls := "CutStore$Supers", name := "addRow", desc := "([II)V" } : Jvm.MethodName)) ∈ gTs := gTs_mem (i := 643) (by decide +kernel) rfl
theorem wd_644 : (Jvm.Cond.selects "CutStore$Supers" ({ cls := "CutStore$Supers", name := "addRow", desc := "([II)V" } : Jvm.MethodName) ({ cls := "CutStore$Supers", name := "addRow", desc := "([II)V" } : Jvm.MethodName)) ∈ gTs := gTs_mem (i := 644) (by decide +kernel) rfl
theorem wd_645 : (Jvm.Cond.code ({ cls := "CutStore$Supers", name := "addRow", desc := "([II)V" } : Jvm.MethodName) prog_8_method_3_code (3 : Nat) (Option.none : Option Jvm.ClassFile.FieldType)) ∈ gTs := gTs_mem (i := 645) (by decide +kernel) rfl
theorem wd_646 : (Jvm.Cond.methodLink "CutStore$Supers" (41 : Nat) ({ cls := "java/lang/System", name := "arraycopy", desc := "(Ljava/lang/Object;ILjava/lang/Object;II)V" } : Jvm.MethodName)) ∈ gTs := gTs_mem (i := 646) (by decide +kernel) rfl
theorem wd_647 : (Jvm.Cond.methodLink "CutStore" (218 : Nat) ({ cls := "CutStore$Supers", name := "make", desc := "()V" } : Jvm.MethodName)) ∈ gTs := gTs_mem (i := 647) (by decide +kernel) rfl
theorem wd_648 : (Jvm.Cond.instanceMethod ({ cls := "CutStore$Supers", name := "make", desc := "()V" } : Jvm.MethodName)) ∈ gTs := gTs_mem (i := 648) (by decide +kernel) rfl
theorem wd_649 : (Jvm.Cond.selects "CutStore$Supers" ({ cls := "CutStore$Supers", name := "make", desc := "()V" } : Jvm.MethodName) ({ cls := "CutStore$Supers", name := "make", desc := "()V" } : Jvm.MethodName)) ∈ gTs := gTs_mem (i := 649) (by decide +kernel) rfl
theorem wd_650 : (Jvm.Cond.code ({ cls := "CutStore$Supers", name := "make", desc := "()V" } : Jvm.MethodName) prog_8_method_4_code (2 : Nat) (Option.none : Option Jvm.ClassFile.FieldType)) ∈ gTs := gTs_mem (i := 650) (by decide +kernel) rfl
theorem wd_651 : (Jvm.Cond.methodLink "CutStore$Supers" (47 : Nat) ({ cls := "CutStore$Supers", name := "countPairs", desc := "()V" } : Jvm.MethodName)) ∈ gTs := gTs_mem (i := 651) (by decide +kernel) rfl
theorem wd_653 : (Jvm.Cond.instanceMethod ({ cls := "CutStore$Supers", name := "countPairs", desc := "()V" } : Jvm.MethodName)) ∈ gTs := gTs_mem (i := 653) (by decide +kernel) rfl
theorem wd_654 : (Jvm.Cond.code ({ cls := "CutStore$Supers", name := "countPairs", desc := "()V" } : Jvm.MethodName) prog_8_method_6_code (5 : Nat) (Option.none : Option Jvm.ClassFile.FieldType)) ∈ gTs := gTs_mem (i := 654) (by decide +kernel) rfl
theorem wd_655 : (Jvm.Cond.methodLink "CutStore$Supers" (63 : Nat) ({ cls := "CutStore$PairTable", name := "clear", desc := "()V" } : Jvm.MethodName)) ∈ gTs := gTs_mem (i := 655) (by decide +kernel) rfl
theorem wd_656 : (Jvm.Cond.instanceMethod ({ cls := "CutStore$PairTable", name := "clear", desc := "()V" } : Jvm.MethodName)) ∈ gTs := gTs_mem (i := 656) (by decide +kernel) rfl
theorem wd_657 : (Jvm.Cond.selects "CutStore$PairTable" ({ cls := "CutStore$PairTable", name := "clear", desc := "()V" } : Jvm.MethodName) ({ cls := "CutStore$PairTable", name := "clear", desc := "()V" } : Jvm.MethodName)) ∈ gTs := gTs_mem (i := 657) (by decide +kernel) rfl
theorem wd_658 : (Jvm.Cond.code ({ cls := "CutStore$PairTable", name := "clear", desc := "()V" } : Jvm.MethodName) prog_5_method_2_code (1 : Nat) (Option.none : Option Jvm.ClassFile.FieldType)) ∈ gTs := gTs_mem (i := 658) (by decide +kernel) rfl
theorem wd_659 : (Jvm.Cond.methodLink "CutStore$Supers" (66 : Nat) ({ cls := "CutStore$PairTable", name := "addPair", desc := "(II)V" } : Jvm.MethodName)) ∈ gTs := gTs_mem (i := 659) (by decide +kernel) rfl
theorem wd_660 : (Jvm.Cond.instanceMethod ({ cls := "CutStore$PairTable", name := "addPair", desc := "(II)V" } : Jvm.MethodName)) ∈ gTs := gTs_mem (i := 660) (by decide +kernel) rfl
theorem wd_661 : (Jvm.Cond.selects "CutStore$PairTable" ({ cls := "CutStore$PairTable", name := "addPair", desc := "(II)V" } : Jvm.MethodName) ({ cls := "CutStore$PairTable", name := "addPair", desc := "(II)V" } : Jvm.MethodName)) ∈ gTs := gTs_mem (i := 661) (by decide +kernel) rfl
theorem wd_662 : (Jvm.Cond.code ({ cls := "CutStore$PairTable", name := "addPair", desc := "(II)V" } : Jvm.MethodName) prog_5_method_3_code (5 : Nat) (Option.none : Option Jvm.ClassFile.FieldType)) ∈ gTs := gTs_mem (i := 662) (by decide +kernel) rfl
theorem wd_663 : (Jvm.Cond.methodLink "CutStore$PairTable" (28 : Nat) ({ cls := "CutStore$PairTable", name := "countOnceMore", desc := "(I)I" } : Jvm.MethodName)) ∈ gTs := gTs_mem (i := 663) (by decide +kernel) rfl
theorem wd_665 : (Jvm.Cond.instanceMethod ({ cls := "CutStore$PairTable", name := "countOnceMore", desc := "(I)I" } : Jvm.MethodName)) ∈ gTs := gTs_mem (i := 665) (by decide +kernel) rfl
theorem wd_666 : (Jvm.Cond.code ({ cls := "CutStore$PairTable", name := "countOnceMore", desc := "(I)I" } : Jvm.MethodName) prog_5_method_4_code (5 : Nat) (Option.some Jvm.ClassFile.FieldType.int)) ∈ gTs := gTs_mem (i := 666) (by decide +kernel) rfl
theorem wn_667 : (Jvm.Cond.methodLinkNest "CutStore$PairTable" (41 : Nat) ({ cls := "CutStore", name := "spread", desc := "(I)I" } : Jvm.MethodName) "CutStore") ∈ lw_tbl := List.mem_of_getElem? (i := 667) (by decide +kernel)
theorem wd_668 : (Jvm.Cond.methodLink "CutStore$Supers" (59 : Nat) ({ cls := "CutStore$Supers", name := "putInPlace", desc := "(III)I" } : Jvm.MethodName)) ∈ gTs := gTs_mem (i := 668) (by decide +kernel) rfl
theorem wd_670 : (Jvm.Cond.instanceMethod ({ cls := "CutStore$Supers", name := "putInPlace", desc := "(III)I" } : Jvm.MethodName)) ∈ gTs := gTs_mem (i := 670) (by decide +kernel) rfl
theorem wd_671 : (Jvm.Cond.code ({ cls := "CutStore$Supers", name := "putInPlace", desc := "(III)I" } : Jvm.MethodName) prog_8_method_7_code (7 : Nat) (Option.some Jvm.ClassFile.FieldType.int)) ∈ gTs := gTs_mem (i := 671) (by decide +kernel) rfl
theorem wd_672 : (Jvm.Cond.methodLink "CutStore" (221 : Nat) ({ cls := "CutStore$Supers", name := "countLeft", desc := "()I" } : Jvm.MethodName)) ∈ gTs := gTs_mem (i := 672) (by decide +kernel) rfl
theorem wd_673 : (Jvm.Cond.instanceMethod ({ cls := "CutStore$Supers", name := "countLeft", desc := "()I" } : Jvm.MethodName)) ∈ gTs := gTs_mem (i := 673) (by decide +kernel) rfl
theorem wd_674 : (Jvm.Cond.selects "CutStore$Supers" ({ cls := "CutStore$Supers", name := "countLeft", desc := "()I" } : Jvm.MethodName) ({ cls := "CutStore$Supers", name := "countLeft", desc := "()I" } : Jvm.MethodName)) ∈ gTs := gTs_mem (i := 674) (by decide +kernel) rfl
theorem wd_675 : (Jvm.Cond.code ({ cls := "CutStore$Supers", name := "countLeft", desc := "()I" } : Jvm.MethodName) prog_8_method_5_code (1 : Nat) (Option.some Jvm.ClassFile.FieldType.int)) ∈ gTs := gTs_mem (i := 675) (by decide +kernel) rfl
theorem wd_676 : (Jvm.Cond.methodLink "CutStoreLaw" (123 : Nat) ({ cls := "CutStore", name := "pair", desc := "(II)I" } : Jvm.MethodName)) ∈ gTs := gTs_mem (i := 676) (by decide +kernel) rfl
theorem wd_677 : (Jvm.Cond.instanceMethod ({ cls := "CutStore", name := "pair", desc := "(II)I" } : Jvm.MethodName)) ∈ gTs := gTs_mem (i := 677) (by decide +kernel) rfl
theorem wd_678 : (Jvm.Cond.selects "CutStore" ({ cls := "CutStore", name := "pair", desc := "(II)I" } : Jvm.MethodName) ({ cls := "CutStore", name := "pair", desc := "(II)I" } : Jvm.MethodName)) ∈ gTs := gTs_mem (i := 678) (by decide +kernel) rfl
theorem wd_679 : (Jvm.Cond.code ({ cls := "CutStore", name := "pair", desc := "(II)I" } : Jvm.MethodName) prog_1_method_27_code (3 : Nat) (Option.some Jvm.ClassFile.FieldType.int)) ∈ gTs := gTs_mem (i := 679) (by decide +kernel) rfl
theorem wd_680 : (Jvm.Cond.classLink "CutStoreLaw" (10 : Nat) "CutStoreModel") ∈ gTs := gTs_mem (i := 680) (by decide +kernel) rfl
theorem wd_681 : (Jvm.Cond.instantiable "CutStoreModel" (37 : Nat)) ∈ gTs := gTs_mem (i := 681) (by decide +kernel) rfl
theorem wd_682 : (Jvm.Cond.methodLink "CutStoreLaw" (12 : Nat) ({ cls := "CutStoreModel", name := "<init>", desc := "()V" } : Jvm.MethodName)) ∈ gTs := gTs_mem (i := 682) (by decide +kernel) rfl
theorem wd_683 : (Jvm.Cond.instanceMethod ({ cls := "CutStoreModel", name := "<init>", desc := "()V" } : Jvm.MethodName)) ∈ gTs := gTs_mem (i := 683) (by decide +kernel) rfl
theorem wd_684 : (Jvm.Cond.code ({ cls := "CutStoreModel", name := "<init>", desc := "()V" } : Jvm.MethodName) prog_11_method_1_code (1 : Nat) (Option.none : Option Jvm.ClassFile.FieldType)) ∈ gTs := gTs_mem (i := 684) (by decide +kernel) rfl
theorem wd_685 : (Jvm.Cond.methodLink "CutStoreModel" (1 : Nat) ({ cls := "java/lang/Object", name := "<init>", desc := "()V" } : Jvm.MethodName)) ∈ gTs := gTs_mem (i := 685) (by decide +kernel) rfl
theorem wd_686 : (Jvm.Cond.constant "CutStoreModel" (65 : Nat) (60200 : Int32)) ∈ gTs := gTs_mem (i := 686) (by decide +kernel) rfl
theorem wd_687 : (Jvm.Cond.constant "CutStoreModel" (94 : Nat) (262144 : Int32)) ∈ gTs := gTs_mem (i := 687) (by decide +kernel) rfl
theorem wd_688 : (Jvm.Cond.fieldLink "CutStoreModel" (7 : Nat) "CutStoreModel" "size" "[I") ∈ gTs := gTs_mem (i := 688) (by decide +kernel) rfl
theorem wd_689 : (Jvm.Cond.fieldLink "CutStoreModel" (13 : Nat) "CutStoreModel" "bytes" "[I") ∈ gTs := gTs_mem (i := 689) (by decide +kernel) rfl
theorem wd_690 : (Jvm.Cond.fieldLink "CutStoreModel" (16 : Nat) "CutStoreModel" "tape" "[I") ∈ gTs := gTs_mem (i := 690) (by decide +kernel) rfl
theorem wd_691 : (Jvm.Cond.fieldLink "CutStoreModel" (110 : Nat) "CutStoreModel" "taped" "I") ∈ gTs := gTs_mem (i := 691) (by decide +kernel) rfl
theorem wd_692 : (Jvm.Cond.fieldLink "CutStoreModel" (19 : Nat) "CutStoreModel" "kind" "[I") ∈ gTs := gTs_mem (i := 692) (by decide +kernel) rfl
theorem wd_693 : (Jvm.Cond.fieldLink "CutStoreModel" (22 : Nat) "CutStoreModel" "least" "[I") ∈ gTs := gTs_mem (i := 693) (by decide +kernel) rfl
theorem wd_694 : (Jvm.Cond.fieldLink "CutStoreModel" (25 : Nat) "CutStoreModel" "most" "[I") ∈ gTs := gTs_mem (i := 694) (by decide +kernel) rfl
theorem wd_695 : (Jvm.Cond.fieldLink "CutStoreModel" (28 : Nat) "CutStoreModel" "window" "[I") ∈ gTs := gTs_mem (i := 695) (by decide +kernel) rfl
theorem wd_696 : (Jvm.Cond.fieldLink "CutStoreModel" (31 : Nat) "CutStoreModel" "bits" "[I") ∈ gTs := gTs_mem (i := 696) (by decide +kernel) rfl
theorem wd_697 : (Jvm.Cond.fieldLink "CutStoreModel" (34 : Nat) "CutStoreModel" "mark" "[I") ∈ gTs := gTs_mem (i := 697) (by decide +kernel) rfl
theorem wd_698 : (Jvm.Cond.fieldLink "CutStoreModel" (140 : Nat) "CutStoreModel" "cuts" "I") ∈ gTs := gTs_mem (i := 698) (by decide +kernel) rfl
theorem wd_699 : (Jvm.Cond.fieldLink "CutStoreModel" (37 : Nat) "CutStoreModel" "cut" "[I") ∈ gTs := gTs_mem (i := 699) (by decide +kernel) rfl
theorem wd_700 : (Jvm.Cond.fieldLink "CutStoreModel" (40 : Nat) "CutStoreModel" "other" "[I") ∈ gTs := gTs_mem (i := 700) (by decide +kernel) rfl
theorem wd_701 : (Jvm.Cond.fieldLink "CutStoreModel" (150 : Nat) "CutStoreModel" "others" "I") ∈ gTs := gTs_mem (i := 701) (by decide +kernel) rfl
theorem wd_702 : (Jvm.Cond.fieldLink "CutStoreModel" (43 : Nat) "CutStoreModel" "entry" "I") ∈ gTs := gTs_mem (i := 702) (by decide +kernel) rfl
theorem wd_703 : (Jvm.Cond.fieldLink "CutStoreModel" (47 : Nat) "CutStoreModel" "pointer" "I") ∈ gTs := gTs_mem (i := 703) (by decide +kernel) rfl
theorem wd_704 : (Jvm.Cond.fieldLink "CutStoreModel" (50 : Nat) "CutStoreModel" "noteFile" "[I") ∈ gTs := gTs_mem (i := 704) (by decide +kernel) rfl
theorem wd_705 : (Jvm.Cond.fieldLink "CutStoreModel" (53 : Nat) "CutStoreModel" "noteFrom" "[I") ∈ gTs := gTs_mem (i := 705) (by decide +kernel) rfl
theorem wd_706 : (Jvm.Cond.fieldLink "CutStoreModel" (56 : Nat) "CutStoreModel" "noteEnd" "[I") ∈ gTs := gTs_mem (i := 706) (by decide +kernel) rfl
theorem wd_707 : (Jvm.Cond.fieldLink "CutStoreModel" (59 : Nat) "CutStoreModel" "notePrint" "[I") ∈ gTs := gTs_mem (i := 707) (by decide +kernel) rfl
theorem wd_708 : (Jvm.Cond.fieldLink "CutStoreModel" (62 : Nat) "CutStoreModel" "pieceSize" "[I") ∈ gTs := gTs_mem (i := 708) (by decide +kernel) rfl
theorem wd_709 : (Jvm.Cond.fieldLink "CutStoreModel" (66 : Nat) "CutStoreModel" "pieceByte" "[I") ∈ gTs := gTs_mem (i := 709) (by decide +kernel) rfl
theorem wd_710 : (Jvm.Cond.fieldLink "CutStoreModel" (69 : Nat) "CutStoreModel" "print" "[I") ∈ gTs := gTs_mem (i := 710) (by decide +kernel) rfl
theorem wd_711 : (Jvm.Cond.fieldLink "CutStoreModel" (72 : Nat) "CutStoreModel" "holds" "[I") ∈ gTs := gTs_mem (i := 711) (by decide +kernel) rfl
theorem wd_712 : (Jvm.Cond.fieldLink "CutStoreModel" (75 : Nat) "CutStoreModel" "isKept" "[Z") ∈ gTs := gTs_mem (i := 712) (by decide +kernel) rfl
theorem wd_713 : (Jvm.Cond.fieldLink "CutStoreModel" (79 : Nat) "CutStoreModel" "keptMany" "[I") ∈ gTs := gTs_mem (i := 713) (by decide +kernel) rfl
theorem wd_714 : (Jvm.Cond.fieldLink "CutStoreModel" (82 : Nat) "CutStoreModel" "kept" "[I") ∈ gTs := gTs_mem (i := 714) (by decide +kernel) rfl
theorem wd_715 : (Jvm.Cond.fieldLink "CutStoreModel" (174 : Nat) "CutStoreModel" "meetings" "I") ∈ gTs := gTs_mem (i := 715) (by decide +kernel) rfl
theorem wd_716 : (Jvm.Cond.fieldLink "CutStoreModel" (85 : Nat) "CutStoreModel" "was" "[I") ∈ gTs := gTs_mem (i := 716) (by decide +kernel) rfl
theorem wd_717 : (Jvm.Cond.fieldLink "CutStoreModel" (88 : Nat) "CutStoreModel" "row" "[I") ∈ gTs := gTs_mem (i := 717) (by decide +kernel) rfl
theorem wd_718 : (Jvm.Cond.fieldLink "CutStoreModel" (91 : Nat) "CutStoreModel" "rowEnd" "[I") ∈ gTs := gTs_mem (i := 718) (by decide +kernel) rfl
theorem wd_719 : (Jvm.Cond.fieldLink "CutStoreModel" (95 : Nat) "CutStoreModel" "times" "[I") ∈ gTs := gTs_mem (i := 719) (by decide +kernel) rfl
theorem wd_720 : (Jvm.Cond.fieldLink "CutStoreModel" (98 : Nat) "CutStoreModel" "lastAt" "[I") ∈ gTs := gTs_mem (i := 720) (by decide +kernel) rfl
theorem wd_721 : (Jvm.Cond.fieldLink "CutStoreModel" (195 : Nat) "CutStoreModel" "supers" "I") ∈ gTs := gTs_mem (i := 721) (by decide +kernel) rfl
theorem wd_722 : (Jvm.Cond.fieldLink "CutStoreModel" (101 : Nat) "CutStoreModel" "superFirst" "[I") ∈ gTs := gTs_mem (i := 722) (by decide +kernel) rfl
theorem wd_723 : (Jvm.Cond.fieldLink "CutStoreModel" (104 : Nat) "CutStoreModel" "superSecond" "[I") ∈ gTs := gTs_mem (i := 723) (by decide +kernel) rfl
theorem wd_724 : (Jvm.Cond.fieldLink "CutStoreModel" (107 : Nat) "CutStoreModel" "superTimes" "[I") ∈ gTs := gTs_mem (i := 724) (by decide +kernel) rfl
theorem wd_725 : (Jvm.Cond.laysFinal "CutStoreModel" "CutStoreModel" "size" "[I") ∈ gTs := gTs_mem (i := 725) (by decide +kernel) rfl
theorem wd_727 : (Jvm.Cond.laysFinal "CutStoreModel" "CutStoreModel" "bytes" "[I") ∈ gTs := gTs_mem (i := 727) (by decide +kernel) rfl
theorem wd_729 : (Jvm.Cond.laysFinal "CutStoreModel" "CutStoreModel" "tape" "[I") ∈ gTs := gTs_mem (i := 729) (by decide +kernel) rfl
theorem wd_731 : (Jvm.Cond.lays "CutStoreModel" "CutStoreModel" "taped" "I") ∈ gTs := gTs_mem (i := 731) (by decide +kernel) rfl
theorem wd_733 : (Jvm.Cond.laysFinal "CutStoreModel" "CutStoreModel" "kind" "[I") ∈ gTs := gTs_mem (i := 733) (by decide +kernel) rfl
theorem wd_735 : (Jvm.Cond.laysFinal "CutStoreModel" "CutStoreModel" "least" "[I") ∈ gTs := gTs_mem (i := 735) (by decide +kernel) rfl
theorem wd_737 : (Jvm.Cond.laysFinal "CutStoreModel" "CutStoreModel" "most" "[I") ∈ gTs := gTs_mem (i := 737) (by decide +kernel) rfl
theorem wd_739 : (Jvm.Cond.laysFinal "CutStoreModel" "CutStoreModel" "window" "[I") ∈ gTs := gTs_mem (i := 739) (by decide +kernel) rfl
theorem wd_741 : (Jvm.Cond.laysFinal "CutStoreModel" "CutStoreModel" "bits" "[I") ∈ gTs := gTs_mem (i := 741) (by decide +kernel) rfl
theorem wd_743 : (Jvm.Cond.laysFinal "CutStoreModel" "CutStoreModel" "mark" "[I") ∈ gTs := gTs_mem (i := 743) (by decide +kernel) rfl
theorem wd_745 : (Jvm.Cond.lays "CutStoreModel" "CutStoreModel" "cuts" "I") ∈ gTs := gTs_mem (i := 745) (by decide +kernel) rfl
theorem wd_747 : (Jvm.Cond.laysFinal "CutStoreModel" "CutStoreModel" "cut" "[I") ∈ gTs := gTs_mem (i := 747) (by decide +kernel) rfl
theorem wd_749 : (Jvm.Cond.laysFinal "CutStoreModel" "CutStoreModel" "other" "[I") ∈ gTs := gTs_mem (i := 749) (by decide +kernel) rfl
theorem wd_751 : (Jvm.Cond.lays "CutStoreModel" "CutStoreModel" "others" "I") ∈ gTs := gTs_mem (i := 751) (by decide +kernel) rfl
theorem wd_753 : (Jvm.Cond.lays "CutStoreModel" "CutStoreModel" "entry" "I") ∈ gTs := gTs_mem (i := 753) (by decide +kernel) rfl
theorem wd_755 : (Jvm.Cond.lays "CutStoreModel" "CutStoreModel" "pointer" "I") ∈ gTs := gTs_mem (i := 755) (by decide +kernel) rfl
theorem wd_757 : (Jvm.Cond.laysFinal "CutStoreModel" "CutStoreModel" "noteFile" "[I") ∈ gTs := gTs_mem (i := 757) (by decide +kernel) rfl
theorem wd_759 : (Jvm.Cond.laysFinal "CutStoreModel" "CutStoreModel" "noteFrom" "[I") ∈ gTs := gTs_mem (i := 759) (by decide +kernel) rfl
theorem wd_761 : (Jvm.Cond.laysFinal "CutStoreModel" "CutStoreModel" "noteEnd" "[I") ∈ gTs := gTs_mem (i := 761) (by decide +kernel) rfl
theorem wd_763 : (Jvm.Cond.laysFinal "CutStoreModel" "CutStoreModel" "notePrint" "[I") ∈ gTs := gTs_mem (i := 763) (by decide +kernel) rfl
theorem wd_765 : (Jvm.Cond.laysFinal "CutStoreModel" "CutStoreModel" "pieceSize" "[I") ∈ gTs := gTs_mem (i := 765) (by decide +kernel) rfl
theorem wd_767 : (Jvm.Cond.laysFinal "CutStoreModel" "CutStoreModel" "pieceByte" "[I") ∈ gTs := gTs_mem (i := 767) (by decide +kernel) rfl
theorem wd_769 : (Jvm.Cond.laysFinal "CutStoreModel" "CutStoreModel" "print" "[I") ∈ gTs := gTs_mem (i := 769) (by decide +kernel) rfl
theorem wd_771 : (Jvm.Cond.laysFinal "CutStoreModel" "CutStoreModel" "holds" "[I") ∈ gTs := gTs_mem (i := 771) (by decide +kernel) rfl
theorem wd_773 : (Jvm.Cond.laysFinal "CutStoreModel" "CutStoreModel" "isKept" "[Z") ∈ gTs := gTs_mem (i := 773) (by decide +kernel) rfl
theorem wd_775 : (Jvm.Cond.laysFinal "CutStoreModel" "CutStoreModel" "keptMany" "[I") ∈ gTs := gTs_mem (i := 775) (by decide +kernel) rfl
theorem wd_777 : (Jvm.Cond.laysFinal "CutStoreModel" "CutStoreModel" "kept" "[I") ∈ gTs := gTs_mem (i := 777) (by decide +kernel) rfl
theorem wd_779 : (Jvm.Cond.lays "CutStoreModel" "CutStoreModel" "meetings" "I") ∈ gTs := gTs_mem (i := 779) (by decide +kernel) rfl
theorem wd_781 : (Jvm.Cond.laysFinal "CutStoreModel" "CutStoreModel" "was" "[I") ∈ gTs := gTs_mem (i := 781) (by decide +kernel) rfl
theorem wd_783 : (Jvm.Cond.laysFinal "CutStoreModel" "CutStoreModel" "row" "[I") ∈ gTs := gTs_mem (i := 783) (by decide +kernel) rfl
theorem wd_785 : (Jvm.Cond.laysFinal "CutStoreModel" "CutStoreModel" "rowEnd" "[I") ∈ gTs := gTs_mem (i := 785) (by decide +kernel) rfl
theorem wd_787 : (Jvm.Cond.laysFinal "CutStoreModel" "CutStoreModel" "times" "[I") ∈ gTs := gTs_mem (i := 787) (by decide +kernel) rfl
theorem wd_789 : (Jvm.Cond.laysFinal "CutStoreModel" "CutStoreModel" "lastAt" "[I") ∈ gTs := gTs_mem (i := 789) (by decide +kernel) rfl
theorem wd_791 : (Jvm.Cond.lays "CutStoreModel" "CutStoreModel" "supers" "I") ∈ gTs := gTs_mem (i := 791) (by decide +kernel) rfl
theorem wd_793 : (Jvm.Cond.laysFinal "CutStoreModel" "CutStoreModel" "superFirst" "[I") ∈ gTs := gTs_mem (i := 793) (by decide +kernel) rfl
theorem wd_795 : (Jvm.Cond.laysFinal "CutStoreModel" "CutStoreModel" "superSecond" "[I") ∈ gTs := gTs_mem (i := 795) (by decide +kernel) rfl
theorem wd_797 : (Jvm.Cond.laysFinal "CutStoreModel" "CutStoreModel" "superTimes" "[I") ∈ gTs := gTs_mem (i := 797) (by decide +kernel) rfl
theorem wd_800 : (Jvm.Cond.arrayClass Jvm.ClassFile.FieldType.boolean) ∈ gTs := gTs_mem (i := 800) (by decide +kernel) rfl
theorem wd_801 : (Jvm.Cond.methodLink "CutStoreLaw" (17 : Nat) ({ cls := "CutStoreModel", name := "feed", desc := "(IIIII)I" } : Jvm.MethodName)) ∈ gTs := gTs_mem (i := 801) (by decide +kernel) rfl
theorem wd_802 : (Jvm.Cond.instanceMethod ({ cls := "CutStoreModel", name := "feed", desc := "(IIIII)I" } : Jvm.MethodName)) ∈ gTs := gTs_mem (i := 802) (by decide +kernel) rfl
theorem wd_803 : (Jvm.Cond.selects "CutStoreModel" ({ cls := "CutStoreModel", name := "feed", desc := "(IIIII)I" } : Jvm.MethodName) ({ cls := "CutStoreModel", name := "feed", desc := "(IIIII)I" } : Jvm.MethodName)) ∈ gTs := gTs_mem (i := 803) (by decide +kernel) rfl
theorem wd_804 : (Jvm.Cond.code ({ cls := "CutStoreModel", name := "feed", desc := "(IIIII)I" } : Jvm.MethodName) prog_11_method_2_code (8 : Nat) (Option.some Jvm.ClassFile.FieldType.int)) ∈ gTs := gTs_mem (i := 804) (by decide +kernel) rfl
theorem wd_805 : (Jvm.Cond.methodLink "CutStoreLaw" (22 : Nat) ({ cls := "CutStoreModel", name := "end", desc := "(I)Z" } : Jvm.MethodName)) ∈ gTs := gTs_mem (i := 805) (by decide +kernel) rfl
theorem wd_806 : (Jvm.Cond.instanceMethod ({ cls := "CutStoreModel", name := "end", desc := "(I)Z" } : Jvm.MethodName)) ∈ gTs := gTs_mem (i := 806) (by decide +kernel) rfl
theorem wd_807 : (Jvm.Cond.selects "CutStoreModel" ({ cls := "CutStoreModel", name := "end", desc := "(I)Z" } : Jvm.MethodName) ({ cls := "CutStoreModel", name := "end", desc := "(I)Z" } : Jvm.MethodName)) ∈ gTs := gTs_mem (i := 807) (by decide +kernel) rfl
theorem wd_808 : (Jvm.Cond.code ({ cls := "CutStoreModel", name := "end", desc := "(I)Z" } : Jvm.MethodName) prog_11_method_3_code (2 : Nat) (Option.some Jvm.ClassFile.FieldType.boolean)) ∈ gTs := gTs_mem (i := 808) (by decide +kernel) rfl
theorem wd_809 : (Jvm.Cond.methodLink "CutStoreLaw" (27 : Nat) ({ cls := "CutStoreModel", name := "edit", desc := "(III)I" } : Jvm.MethodName)) ∈ gTs := gTs_mem (i := 809) (by decide +kernel) rfl
theorem wd_810 : (Jvm.Cond.instanceMethod ({ cls := "CutStoreModel", name := "edit", desc := "(III)I" } : Jvm.MethodName)) ∈ gTs := gTs_mem (i := 810) (by decide +kernel) rfl
theorem wd_811 : (Jvm.Cond.selects "CutStoreModel" ({ cls := "CutStoreModel", name := "edit", desc := "(III)I" } : Jvm.MethodName) ({ cls := "CutStoreModel", name := "edit", desc := "(III)I" } : Jvm.MethodName)) ∈ gTs := gTs_mem (i := 811) (by decide +kernel) rfl
theorem wd_812 : (Jvm.Cond.code ({ cls := "CutStoreModel", name := "edit", desc := "(III)I" } : Jvm.MethodName) prog_11_method_6_code (8 : Nat) (Option.some Jvm.ClassFile.FieldType.int)) ∈ gTs := gTs_mem (i := 812) (by decide +kernel) rfl
theorem wd_813 : (Jvm.Cond.methodLink "CutStoreModel" (113 : Nat) ({ cls := "CutStoreModel", name := "isFile", desc := "(I)Z" } : Jvm.MethodName)) ∈ gTs := gTs_mem (i := 813) (by decide +kernel) rfl
theorem wd_814 : (Jvm.Cond.static ({ cls := "CutStoreModel", name := "isFile", desc := "(I)Z" } : Jvm.MethodName)) ∈ gTs := gTs_mem (i := 814) (by decide +kernel) rfl
theorem wd_815 : (Jvm.Cond.code ({ cls := "CutStoreModel", name := "isFile", desc := "(I)Z" } : Jvm.MethodName) prog_11_method_4_code (1 : Nat) (Option.some Jvm.ClassFile.FieldType.boolean)) ∈ gTs := gTs_mem (i := 815) (by decide +kernel) rfl
theorem wd_816 : (Jvm.Cond.methodLink "CutStoreLaw" (32 : Nat) ({ cls := "CutStoreModel", name := "sow", desc := "(IIII)I" } : Jvm.MethodName)) ∈ gTs := gTs_mem (i := 816) (by decide +kernel) rfl
theorem wd_817 : (Jvm.Cond.instanceMethod ({ cls := "CutStoreModel", name := "sow", desc := "(IIII)I" } : Jvm.MethodName)) ∈ gTs := gTs_mem (i := 817) (by decide +kernel) rfl
theorem wd_818 : (Jvm.Cond.selects "CutStoreModel" ({ cls := "CutStoreModel", name := "sow", desc := "(IIII)I" } : Jvm.MethodName) ({ cls := "CutStoreModel", name := "sow", desc := "(IIII)I" } : Jvm.MethodName)) ∈ gTs := gTs_mem (i := 818) (by decide +kernel) rfl
theorem wd_819 : (Jvm.Cond.code ({ cls := "CutStoreModel", name := "sow", desc := "(IIII)I" } : Jvm.MethodName) prog_11_method_7_code (7 : Nat) (Option.some Jvm.ClassFile.FieldType.int)) ∈ gTs := gTs_mem (i := 819) (by decide +kernel) rfl
theorem wd_820 : (Jvm.Cond.methodLink "CutStoreModel" (117 : Nat) ({ cls := "CutStoreModel", name := "isIn", desc := "(III)Z" } : Jvm.MethodName)) ∈ gTs := gTs_mem (i := 820) (by decide +kernel) rfl
theorem wd_821 : (Jvm.Cond.static ({ cls := "CutStoreModel", name := "isIn", desc := "(III)Z" } : Jvm.MethodName)) ∈ gTs := gTs_mem (i := 821) (by decide +kernel) rfl
theorem wd_822 : (Jvm.Cond.code ({ cls := "CutStoreModel", name := "isIn", desc := "(III)Z" } : Jvm.MethodName) prog_11_method_5_code (3 : Nat) (Option.some Jvm.ClassFile.FieldType.boolean)) ∈ gTs := gTs_mem (i := 822) (by decide +kernel) rfl
theorem wd_823 : (Jvm.Cond.constant "CutStoreModel" (121 : Nat) (1103515245 : Int32)) ∈ gTs := gTs_mem (i := 823) (by decide +kernel) rfl
theorem wd_824 : (Jvm.Cond.methodLink "CutStoreLaw" (37 : Nat) ({ cls := "CutStoreModel", name := "copy", desc := "(II)I" } : Jvm.MethodName)) ∈ gTs := gTs_mem (i := 824) (by decide +kernel) rfl
theorem wd_825 : (Jvm.Cond.instanceMethod ({ cls := "CutStoreModel", name := "copy", desc := "(II)I" } : Jvm.MethodName)) ∈ gTs := gTs_mem (i := 825) (by decide +kernel) rfl
theorem wd_826 : (Jvm.Cond.selects "CutStoreModel" ({ cls := "CutStoreModel", name := "copy", desc := "(II)I" } : Jvm.MethodName) ({ cls := "CutStoreModel", name := "copy", desc := "(II)I" } : Jvm.MethodName)) ∈ gTs := gTs_mem (i := 826) (by decide +kernel) rfl
theorem wd_827 : (Jvm.Cond.code ({ cls := "CutStoreModel", name := "copy", desc := "(II)I" } : Jvm.MethodName) prog_11_method_8_code (4 : Nat) (Option.some Jvm.ClassFile.FieldType.int)) ∈ gTs := gTs_mem (i := 827) (by decide +kernel) rfl
theorem wd_828 : (Jvm.Cond.methodLink "CutStoreLaw" (41 : Nat) ({ cls := "CutStoreModel", name := "at", desc := "(II)I" } : Jvm.MethodName)) ∈ gTs := gTs_mem (i := 828) (by decide +kernel) rfl
theorem wd_829 : (Jvm.Cond.instanceMethod ({ cls := "CutStoreModel", name := "at", desc := "(II)I" } : Jvm.MethodName)) ∈ gTs := gTs_mem (i := 829) (by decide +kernel) rfl
theorem wd_830 : (Jvm.Cond.selects "CutStoreModel" ({ cls := "CutStoreModel", name := "at", desc := "(II)I" } : Jvm.MethodName) ({ cls := "CutStoreModel", name := "at", desc := "(II)I" } : Jvm.MethodName)) ∈ gTs := gTs_mem (i := 830) (by decide +kernel) rfl
theorem wd_831 : (Jvm.Cond.code ({ cls := "CutStoreModel", name := "at", desc := "(II)I" } : Jvm.MethodName) prog_11_method_9_code (3 : Nat) (Option.some Jvm.ClassFile.FieldType.int)) ∈ gTs := gTs_mem (i := 831) (by decide +kernel) rfl
theorem wd_832 : (Jvm.Cond.methodLink "CutStoreLaw" (46 : Nat) ({ cls := "CutStoreModel", name := "fixed", desc := "(II)Z" } : Jvm.MethodName)) ∈ gTs := gTs_mem (i := 832) (by decide +kernel) rfl
theorem wd_833 : (Jvm.Cond.instanceMethod ({ cls := "CutStoreModel", name := "fixed", desc := "(II)Z" } : Jvm.MethodName)) ∈ gTs := gTs_mem (i := 833) (by decide +kernel) rfl
theorem wd_834 : (Jvm.Cond.selects "CutStoreModel" ({ cls := "CutStoreModel", name := "fixed", desc := "(II)Z" } : Jvm.MethodName) ({ cls := "CutStoreModel", name := "fixed", desc := "(II)Z" } : Jvm.MethodName)) ∈ gTs := gTs_mem (i := 834) (by decide +kernel) rfl
theorem wd_835 : (Jvm.Cond.code ({ cls := "CutStoreModel", name := "fixed", desc := "(II)Z" } : Jvm.MethodName) prog_11_method_12_code (3 : Nat) (Option.some Jvm.ClassFile.FieldType.boolean)) ∈ gTs := gTs_mem (i := 835) (by decide +kernel) rfl
theorem wd_836 : (Jvm.Cond.methodLink "CutStoreModel" (122 : Nat) ({ cls := "CutStoreModel", name := "rules", desc := "(IIIIIII)Z" } : Jvm.MethodName)) ∈ gTs := gTs_mem (i := 836) (by decide +kernel) rfl
theorem wd_838 : (Jvm.Cond.instanceMethod ({ cls := "CutStoreModel", name := "rules", desc := "(IIIIIII)Z" } : Jvm.MethodName)) ∈ gTs := gTs_mem (i := 838) (by decide +kernel) rfl
theorem wd_839 : (Jvm.Cond.code ({ cls := "CutStoreModel", name := "rules", desc := "(IIIIIII)Z" } : Jvm.MethodName) prog_11_method_11_code (8 : Nat) (Option.some Jvm.ClassFile.FieldType.boolean)) ∈ gTs := gTs_mem (i := 839) (by decide +kernel) rfl
theorem wd_840 : (Jvm.Cond.methodLink "CutStoreLaw" (51 : Nat) ({ cls := "CutStoreModel", name := "rolling", desc := "(IZIIIII)Z" } : Jvm.MethodName)) ∈ gTs := gTs_mem (i := 840) (by decide +kernel) rfl
theorem wd_841 : (Jvm.Cond.instanceMethod ({ cls := "CutStoreModel", name := "rolling", desc := "(IZIIIII)Z" } : Jvm.MethodName)) ∈ gTs := gTs_mem (i := 841) (by decide +kernel) rfl
theorem wd_842 : (Jvm.Cond.selects "CutStoreModel" ({ cls := "CutStoreModel", name := "rolling", desc := "(IZIIIII)Z" } : Jvm.MethodName) ({ cls := "CutStoreModel", name := "rolling", desc := "(IZIIIII)Z" } : Jvm.MethodName)) ∈ gTs := gTs_mem (i := 842) (by decide +kernel) rfl
theorem wd_843 : (Jvm.Cond.code ({ cls := "CutStoreModel", name := "rolling", desc := "(IZIIIII)Z" } : Jvm.MethodName) prog_11_method_13_code (8 : Nat) (Option.some Jvm.ClassFile.FieldType.boolean)) ∈ gTs := gTs_mem (i := 843) (by decide +kernel) rfl
theorem wd_844 : (Jvm.Cond.methodLink "CutStoreLaw" (56 : Nat) ({ cls := "CutStoreModel", name := "told", desc := "(IIII)Z" } : Jvm.MethodName)) ∈ gTs := gTs_mem (i := 844) (by decide +kernel) rfl
theorem wd_845 : (Jvm.Cond.instanceMethod ({ cls := "CutStoreModel", name := "told", desc := "(IIII)Z" } : Jvm.MethodName)) ∈ gTs := gTs_mem (i := 845) (by decide +kernel) rfl
theorem wd_846 : (Jvm.Cond.selects "CutStoreModel" ({ cls := "CutStoreModel", name := "told", desc := "(IIII)Z" } : Jvm.MethodName) ({ cls := "CutStoreModel", name := "told", desc := "(IIII)Z" } : Jvm.MethodName)) ∈ gTs := gTs_mem (i := 846) (by decide +kernel) rfl
theorem wd_847 : (Jvm.Cond.code ({ cls := "CutStoreModel", name := "told", desc := "(IIII)Z" } : Jvm.MethodName) prog_11_method_14_code (5 : Nat) (Option.some Jvm.ClassFile.FieldType.boolean)) ∈ gTs := gTs_mem (i := 847) (by decide +kernel) rfl
theorem wd_848 : (Jvm.Cond.methodLink "CutStoreLaw" (60 : Nat) ({ cls := "CutStoreModel", name := "sum", desc := "(III)I" } : Jvm.MethodName)) ∈ gTs := gTs_mem (i := 848) (by decide +kernel) rfl
theorem wd_849 : (Jvm.Cond.instanceMethod ({ cls := "CutStoreModel", name := "sum", desc := "(III)I" } : Jvm.MethodName)) ∈ gTs := gTs_mem (i := 849) (by decide +kernel) rfl
theorem wd_850 : (Jvm.Cond.selects "CutStoreModel" ({ cls := "CutStoreModel", name := "sum", desc := "(III)I" } : Jvm.MethodName) ({ cls := "CutStoreModel", name := "sum", desc := "(III)I" } : Jvm.MethodName)) ∈ gTs := gTs_mem (i := 850) (by decide +kernel) rfl
theorem wd_851 : (Jvm.Cond.code ({ cls := "CutStoreModel", name := "sum", desc := "(III)I" } : Jvm.MethodName) prog_11_method_18_code (4 : Nat) (Option.some Jvm.ClassFile.FieldType.int)) ∈ gTs := gTs_mem (i := 851) (by decide +kernel) rfl
theorem wd_852 : (Jvm.Cond.methodLink "CutStoreModel" (127 : Nat) ({ cls := "CutStoreModel", name := "isRule", desc := "(I)Z" } : Jvm.MethodName)) ∈ gTs := gTs_mem (i := 852) (by decide +kernel) rfl
theorem wd_854 : (Jvm.Cond.instanceMethod ({ cls := "CutStoreModel", name := "isRule", desc := "(I)Z" } : Jvm.MethodName)) ∈ gTs := gTs_mem (i := 854) (by decide +kernel) rfl
theorem wd_855 : (Jvm.Cond.code ({ cls := "CutStoreModel", name := "isRule", desc := "(I)Z" } : Jvm.MethodName) prog_11_method_10_code (2 : Nat) (Option.some Jvm.ClassFile.FieldType.boolean)) ∈ gTs := gTs_mem (i := 855) (by decide +kernel) rfl
theorem wd_856 : (Jvm.Cond.methodLink "CutStoreModel" (130 : Nat) ({ cls := "CutStoreModel", name := "isRolling", desc := "(I)Z" } : Jvm.MethodName)) ∈ gTs := gTs_mem (i := 856) (by decide +kernel) rfl
theorem wd_858 : (Jvm.Cond.instanceMethod ({ cls := "CutStoreModel", name := "isRolling", desc := "(I)Z" } : Jvm.MethodName)) ∈ gTs := gTs_mem (i := 858) (by decide +kernel) rfl
theorem wd_859 : (Jvm.Cond.code ({ cls := "CutStoreModel", name := "isRolling", desc := "(I)Z" } : Jvm.MethodName) prog_11_method_15_code (2 : Nat) (Option.some Jvm.ClassFile.FieldType.boolean)) ∈ gTs := gTs_mem (i := 859) (by decide +kernel) rfl
theorem wd_860 : (Jvm.Cond.methodLink "CutStoreModel" (133 : Nat) ({ cls := "CutStoreModel", name := "sumAt", desc := "(III)I" } : Jvm.MethodName)) ∈ gTs := gTs_mem (i := 860) (by decide +kernel) rfl
theorem wd_862 : (Jvm.Cond.instanceMethod ({ cls := "CutStoreModel", name := "sumAt", desc := "(III)I" } : Jvm.MethodName)) ∈ gTs := gTs_mem (i := 862) (by decide +kernel) rfl
theorem wd_863 : (Jvm.Cond.code ({ cls := "CutStoreModel", name := "sumAt", desc := "(III)I" } : Jvm.MethodName) prog_11_method_16_code (7 : Nat) (Option.some Jvm.ClassFile.FieldType.int)) ∈ gTs := gTs_mem (i := 863) (by decide +kernel) rfl
theorem wd_864 : (Jvm.Cond.constant "CutStoreModel" (126 : Nat) (65536 : Int32)) ∈ gTs := gTs_mem (i := 864) (by decide +kernel) rfl
theorem wd_865 : (Jvm.Cond.methodLink "CutStoreLaw" (64 : Nat) ({ cls := "CutStoreModel", name := "cuts", desc := "(II)I" } : Jvm.MethodName)) ∈ gTs := gTs_mem (i := 865) (by decide +kernel) rfl
theorem wd_866 : (Jvm.Cond.instanceMethod ({ cls := "CutStoreModel", name := "cuts", desc := "(II)I" } : Jvm.MethodName)) ∈ gTs := gTs_mem (i := 866) (by decide +kernel) rfl
theorem wd_867 : (Jvm.Cond.selects "CutStoreModel" ({ cls := "CutStoreModel", name := "cuts", desc := "(II)I" } : Jvm.MethodName) ({ cls := "CutStoreModel", name := "cuts", desc := "(II)I" } : Jvm.MethodName)) ∈ gTs := gTs_mem (i := 867) (by decide +kernel) rfl
theorem wd_868 : (Jvm.Cond.code ({ cls := "CutStoreModel", name := "cuts", desc := "(II)I" } : Jvm.MethodName) prog_11_method_21_code (3 : Nat) (Option.some Jvm.ClassFile.FieldType.int)) ∈ gTs := gTs_mem (i := 868) (by decide +kernel) rfl
theorem wd_869 : (Jvm.Cond.methodLink "CutStoreModel" (146 : Nat) ({ cls := "CutStoreModel", name := "cutsOf", desc := "(II)V" } : Jvm.MethodName)) ∈ gTs := gTs_mem (i := 869) (by decide +kernel) rfl
theorem wd_871 : (Jvm.Cond.instanceMethod ({ cls := "CutStoreModel", name := "cutsOf", desc := "(II)V" } : Jvm.MethodName)) ∈ gTs := gTs_mem (i := 871) (by decide +kernel) rfl
theorem wd_872 : (Jvm.Cond.code ({ cls := "CutStoreModel", name := "cutsOf", desc := "(II)V" } : Jvm.MethodName) prog_11_method_20_code (3 : Nat) (Option.none : Option Jvm.ClassFile.FieldType)) ∈ gTs := gTs_mem (i := 872) (by decide +kernel) rfl
theorem wd_873 : (Jvm.Cond.methodLink "CutStoreModel" (143 : Nat) ({ cls := "CutStoreModel", name := "endOf", desc := "(III)I" } : Jvm.MethodName)) ∈ gTs := gTs_mem (i := 873) (by decide +kernel) rfl
theorem wd_875 : (Jvm.Cond.instanceMethod ({ cls := "CutStoreModel", name := "endOf", desc := "(III)I" } : Jvm.MethodName)) ∈ gTs := gTs_mem (i := 875) (by decide +kernel) rfl
theorem wd_876 : (Jvm.Cond.code ({ cls := "CutStoreModel", name := "endOf", desc := "(III)I" } : Jvm.MethodName) prog_11_method_19_code (8 : Nat) (Option.some Jvm.ClassFile.FieldType.int)) ∈ gTs := gTs_mem (i := 876) (by decide +kernel) rfl
theorem wd_877 : (Jvm.Cond.methodLink "CutStoreModel" (137 : Nat) ({ cls := "CutStoreModel", name := "isSign", desc := "(III)Z" } : Jvm.MethodName)) ∈ gTs := gTs_mem (i := 877) (by decide +kernel) rfl
theorem wd_879 : (Jvm.Cond.instanceMethod ({ cls := "CutStoreModel", name := "isSign", desc := "(III)Z" } : Jvm.MethodName)) ∈ gTs := gTs_mem (i := 879) (by decide +kernel) rfl
theorem wd_880 : (Jvm.Cond.code ({ cls := "CutStoreModel", name := "isSign", desc := "(III)Z" } : Jvm.MethodName) prog_11_method_17_code (4 : Nat) (Option.some Jvm.ClassFile.FieldType.boolean)) ∈ gTs := gTs_mem (i := 880) (by decide +kernel) rfl
theorem wd_881 : (Jvm.Cond.methodLink "CutStoreLaw" (68 : Nat) ({ cls := "CutStoreModel", name := "cut", desc := "(III)I" } : Jvm.MethodName)) ∈ gTs := gTs_mem (i := 881) (by decide +kernel) rfl
theorem wd_882 : (Jvm.Cond.instanceMethod ({ cls := "CutStoreModel", name := "cut", desc := "(III)I" } : Jvm.MethodName)) ∈ gTs := gTs_mem (i := 882) (by decide +kernel) rfl
theorem wd_883 : (Jvm.Cond.selects "CutStoreModel" ({ cls := "CutStoreModel", name := "cut", desc := "(III)I" } : Jvm.MethodName) ({ cls := "CutStoreModel", name := "cut", desc := "(III)I" } : Jvm.MethodName)) ∈ gTs := gTs_mem (i := 883) (by decide +kernel) rfl
theorem wd_884 : (Jvm.Cond.code ({ cls := "CutStoreModel", name := "cut", desc := "(III)I" } : Jvm.MethodName) prog_11_method_22_code (4 : Nat) (Option.some Jvm.ClassFile.FieldType.int)) ∈ gTs := gTs_mem (i := 884) (by decide +kernel) rfl
theorem wd_885 : (Jvm.Cond.methodLink "CutStoreLaw" (72 : Nat) ({ cls := "CutStoreModel", name := "agree", desc := "(III)I" } : Jvm.MethodName)) ∈ gTs := gTs_mem (i := 885) (by decide +kernel) rfl
theorem wd_886 : (Jvm.Cond.instanceMethod ({ cls := "CutStoreModel", name := "agree", desc := "(III)I" } : Jvm.MethodName)) ∈ gTs := gTs_mem (i := 886) (by decide +kernel) rfl
theorem wd_887 : (Jvm.Cond.selects "CutStoreModel" ({ cls := "CutStoreModel", name := "agree", desc := "(III)I" } : Jvm.MethodName) ({ cls := "CutStoreModel", name := "agree", desc := "(III)I" } : Jvm.MethodName)) ∈ gTs := gTs_mem (i := 887) (by decide +kernel) rfl
theorem wd_888 : (Jvm.Cond.code ({ cls := "CutStoreModel", name := "agree", desc := "(III)I" } : Jvm.MethodName) prog_11_method_25_code (5 : Nat) (Option.some Jvm.ClassFile.FieldType.int)) ∈ gTs := gTs_mem (i := 888) (by decide +kernel) rfl
theorem wd_889 : (Jvm.Cond.methodLink "CutStoreModel" (153 : Nat) ({ cls := "CutStoreModel", name := "othersOf", desc := "(II)V" } : Jvm.MethodName)) ∈ gTs := gTs_mem (i := 889) (by decide +kernel) rfl
theorem wd_891 : (Jvm.Cond.instanceMethod ({ cls := "CutStoreModel", name := "othersOf", desc := "(II)V" } : Jvm.MethodName)) ∈ gTs := gTs_mem (i := 891) (by decide +kernel) rfl
theorem wd_892 : (Jvm.Cond.code ({ cls := "CutStoreModel", name := "othersOf", desc := "(II)V" } : Jvm.MethodName) prog_11_method_24_code (4 : Nat) (Option.none : Option Jvm.ClassFile.FieldType)) ∈ gTs := gTs_mem (i := 892) (by decide +kernel) rfl
theorem wd_893 : (Jvm.Cond.methodLink "CutStoreModel" (156 : Nat) ({ cls := "CutStoreModel", name := "isAlike", desc := "(IIIIII)Z" } : Jvm.MethodName)) ∈ gTs := gTs_mem (i := 893) (by decide +kernel) rfl
theorem wd_895 : (Jvm.Cond.instanceMethod ({ cls := "CutStoreModel", name := "isAlike", desc := "(IIIIII)Z" } : Jvm.MethodName)) ∈ gTs := gTs_mem (i := 895) (by decide +kernel) rfl
theorem wd_896 : (Jvm.Cond.code ({ cls := "CutStoreModel", name := "isAlike", desc := "(IIIIII)Z" } : Jvm.MethodName) prog_11_method_23_code (8 : Nat) (Option.some Jvm.ClassFile.FieldType.boolean)) ∈ gTs := gTs_mem (i := 896) (by decide +kernel) rfl
theorem wd_897 : (Jvm.Cond.methodLink "CutStoreLaw" (76 : Nat) ({ cls := "CutStoreModel", name := "sent", desc := "(III)I" } : Jvm.MethodName)) ∈ gTs := gTs_mem (i := 897) (by decide +kernel) rfl
theorem wd_898 : (Jvm.Cond.instanceMethod ({ cls := "CutStoreModel", name := "sent", desc := "(III)I" } : Jvm.MethodName)) ∈ gTs := gTs_mem (i := 898) (by decide +kernel) rfl
theorem wd_899 : (Jvm.Cond.selects "CutStoreModel" ({ cls := "CutStoreModel", name := "sent", desc := "(III)I" } : Jvm.MethodName) ({ cls := "CutStoreModel", name := "sent", desc := "(III)I" } : Jvm.MethodName)) ∈ gTs := gTs_mem (i := 899) (by decide +kernel) rfl
theorem wd_900 : (Jvm.Cond.code ({ cls := "CutStoreModel", name := "sent", desc := "(III)I" } : Jvm.MethodName) prog_11_method_26_code (8 : Nat) (Option.some Jvm.ClassFile.FieldType.int)) ∈ gTs := gTs_mem (i := 900) (by decide +kernel) rfl
theorem wd_901 : (Jvm.Cond.methodLink "CutStoreLaw" (80 : Nat) ({ cls := "CutStoreModel", name := "cost", desc := "(II)I" } : Jvm.MethodName)) ∈ gTs := gTs_mem (i := 901) (by decide +kernel) rfl
theorem wd_902 : (Jvm.Cond.instanceMethod ({ cls := "CutStoreModel", name := "cost", desc := "(II)I" } : Jvm.MethodName)) ∈ gTs := gTs_mem (i := 902) (by decide +kernel) rfl
theorem wd_903 : (Jvm.Cond.selects "CutStoreModel" ({ cls := "CutStoreModel", name := "cost", desc := "(II)I" } : Jvm.MethodName) ({ cls := "CutStoreModel", name := "cost", desc := "(II)I" } : Jvm.MethodName)) ∈ gTs := gTs_mem (i := 903) (by decide +kernel) rfl
theorem wd_904 : (Jvm.Cond.code ({ cls := "CutStoreModel", name := "cost", desc := "(II)I" } : Jvm.MethodName) prog_11_method_28_code (11 : Nat) (Option.some Jvm.ClassFile.FieldType.int)) ∈ gTs := gTs_mem (i := 904) (by decide +kernel) rfl
theorem wd_905 : (Jvm.Cond.methodLink "CutStoreModel" (160 : Nat) ({ cls := "CutStoreModel", name := "printOf", desc := "(III)I" } : Jvm.MethodName)) ∈ gTs := gTs_mem (i := 905) (by decide +kernel) rfl
theorem wd_907 : (Jvm.Cond.instanceMethod ({ cls := "CutStoreModel", name := "printOf", desc := "(III)I" } : Jvm.MethodName)) ∈ gTs := gTs_mem (i := 907) (by decide +kernel) rfl
theorem wd_908 : (Jvm.Cond.code ({ cls := "CutStoreModel", name := "printOf", desc := "(III)I" } : Jvm.MethodName) prog_11_method_27_code (6 : Nat) (Option.some Jvm.ClassFile.FieldType.int)) ∈ gTs := gTs_mem (i := 908) (by decide +kernel) rfl
theorem wd_909 : (Jvm.Cond.methodLink "CutStoreLaw" (85 : Nat) ({ cls := "CutStoreModel", name := "best", desc := "(I)I" } : Jvm.MethodName)) ∈ gTs := gTs_mem (i := 909) (by decide +kernel) rfl
theorem wd_910 : (Jvm.Cond.instanceMethod ({ cls := "CutStoreModel", name := "best", desc := "(I)I" } : Jvm.MethodName)) ∈ gTs := gTs_mem (i := 910) (by decide +kernel) rfl
theorem wd_911 : (Jvm.Cond.selects "CutStoreModel" ({ cls := "CutStoreModel", name := "best", desc := "(I)I" } : Jvm.MethodName) ({ cls := "CutStoreModel", name := "best", desc := "(I)I" } : Jvm.MethodName)) ∈ gTs := gTs_mem (i := 911) (by decide +kernel) rfl
theorem wd_912 : (Jvm.Cond.code ({ cls := "CutStoreModel", name := "best", desc := "(I)I" } : Jvm.MethodName) prog_11_method_29_code (6 : Nat) (Option.some Jvm.ClassFile.FieldType.int)) ∈ gTs := gTs_mem (i := 912) (by decide +kernel) rfl
theorem wd_913 : (Jvm.Cond.methodLink "CutStoreModel" (163 : Nat) ({ cls := "CutStoreModel", name := "cost", desc := "(II)I" } : Jvm.MethodName)) ∈ gTs := gTs_mem (i := 913) (by decide +kernel) rfl
theorem wd_914 : (Jvm.Cond.methodLink "CutStoreLaw" (89 : Nat) ({ cls := "CutStoreModel", name := "keep", desc := "(II)I" } : Jvm.MethodName)) ∈ gTs := gTs_mem (i := 914) (by decide +kernel) rfl
theorem wd_915 : (Jvm.Cond.instanceMethod ({ cls := "CutStoreModel", name := "keep", desc := "(II)I" } : Jvm.MethodName)) ∈ gTs := gTs_mem (i := 915) (by decide +kernel) rfl
theorem wd_916 : (Jvm.Cond.selects "CutStoreModel" ({ cls := "CutStoreModel", name := "keep", desc := "(II)I" } : Jvm.MethodName) ({ cls := "CutStoreModel", name := "keep", desc := "(II)I" } : Jvm.MethodName)) ∈ gTs := gTs_mem (i := 916) (by decide +kernel) rfl
theorem wd_917 : (Jvm.Cond.code ({ cls := "CutStoreModel", name := "keep", desc := "(II)I" } : Jvm.MethodName) prog_11_method_36_code (7 : Nat) (Option.some Jvm.ClassFile.FieldType.int)) ∈ gTs := gTs_mem (i := 917) (by decide +kernel) rfl
theorem wd_918 : (Jvm.Cond.methodLink "CutStoreModel" (177 : Nat) ({ cls := "CutStoreModel", name := "lacks", desc := "(I)I" } : Jvm.MethodName)) ∈ gTs := gTs_mem (i := 918) (by decide +kernel) rfl
theorem wd_920 : (Jvm.Cond.instanceMethod ({ cls := "CutStoreModel", name := "lacks", desc := "(I)I" } : Jvm.MethodName)) ∈ gTs := gTs_mem (i := 920) (by decide +kernel) rfl
theorem wd_921 : (Jvm.Cond.code ({ cls := "CutStoreModel", name := "lacks", desc := "(I)I" } : Jvm.MethodName) prog_11_method_33_code (6 : Nat) (Option.some Jvm.ClassFile.FieldType.int)) ∈ gTs := gTs_mem (i := 921) (by decide +kernel) rfl
theorem wd_922 : (Jvm.Cond.methodLink "CutStoreModel" (167 : Nat) ({ cls := "CutStoreModel", name := "isPiece", desc := "(I)Z" } : Jvm.MethodName)) ∈ gTs := gTs_mem (i := 922) (by decide +kernel) rfl
theorem wd_924 : (Jvm.Cond.instanceMethod ({ cls := "CutStoreModel", name := "isPiece", desc := "(I)Z" } : Jvm.MethodName)) ∈ gTs := gTs_mem (i := 924) (by decide +kernel) rfl
theorem wd_925 : (Jvm.Cond.code ({ cls := "CutStoreModel", name := "isPiece", desc := "(I)Z" } : Jvm.MethodName) prog_11_method_30_code (2 : Nat) (Option.some Jvm.ClassFile.FieldType.boolean)) ∈ gTs := gTs_mem (i := 925) (by decide +kernel) rfl
theorem wd_926 : (Jvm.Cond.methodLink "CutStoreModel" (170 : Nat) ({ cls := "CutStoreModel", name := "isThat", desc := "(IIII)Z" } : Jvm.MethodName)) ∈ gTs := gTs_mem (i := 926) (by decide +kernel) rfl
theorem wd_928 : (Jvm.Cond.instanceMethod ({ cls := "CutStoreModel", name := "isThat", desc := "(IIII)Z" } : Jvm.MethodName)) ∈ gTs := gTs_mem (i := 928) (by decide +kernel) rfl
theorem wd_929 : (Jvm.Cond.code ({ cls := "CutStoreModel", name := "isThat", desc := "(IIII)Z" } : Jvm.MethodName) prog_11_method_31_code (6 : Nat) (Option.some Jvm.ClassFile.FieldType.boolean)) ∈ gTs := gTs_mem (i := 929) (by decide +kernel) rfl
theorem wd_930 : (Jvm.Cond.methodLink "CutStoreModel" (181 : Nat) ({ cls := "CutStoreModel", name := "there", desc := "()I" } : Jvm.MethodName)) ∈ gTs := gTs_mem (i := 930) (by decide +kernel) rfl
theorem wd_932 : (Jvm.Cond.instanceMethod ({ cls := "CutStoreModel", name := "there", desc := "()I" } : Jvm.MethodName)) ∈ gTs := gTs_mem (i := 932) (by decide +kernel) rfl
theorem wd_933 : (Jvm.Cond.code ({ cls := "CutStoreModel", name := "there", desc := "()I" } : Jvm.MethodName) prog_11_method_32_code (3 : Nat) (Option.some Jvm.ClassFile.FieldType.int)) ∈ gTs := gTs_mem (i := 933) (by decide +kernel) rfl
theorem wd_934 : (Jvm.Cond.methodLink "CutStoreModel" (185 : Nat) ({ cls := "CutStoreModel", name := "comes", desc := "(III)I" } : Jvm.MethodName)) ∈ gTs := gTs_mem (i := 934) (by decide +kernel) rfl
theorem wd_936 : (Jvm.Cond.instanceMethod ({ cls := "CutStoreModel", name := "comes", desc := "(III)I" } : Jvm.MethodName)) ∈ gTs := gTs_mem (i := 936) (by decide +kernel) rfl
theorem wd_937 : (Jvm.Cond.code ({ cls := "CutStoreModel", name := "comes", desc := "(III)I" } : Jvm.MethodName) prog_11_method_34_code (8 : Nat) (Option.some Jvm.ClassFile.FieldType.int)) ∈ gTs := gTs_mem (i := 937) (by decide +kernel) rfl
theorem wd_938 : (Jvm.Cond.methodLink "CutStoreModel" (188 : Nat) ({ cls := "CutStoreModel", name := "goes", desc := "([III)I" } : Jvm.MethodName)) ∈ gTs := gTs_mem (i := 938) (by decide +kernel) rfl
theorem wd_940 : (Jvm.Cond.instanceMethod ({ cls := "CutStoreModel", name := "goes", desc := "([III)I" } : Jvm.MethodName)) ∈ gTs := gTs_mem (i := 940) (by decide +kernel) rfl
theorem wd_941 : (Jvm.Cond.code ({ cls := "CutStoreModel", name := "goes", desc := "([III)I" } : Jvm.MethodName) prog_11_method_35_code (7 : Nat) (Option.some Jvm.ClassFile.FieldType.int)) ∈ gTs := gTs_mem (i := 941) (by decide +kernel) rfl
theorem wd_942 : (Jvm.Cond.methodLink "CutStoreLaw" (93 : Nat) ({ cls := "CutStoreModel", name := "drop", desc := "(I)I" } : Jvm.MethodName)) ∈ gTs := gTs_mem (i := 942) (by decide +kernel) rfl
theorem wd_943 : (Jvm.Cond.instanceMethod ({ cls := "CutStoreModel", name := "drop", desc := "(I)I" } : Jvm.MethodName)) ∈ gTs := gTs_mem (i := 943) (by decide +kernel) rfl
theorem wd_944 : (Jvm.Cond.selects "CutStoreModel" ({ cls := "CutStoreModel", name := "drop", desc := "(I)I" } : Jvm.MethodName) ({ cls := "CutStoreModel", name := "drop", desc := "(I)I" } : Jvm.MethodName)) ∈ gTs := gTs_mem (i := 944) (by decide +kernel) rfl
theorem wd_945 : (Jvm.Cond.code ({ cls := "CutStoreModel", name := "drop", desc := "(I)I" } : Jvm.MethodName) prog_11_method_37_code (2 : Nat) (Option.some Jvm.ClassFile.FieldType.int)) ∈ gTs := gTs_mem (i := 945) (by decide +kernel) rfl
theorem wd_946 : (Jvm.Cond.methodLink "CutStoreLaw" (97 : Nat) ({ cls := "CutStoreModel", name := "bring", desc := "(I)I" } : Jvm.MethodName)) ∈ gTs := gTs_mem (i := 946) (by decide +kernel) rfl
theorem wd_947 : (Jvm.Cond.instanceMethod ({ cls := "CutStoreModel", name := "bring", desc := "(I)I" } : Jvm.MethodName)) ∈ gTs := gTs_mem (i := 947) (by decide +kernel) rfl
theorem wd_948 : (Jvm.Cond.selects "CutStoreModel" ({ cls := "CutStoreModel", name := "bring", desc := "(I)I" } : Jvm.MethodName) ({ cls := "CutStoreModel", name := "bring", desc := "(I)I" } : Jvm.MethodName)) ∈ gTs := gTs_mem (i := 948) (by decide +kernel) rfl
theorem wd_949 : (Jvm.Cond.code ({ cls := "CutStoreModel", name := "bring", desc := "(I)I" } : Jvm.MethodName) prog_11_method_38_code (5 : Nat) (Option.some Jvm.ClassFile.FieldType.int)) ∈ gTs := gTs_mem (i := 949) (by decide +kernel) rfl
theorem wd_950 : (Jvm.Cond.methodLink "CutStoreLaw" (101 : Nat) ({ cls := "CutStoreModel", name := "jumps", desc := "(I)I" } : Jvm.MethodName)) ∈ gTs := gTs_mem (i := 950) (by decide +kernel) rfl
theorem wd_951 : (Jvm.Cond.instanceMethod ({ cls := "CutStoreModel", name := "jumps", desc := "(I)I" } : Jvm.MethodName)) ∈ gTs := gTs_mem (i := 951) (by decide +kernel) rfl
theorem wd_952 : (Jvm.Cond.selects "CutStoreModel" ({ cls := "CutStoreModel", name := "jumps", desc := "(I)I" } : Jvm.MethodName) ({ cls := "CutStoreModel", name := "jumps", desc := "(I)I" } : Jvm.MethodName)) ∈ gTs := gTs_mem (i := 952) (by decide +kernel) rfl
theorem wd_953 : (Jvm.Cond.code ({ cls := "CutStoreModel", name := "jumps", desc := "(I)I" } : Jvm.MethodName) prog_11_method_39_code (4 : Nat) (Option.some Jvm.ClassFile.FieldType.int)) ∈ gTs := gTs_mem (i := 953) (by decide +kernel) rfl
theorem wd_954 : (Jvm.Cond.methodLink "CutStoreLaw" (105 : Nat) ({ cls := "CutStoreModel", name := "number", desc := "(II)I" } : Jvm.MethodName)) ∈ gTs := gTs_mem (i := 954) (by decide +kernel) rfl
theorem wd_955 : (Jvm.Cond.instanceMethod ({ cls := "CutStoreModel", name := "number", desc := "(II)I" } : Jvm.MethodName)) ∈ gTs := gTs_mem (i := 955) (by decide +kernel) rfl
theorem wd_956 : (Jvm.Cond.selects "CutStoreModel" ({ cls := "CutStoreModel", name := "number", desc := "(II)I" } : Jvm.MethodName) ({ cls := "CutStoreModel", name := "number", desc := "(II)I" } : Jvm.MethodName)) ∈ gTs := gTs_mem (i := 956) (by decide +kernel) rfl
theorem wd_957 : (Jvm.Cond.code ({ cls := "CutStoreModel", name := "number", desc := "(II)I" } : Jvm.MethodName) prog_11_method_40_code (3 : Nat) (Option.some Jvm.ClassFile.FieldType.int)) ∈ gTs := gTs_mem (i := 957) (by decide +kernel) rfl
theorem wd_958 : (Jvm.Cond.methodLink "CutStoreLaw" (109 : Nat) ({ cls := "CutStoreModel", name := "piece", desc := "(II)I" } : Jvm.MethodName)) ∈ gTs := gTs_mem (i := 958) (by decide +kernel) rfl
theorem wd_959 : (Jvm.Cond.instanceMethod ({ cls := "CutStoreModel", name := "piece", desc := "(II)I" } : Jvm.MethodName)) ∈ gTs := gTs_mem (i := 959) (by decide +kernel) rfl
theorem wd_960 : (Jvm.Cond.selects "CutStoreModel" ({ cls := "CutStoreModel", name := "piece", desc := "(II)I" } : Jvm.MethodName) ({ cls := "CutStoreModel", name := "piece", desc := "(II)I" } : Jvm.MethodName)) ∈ gTs := gTs_mem (i := 960) (by decide +kernel) rfl
theorem wd_961 : (Jvm.Cond.code ({ cls := "CutStoreModel", name := "piece", desc := "(II)I" } : Jvm.MethodName) prog_11_method_41_code (3 : Nat) (Option.some Jvm.ClassFile.FieldType.int)) ∈ gTs := gTs_mem (i := 961) (by decide +kernel) rfl
theorem wd_962 : (Jvm.Cond.methodLink "CutStoreLaw" (113 : Nat) ({ cls := "CutStoreModel", name := "count", desc := "(I)I" } : Jvm.MethodName)) ∈ gTs := gTs_mem (i := 962) (by decide +kernel) rfl
theorem wd_963 : (Jvm.Cond.instanceMethod ({ cls := "CutStoreModel", name := "count", desc := "(I)I" } : Jvm.MethodName)) ∈ gTs := gTs_mem (i := 963) (by decide +kernel) rfl
theorem wd_964 : (Jvm.Cond.selects "CutStoreModel" ({ cls := "CutStoreModel", name := "count", desc := "(I)I" } : Jvm.MethodName) ({ cls := "CutStoreModel", name := "count", desc := "(I)I" } : Jvm.MethodName)) ∈ gTs := gTs_mem (i := 964) (by decide +kernel) rfl
theorem wd_965 : (Jvm.Cond.code ({ cls := "CutStoreModel", name := "count", desc := "(I)I" } : Jvm.MethodName) prog_11_method_42_code (6 : Nat) (Option.some Jvm.ClassFile.FieldType.int)) ∈ gTs := gTs_mem (i := 965) (by decide +kernel) rfl
theorem wd_966 : (Jvm.Cond.methodLink "CutStoreLaw" (117 : Nat) ({ cls := "CutStoreModel", name := "prices", desc := "(II)Z" } : Jvm.MethodName)) ∈ gTs := gTs_mem (i := 966) (by decide +kernel) rfl
theorem wd_967 : (Jvm.Cond.instanceMethod ({ cls := "CutStoreModel", name := "prices", desc := "(II)Z" } : Jvm.MethodName)) ∈ gTs := gTs_mem (i := 967) (by decide +kernel) rfl
theorem wd_968 : (Jvm.Cond.selects "CutStoreModel" ({ cls := "CutStoreModel", name := "prices", desc := "(II)Z" } : Jvm.MethodName) ({ cls := "CutStoreModel", name := "prices", desc := "(II)Z" } : Jvm.MethodName)) ∈ gTs := gTs_mem (i := 968) (by decide +kernel) rfl
theorem wd_969 : (Jvm.Cond.code ({ cls := "CutStoreModel", name := "prices", desc := "(II)Z" } : Jvm.MethodName) prog_11_method_43_code (3 : Nat) (Option.some Jvm.ClassFile.FieldType.boolean)) ∈ gTs := gTs_mem (i := 969) (by decide +kernel) rfl
theorem wd_970 : (Jvm.Cond.methodLink "CutStoreLaw" (122 : Nat) ({ cls := "CutStoreModel", name := "supers", desc := "()I" } : Jvm.MethodName)) ∈ gTs := gTs_mem (i := 970) (by decide +kernel) rfl
theorem wd_971 : (Jvm.Cond.instanceMethod ({ cls := "CutStoreModel", name := "supers", desc := "()I" } : Jvm.MethodName)) ∈ gTs := gTs_mem (i := 971) (by decide +kernel) rfl
theorem wd_972 : (Jvm.Cond.selects "CutStoreModel" ({ cls := "CutStoreModel", name := "supers", desc := "()I" } : Jvm.MethodName) ({ cls := "CutStoreModel", name := "supers", desc := "()I" } : Jvm.MethodName)) ∈ gTs := gTs_mem (i := 972) (by decide +kernel) rfl
theorem wd_973 : (Jvm.Cond.code ({ cls := "CutStoreModel", name := "supers", desc := "()I" } : Jvm.MethodName) prog_11_method_48_code (4 : Nat) (Option.some Jvm.ClassFile.FieldType.int)) ∈ gTs := gTs_mem (i := 973) (by decide +kernel) rfl
theorem wd_974 : (Jvm.Cond.methodLink "CutStoreModel" (198 : Nat) ({ cls := "CutStoreModel", name := "mostOften", desc := "()I" } : Jvm.MethodName)) ∈ gTs := gTs_mem (i := 974) (by decide +kernel) rfl
theorem wd_976 : (Jvm.Cond.instanceMethod ({ cls := "CutStoreModel", name := "mostOften", desc := "()I" } : Jvm.MethodName)) ∈ gTs := gTs_mem (i := 976) (by decide +kernel) rfl
theorem wd_977 : (Jvm.Cond.code ({ cls := "CutStoreModel", name := "mostOften", desc := "()I" } : Jvm.MethodName) prog_11_method_45_code (6 : Nat) (Option.some Jvm.ClassFile.FieldType.int)) ∈ gTs := gTs_mem (i := 977) (by decide +kernel) rfl
theorem wd_978 : (Jvm.Cond.methodLink "CutStoreModel" (192 : Nat) ({ cls := "CutStoreModel", name := "pairAt", desc := "(II)I" } : Jvm.MethodName)) ∈ gTs := gTs_mem (i := 978) (by decide +kernel) rfl
theorem wd_979 : (Jvm.Cond.static ({ cls := "CutStoreModel", name := "pairAt", desc := "(II)I" } : Jvm.MethodName)) ∈ gTs := gTs_mem (i := 979) (by decide +kernel) rfl
theorem wd_980 : (Jvm.Cond.code ({ cls := "CutStoreModel", name := "pairAt", desc := "(II)I" } : Jvm.MethodName) prog_11_method_44_code (2 : Nat) (Option.some Jvm.ClassFile.FieldType.int)) ∈ gTs := gTs_mem (i := 980) (by decide +kernel) rfl
theorem wd_981 : (Jvm.Cond.methodLink "CutStoreModel" (201 : Nat) ({ cls := "CutStoreModel", name := "told", desc := "(I)I" } : Jvm.MethodName)) ∈ gTs := gTs_mem (i := 981) (by decide +kernel) rfl
theorem wd_982 : (Jvm.Cond.static ({ cls := "CutStoreModel", name := "told", desc := "(I)I" } : Jvm.MethodName)) ∈ gTs := gTs_mem (i := 982) (by decide +kernel) rfl
theorem wd_983 : (Jvm.Cond.code ({ cls := "CutStoreModel", name := "told", desc := "(I)I" } : Jvm.MethodName) prog_11_method_47_code (1 : Nat) (Option.some Jvm.ClassFile.FieldType.int)) ∈ gTs := gTs_mem (i := 983) (by decide +kernel) rfl
theorem wd_984 : (Jvm.Cond.methodLink "CutStoreModel" (204 : Nat) ({ cls := "CutStoreModel", name := "gives", desc := "(II)I" } : Jvm.MethodName)) ∈ gTs := gTs_mem (i := 984) (by decide +kernel) rfl
theorem wd_986 : (Jvm.Cond.instanceMethod ({ cls := "CutStoreModel", name := "gives", desc := "(II)I" } : Jvm.MethodName)) ∈ gTs := gTs_mem (i := 986) (by decide +kernel) rfl
theorem wd_987 : (Jvm.Cond.code ({ cls := "CutStoreModel", name := "gives", desc := "(II)I" } : Jvm.MethodName) prog_11_method_46_code (10 : Nat) (Option.some Jvm.ClassFile.FieldType.int)) ∈ gTs := gTs_mem (i := 987) (by decide +kernel) rfl
theorem wd_988 : (Jvm.Cond.methodLink "CutStoreLaw" (126 : Nat) ({ cls := "CutStoreModel", name := "pair", desc := "(II)I" } : Jvm.MethodName)) ∈ gTs := gTs_mem (i := 988) (by decide +kernel) rfl
theorem wd_989 : (Jvm.Cond.instanceMethod ({ cls := "CutStoreModel", name := "pair", desc := "(II)I" } : Jvm.MethodName)) ∈ gTs := gTs_mem (i := 989) (by decide +kernel) rfl
theorem wd_990 : (Jvm.Cond.selects "CutStoreModel" ({ cls := "CutStoreModel", name := "pair", desc := "(II)I" } : Jvm.MethodName) ({ cls := "CutStoreModel", name := "pair", desc := "(II)I" } : Jvm.MethodName)) ∈ gTs := gTs_mem (i := 990) (by decide +kernel) rfl
theorem wd_991 : (Jvm.Cond.code ({ cls := "CutStoreModel", name := "pair", desc := "(II)I" } : Jvm.MethodName) prog_11_method_49_code (3 : Nat) (Option.some Jvm.ClassFile.FieldType.int)) ∈ gTs := gTs_mem (i := 991) (by decide +kernel) rfl
theorem inX0 : ∀ w ∈ wsX00, w ∈ gTs := List.forall_mem_cons.mpr ⟨wd_143, List.forall_mem_cons.mpr ⟨wd_145, List.forall_mem_cons.mpr ⟨wd_147, List.forall_mem_cons.mpr ⟨wd_149, List.forall_mem_cons.mpr ⟨wd_151, fun _ h => absurd h List.not_mem_nil⟩⟩⟩⟩⟩
theorem inX1 : ∀ w ∈ wsX10, w ∈ gTs := List.forall_mem_cons.mpr ⟨wd_165, List.forall_mem_cons.mpr ⟨wd_167, List.forall_mem_cons.mpr ⟨wd_169, List.forall_mem_cons.mpr ⟨wd_171, fun _ h => absurd h List.not_mem_nil⟩⟩⟩⟩
theorem inX2 : ∀ w ∈ wsX20, w ∈ gTs := List.forall_mem_cons.mpr ⟨wd_74, List.forall_mem_cons.mpr ⟨wd_76, fun _ h => absurd h List.not_mem_nil⟩⟩
theorem inX3 : ∀ w ∈ wsX30, w ∈ gTs := List.forall_mem_cons.mpr ⟨wd_253, List.forall_mem_cons.mpr ⟨wd_255, List.forall_mem_cons.mpr ⟨wd_257, List.forall_mem_cons.mpr ⟨wd_259, List.forall_mem_cons.mpr ⟨wd_261, List.forall_mem_cons.mpr ⟨wd_263, List.forall_mem_cons.mpr ⟨wd_265, List.forall_mem_cons.mpr ⟨wd_267, fun _ h => absurd h List.not_mem_nil⟩⟩⟩⟩⟩⟩⟩⟩
theorem inX4 : ∀ w ∈ wsX40, w ∈ gTs := List.forall_mem_cons.mpr ⟨wd_114, List.forall_mem_cons.mpr ⟨wd_116, List.forall_mem_cons.mpr ⟨wd_118, List.forall_mem_cons.mpr ⟨wd_120, List.forall_mem_cons.mpr ⟨wd_122, List.forall_mem_cons.mpr ⟨wd_124, fun _ h => absurd h List.not_mem_nil⟩⟩⟩⟩⟩⟩
theorem inX5 : ∀ w ∈ wsX50, w ∈ gTs := List.forall_mem_cons.mpr ⟨wd_205, List.forall_mem_cons.mpr ⟨wd_207, List.forall_mem_cons.mpr ⟨wd_209, List.forall_mem_cons.mpr ⟨wd_211, List.forall_mem_cons.mpr ⟨wd_213, List.forall_mem_cons.mpr ⟨wd_215, List.forall_mem_cons.mpr ⟨wd_217, List.forall_mem_cons.mpr ⟨wd_219, List.forall_mem_cons.mpr ⟨wd_221, List.forall_mem_cons.mpr ⟨wd_223, List.forall_mem_cons.mpr ⟨wd_225, List.forall_mem_cons.mpr ⟨wd_227, fun _ h => absurd h List.not_mem_nil⟩⟩⟩⟩⟩⟩⟩⟩⟩⟩⟩⟩
theorem inX6 : ∀ w ∈ wsX60, w ∈ gTs := List.forall_mem_cons.mpr ⟨wd_282, List.forall_mem_cons.mpr ⟨wd_284, List.forall_mem_cons.mpr ⟨wd_286, List.forall_mem_cons.mpr ⟨wd_288, List.forall_mem_cons.mpr ⟨wd_290, List.forall_mem_cons.mpr ⟨wd_292, List.forall_mem_cons.mpr ⟨wd_294, List.forall_mem_cons.mpr ⟨wd_296, fun _ h => absurd h List.not_mem_nil⟩⟩⟩⟩⟩⟩⟩⟩
theorem inX7 : ∀ w ∈ wsX70, w ∈ gTs := List.forall_mem_cons.mpr ⟨wd_92, List.forall_mem_cons.mpr ⟨wd_94, fun _ h => absurd h List.not_mem_nil⟩⟩
theorem inX8 : ∀ w ∈ wsX80, w ∈ gTs := List.forall_mem_cons.mpr ⟨wd_309, List.forall_mem_cons.mpr ⟨wd_311, List.forall_mem_cons.mpr ⟨wd_313, List.forall_mem_cons.mpr ⟨wd_315, List.forall_mem_cons.mpr ⟨wd_317, List.forall_mem_cons.mpr ⟨wd_319, List.forall_mem_cons.mpr ⟨wd_321, List.forall_mem_cons.mpr ⟨wd_323, List.forall_mem_cons.mpr ⟨wd_325, List.forall_mem_cons.mpr ⟨wd_327, fun _ h => absurd h List.not_mem_nil⟩⟩⟩⟩⟩⟩⟩⟩⟩⟩
theorem inX9 : ∀ w ∈ wsX90, w ∈ gTs := List.forall_mem_cons.mpr ⟨wd_725, List.forall_mem_cons.mpr ⟨wd_727, List.forall_mem_cons.mpr ⟨wd_729, List.forall_mem_cons.mpr ⟨wd_731, List.forall_mem_cons.mpr ⟨wd_733, List.forall_mem_cons.mpr ⟨wd_735, List.forall_mem_cons.mpr ⟨wd_737, List.forall_mem_cons.mpr ⟨wd_739, List.forall_mem_cons.mpr ⟨wd_741, List.forall_mem_cons.mpr ⟨wd_743, List.forall_mem_cons.mpr ⟨wd_745, List.forall_mem_cons.mpr ⟨wd_747, List.forall_mem_cons.mpr ⟨wd_749, List.forall_mem_cons.mpr ⟨wd_751, List.forall_mem_cons.mpr ⟨wd_753, List.forall_mem_cons.mpr ⟨wd_755, List.forall_mem_cons.mpr ⟨wd_757, List.forall_mem_cons.mpr ⟨wd_759, List.forall_mem_cons.mpr ⟨wd_761, List.forall_mem_cons.mpr ⟨wd_763, List.forall_mem_cons.mpr ⟨wd_765, List.forall_mem_cons.mpr ⟨wd_767, List.forall_mem_cons.mpr ⟨wd_769, List.forall_mem_cons.mpr ⟨wd_771, List.forall_mem_cons.mpr ⟨wd_773, List.forall_mem_cons.mpr ⟨wd_775, List.forall_mem_cons.mpr ⟨wd_777, List.forall_mem_cons.mpr ⟨wd_779, List.forall_mem_cons.mpr ⟨wd_781, List.forall_mem_cons.mpr ⟨wd_783, List.forall_mem_cons.mpr ⟨wd_785, List.forall_mem_cons.mpr ⟨wd_787, List.forall_mem_cons.mpr ⟨wd_789, List.forall_mem_cons.mpr ⟨wd_791, List.forall_mem_cons.mpr ⟨wd_793, List.forall_mem_cons.mpr ⟨wd_795, List.forall_mem_cons.mpr ⟨wd_797, fun _ h => absurd h List.not_mem_nil⟩⟩⟩⟩⟩⟩⟩⟩⟩⟩⟩⟩⟩⟩⟩⟩⟩⟩⟩⟩⟩⟩⟩⟩⟩⟩⟩⟩⟩⟩⟩⟩⟩⟩⟩⟩⟩
