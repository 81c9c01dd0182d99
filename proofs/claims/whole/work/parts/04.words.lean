def kw : List Cond := lw_tbl.filter goodWord
theorem kw_tbl {w : Cond} (h : w ∈ kw) : w ∈ lw_tbl := (List.mem_filter.mp h).1
theorem kw_good {w : Cond} (h : w ∈ kw) : goodWord w = true := (List.mem_filter.mp h).2
theorem kw_of {w : Cond} (h : w ∈ lw_tbl) (g : goodWord w = true) : w ∈ kw := List.mem_filter.mpr ⟨h, g⟩
theorem km0 {w : Cond} (i : Nat) (h : (k2_sels lw_privs)[i]? = some w) (g : goodWord w = true) : w ∈ kw := kw_of (List.mem_append_left _ (List.mem_of_getElem? h)) g
theorem km1 {w : Cond} (i : Nat) (h : tables_1_1[i]? = some w) (g : goodWord w = true) : w ∈ kw := kw_of (List.mem_append_right _ (List.mem_append_left _ (List.mem_of_getElem? h))) g
theorem km2 {w : Cond} (i : Nat) (h : tables_1_2[i]? = some w) (g : goodWord w = true) : w ∈ kw := kw_of (List.mem_append_right _ (List.mem_append_right _ (List.mem_append_left _ (List.mem_of_getElem? h)))) g
theorem km3 {w : Cond} (i : Nat) (h : tables_1_3[i]? = some w) (g : goodWord w = true) : w ∈ kw := kw_of (List.mem_append_right _ (List.mem_append_right _ (List.mem_append_right _ (List.mem_append_left _ (List.mem_of_getElem? h))))) g
theorem km4 {w : Cond} (i : Nat) (h : tables_1_4[i]? = some w) (g : goodWord w = true) : w ∈ kw := kw_of (List.mem_append_right _ (List.mem_append_right _ (List.mem_append_right _ (List.mem_append_right _ (List.mem_append_left _ (List.mem_of_getElem? h)))))) g
theorem km5 {w : Cond} (i : Nat) (h : tables_1_5[i]? = some w) (g : goodWord w = true) : w ∈ kw := kw_of (List.mem_append_right _ (List.mem_append_right _ (List.mem_append_right _ (List.mem_append_right _ (List.mem_append_right _ (List.mem_of_getElem? h)))))) g
theorem kw_1_0 : Jvm.Cond.initialized "TalkKnotsLaw" ∈ kw := km1 0 rfl rfl
theorem kw_1_1 : Jvm.Cond.initialized "TalkKnots" ∈ kw := km1 1 rfl rfl
theorem kw_1_2 : Jvm.Cond.initialized "TalkKnots$Yard" ∈ kw := km1 2 rfl rfl
theorem kw_1_3 : Jvm.Cond.initialized "TalkKnots$Knot" ∈ kw := km1 3 rfl rfl
theorem kw_1_4 : Jvm.Cond.initialized "TalkKnots$Tape" ∈ kw := km1 4 rfl rfl
theorem kw_1_5 : Jvm.Cond.initialized "TalkKnots$TextReader" ∈ kw := km1 5 rfl rfl
theorem kw_1_6 : Jvm.Cond.initialized "TalkKnots$Sheet" ∈ kw := km1 6 rfl rfl
theorem kw_1_7 : Jvm.Cond.initialized "TalkKnotsModel" ∈ kw := km1 7 rfl rfl
theorem kw_1_8 : Jvm.Cond.initialized "java/lang/Math" ∈ kw := km1 8 rfl rfl
theorem kw_1_9 : Jvm.Cond.initialized "java/lang/System" ∈ kw := km1 9 rfl rfl
theorem kw_1_10 : Jvm.Cond.initialized "java/lang/Integer" ∈ kw := km1 10 rfl rfl
theorem kw_1_11 : Jvm.Cond.initialized "java/lang/String" ∈ kw := km1 11 rfl rfl
theorem kw_1_12 : Jvm.Cond.initialized "java/lang/StringLatin1" ∈ kw := km1 12 rfl rfl
theorem kw_1_13 : Jvm.Cond.initialized "jdk/internal/util/Preconditions" ∈ kw := km1 13 rfl rfl
theorem kw_1_14 : Jvm.Cond.initialized "java/lang/StringUTF16" ∈ kw := km1 14 rfl rfl
theorem kw_1_15 : Jvm.Cond.classLink "TalkKnotsLaw" (7 : Nat) "TalkKnots" ∈ kw := km1 15 rfl rfl
theorem kw_1_16 : Jvm.Cond.instantiable "TalkKnots" (8 : Nat) ∈ kw := km1 16 rfl rfl
theorem kw_1_17 : Jvm.Cond.methodLink "TalkKnotsLaw" (9 : Nat) ({ cls := "TalkKnots", name := "<init>", desc := "()V" } : Jvm.MethodName) ∈ kw := km1 17 rfl rfl
theorem kw_1_18 : Jvm.Cond.instanceMethod ({ cls := "TalkKnots", name := "<init>", desc := "()V" } : Jvm.MethodName) ∈ kw := km1 18 rfl rfl
theorem kw_1_19 : Jvm.Cond.code ({ cls := "TalkKnots", name := "<init>", desc := "()V" } : Jvm.MethodName) prog_1_method_1_code (2 : Nat) (Option.none : Option Jvm.ClassFile.FieldType) ∈ kw := km1 19 rfl rfl
theorem kw_1_20 : Jvm.Cond.methodLink "TalkKnots" (1 : Nat) ({ cls := "java/lang/Object", name := "<init>", desc := "()V" } : Jvm.MethodName) ∈ kw := km1 20 rfl rfl
theorem kw_1_21 : Jvm.Cond.instanceMethod ({ cls := "java/lang/Object", name := "<init>", desc := "()V" } : Jvm.MethodName) ∈ kw := km1 21 rfl rfl
theorem kw_1_22 : Jvm.Cond.code ({ cls := "java/lang/Object", name := "<init>", desc := "()V" } : Jvm.MethodName) object_method_1_code (1 : Nat) (Option.none : Option Jvm.ClassFile.FieldType) ∈ kw := km1 22 rfl rfl
theorem kw_1_23 : Jvm.Cond.classLink "TalkKnots" (7 : Nat) "TalkKnots$Yard" ∈ kw := km1 23 rfl rfl
theorem kw_1_24 : Jvm.Cond.instantiable "TalkKnots$Yard" (7 : Nat) ∈ kw := km1 24 rfl rfl
theorem kw_1_25 : Jvm.Cond.methodLink "TalkKnots" (9 : Nat) ({ cls := "TalkKnots$Yard", name := "<init>", desc := "()V" } : Jvm.MethodName) ∈ kw := km1 25 rfl rfl
theorem kw_1_26 : Jvm.Cond.instanceMethod ({ cls := "TalkKnots$Yard", name := "<init>", desc := "()V" } : Jvm.MethodName) ∈ kw := km1 26 rfl rfl
theorem kw_1_27 : Jvm.Cond.code ({ cls := "TalkKnots$Yard", name := "<init>", desc := "()V" } : Jvm.MethodName) prog_6_method_1_code (2 : Nat) (Option.none : Option Jvm.ClassFile.FieldType) ∈ kw := km1 27 rfl rfl
theorem kw_1_28 : Jvm.Cond.methodLink "TalkKnots$Yard" (3 : Nat) ({ cls := "java/lang/Object", name := "<init>", desc := "()V" } : Jvm.MethodName) ∈ kw := km1 28 rfl rfl
theorem kw_1_29 : Jvm.Cond.classLink "TalkKnots$Yard" (28 : Nat) "TalkKnots$Knot" ∈ kw := km1 29 rfl rfl
theorem kw_1_31 : Jvm.Cond.instantiable "TalkKnots$Knot" (5 : Nat) ∈ kw := km1 31 rfl rfl
theorem kw_1_32 : Jvm.Cond.methodLink "TalkKnots$Yard" (37 : Nat) ({ cls := "TalkKnots$Knot", name := "<init>", desc := "()V" } : Jvm.MethodName) ∈ kw := km1 32 rfl rfl
theorem kw_1_33 : Jvm.Cond.instanceMethod ({ cls := "TalkKnots$Knot", name := "<init>", desc := "()V" } : Jvm.MethodName) ∈ kw := km1 33 rfl rfl
theorem kw_1_34 : Jvm.Cond.code ({ cls := "TalkKnots$Knot", name := "<init>", desc := "()V" } : Jvm.MethodName) prog_2_method_1_code (1 : Nat) (Option.none : Option Jvm.ClassFile.FieldType) ∈ kw := km1 34 rfl rfl
theorem kw_1_35 : Jvm.Cond.methodLink "TalkKnots$Knot" (3 : Nat) ({ cls := "java/lang/Object", name := "<init>", desc := "()V" } : Jvm.MethodName) ∈ kw := km1 35 rfl rfl
theorem kw_1_36 : Jvm.Cond.fieldLink "TalkKnots$Knot" (9 : Nat) "TalkKnots$Knot" "kind" "I" ∈ kw := km1 36 rfl rfl
theorem kw_1_37 : Jvm.Cond.fieldLink "TalkKnots" (127 : Nat) "TalkKnots$Knot" "kind" "I" ∈ kw := km1 37 rfl rfl
theorem kw_1_38 : Jvm.Cond.fieldLink "TalkKnots$Knot" (15 : Nat) "TalkKnots$Knot" "mast" "I" ∈ kw := km1 38 rfl rfl
theorem kw_1_39 : Jvm.Cond.fieldLink "TalkKnots" (132 : Nat) "TalkKnots$Knot" "mast" "I" ∈ kw := km1 39 rfl rfl
theorem kw_1_40 : Jvm.Cond.fieldLink "TalkKnots$Yard" (56 : Nat) "TalkKnots$Knot" "mast" "I" ∈ kw := km1 40 rfl rfl
theorem kw_1_41 : Jvm.Cond.fieldLink "TalkKnots$Knot" (18 : Nat) "TalkKnots$Knot" "open" "I" ∈ kw := km1 41 rfl rfl
theorem kw_1_42 : Jvm.Cond.fieldLink "TalkKnots$TextReader" (108 : Nat) "TalkKnots$Knot" "open" "I" ∈ kw := km1 42 rfl rfl
theorem kw_1_43 : Jvm.Cond.fieldLink "TalkKnots" (135 : Nat) "TalkKnots$Knot" "open" "I" ∈ kw := km1 43 rfl rfl
theorem kw_1_44 : Jvm.Cond.fieldLink "TalkKnots$Yard" (63 : Nat) "TalkKnots$Knot" "open" "I" ∈ kw := km1 44 rfl rfl
theorem kw_1_45 : Jvm.Cond.fieldLink "TalkKnots$Knot" (21 : Nat) "TalkKnots$Knot" "age" "I" ∈ kw := km1 45 rfl rfl
theorem kw_1_46 : Jvm.Cond.fieldLink "TalkKnots" (141 : Nat) "TalkKnots$Knot" "age" "I" ∈ kw := km1 46 rfl rfl
theorem kw_1_47 : Jvm.Cond.fieldLink "TalkKnots$Yard" (66 : Nat) "TalkKnots$Knot" "age" "I" ∈ kw := km1 47 rfl rfl
theorem kw_1_48 : Jvm.Cond.fieldLink "TalkKnots$Knot" (24 : Nat) "TalkKnots$Knot" "fast" "Z" ∈ kw := km1 48 rfl rfl
theorem kw_1_49 : Jvm.Cond.fieldLink "TalkKnots$TextReader" (112 : Nat) "TalkKnots$Knot" "fast" "Z" ∈ kw := km1 49 rfl rfl
theorem kw_1_50 : Jvm.Cond.fieldLink "TalkKnots" (138 : Nat) "TalkKnots$Knot" "fast" "Z" ∈ kw := km1 50 rfl rfl
theorem kw_1_51 : Jvm.Cond.fieldLink "TalkKnots$Yard" (59 : Nat) "TalkKnots$Knot" "fast" "Z" ∈ kw := km1 51 rfl rfl
theorem kw_1_52 : Jvm.Cond.lays "TalkKnots$Knot" "TalkKnots$Knot" "kind" "I" ∈ kw := km1 52 rfl rfl
theorem kw_1_53 : Jvm.Cond.soleField "TalkKnots$Knot" "kind" ∈ kw := km1 53 rfl rfl
theorem kw_1_54 : Jvm.Cond.lays "TalkKnots$Knot" "TalkKnots$Knot" "mast" "I" ∈ kw := km1 54 rfl rfl
theorem kw_1_55 : Jvm.Cond.soleField "TalkKnots$Knot" "mast" ∈ kw := km1 55 rfl rfl
theorem kw_1_56 : Jvm.Cond.lays "TalkKnots$Knot" "TalkKnots$Knot" "open" "I" ∈ kw := km1 56 rfl rfl
theorem kw_1_57 : Jvm.Cond.soleField "TalkKnots$Knot" "open" ∈ kw := km1 57 rfl rfl
theorem kw_1_58 : Jvm.Cond.lays "TalkKnots$Knot" "TalkKnots$Knot" "age" "I" ∈ kw := km1 58 rfl rfl
theorem kw_1_59 : Jvm.Cond.soleField "TalkKnots$Knot" "age" ∈ kw := km1 59 rfl rfl
theorem kw_1_60 : Jvm.Cond.lays "TalkKnots$Knot" "TalkKnots$Knot" "fast" "Z" ∈ kw := km1 60 rfl rfl
theorem kw_1_61 : Jvm.Cond.soleField "TalkKnots$Knot" "fast" ∈ kw := km1 61 rfl rfl
theorem kw_1_62 : Jvm.Cond.superclass "TalkKnots$Knot" "java/lang/Object" ∈ kw := km1 62 rfl rfl
theorem kw_1_63 : Jvm.Cond.arrayClass Jvm.ClassFile.FieldType.int ∈ kw := km1 63 rfl rfl
theorem kw_1_64 : Jvm.Cond.fieldLink "TalkKnots$Yard" (9 : Nat) "TalkKnots$Yard" "hour" "I" ∈ kw := km1 64 rfl rfl
theorem kw_1_65 : Jvm.Cond.fieldLink "TalkKnots" (92 : Nat) "TalkKnots$Yard" "hour" "I" ∈ kw := km1 65 rfl rfl
theorem kw_1_66 : Jvm.Cond.fieldLink "TalkKnots$Yard" (15 : Nat) "TalkKnots$Yard" "count" "I" ∈ kw := km1 66 rfl rfl
theorem kw_1_67 : Jvm.Cond.fieldLink "TalkKnots$TextReader" (83 : Nat) "TalkKnots$Yard" "count" "I" ∈ kw := km1 67 rfl rfl
theorem kw_1_68 : Jvm.Cond.fieldLink "TalkKnots" (182 : Nat) "TalkKnots$Yard" "count" "I" ∈ kw := km1 68 rfl rfl
theorem kw_1_69 : Jvm.Cond.fieldLink "TalkKnots$Yard" (18 : Nat) "TalkKnots$Yard" "up" "I" ∈ kw := km1 69 rfl rfl
theorem kw_1_70 : Jvm.Cond.fieldLink "TalkKnots" (102 : Nat) "TalkKnots$Yard" "up" "I" ∈ kw := km1 70 rfl rfl
theorem kw_1_71 : Jvm.Cond.fieldLink "TalkKnots$Yard" (21 : Nat) "TalkKnots$Yard" "winds" "[I" ∈ kw := km1 71 rfl rfl
theorem kw_1_72 : Jvm.Cond.fieldLink "TalkKnots" (62 : Nat) "TalkKnots$Yard" "winds" "[I" ∈ kw := km1 72 rfl rfl
theorem kw_1_73 : Jvm.Cond.fieldLink "TalkKnots$TextReader" (80 : Nat) "TalkKnots$Yard" "winds" "[I" ∈ kw := km1 73 rfl rfl
theorem kw_1_74 : Jvm.Cond.fieldLink "TalkKnots$Yard" (25 : Nat) "TalkKnots$Yard" "weights" "[I" ∈ kw := km1 74 rfl rfl
theorem kw_1_75 : Jvm.Cond.fieldLink "TalkKnots" (69 : Nat) "TalkKnots$Yard" "weights" "[I" ∈ kw := km1 75 rfl rfl
theorem kw_1_76 : Jvm.Cond.fieldLink "TalkKnots$TextReader" (68 : Nat) "TalkKnots$Yard" "weights" "[I" ∈ kw := km1 76 rfl rfl
theorem kw_1_77 : Jvm.Cond.fieldLink "TalkKnots$Yard" (30 : Nat) "TalkKnots$Yard" "knots" "[LTalkKnots$Knot;" ∈ kw := km1 77 rfl rfl
theorem kw_1_78 : Jvm.Cond.fieldLink "TalkKnots$TextReader" (86 : Nat) "TalkKnots$Yard" "knots" "[LTalkKnots$Knot;" ∈ kw := km1 78 rfl rfl
theorem kw_1_79 : Jvm.Cond.fieldLink "TalkKnots" (123 : Nat) "TalkKnots$Yard" "knots" "[LTalkKnots$Knot;" ∈ kw := km1 79 rfl rfl
theorem kw_1_80 : Jvm.Cond.fieldLink "TalkKnots$Yard" (34 : Nat) "TalkKnots$Yard" "fastOn" "[I" ∈ kw := km1 80 rfl rfl
theorem kw_1_81 : Jvm.Cond.lays "TalkKnots$Yard" "TalkKnots$Yard" "hour" "I" ∈ kw := km1 81 rfl rfl
theorem kw_1_82 : Jvm.Cond.soleField "TalkKnots$Yard" "hour" ∈ kw := km1 82 rfl rfl
theorem kw_1_83 : Jvm.Cond.lays "TalkKnots$Yard" "TalkKnots$Yard" "count" "I" ∈ kw := km1 83 rfl rfl
theorem kw_1_84 : Jvm.Cond.soleField "TalkKnots$Yard" "count" ∈ kw := km1 84 rfl rfl
theorem kw_1_85 : Jvm.Cond.lays "TalkKnots$Yard" "TalkKnots$Yard" "up" "I" ∈ kw := km1 85 rfl rfl
theorem kw_1_86 : Jvm.Cond.soleField "TalkKnots$Yard" "up" ∈ kw := km1 86 rfl rfl
theorem kw_1_87 : Jvm.Cond.laysFinal "TalkKnots$Yard" "TalkKnots$Yard" "winds" "[I" ∈ kw := km1 87 rfl rfl
theorem kw_1_88 : Jvm.Cond.soleField "TalkKnots$Yard" "winds" ∈ kw := km1 88 rfl rfl
theorem kw_1_89 : Jvm.Cond.laysFinal "TalkKnots$Yard" "TalkKnots$Yard" "weights" "[I" ∈ kw := km1 89 rfl rfl
theorem kw_1_90 : Jvm.Cond.soleField "TalkKnots$Yard" "weights" ∈ kw := km1 90 rfl rfl
theorem kw_1_91 : Jvm.Cond.laysFinal "TalkKnots$Yard" "TalkKnots$Yard" "knots" "[LTalkKnots$Knot;" ∈ kw := km1 91 rfl rfl
theorem kw_1_92 : Jvm.Cond.soleField "TalkKnots$Yard" "knots" ∈ kw := km1 92 rfl rfl
theorem kw_1_93 : Jvm.Cond.laysFinal "TalkKnots$Yard" "TalkKnots$Yard" "fastOn" "[I" ∈ kw := km1 93 rfl rfl
theorem kw_1_94 : Jvm.Cond.soleField "TalkKnots$Yard" "fastOn" ∈ kw := km1 94 rfl rfl
theorem kw_1_95 : Jvm.Cond.superclass "TalkKnots$Yard" "java/lang/Object" ∈ kw := km1 95 rfl rfl
theorem kw_1_96 : Jvm.Cond.classLink "TalkKnots" (26 : Nat) "TalkKnots$Tape" ∈ kw := km1 96 rfl rfl
theorem kw_1_97 : Jvm.Cond.instantiable "TalkKnots$Tape" (2 : Nat) ∈ kw := km1 97 rfl rfl
theorem kw_1_98 : Jvm.Cond.methodLink "TalkKnots" (28 : Nat) ({ cls := "TalkKnots$Tape", name := "<init>", desc := "()V" } : Jvm.MethodName) ∈ kw := km1 98 rfl rfl
theorem kw_1_99 : Jvm.Cond.instanceMethod ({ cls := "TalkKnots$Tape", name := "<init>", desc := "()V" } : Jvm.MethodName) ∈ kw := km1 99 rfl rfl
theorem kw_1_100 : Jvm.Cond.code ({ cls := "TalkKnots$Tape", name := "<init>", desc := "()V" } : Jvm.MethodName) prog_4_method_1_code (1 : Nat) (Option.none : Option Jvm.ClassFile.FieldType) ∈ kw := km1 100 rfl rfl
theorem kw_1_101 : Jvm.Cond.methodLink "TalkKnots$Tape" (3 : Nat) ({ cls := "java/lang/Object", name := "<init>", desc := "()V" } : Jvm.MethodName) ∈ kw := km1 101 rfl rfl
theorem kw_1_102 : Jvm.Cond.fieldLink "TalkKnots$Tape" (9 : Nat) "TalkKnots$Tape" "bytes" "[I" ∈ kw := km1 102 rfl rfl
theorem kw_1_103 : Jvm.Cond.fieldLink "TalkKnots$Tape" (15 : Nat) "TalkKnots$Tape" "length" "I" ∈ kw := km1 103 rfl rfl
theorem kw_1_104 : Jvm.Cond.fieldLink "TalkKnots$TextReader" (150 : Nat) "TalkKnots$Tape" "length" "I" ∈ kw := km1 104 rfl rfl
theorem kw_1_105 : Jvm.Cond.fieldLink "TalkKnots" (198 : Nat) "TalkKnots$Tape" "length" "I" ∈ kw := km1 105 rfl rfl
theorem kw_1_106 : Jvm.Cond.laysFinal "TalkKnots$Tape" "TalkKnots$Tape" "bytes" "[I" ∈ kw := km1 106 rfl rfl
theorem kw_1_107 : Jvm.Cond.soleField "TalkKnots$Tape" "bytes" ∈ kw := km1 107 rfl rfl
theorem kw_1_108 : Jvm.Cond.lays "TalkKnots$Tape" "TalkKnots$Tape" "length" "I" ∈ kw := km1 108 rfl rfl
theorem kw_1_109 : Jvm.Cond.soleField "TalkKnots$Tape" "length" ∈ kw := km1 109 rfl rfl
theorem kw_1_110 : Jvm.Cond.superclass "TalkKnots$Tape" "java/lang/Object" ∈ kw := km1 110 rfl rfl
theorem kw_1_111 : Jvm.Cond.classLink "TalkKnots" (33 : Nat) "TalkKnots$TextReader" ∈ kw := km1 111 rfl rfl
theorem kw_1_112 : Jvm.Cond.instantiable "TalkKnots$TextReader" (7 : Nat) ∈ kw := km1 112 rfl rfl
theorem kw_1_113 : Jvm.Cond.methodLink "TalkKnots" (35 : Nat) ({ cls := "TalkKnots$TextReader", name := "<init>", desc := "(LTalkKnots$Tape;LTalkKnots$Yard;)V" } : Jvm.MethodName) ∈ kw := km1 113 rfl rfl
theorem kw_1_114 : Jvm.Cond.instanceMethod ({ cls := "TalkKnots$TextReader", name := "<init>", desc := "(LTalkKnots$Tape;LTalkKnots$Yard;)V" } : Jvm.MethodName) ∈ kw := km1 114 rfl rfl
theorem kw_1_115 : Jvm.Cond.code ({ cls := "TalkKnots$TextReader", name := "<init>", desc := "(LTalkKnots$Tape;LTalkKnots$Yard;)V" } : Jvm.MethodName) prog_5_method_1_code (3 : Nat) (Option.none : Option Jvm.ClassFile.FieldType) ∈ kw := km1 115 rfl rfl
theorem kw_1_116 : Jvm.Cond.methodLink "TalkKnots$TextReader" (3 : Nat) ({ cls := "java/lang/Object", name := "<init>", desc := "()V" } : Jvm.MethodName) ∈ kw := km1 116 rfl rfl
theorem kw_1_117 : Jvm.Cond.fieldLink "TalkKnots$TextReader" (27 : Nat) "TalkKnots$TextReader" "tape" "LTalkKnots$Tape;" ∈ kw := km1 117 rfl rfl
theorem kw_1_118 : Jvm.Cond.fieldLink "TalkKnots$TextReader" (31 : Nat) "TalkKnots$TextReader" "yard" "LTalkKnots$Yard;" ∈ kw := km1 118 rfl rfl
theorem kw_1_119 : Jvm.Cond.fieldLink "TalkKnots$TextReader" (9 : Nat) "TalkKnots$TextReader" "at" "I" ∈ kw := km1 119 rfl rfl
theorem kw_1_120 : Jvm.Cond.fieldLink "TalkKnots$TextReader" (15 : Nat) "TalkKnots$TextReader" "token" "I" ∈ kw := km1 120 rfl rfl
theorem kw_1_121 : Jvm.Cond.fieldLink "TalkKnots$TextReader" (18 : Nat) "TalkKnots$TextReader" "start" "I" ∈ kw := km1 121 rfl rfl
theorem kw_1_122 : Jvm.Cond.fieldLink "TalkKnots$TextReader" (21 : Nat) "TalkKnots$TextReader" "value" "I" ∈ kw := km1 122 rfl rfl
theorem kw_1_123 : Jvm.Cond.fieldLink "TalkKnots$TextReader" (24 : Nat) "TalkKnots$TextReader" "taken" "I" ∈ kw := km1 123 rfl rfl
theorem kw_1_124 : Jvm.Cond.laysFinal "TalkKnots$TextReader" "TalkKnots$TextReader" "tape" "LTalkKnots$Tape;" ∈ kw := km1 124 rfl rfl
theorem kw_1_125 : Jvm.Cond.soleField "TalkKnots$TextReader" "tape" ∈ kw := km1 125 rfl rfl
theorem kw_1_126 : Jvm.Cond.laysFinal "TalkKnots$TextReader" "TalkKnots$TextReader" "yard" "LTalkKnots$Yard;" ∈ kw := km1 126 rfl rfl
theorem kw_1_127 : Jvm.Cond.soleField "TalkKnots$TextReader" "yard" ∈ kw := km1 127 rfl rfl
theorem kw_1_128 : Jvm.Cond.lays "TalkKnots$TextReader" "TalkKnots$TextReader" "at" "I" ∈ kw := km1 128 rfl rfl
theorem kw_1_129 : Jvm.Cond.soleField "TalkKnots$TextReader" "at" ∈ kw := km1 129 rfl rfl
theorem kw_1_130 : Jvm.Cond.lays "TalkKnots$TextReader" "TalkKnots$TextReader" "token" "I" ∈ kw := km1 130 rfl rfl
theorem kw_1_131 : Jvm.Cond.soleField "TalkKnots$TextReader" "token" ∈ kw := km1 131 rfl rfl
theorem kw_1_132 : Jvm.Cond.lays "TalkKnots$TextReader" "TalkKnots$TextReader" "start" "I" ∈ kw := km1 132 rfl rfl
theorem kw_1_133 : Jvm.Cond.soleField "TalkKnots$TextReader" "start" ∈ kw := km1 133 rfl rfl
theorem kw_1_134 : Jvm.Cond.lays "TalkKnots$TextReader" "TalkKnots$TextReader" "value" "I" ∈ kw := km1 134 rfl rfl
theorem kw_1_135 : Jvm.Cond.soleField "TalkKnots$TextReader" "value" ∈ kw := km1 135 rfl rfl
theorem kw_1_136 : Jvm.Cond.lays "TalkKnots$TextReader" "TalkKnots$TextReader" "taken" "I" ∈ kw := km1 136 rfl rfl
theorem kw_1_137 : Jvm.Cond.soleField "TalkKnots$TextReader" "taken" ∈ kw := km1 137 rfl rfl
theorem kw_1_138 : Jvm.Cond.superclass "TalkKnots$TextReader" "java/lang/Object" ∈ kw := km1 138 rfl rfl
theorem kw_1_139 : Jvm.Cond.classLink "TalkKnots" (42 : Nat) "TalkKnots$Sheet" ∈ kw := km1 139 rfl rfl
theorem kw_1_141 : Jvm.Cond.instantiable "TalkKnots$Sheet" (3 : Nat) ∈ kw := km1 141 rfl rfl
theorem kw_1_142 : Jvm.Cond.methodLink "TalkKnots" (52 : Nat) ({ cls := "TalkKnots$Sheet", name := "<init>", desc := "()V" } : Jvm.MethodName) ∈ kw := km1 142 rfl rfl
theorem kw_1_143 : Jvm.Cond.instanceMethod ({ cls := "TalkKnots$Sheet", name := "<init>", desc := "()V" } : Jvm.MethodName) ∈ kw := km1 143 rfl rfl
theorem kw_1_144 : Jvm.Cond.code ({ cls := "TalkKnots$Sheet", name := "<init>", desc := "()V" } : Jvm.MethodName) prog_3_method_1_code (1 : Nat) (Option.none : Option Jvm.ClassFile.FieldType) ∈ kw := km1 144 rfl rfl
theorem kw_1_145 : Jvm.Cond.methodLink "TalkKnots$Sheet" (3 : Nat) ({ cls := "java/lang/Object", name := "<init>", desc := "()V" } : Jvm.MethodName) ∈ kw := km1 145 rfl rfl
theorem kw_1_146 : Jvm.Cond.fieldLink "TalkKnots$Sheet" (9 : Nat) "TalkKnots$Sheet" "bits" "I" ∈ kw := km1 146 rfl rfl
theorem kw_1_147 : Jvm.Cond.fieldLink "TalkKnots" (233 : Nat) "TalkKnots$Sheet" "bits" "I" ∈ kw := km1 147 rfl rfl
theorem kw_1_148 : Jvm.Cond.fieldLink "TalkKnots$Sheet" (15 : Nat) "TalkKnots$Sheet" "size" "I" ∈ kw := km1 148 rfl rfl
theorem kw_1_149 : Jvm.Cond.fieldLink "TalkKnots" (222 : Nat) "TalkKnots$Sheet" "size" "I" ∈ kw := km1 149 rfl rfl
theorem kw_1_150 : Jvm.Cond.fieldLink "TalkKnots$Sheet" (18 : Nat) "TalkKnots$Sheet" "numbers" "[J" ∈ kw := km1 150 rfl rfl
theorem kw_1_151 : Jvm.Cond.fieldLink "TalkKnots" (225 : Nat) "TalkKnots$Sheet" "numbers" "[J" ∈ kw := km1 151 rfl rfl
theorem kw_1_152 : Jvm.Cond.lays "TalkKnots$Sheet" "TalkKnots$Sheet" "bits" "I" ∈ kw := km1 152 rfl rfl
theorem kw_1_153 : Jvm.Cond.soleField "TalkKnots$Sheet" "bits" ∈ kw := km1 153 rfl rfl
theorem kw_1_154 : Jvm.Cond.lays "TalkKnots$Sheet" "TalkKnots$Sheet" "size" "I" ∈ kw := km1 154 rfl rfl
theorem kw_1_155 : Jvm.Cond.soleField "TalkKnots$Sheet" "size" ∈ kw := km1 155 rfl rfl
theorem kw_1_156 : Jvm.Cond.laysFinal "TalkKnots$Sheet" "TalkKnots$Sheet" "numbers" "[J" ∈ kw := km1 156 rfl rfl
theorem kw_1_157 : Jvm.Cond.soleField "TalkKnots$Sheet" "numbers" ∈ kw := km1 157 rfl rfl
theorem kw_1_158 : Jvm.Cond.superclass "TalkKnots$Sheet" "java/lang/Object" ∈ kw := km1 158 rfl rfl
theorem kw_1_159 : Jvm.Cond.arrayClass Jvm.ClassFile.FieldType.long ∈ kw := km1 159 rfl rfl
theorem kw_1_160 : Jvm.Cond.fieldLink "TalkKnots" (10 : Nat) "TalkKnots" "present" "LTalkKnots$Yard;" ∈ kw := km1 160 rfl rfl
theorem kw_1_161 : Jvm.Cond.fieldLink "TalkKnots" (16 : Nat) "TalkKnots" "trial" "LTalkKnots$Yard;" ∈ kw := km1 161 rfl rfl
theorem kw_1_162 : Jvm.Cond.fieldLink "TalkKnots" (19 : Nat) "TalkKnots" "kept" "LTalkKnots$Yard;" ∈ kw := km1 162 rfl rfl
theorem kw_1_163 : Jvm.Cond.fieldLink "TalkKnots" (22 : Nat) "TalkKnots" "isKept" "Z" ∈ kw := km1 163 rfl rfl
theorem kw_1_164 : Jvm.Cond.fieldLink "TalkKnots" (29 : Nat) "TalkKnots" "tape" "LTalkKnots$Tape;" ∈ kw := km1 164 rfl rfl
theorem kw_1_165 : Jvm.Cond.fieldLink "TalkKnots" (38 : Nat) "TalkKnots" "reader" "LTalkKnots$TextReader;" ∈ kw := km1 165 rfl rfl
theorem kw_1_166 : Jvm.Cond.fieldLink "TalkKnots" (44 : Nat) "TalkKnots" "sheets" "[LTalkKnots$Sheet;" ∈ kw := km1 166 rfl rfl
theorem kw_1_167 : Jvm.Cond.fieldLink "TalkKnots" (48 : Nat) "TalkKnots" "told" "[I" ∈ kw := km1 167 rfl rfl
theorem kw_1_168 : Jvm.Cond.laysFinal "TalkKnots" "TalkKnots" "present" "LTalkKnots$Yard;" ∈ kw := km1 168 rfl rfl
theorem kw_1_169 : Jvm.Cond.soleField "TalkKnots" "present" ∈ kw := km1 169 rfl rfl
theorem kw_1_170 : Jvm.Cond.laysFinal "TalkKnots" "TalkKnots" "trial" "LTalkKnots$Yard;" ∈ kw := km1 170 rfl rfl
theorem kw_1_171 : Jvm.Cond.soleField "TalkKnots" "trial" ∈ kw := km1 171 rfl rfl
theorem kw_1_172 : Jvm.Cond.laysFinal "TalkKnots" "TalkKnots" "kept" "LTalkKnots$Yard;" ∈ kw := km1 172 rfl rfl
theorem kw_1_173 : Jvm.Cond.soleField "TalkKnots" "kept" ∈ kw := km1 173 rfl rfl
theorem kw_1_174 : Jvm.Cond.lays "TalkKnots" "TalkKnots" "isKept" "Z" ∈ kw := km1 174 rfl rfl
theorem kw_1_175 : Jvm.Cond.soleField "TalkKnots" "isKept" ∈ kw := km1 175 rfl rfl
theorem kw_1_176 : Jvm.Cond.laysFinal "TalkKnots" "TalkKnots" "tape" "LTalkKnots$Tape;" ∈ kw := km1 176 rfl rfl
theorem kw_1_177 : Jvm.Cond.soleField "TalkKnots" "tape" ∈ kw := km1 177 rfl rfl
theorem kw_1_178 : Jvm.Cond.laysFinal "TalkKnots" "TalkKnots" "reader" "LTalkKnots$TextReader;" ∈ kw := km1 178 rfl rfl
theorem kw_1_179 : Jvm.Cond.soleField "TalkKnots" "reader" ∈ kw := km1 179 rfl rfl
theorem kw_1_180 : Jvm.Cond.laysFinal "TalkKnots" "TalkKnots" "sheets" "[LTalkKnots$Sheet;" ∈ kw := km1 180 rfl rfl
theorem kw_1_181 : Jvm.Cond.soleField "TalkKnots" "sheets" ∈ kw := km1 181 rfl rfl
theorem kw_1_182 : Jvm.Cond.laysFinal "TalkKnots" "TalkKnots" "told" "[I" ∈ kw := km1 182 rfl rfl
theorem kw_1_183 : Jvm.Cond.soleField "TalkKnots" "told" ∈ kw := km1 183 rfl rfl
theorem kw_1_184 : Jvm.Cond.superclass "TalkKnots" "java/lang/Object" ∈ kw := km1 184 rfl rfl
theorem kw_1_185 : Jvm.Cond.methodLink "TalkKnotsLaw" (13 : Nat) ({ cls := "TalkKnots", name := "wind", desc := "(II)I" } : Jvm.MethodName) ∈ kw := km1 185 rfl rfl
theorem kw_1_186 : Jvm.Cond.instanceMethod ({ cls := "TalkKnots", name := "wind", desc := "(II)I" } : Jvm.MethodName) ∈ kw := km1 186 rfl rfl
theorem kw_1_187 : Jvm.Cond.selects "TalkKnots" ({ cls := "TalkKnots", name := "wind", desc := "(II)I" } : Jvm.MethodName) ({ cls := "TalkKnots", name := "wind", desc := "(II)I" } : Jvm.MethodName) ∈ kw := km1 187 rfl rfl
theorem kw_1_188 : Jvm.Cond.code ({ cls := "TalkKnots", name := "wind", desc := "(II)I" } : Jvm.MethodName) prog_1_method_2_code (4 : Nat) (Option.some Jvm.ClassFile.FieldType.int) ∈ kw := km1 188 rfl rfl
theorem kw_1_189 : Jvm.Cond.methodLink "TalkKnots" (53 : Nat) ({ cls := "TalkKnots", name := "isWithin", desc := "(III)Z" } : Jvm.MethodName) ∈ kw := km1 189 rfl rfl
theorem kw_1_190 : Jvm.Cond.static ({ cls := "TalkKnots", name := "isWithin", desc := "(III)Z" } : Jvm.MethodName) ∈ kw := km1 190 rfl rfl
theorem kw_1_191 : Jvm.Cond.code ({ cls := "TalkKnots", name := "isWithin", desc := "(III)Z" } : Jvm.MethodName) prog_1_method_45_code (3 : Nat) (Option.some Jvm.ClassFile.FieldType.boolean) ∈ kw := km1 191 rfl rfl
theorem kw_1_192 : Jvm.Cond.constant "TalkKnots" (57 : Nat) (-1000000001 : Int32) ∈ kw := km1 192 rfl rfl
theorem kw_1_193 : Jvm.Cond.methodLink "TalkKnots" (58 : Nat) ({ cls := "TalkKnots", name := "tell", desc := "(I)I" } : Jvm.MethodName) ∈ kw := km1 193 rfl rfl
theorem kw_1_195 : Jvm.Cond.instanceMethod ({ cls := "TalkKnots", name := "tell", desc := "(I)I" } : Jvm.MethodName) ∈ kw := km1 195 rfl rfl
theorem kw_1_196 : Jvm.Cond.code ({ cls := "TalkKnots", name := "tell", desc := "(I)I" } : Jvm.MethodName) prog_1_method_41_code (3 : Nat) (Option.some Jvm.ClassFile.FieldType.int) ∈ kw := km1 196 rfl rfl
theorem kw_1_197 : Jvm.Cond.methodLink "TalkKnotsLaw" (18 : Nat) ({ cls := "TalkKnots", name := "weight", desc := "(II)I" } : Jvm.MethodName) ∈ kw := km1 197 rfl rfl
theorem kw_1_198 : Jvm.Cond.instanceMethod ({ cls := "TalkKnots", name := "weight", desc := "(II)I" } : Jvm.MethodName) ∈ kw := km1 198 rfl rfl
theorem kw_1_199 : Jvm.Cond.selects "TalkKnots" ({ cls := "TalkKnots", name := "weight", desc := "(II)I" } : Jvm.MethodName) ({ cls := "TalkKnots", name := "weight", desc := "(II)I" } : Jvm.MethodName) ∈ kw := km1 199 rfl rfl
theorem kw_1_200 : Jvm.Cond.code ({ cls := "TalkKnots", name := "weight", desc := "(II)I" } : Jvm.MethodName) prog_1_method_3_code (4 : Nat) (Option.some Jvm.ClassFile.FieldType.int) ∈ kw := km1 200 rfl rfl
theorem kw_1_201 : Jvm.Cond.methodLink "TalkKnots" (65 : Nat) ({ cls := "TalkKnots", name := "isMast", desc := "(I)Z" } : Jvm.MethodName) ∈ kw := km1 201 rfl rfl
theorem kw_1_202 : Jvm.Cond.static ({ cls := "TalkKnots", name := "isMast", desc := "(I)Z" } : Jvm.MethodName) ∈ kw := km1 202 rfl rfl
theorem kw_1_203 : Jvm.Cond.code ({ cls := "TalkKnots", name := "isMast", desc := "(I)Z" } : Jvm.MethodName) prog_1_method_46_code (1 : Nat) (Option.some Jvm.ClassFile.FieldType.boolean) ∈ kw := km1 203 rfl rfl
theorem kw_1_204 : Jvm.Cond.methodLink "TalkKnotsLaw" (22 : Nat) ({ cls := "TalkKnots", name := "raise", desc := "(I)I" } : Jvm.MethodName) ∈ kw := km1 204 rfl rfl
theorem kw_1_205 : Jvm.Cond.instanceMethod ({ cls := "TalkKnots", name := "raise", desc := "(I)I" } : Jvm.MethodName) ∈ kw := km1 205 rfl rfl
theorem kw_1_206 : Jvm.Cond.selects "TalkKnots" ({ cls := "TalkKnots", name := "raise", desc := "(I)I" } : Jvm.MethodName) ({ cls := "TalkKnots", name := "raise", desc := "(I)I" } : Jvm.MethodName) ∈ kw := km1 206 rfl rfl
theorem kw_1_207 : Jvm.Cond.code ({ cls := "TalkKnots", name := "raise", desc := "(I)I" } : Jvm.MethodName) prog_1_method_4_code (3 : Nat) (Option.some Jvm.ClassFile.FieldType.int) ∈ kw := km1 207 rfl rfl
theorem kw_1_208 : Jvm.Cond.methodLink "TalkKnots" (72 : Nat) ({ cls := "TalkKnots$Yard", name := "isUp", desc := "(I)Z" } : Jvm.MethodName) ∈ kw := km1 208 rfl rfl
theorem kw_1_209 : Jvm.Cond.instanceMethod ({ cls := "TalkKnots$Yard", name := "isUp", desc := "(I)Z" } : Jvm.MethodName) ∈ kw := km1 209 rfl rfl
theorem kw_1_210 : Jvm.Cond.selects "TalkKnots$Yard" ({ cls := "TalkKnots$Yard", name := "isUp", desc := "(I)Z" } : Jvm.MethodName) ({ cls := "TalkKnots$Yard", name := "isUp", desc := "(I)Z" } : Jvm.MethodName) ∈ kw := km1 210 rfl rfl
theorem kw_1_211 : Jvm.Cond.code ({ cls := "TalkKnots$Yard", name := "isUp", desc := "(I)Z" } : Jvm.MethodName) prog_6_method_5_code (2 : Nat) (Option.some Jvm.ClassFile.FieldType.boolean) ∈ kw := km1 211 rfl rfl
theorem kw_1_212 : Jvm.Cond.methodLink "TalkKnots" (75 : Nat) ({ cls := "TalkKnots$Yard", name := "putUp", desc := "(IZ)V" } : Jvm.MethodName) ∈ kw := km1 212 rfl rfl
theorem kw_1_213 : Jvm.Cond.instanceMethod ({ cls := "TalkKnots$Yard", name := "putUp", desc := "(IZ)V" } : Jvm.MethodName) ∈ kw := km1 213 rfl rfl
theorem kw_1_214 : Jvm.Cond.selects "TalkKnots$Yard" ({ cls := "TalkKnots$Yard", name := "putUp", desc := "(IZ)V" } : Jvm.MethodName) ({ cls := "TalkKnots$Yard", name := "putUp", desc := "(IZ)V" } : Jvm.MethodName) ∈ kw := km1 214 rfl rfl
theorem kw_1_215 : Jvm.Cond.code ({ cls := "TalkKnots$Yard", name := "putUp", desc := "(IZ)V" } : Jvm.MethodName) prog_6_method_6_code (4 : Nat) (Option.none : Option Jvm.ClassFile.FieldType) ∈ kw := km1 215 rfl rfl
theorem kw_1_216 : Jvm.Cond.methodLink "TalkKnotsLaw" (27 : Nat) ({ cls := "TalkKnots", name := "mastOf", desc := "(II)I" } : Jvm.MethodName) ∈ kw := km1 216 rfl rfl
theorem kw_1_217 : Jvm.Cond.instanceMethod ({ cls := "TalkKnots", name := "mastOf", desc := "(II)I" } : Jvm.MethodName) ∈ kw := km1 217 rfl rfl
theorem kw_1_218 : Jvm.Cond.selects "TalkKnots" ({ cls := "TalkKnots", name := "mastOf", desc := "(II)I" } : Jvm.MethodName) ({ cls := "TalkKnots", name := "mastOf", desc := "(II)I" } : Jvm.MethodName) ∈ kw := km1 218 rfl rfl
theorem kw_1_219 : Jvm.Cond.code ({ cls := "TalkKnots", name := "mastOf", desc := "(II)I" } : Jvm.MethodName) prog_1_method_5_code (3 : Nat) (Option.some Jvm.ClassFile.FieldType.int) ∈ kw := km1 219 rfl rfl
theorem kw_1_220 : Jvm.Cond.methodLink "TalkKnots" (79 : Nat) ({ cls := "TalkKnots$Yard", name := "knotsOf", desc := "(I)I" } : Jvm.MethodName) ∈ kw := km1 220 rfl rfl
theorem kw_1_221 : Jvm.Cond.instanceMethod ({ cls := "TalkKnots$Yard", name := "knotsOf", desc := "(I)I" } : Jvm.MethodName) ∈ kw := km1 221 rfl rfl
theorem kw_1_222 : Jvm.Cond.selects "TalkKnots$Yard" ({ cls := "TalkKnots$Yard", name := "knotsOf", desc := "(I)I" } : Jvm.MethodName) ({ cls := "TalkKnots$Yard", name := "knotsOf", desc := "(I)I" } : Jvm.MethodName) ∈ kw := km1 222 rfl rfl
theorem kw_1_223 : Jvm.Cond.code ({ cls := "TalkKnots$Yard", name := "knotsOf", desc := "(I)I" } : Jvm.MethodName) prog_6_method_9_code (4 : Nat) (Option.some Jvm.ClassFile.FieldType.int) ∈ kw := km1 223 rfl rfl
theorem kw_1_224 : Jvm.Cond.methodLink "TalkKnots" (82 : Nat) ({ cls := "TalkKnots$Yard", name := "fastKnots", desc := "()I" } : Jvm.MethodName) ∈ kw := km1 224 rfl rfl
theorem kw_1_225 : Jvm.Cond.instanceMethod ({ cls := "TalkKnots$Yard", name := "fastKnots", desc := "()I" } : Jvm.MethodName) ∈ kw := km1 225 rfl rfl
theorem kw_1_226 : Jvm.Cond.selects "TalkKnots$Yard" ({ cls := "TalkKnots$Yard", name := "fastKnots", desc := "()I" } : Jvm.MethodName) ({ cls := "TalkKnots$Yard", name := "fastKnots", desc := "()I" } : Jvm.MethodName) ∈ kw := km1 226 rfl rfl
theorem kw_1_227 : Jvm.Cond.code ({ cls := "TalkKnots$Yard", name := "fastKnots", desc := "()I" } : Jvm.MethodName) prog_6_method_10_code (3 : Nat) (Option.some Jvm.ClassFile.FieldType.int) ∈ kw := km1 227 rfl rfl
theorem kw_1_228 : Jvm.Cond.methodLink "TalkKnots" (86 : Nat) ({ cls := "TalkKnots$Yard", name := "strainOn", desc := "(I)I" } : Jvm.MethodName) ∈ kw := km1 228 rfl rfl
theorem kw_1_229 : Jvm.Cond.instanceMethod ({ cls := "TalkKnots$Yard", name := "strainOn", desc := "(I)I" } : Jvm.MethodName) ∈ kw := km1 229 rfl rfl
theorem kw_1_230 : Jvm.Cond.selects "TalkKnots$Yard" ({ cls := "TalkKnots$Yard", name := "strainOn", desc := "(I)I" } : Jvm.MethodName) ({ cls := "TalkKnots$Yard", name := "strainOn", desc := "(I)I" } : Jvm.MethodName) ∈ kw := km1 230 rfl rfl
theorem kw_1_231 : Jvm.Cond.code ({ cls := "TalkKnots$Yard", name := "strainOn", desc := "(I)I" } : Jvm.MethodName) prog_6_method_14_code (2 : Nat) (Option.some Jvm.ClassFile.FieldType.int) ∈ kw := km1 231 rfl rfl
theorem kw_1_232 : Jvm.Cond.methodLink "TalkKnots$Yard" (69 : Nat) ({ cls := "TalkKnots$Yard", name := "countFast", desc := "()V" } : Jvm.MethodName) ∈ kw := km1 232 rfl rfl
theorem kw_1_234 : Jvm.Cond.instanceMethod ({ cls := "TalkKnots$Yard", name := "countFast", desc := "()V" } : Jvm.MethodName) ∈ kw := km1 234 rfl rfl
theorem kw_1_235 : Jvm.Cond.code ({ cls := "TalkKnots$Yard", name := "countFast", desc := "()V" } : Jvm.MethodName) prog_6_method_24_code (2 : Nat) (Option.none : Option Jvm.ClassFile.FieldType) ∈ kw := km1 235 rfl rfl
theorem kw_1_236 : Jvm.Cond.methodLink "TalkKnots$Yard" (72 : Nat) ({ cls := "TalkKnots$Yard", name := "windNow", desc := "()I" } : Jvm.MethodName) ∈ kw := km1 236 rfl rfl
theorem kw_1_237 : Jvm.Cond.instanceMethod ({ cls := "TalkKnots$Yard", name := "windNow", desc := "()I" } : Jvm.MethodName) ∈ kw := km1 237 rfl rfl
theorem kw_1_238 : Jvm.Cond.selects "TalkKnots$Yard" ({ cls := "TalkKnots$Yard", name := "windNow", desc := "()I" } : Jvm.MethodName) ({ cls := "TalkKnots$Yard", name := "windNow", desc := "()I" } : Jvm.MethodName) ∈ kw := km1 238 rfl rfl
theorem kw_1_239 : Jvm.Cond.code ({ cls := "TalkKnots$Yard", name := "windNow", desc := "()I" } : Jvm.MethodName) prog_6_method_4_code (1 : Nat) (Option.some Jvm.ClassFile.FieldType.int) ∈ kw := km1 239 rfl rfl
theorem kw_2_0 : Jvm.Cond.methodLink "TalkKnots$Yard" (48 : Nat) ({ cls := "TalkKnots$Yard", name := "place", desc := "()I" } : Jvm.MethodName) ∈ kw := km2 0 rfl rfl
theorem kw_2_1 : Jvm.Cond.instanceMethod ({ cls := "TalkKnots$Yard", name := "place", desc := "()I" } : Jvm.MethodName) ∈ kw := km2 1 rfl rfl
theorem kw_2_2 : Jvm.Cond.selects "TalkKnots$Yard" ({ cls := "TalkKnots$Yard", name := "place", desc := "()I" } : Jvm.MethodName) ({ cls := "TalkKnots$Yard", name := "place", desc := "()I" } : Jvm.MethodName) ∈ kw := km2 2 rfl rfl
theorem kw_2_3 : Jvm.Cond.code ({ cls := "TalkKnots$Yard", name := "place", desc := "()I" } : Jvm.MethodName) prog_6_method_3_code (1 : Nat) (Option.some Jvm.ClassFile.FieldType.int) ∈ kw := km2 3 rfl rfl
theorem kw_2_4 : Jvm.Cond.methodLink "TalkKnots$Yard" (75 : Nat) ({ cls := "TalkKnots$Yard", name := "strain", desc := "(II)I" } : Jvm.MethodName) ∈ kw := km2 4 rfl rfl
theorem kw_2_6 : Jvm.Cond.instanceMethod ({ cls := "TalkKnots$Yard", name := "strain", desc := "(II)I" } : Jvm.MethodName) ∈ kw := km2 6 rfl rfl
theorem kw_2_7 : Jvm.Cond.code ({ cls := "TalkKnots$Yard", name := "strain", desc := "(II)I" } : Jvm.MethodName) prog_6_method_25_code (4 : Nat) (Option.some Jvm.ClassFile.FieldType.int) ∈ kw := km2 7 rfl rfl
theorem kw_2_8 : Jvm.Cond.methodLink "TalkKnots" (89 : Nat) ({ cls := "TalkKnots$Yard", name := "allHolding", desc := "(I)I" } : Jvm.MethodName) ∈ kw := km2 8 rfl rfl
theorem kw_2_9 : Jvm.Cond.instanceMethod ({ cls := "TalkKnots$Yard", name := "allHolding", desc := "(I)I" } : Jvm.MethodName) ∈ kw := km2 9 rfl rfl
theorem kw_2_10 : Jvm.Cond.selects "TalkKnots$Yard" ({ cls := "TalkKnots$Yard", name := "allHolding", desc := "(I)I" } : Jvm.MethodName) ({ cls := "TalkKnots$Yard", name := "allHolding", desc := "(I)I" } : Jvm.MethodName) ∈ kw := km2 10 rfl rfl
theorem kw_2_11 : Jvm.Cond.code ({ cls := "TalkKnots$Yard", name := "allHolding", desc := "(I)I" } : Jvm.MethodName) prog_6_method_16_code (4 : Nat) (Option.some Jvm.ClassFile.FieldType.int) ∈ kw := km2 11 rfl rfl
theorem kw_2_12 : Jvm.Cond.methodLink "TalkKnots$Yard" (83 : Nat) ({ cls := "TalkKnots$Yard", name := "holdingOf", desc := "(LTalkKnots$Knot;)I" } : Jvm.MethodName) ∈ kw := km2 12 rfl rfl
theorem kw_2_13 : Jvm.Cond.instanceMethod ({ cls := "TalkKnots$Yard", name := "holdingOf", desc := "(LTalkKnots$Knot;)I" } : Jvm.MethodName) ∈ kw := km2 13 rfl rfl
theorem kw_2_14 : Jvm.Cond.selects "TalkKnots$Yard" ({ cls := "TalkKnots$Yard", name := "holdingOf", desc := "(LTalkKnots$Knot;)I" } : Jvm.MethodName) ({ cls := "TalkKnots$Yard", name := "holdingOf", desc := "(LTalkKnots$Knot;)I" } : Jvm.MethodName) ∈ kw := km2 14 rfl rfl
theorem kw_2_15 : Jvm.Cond.code ({ cls := "TalkKnots$Yard", name := "holdingOf", desc := "(LTalkKnots$Knot;)I" } : Jvm.MethodName) prog_6_method_15_code (2 : Nat) (Option.some Jvm.ClassFile.FieldType.int) ∈ kw := km2 15 rfl rfl
theorem kw_2_16 : Jvm.Cond.methodLink "TalkKnots$Yard" (79 : Nat) ({ cls := "TalkKnots$Yard", name := "heldBy", desc := "(LTalkKnots$Knot;I)I" } : Jvm.MethodName) ∈ kw := km2 16 rfl rfl
theorem kw_2_18 : Jvm.Cond.instanceMethod ({ cls := "TalkKnots$Yard", name := "heldBy", desc := "(LTalkKnots$Knot;I)I" } : Jvm.MethodName) ∈ kw := km2 18 rfl rfl
theorem kw_2_19 : Jvm.Cond.code ({ cls := "TalkKnots$Yard", name := "heldBy", desc := "(LTalkKnots$Knot;I)I" } : Jvm.MethodName) prog_6_method_26_code (3 : Nat) (Option.some Jvm.ClassFile.FieldType.int) ∈ kw := km2 19 rfl rfl
theorem kw_2_20 : Jvm.Cond.methodLink "TalkKnots$Yard" (108 : Nat) ({ cls := "TalkKnots$Knot", name := "holding", desc := "(II)I" } : Jvm.MethodName) ∈ kw := km2 20 rfl rfl
theorem kw_2_21 : Jvm.Cond.instanceMethod ({ cls := "TalkKnots$Knot", name := "holding", desc := "(II)I" } : Jvm.MethodName) ∈ kw := km2 21 rfl rfl
theorem kw_2_22 : Jvm.Cond.selects "TalkKnots$Knot" ({ cls := "TalkKnots$Knot", name := "holding", desc := "(II)I" } : Jvm.MethodName) ({ cls := "TalkKnots$Knot", name := "holding", desc := "(II)I" } : Jvm.MethodName) ∈ kw := km2 22 rfl rfl
theorem kw_2_23 : Jvm.Cond.code ({ cls := "TalkKnots$Knot", name := "holding", desc := "(II)I" } : Jvm.MethodName) prog_2_method_5_code (3 : Nat) (Option.some Jvm.ClassFile.FieldType.int) ∈ kw := km2 23 rfl rfl
theorem kw_2_24 : Jvm.Cond.methodLink "TalkKnots$Knot" (28 : Nat) ({ cls := "TalkKnots$Knot", name := "spliceHolding", desc := "()I" } : Jvm.MethodName) ∈ kw := km2 24 rfl rfl
theorem kw_2_26 : Jvm.Cond.instanceMethod ({ cls := "TalkKnots$Knot", name := "spliceHolding", desc := "()I" } : Jvm.MethodName) ∈ kw := km2 26 rfl rfl
theorem kw_2_27 : Jvm.Cond.code ({ cls := "TalkKnots$Knot", name := "spliceHolding", desc := "()I" } : Jvm.MethodName) prog_2_method_6_code (1 : Nat) (Option.some Jvm.ClassFile.FieldType.int) ∈ kw := km2 27 rfl rfl
theorem kw_2_28 : Jvm.Cond.methodLink "TalkKnots$Knot" (32 : Nat) ({ cls := "java/lang/Math", name := "max", desc := "(II)I" } : Jvm.MethodName) ∈ kw := km2 28 rfl rfl
theorem kw_2_29 : Jvm.Cond.static ({ cls := "java/lang/Math", name := "max", desc := "(II)I" } : Jvm.MethodName) ∈ kw := km2 29 rfl rfl
theorem kw_2_30 : Jvm.Cond.code ({ cls := "java/lang/Math", name := "max", desc := "(II)I" } : Jvm.MethodName) prog_10_method_65_code (2 : Nat) (Option.some Jvm.ClassFile.FieldType.int) ∈ kw := km2 30 rfl rfl
theorem kw_2_31 : Jvm.Cond.methodLink "TalkKnotsLaw" (31 : Nat) ({ cls := "TalkKnots", name := "now", desc := "(I)I" } : Jvm.MethodName) ∈ kw := km2 31 rfl rfl
theorem kw_2_32 : Jvm.Cond.instanceMethod ({ cls := "TalkKnots", name := "now", desc := "(I)I" } : Jvm.MethodName) ∈ kw := km2 32 rfl rfl
theorem kw_2_33 : Jvm.Cond.selects "TalkKnots" ({ cls := "TalkKnots", name := "now", desc := "(I)I" } : Jvm.MethodName) ({ cls := "TalkKnots", name := "now", desc := "(I)I" } : Jvm.MethodName) ∈ kw := km2 33 rfl rfl
theorem kw_2_34 : Jvm.Cond.code ({ cls := "TalkKnots", name := "now", desc := "(I)I" } : Jvm.MethodName) prog_1_method_6_code (2 : Nat) (Option.some Jvm.ClassFile.FieldType.int) ∈ kw := km2 34 rfl rfl
theorem kw_2_35 : Jvm.Cond.methodLink "TalkKnots" (96 : Nat) ({ cls := "TalkKnots$Yard", name := "place", desc := "()I" } : Jvm.MethodName) ∈ kw := km2 35 rfl rfl
theorem kw_2_36 : Jvm.Cond.methodLink "TalkKnots" (99 : Nat) ({ cls := "TalkKnots$Yard", name := "windNow", desc := "()I" } : Jvm.MethodName) ∈ kw := km2 36 rfl rfl
theorem kw_2_37 : Jvm.Cond.methodLink "TalkKnots" (105 : Nat) ({ cls := "TalkKnots$Yard", name := "allOpen", desc := "()I" } : Jvm.MethodName) ∈ kw := km2 37 rfl rfl
theorem kw_2_38 : Jvm.Cond.instanceMethod ({ cls := "TalkKnots$Yard", name := "allOpen", desc := "()I" } : Jvm.MethodName) ∈ kw := km2 38 rfl rfl
theorem kw_2_39 : Jvm.Cond.selects "TalkKnots$Yard" ({ cls := "TalkKnots$Yard", name := "allOpen", desc := "()I" } : Jvm.MethodName) ({ cls := "TalkKnots$Yard", name := "allOpen", desc := "()I" } : Jvm.MethodName) ∈ kw := km2 39 rfl rfl
theorem kw_2_40 : Jvm.Cond.code ({ cls := "TalkKnots$Yard", name := "allOpen", desc := "()I" } : Jvm.MethodName) prog_6_method_11_code (3 : Nat) (Option.some Jvm.ClassFile.FieldType.int) ∈ kw := km2 40 rfl rfl
theorem kw_2_41 : Jvm.Cond.methodLink "TalkKnotsLaw" (35 : Nat) ({ cls := "TalkKnots", name := "knot", desc := "(II)I" } : Jvm.MethodName) ∈ kw := km2 41 rfl rfl
theorem kw_2_42 : Jvm.Cond.instanceMethod ({ cls := "TalkKnots", name := "knot", desc := "(II)I" } : Jvm.MethodName) ∈ kw := km2 42 rfl rfl
theorem kw_2_43 : Jvm.Cond.selects "TalkKnots" ({ cls := "TalkKnots", name := "knot", desc := "(II)I" } : Jvm.MethodName) ({ cls := "TalkKnots", name := "knot", desc := "(II)I" } : Jvm.MethodName) ∈ kw := km2 43 rfl rfl
theorem kw_2_44 : Jvm.Cond.code ({ cls := "TalkKnots", name := "knot", desc := "(II)I" } : Jvm.MethodName) prog_1_method_7_code (3 : Nat) (Option.some Jvm.ClassFile.FieldType.int) ∈ kw := km2 44 rfl rfl
theorem kw_2_45 : Jvm.Cond.methodLink "TalkKnots" (108 : Nat) ({ cls := "TalkKnots", name := "isKind", desc := "(I)Z" } : Jvm.MethodName) ∈ kw := km2 45 rfl rfl
theorem kw_2_46 : Jvm.Cond.static ({ cls := "TalkKnots", name := "isKind", desc := "(I)Z" } : Jvm.MethodName) ∈ kw := km2 46 rfl rfl
theorem kw_2_47 : Jvm.Cond.code ({ cls := "TalkKnots", name := "isKind", desc := "(I)Z" } : Jvm.MethodName) prog_1_method_47_code (1 : Nat) (Option.some Jvm.ClassFile.FieldType.boolean) ∈ kw := km2 47 rfl rfl
theorem kw_2_48 : Jvm.Cond.methodLink "TalkKnots" (111 : Nat) ({ cls := "TalkKnots$Yard", name := "isFull", desc := "()Z" } : Jvm.MethodName) ∈ kw := km2 48 rfl rfl
theorem kw_2_49 : Jvm.Cond.instanceMethod ({ cls := "TalkKnots$Yard", name := "isFull", desc := "()Z" } : Jvm.MethodName) ∈ kw := km2 49 rfl rfl
theorem kw_2_50 : Jvm.Cond.selects "TalkKnots$Yard" ({ cls := "TalkKnots$Yard", name := "isFull", desc := "()Z" } : Jvm.MethodName) ({ cls := "TalkKnots$Yard", name := "isFull", desc := "()Z" } : Jvm.MethodName) ∈ kw := km2 50 rfl rfl
theorem kw_2_51 : Jvm.Cond.code ({ cls := "TalkKnots$Yard", name := "isFull", desc := "()Z" } : Jvm.MethodName) prog_6_method_7_code (1 : Nat) (Option.some Jvm.ClassFile.FieldType.boolean) ∈ kw := km2 51 rfl rfl
theorem kw_2_52 : Jvm.Cond.constant "TalkKnots" (115 : Nat) (-1000000002 : Int32) ∈ kw := km2 52 rfl rfl
theorem kw_2_53 : Jvm.Cond.methodLink "TalkKnots" (116 : Nat) ({ cls := "TalkKnots$Yard", name := "addKnot", desc := "(II)I" } : Jvm.MethodName) ∈ kw := km2 53 rfl rfl
theorem kw_2_54 : Jvm.Cond.instanceMethod ({ cls := "TalkKnots$Yard", name := "addKnot", desc := "(II)I" } : Jvm.MethodName) ∈ kw := km2 54 rfl rfl
theorem kw_2_55 : Jvm.Cond.selects "TalkKnots$Yard" ({ cls := "TalkKnots$Yard", name := "addKnot", desc := "(II)I" } : Jvm.MethodName) ({ cls := "TalkKnots$Yard", name := "addKnot", desc := "(II)I" } : Jvm.MethodName) ∈ kw := km2 55 rfl rfl
theorem kw_2_56 : Jvm.Cond.code ({ cls := "TalkKnots$Yard", name := "addKnot", desc := "(II)I" } : Jvm.MethodName) prog_6_method_8_code (3 : Nat) (Option.some Jvm.ClassFile.FieldType.int) ∈ kw := km2 56 rfl rfl
theorem kw_2_57 : Jvm.Cond.methodLink "TalkKnots$Yard" (52 : Nat) ({ cls := "TalkKnots$Knot", name := "begin", desc := "(II)V" } : Jvm.MethodName) ∈ kw := km2 57 rfl rfl
theorem kw_2_58 : Jvm.Cond.instanceMethod ({ cls := "TalkKnots$Knot", name := "begin", desc := "(II)V" } : Jvm.MethodName) ∈ kw := km2 58 rfl rfl
theorem kw_2_59 : Jvm.Cond.selects "TalkKnots$Knot" ({ cls := "TalkKnots$Knot", name := "begin", desc := "(II)V" } : Jvm.MethodName) ({ cls := "TalkKnots$Knot", name := "begin", desc := "(II)V" } : Jvm.MethodName) ∈ kw := km2 59 rfl rfl
theorem kw_2_60 : Jvm.Cond.code ({ cls := "TalkKnots$Knot", name := "begin", desc := "(II)V" } : Jvm.MethodName) prog_2_method_2_code (3 : Nat) (Option.none : Option Jvm.ClassFile.FieldType) ∈ kw := km2 60 rfl rfl
theorem kw_2_61 : Jvm.Cond.methodLink "TalkKnotsLaw" (39 : Nat) ({ cls := "TalkKnots", name := "of", desc := "(II)I" } : Jvm.MethodName) ∈ kw := km2 61 rfl rfl
theorem kw_2_62 : Jvm.Cond.instanceMethod ({ cls := "TalkKnots", name := "of", desc := "(II)I" } : Jvm.MethodName) ∈ kw := km2 62 rfl rfl
theorem kw_2_63 : Jvm.Cond.selects "TalkKnots" ({ cls := "TalkKnots", name := "of", desc := "(II)I" } : Jvm.MethodName) ({ cls := "TalkKnots", name := "of", desc := "(II)I" } : Jvm.MethodName) ∈ kw := km2 63 rfl rfl
theorem kw_2_64 : Jvm.Cond.code ({ cls := "TalkKnots", name := "of", desc := "(II)I" } : Jvm.MethodName) prog_1_method_8_code (4 : Nat) (Option.some Jvm.ClassFile.FieldType.int) ∈ kw := km2 64 rfl rfl
theorem kw_2_65 : Jvm.Cond.methodLink "TalkKnots" (120 : Nat) ({ cls := "TalkKnots", name := "isKnot", desc := "(I)Z" } : Jvm.MethodName) ∈ kw := km2 65 rfl rfl
theorem kw_2_67 : Jvm.Cond.instanceMethod ({ cls := "TalkKnots", name := "isKnot", desc := "(I)Z" } : Jvm.MethodName) ∈ kw := km2 67 rfl rfl
theorem kw_2_68 : Jvm.Cond.code ({ cls := "TalkKnots", name := "isKnot", desc := "(I)Z" } : Jvm.MethodName) prog_1_method_43_code (2 : Nat) (Option.some Jvm.ClassFile.FieldType.boolean) ∈ kw := km2 68 rfl rfl
theorem kw_2_69 : Jvm.Cond.methodLink "TalkKnots" (144 : Nat) ({ cls := "TalkKnots$Yard", name := "holdingOf", desc := "(LTalkKnots$Knot;)I" } : Jvm.MethodName) ∈ kw := km2 69 rfl rfl
theorem kw_2_70 : Jvm.Cond.methodLink "TalkKnots" (148 : Nat) ({ cls := "TalkKnots$Knot", name := "settling", desc := "(I)I" } : Jvm.MethodName) ∈ kw := km2 70 rfl rfl
theorem kw_2_71 : Jvm.Cond.instanceMethod ({ cls := "TalkKnots$Knot", name := "settling", desc := "(I)I" } : Jvm.MethodName) ∈ kw := km2 71 rfl rfl
theorem kw_2_72 : Jvm.Cond.selects "TalkKnots$Knot" ({ cls := "TalkKnots$Knot", name := "settling", desc := "(I)I" } : Jvm.MethodName) ({ cls := "TalkKnots$Knot", name := "settling", desc := "(I)I" } : Jvm.MethodName) ∈ kw := km2 72 rfl rfl
theorem kw_2_73 : Jvm.Cond.code ({ cls := "TalkKnots$Knot", name := "settling", desc := "(I)I" } : Jvm.MethodName) prog_2_method_7_code (2 : Nat) (Option.some Jvm.ClassFile.FieldType.int) ∈ kw := km2 73 rfl rfl
theorem kw_2_74 : Jvm.Cond.methodLink "TalkKnots" (151 : Nat) ({ cls := "TalkKnots$Knot", name := "teasing", desc := "()I" } : Jvm.MethodName) ∈ kw := km2 74 rfl rfl
theorem kw_2_75 : Jvm.Cond.instanceMethod ({ cls := "TalkKnots$Knot", name := "teasing", desc := "()I" } : Jvm.MethodName) ∈ kw := km2 75 rfl rfl
theorem kw_2_76 : Jvm.Cond.selects "TalkKnots$Knot" ({ cls := "TalkKnots$Knot", name := "teasing", desc := "()I" } : Jvm.MethodName) ({ cls := "TalkKnots$Knot", name := "teasing", desc := "()I" } : Jvm.MethodName) ∈ kw := km2 76 rfl rfl
theorem kw_2_77 : Jvm.Cond.code ({ cls := "TalkKnots$Knot", name := "teasing", desc := "()I" } : Jvm.MethodName) prog_2_method_8_code (1 : Nat) (Option.some Jvm.ClassFile.FieldType.int) ∈ kw := km2 77 rfl rfl
theorem kw_2_78 : Jvm.Cond.methodLink "TalkKnots" (154 : Nat) ({ cls := "TalkKnots$Yard", name := "wouldGive", desc := "(LTalkKnots$Knot;)Z" } : Jvm.MethodName) ∈ kw := km2 78 rfl rfl
theorem kw_2_79 : Jvm.Cond.instanceMethod ({ cls := "TalkKnots$Yard", name := "wouldGive", desc := "(LTalkKnots$Knot;)Z" } : Jvm.MethodName) ∈ kw := km2 79 rfl rfl
theorem kw_2_80 : Jvm.Cond.selects "TalkKnots$Yard" ({ cls := "TalkKnots$Yard", name := "wouldGive", desc := "(LTalkKnots$Knot;)Z" } : Jvm.MethodName) ({ cls := "TalkKnots$Yard", name := "wouldGive", desc := "(LTalkKnots$Knot;)Z" } : Jvm.MethodName) ∈ kw := km2 80 rfl rfl
theorem kw_2_81 : Jvm.Cond.code ({ cls := "TalkKnots$Yard", name := "wouldGive", desc := "(LTalkKnots$Knot;)Z" } : Jvm.MethodName) prog_6_method_17_code (3 : Nat) (Option.some Jvm.ClassFile.FieldType.boolean) ∈ kw := km2 81 rfl rfl
theorem kw_2_82 : Jvm.Cond.methodLink "TalkKnots$Yard" (87 : Nat) ({ cls := "TalkKnots$Knot", name := "givesWay", desc := "(II)Z" } : Jvm.MethodName) ∈ kw := km2 82 rfl rfl
theorem kw_2_83 : Jvm.Cond.instanceMethod ({ cls := "TalkKnots$Knot", name := "givesWay", desc := "(II)Z" } : Jvm.MethodName) ∈ kw := km2 83 rfl rfl
theorem kw_2_84 : Jvm.Cond.selects "TalkKnots$Knot" ({ cls := "TalkKnots$Knot", name := "givesWay", desc := "(II)Z" } : Jvm.MethodName) ({ cls := "TalkKnots$Knot", name := "givesWay", desc := "(II)Z" } : Jvm.MethodName) ∈ kw := km2 84 rfl rfl
theorem kw_2_85 : Jvm.Cond.code ({ cls := "TalkKnots$Knot", name := "givesWay", desc := "(II)Z" } : Jvm.MethodName) prog_2_method_9_code (4 : Nat) (Option.some Jvm.ClassFile.FieldType.boolean) ∈ kw := km2 85 rfl rfl
theorem kw_2_86 : Jvm.Cond.methodLink "TalkKnotsLaw" (43 : Nat) ({ cls := "TalkKnots", name := "set", desc := "(III)I" } : Jvm.MethodName) ∈ kw := km2 86 rfl rfl
theorem kw_2_87 : Jvm.Cond.instanceMethod ({ cls := "TalkKnots", name := "set", desc := "(III)I" } : Jvm.MethodName) ∈ kw := km2 87 rfl rfl
theorem kw_2_88 : Jvm.Cond.selects "TalkKnots" ({ cls := "TalkKnots", name := "set", desc := "(III)I" } : Jvm.MethodName) ({ cls := "TalkKnots", name := "set", desc := "(III)I" } : Jvm.MethodName) ∈ kw := km2 88 rfl rfl
theorem kw_2_89 : Jvm.Cond.code ({ cls := "TalkKnots", name := "set", desc := "(III)I" } : Jvm.MethodName) prog_1_method_9_code (6 : Nat) (Option.some Jvm.ClassFile.FieldType.int) ∈ kw := km2 89 rfl rfl
theorem kw_2_90 : Jvm.Cond.methodLink "TalkKnotsLaw" (48 : Nat) ({ cls := "TalkKnots", name := "turn", desc := "(II)I" } : Jvm.MethodName) ∈ kw := km2 90 rfl rfl
theorem kw_2_91 : Jvm.Cond.instanceMethod ({ cls := "TalkKnots", name := "turn", desc := "(II)I" } : Jvm.MethodName) ∈ kw := km2 91 rfl rfl
theorem kw_2_92 : Jvm.Cond.selects "TalkKnots" ({ cls := "TalkKnots", name := "turn", desc := "(II)I" } : Jvm.MethodName) ({ cls := "TalkKnots", name := "turn", desc := "(II)I" } : Jvm.MethodName) ∈ kw := km2 92 rfl rfl
theorem kw_2_93 : Jvm.Cond.code ({ cls := "TalkKnots", name := "turn", desc := "(II)I" } : Jvm.MethodName) prog_1_method_10_code (4 : Nat) (Option.some Jvm.ClassFile.FieldType.int) ∈ kw := km2 93 rfl rfl
theorem kw_2_94 : Jvm.Cond.methodLink "TalkKnotsLaw" (52 : Nat) ({ cls := "TalkKnots", name := "as", desc := "(II)I" } : Jvm.MethodName) ∈ kw := km2 94 rfl rfl
theorem kw_2_95 : Jvm.Cond.instanceMethod ({ cls := "TalkKnots", name := "as", desc := "(II)I" } : Jvm.MethodName) ∈ kw := km2 95 rfl rfl
theorem kw_2_96 : Jvm.Cond.selects "TalkKnots" ({ cls := "TalkKnots", name := "as", desc := "(II)I" } : Jvm.MethodName) ({ cls := "TalkKnots", name := "as", desc := "(II)I" } : Jvm.MethodName) ∈ kw := km2 96 rfl rfl
theorem kw_2_97 : Jvm.Cond.code ({ cls := "TalkKnots", name := "as", desc := "(II)I" } : Jvm.MethodName) prog_1_method_11_code (4 : Nat) (Option.some Jvm.ClassFile.FieldType.int) ∈ kw := km2 97 rfl rfl
theorem kw_2_98 : Jvm.Cond.methodLink "TalkKnots" (158 : Nat) ({ cls := "TalkKnots$Knot", name := "isOf", desc := "(I)Z" } : Jvm.MethodName) ∈ kw := km2 98 rfl rfl
theorem kw_2_99 : Jvm.Cond.instanceMethod ({ cls := "TalkKnots$Knot", name := "isOf", desc := "(I)Z" } : Jvm.MethodName) ∈ kw := km2 99 rfl rfl
theorem kw_2_100 : Jvm.Cond.selects "TalkKnots$Knot" ({ cls := "TalkKnots$Knot", name := "isOf", desc := "(I)Z" } : Jvm.MethodName) ({ cls := "TalkKnots$Knot", name := "isOf", desc := "(I)Z" } : Jvm.MethodName) ∈ kw := km2 100 rfl rfl
theorem kw_2_101 : Jvm.Cond.code ({ cls := "TalkKnots$Knot", name := "isOf", desc := "(I)Z" } : Jvm.MethodName) prog_2_method_4_code (2 : Nat) (Option.some Jvm.ClassFile.FieldType.boolean) ∈ kw := km2 101 rfl rfl
theorem kw_2_102 : Jvm.Cond.constant "TalkKnots" (161 : Nat) (-1000000003 : Int32) ∈ kw := km2 102 rfl rfl
theorem kw_2_103 : Jvm.Cond.methodLink "TalkKnotsLaw" (56 : Nat) ({ cls := "TalkKnots", name := "tease", desc := "(I)I" } : Jvm.MethodName) ∈ kw := km2 103 rfl rfl
theorem kw_2_104 : Jvm.Cond.instanceMethod ({ cls := "TalkKnots", name := "tease", desc := "(I)I" } : Jvm.MethodName) ∈ kw := km2 104 rfl rfl
theorem kw_2_105 : Jvm.Cond.selects "TalkKnots" ({ cls := "TalkKnots", name := "tease", desc := "(I)I" } : Jvm.MethodName) ({ cls := "TalkKnots", name := "tease", desc := "(I)I" } : Jvm.MethodName) ∈ kw := km2 105 rfl rfl
theorem kw_2_106 : Jvm.Cond.code ({ cls := "TalkKnots", name := "tease", desc := "(I)I" } : Jvm.MethodName) prog_1_method_12_code (2 : Nat) (Option.some Jvm.ClassFile.FieldType.int) ∈ kw := km2 106 rfl rfl
theorem kw_2_107 : Jvm.Cond.methodLink "TalkKnots" (162 : Nat) ({ cls := "TalkKnots$Knot", name := "beTeased", desc := "()V" } : Jvm.MethodName) ∈ kw := km2 107 rfl rfl
theorem kw_2_108 : Jvm.Cond.instanceMethod ({ cls := "TalkKnots$Knot", name := "beTeased", desc := "()V" } : Jvm.MethodName) ∈ kw := km2 108 rfl rfl
theorem kw_2_109 : Jvm.Cond.selects "TalkKnots$Knot" ({ cls := "TalkKnots$Knot", name := "beTeased", desc := "()V" } : Jvm.MethodName) ({ cls := "TalkKnots$Knot", name := "beTeased", desc := "()V" } : Jvm.MethodName) ∈ kw := km2 109 rfl rfl
theorem kw_2_110 : Jvm.Cond.code ({ cls := "TalkKnots$Knot", name := "beTeased", desc := "()V" } : Jvm.MethodName) prog_2_method_10_code (1 : Nat) (Option.none : Option Jvm.ClassFile.FieldType) ∈ kw := km2 110 rfl rfl
theorem kw_2_111 : Jvm.Cond.methodLink "TalkKnots$Knot" (38 : Nat) ({ cls := "TalkKnots$Knot", name := "teasing", desc := "()I" } : Jvm.MethodName) ∈ kw := km2 111 rfl rfl
theorem kw_2_112 : Jvm.Cond.methodLink "TalkKnots$Knot" (41 : Nat) ({ cls := "TalkKnots$Knot", name := "openBy", desc := "(I)V" } : Jvm.MethodName) ∈ kw := km2 112 rfl rfl
theorem kw_2_114 : Jvm.Cond.instanceMethod ({ cls := "TalkKnots$Knot", name := "openBy", desc := "(I)V" } : Jvm.MethodName) ∈ kw := km2 114 rfl rfl
theorem kw_2_115 : Jvm.Cond.code ({ cls := "TalkKnots$Knot", name := "openBy", desc := "(I)V" } : Jvm.MethodName) prog_2_method_12_code (2 : Nat) (Option.none : Option Jvm.ClassFile.FieldType) ∈ kw := km2 115 rfl rfl
theorem kw_2_116 : Jvm.Cond.methodLink "TalkKnots$Knot" (49 : Nat) ({ cls := "java/lang/Math", name := "min", desc := "(II)I" } : Jvm.MethodName) ∈ kw := km2 116 rfl rfl
theorem kw_2_117 : Jvm.Cond.static ({ cls := "java/lang/Math", name := "min", desc := "(II)I" } : Jvm.MethodName) ∈ kw := km2 117 rfl rfl
theorem kw_2_118 : Jvm.Cond.code ({ cls := "java/lang/Math", name := "min", desc := "(II)I" } : Jvm.MethodName) prog_10_method_69_code (2 : Nat) (Option.some Jvm.ClassFile.FieldType.int) ∈ kw := km2 118 rfl rfl
theorem kw_2_119 : Jvm.Cond.methodLink "TalkKnotsLaw" (60 : Nat) ({ cls := "TalkKnots", name := "tie", desc := "(I)I" } : Jvm.MethodName) ∈ kw := km2 119 rfl rfl
theorem kw_2_120 : Jvm.Cond.instanceMethod ({ cls := "TalkKnots", name := "tie", desc := "(I)I" } : Jvm.MethodName) ∈ kw := km2 120 rfl rfl
theorem kw_2_121 : Jvm.Cond.selects "TalkKnots" ({ cls := "TalkKnots", name := "tie", desc := "(I)I" } : Jvm.MethodName) ({ cls := "TalkKnots", name := "tie", desc := "(I)I" } : Jvm.MethodName) ∈ kw := km2 121 rfl rfl
theorem kw_2_122 : Jvm.Cond.code ({ cls := "TalkKnots", name := "tie", desc := "(I)I" } : Jvm.MethodName) prog_1_method_13_code (3 : Nat) (Option.some Jvm.ClassFile.FieldType.int) ∈ kw := km2 122 rfl rfl
theorem kw_2_123 : Jvm.Cond.constant "TalkKnots" (165 : Nat) (-1000000005 : Int32) ∈ kw := km2 123 rfl rfl
theorem kw_2_124 : Jvm.Cond.methodLink "TalkKnotsLaw" (64 : Nat) ({ cls := "TalkKnots", name := "cast", desc := "(I)I" } : Jvm.MethodName) ∈ kw := km2 124 rfl rfl
theorem kw_2_125 : Jvm.Cond.instanceMethod ({ cls := "TalkKnots", name := "cast", desc := "(I)I" } : Jvm.MethodName) ∈ kw := km2 125 rfl rfl
theorem kw_2_126 : Jvm.Cond.selects "TalkKnots" ({ cls := "TalkKnots", name := "cast", desc := "(I)I" } : Jvm.MethodName) ({ cls := "TalkKnots", name := "cast", desc := "(I)I" } : Jvm.MethodName) ∈ kw := km2 126 rfl rfl
theorem kw_2_127 : Jvm.Cond.code ({ cls := "TalkKnots", name := "cast", desc := "(I)I" } : Jvm.MethodName) prog_1_method_14_code (3 : Nat) (Option.some Jvm.ClassFile.FieldType.int) ∈ kw := km2 127 rfl rfl
theorem kw_2_128 : Jvm.Cond.methodLink "TalkKnotsLaw" (68 : Nat) ({ cls := "TalkKnots", name := "hours", desc := "(I)I" } : Jvm.MethodName) ∈ kw := km2 128 rfl rfl
theorem kw_2_129 : Jvm.Cond.instanceMethod ({ cls := "TalkKnots", name := "hours", desc := "(I)I" } : Jvm.MethodName) ∈ kw := km2 129 rfl rfl
theorem kw_2_130 : Jvm.Cond.selects "TalkKnots" ({ cls := "TalkKnots", name := "hours", desc := "(I)I" } : Jvm.MethodName) ({ cls := "TalkKnots", name := "hours", desc := "(I)I" } : Jvm.MethodName) ∈ kw := km2 130 rfl rfl
theorem kw_2_131 : Jvm.Cond.code ({ cls := "TalkKnots", name := "hours", desc := "(I)I" } : Jvm.MethodName) prog_1_method_15_code (2 : Nat) (Option.some Jvm.ClassFile.FieldType.int) ∈ kw := km2 131 rfl rfl
theorem kw_2_132 : Jvm.Cond.constant "TalkKnots" (166 : Nat) (99999 : Int32) ∈ kw := km2 132 rfl rfl
theorem kw_2_133 : Jvm.Cond.methodLink "TalkKnots" (167 : Nat) ({ cls := "TalkKnots$Yard", name := "passHours", desc := "(I)V" } : Jvm.MethodName) ∈ kw := km2 133 rfl rfl
theorem kw_2_134 : Jvm.Cond.instanceMethod ({ cls := "TalkKnots$Yard", name := "passHours", desc := "(I)V" } : Jvm.MethodName) ∈ kw := km2 134 rfl rfl
theorem kw_2_135 : Jvm.Cond.selects "TalkKnots$Yard" ({ cls := "TalkKnots$Yard", name := "passHours", desc := "(I)V" } : Jvm.MethodName) ({ cls := "TalkKnots$Yard", name := "passHours", desc := "(I)V" } : Jvm.MethodName) ∈ kw := km2 135 rfl rfl
theorem kw_2_136 : Jvm.Cond.code ({ cls := "TalkKnots$Yard", name := "passHours", desc := "(I)V" } : Jvm.MethodName) prog_6_method_18_code (3 : Nat) (Option.none : Option Jvm.ClassFile.FieldType) ∈ kw := km2 136 rfl rfl
theorem kw_2_137 : Jvm.Cond.methodLink "TalkKnots$Yard" (91 : Nat) ({ cls := "TalkKnots$Yard", name := "passHour", desc := "()V" } : Jvm.MethodName) ∈ kw := km2 137 rfl rfl
theorem kw_2_138 : Jvm.Cond.instanceMethod ({ cls := "TalkKnots$Yard", name := "passHour", desc := "()V" } : Jvm.MethodName) ∈ kw := km2 138 rfl rfl
theorem kw_2_139 : Jvm.Cond.selects "TalkKnots$Yard" ({ cls := "TalkKnots$Yard", name := "passHour", desc := "()V" } : Jvm.MethodName) ({ cls := "TalkKnots$Yard", name := "passHour", desc := "()V" } : Jvm.MethodName) ∈ kw := km2 139 rfl rfl
theorem kw_2_140 : Jvm.Cond.code ({ cls := "TalkKnots$Yard", name := "passHour", desc := "()V" } : Jvm.MethodName) prog_6_method_19_code (2 : Nat) (Option.none : Option Jvm.ClassFile.FieldType) ∈ kw := km2 140 rfl rfl
theorem kw_2_141 : Jvm.Cond.methodLink "TalkKnots$Yard" (94 : Nat) ({ cls := "TalkKnots$Yard", name := "letGo", desc := "(I)V" } : Jvm.MethodName) ∈ kw := km2 141 rfl rfl
theorem kw_2_143 : Jvm.Cond.instanceMethod ({ cls := "TalkKnots$Yard", name := "letGo", desc := "(I)V" } : Jvm.MethodName) ∈ kw := km2 143 rfl rfl
theorem kw_2_144 : Jvm.Cond.code ({ cls := "TalkKnots$Yard", name := "letGo", desc := "(I)V" } : Jvm.MethodName) prog_6_method_27_code (4 : Nat) (Option.none : Option Jvm.ClassFile.FieldType) ∈ kw := km2 144 rfl rfl
theorem kw_2_145 : Jvm.Cond.methodLink "TalkKnots$Yard" (104 : Nat) ({ cls := "TalkKnots$Yard", name := "isUp", desc := "(I)Z" } : Jvm.MethodName) ∈ kw := km2 145 rfl rfl
theorem kw_2_146 : Jvm.Cond.methodLink "TalkKnots$Yard" (98 : Nat) ({ cls := "TalkKnots$Yard", name := "dropMasts", desc := "()V" } : Jvm.MethodName) ∈ kw := km2 146 rfl rfl
theorem kw_2_148 : Jvm.Cond.instanceMethod ({ cls := "TalkKnots$Yard", name := "dropMasts", desc := "()V" } : Jvm.MethodName) ∈ kw := km2 148 rfl rfl
theorem kw_2_149 : Jvm.Cond.code ({ cls := "TalkKnots$Yard", name := "dropMasts", desc := "()V" } : Jvm.MethodName) prog_6_method_28_code (2 : Nat) (Option.none : Option Jvm.ClassFile.FieldType) ∈ kw := km2 149 rfl rfl
theorem kw_2_150 : Jvm.Cond.methodLink "TalkKnots$Yard" (111 : Nat) ({ cls := "TalkKnots$Yard", name := "putUp", desc := "(IZ)V" } : Jvm.MethodName) ∈ kw := km2 150 rfl rfl
theorem kw_2_151 : Jvm.Cond.methodLink "TalkKnots$Yard" (101 : Nat) ({ cls := "TalkKnots$Yard", name := "settleKnots", desc := "(I)V" } : Jvm.MethodName) ∈ kw := km2 151 rfl rfl
theorem kw_2_153 : Jvm.Cond.instanceMethod ({ cls := "TalkKnots$Yard", name := "settleKnots", desc := "(I)V" } : Jvm.MethodName) ∈ kw := km2 153 rfl rfl
theorem kw_2_154 : Jvm.Cond.code ({ cls := "TalkKnots$Yard", name := "settleKnots", desc := "(I)V" } : Jvm.MethodName) prog_6_method_29_code (3 : Nat) (Option.none : Option Jvm.ClassFile.FieldType) ∈ kw := km2 154 rfl rfl
theorem kw_2_155 : Jvm.Cond.methodLink "TalkKnots$Yard" (115 : Nat) ({ cls := "TalkKnots$Knot", name := "settle", desc := "(I)V" } : Jvm.MethodName) ∈ kw := km2 155 rfl rfl
theorem kw_2_156 : Jvm.Cond.instanceMethod ({ cls := "TalkKnots$Knot", name := "settle", desc := "(I)V" } : Jvm.MethodName) ∈ kw := km2 156 rfl rfl
theorem kw_2_157 : Jvm.Cond.selects "TalkKnots$Knot" ({ cls := "TalkKnots$Knot", name := "settle", desc := "(I)V" } : Jvm.MethodName) ({ cls := "TalkKnots$Knot", name := "settle", desc := "(I)V" } : Jvm.MethodName) ∈ kw := km2 157 rfl rfl
theorem kw_2_158 : Jvm.Cond.code ({ cls := "TalkKnots$Knot", name := "settle", desc := "(I)V" } : Jvm.MethodName) prog_2_method_11_code (2 : Nat) (Option.none : Option Jvm.ClassFile.FieldType) ∈ kw := km2 158 rfl rfl
theorem kw_2_159 : Jvm.Cond.methodLink "TalkKnots$Knot" (45 : Nat) ({ cls := "TalkKnots$Knot", name := "settling", desc := "(I)I" } : Jvm.MethodName) ∈ kw := km2 159 rfl rfl
theorem kw_2_160 : Jvm.Cond.methodLink "TalkKnotsLaw" (72 : Nat) ({ cls := "TalkKnots", name := "on", desc := "(III)I" } : Jvm.MethodName) ∈ kw := km2 160 rfl rfl
theorem kw_2_161 : Jvm.Cond.instanceMethod ({ cls := "TalkKnots", name := "on", desc := "(III)I" } : Jvm.MethodName) ∈ kw := km2 161 rfl rfl
theorem kw_2_162 : Jvm.Cond.selects "TalkKnots" ({ cls := "TalkKnots", name := "on", desc := "(III)I" } : Jvm.MethodName) ({ cls := "TalkKnots", name := "on", desc := "(III)I" } : Jvm.MethodName) ∈ kw := km2 162 rfl rfl
theorem kw_2_163 : Jvm.Cond.code ({ cls := "TalkKnots", name := "on", desc := "(III)I" } : Jvm.MethodName) prog_1_method_16_code (5 : Nat) (Option.some Jvm.ClassFile.FieldType.int) ∈ kw := km2 163 rfl rfl
theorem kw_2_164 : Jvm.Cond.methodLink "TalkKnots" (171 : Nat) ({ cls := "TalkKnots$Yard", name := "become", desc := "(LTalkKnots$Yard;)V" } : Jvm.MethodName) ∈ kw := km2 164 rfl rfl
theorem kw_2_165 : Jvm.Cond.instanceMethod ({ cls := "TalkKnots$Yard", name := "become", desc := "(LTalkKnots$Yard;)V" } : Jvm.MethodName) ∈ kw := km2 165 rfl rfl
theorem kw_2_166 : Jvm.Cond.selects "TalkKnots$Yard" ({ cls := "TalkKnots$Yard", name := "become", desc := "(LTalkKnots$Yard;)V" } : Jvm.MethodName) ({ cls := "TalkKnots$Yard", name := "become", desc := "(LTalkKnots$Yard;)V" } : Jvm.MethodName) ∈ kw := km2 166 rfl rfl
theorem kw_2_167 : Jvm.Cond.code ({ cls := "TalkKnots$Yard", name := "become", desc := "(LTalkKnots$Yard;)V" } : Jvm.MethodName) prog_6_method_2_code (3 : Nat) (Option.none : Option Jvm.ClassFile.FieldType) ∈ kw := km2 167 rfl rfl
theorem kw_2_168 : Jvm.Cond.methodLink "TalkKnots$Yard" (38 : Nat) ({ cls := "java/lang/System", name := "arraycopy", desc := "(Ljava/lang/Object;ILjava/lang/Object;II)V" } : Jvm.MethodName) ∈ kw := km2 168 rfl rfl
theorem kw_2_169 : Jvm.Cond.static ({ cls := "java/lang/System", name := "arraycopy", desc := "(Ljava/lang/Object;ILjava/lang/Object;II)V" } : Jvm.MethodName) ∈ kw := km2 169 rfl rfl
theorem kw_2_170 : Jvm.Cond.native ({ cls := "java/lang/System", name := "arraycopy", desc := "(Ljava/lang/Object;ILjava/lang/Object;II)V" } : Jvm.MethodName) ∈ kw := km2 170 rfl rfl
theorem kw_2_171 : Jvm.Cond.methodLink "TalkKnots$Yard" (44 : Nat) ({ cls := "TalkKnots$Knot", name := "beLike", desc := "(LTalkKnots$Knot;)V" } : Jvm.MethodName) ∈ kw := km2 171 rfl rfl
theorem kw_2_172 : Jvm.Cond.instanceMethod ({ cls := "TalkKnots$Knot", name := "beLike", desc := "(LTalkKnots$Knot;)V" } : Jvm.MethodName) ∈ kw := km2 172 rfl rfl
theorem kw_2_173 : Jvm.Cond.selects "TalkKnots$Knot" ({ cls := "TalkKnots$Knot", name := "beLike", desc := "(LTalkKnots$Knot;)V" } : Jvm.MethodName) ({ cls := "TalkKnots$Knot", name := "beLike", desc := "(LTalkKnots$Knot;)V" } : Jvm.MethodName) ∈ kw := km2 173 rfl rfl
theorem kw_2_174 : Jvm.Cond.code ({ cls := "TalkKnots$Knot", name := "beLike", desc := "(LTalkKnots$Knot;)V" } : Jvm.MethodName) prog_2_method_3_code (2 : Nat) (Option.none : Option Jvm.ClassFile.FieldType) ∈ kw := km2 174 rfl rfl
theorem kw_2_175 : Jvm.Cond.methodLink "TalkKnotsLaw" (76 : Nat) ({ cls := "TalkKnots", name := "then", desc := "(II)I" } : Jvm.MethodName) ∈ kw := km2 175 rfl rfl
theorem kw_2_176 : Jvm.Cond.instanceMethod ({ cls := "TalkKnots", name := "then", desc := "(II)I" } : Jvm.MethodName) ∈ kw := km2 176 rfl rfl
theorem kw_2_177 : Jvm.Cond.selects "TalkKnots" ({ cls := "TalkKnots", name := "then", desc := "(II)I" } : Jvm.MethodName) ({ cls := "TalkKnots", name := "then", desc := "(II)I" } : Jvm.MethodName) ∈ kw := km2 177 rfl rfl
theorem kw_2_178 : Jvm.Cond.code ({ cls := "TalkKnots", name := "then", desc := "(II)I" } : Jvm.MethodName) prog_1_method_17_code (3 : Nat) (Option.some Jvm.ClassFile.FieldType.int) ∈ kw := km2 178 rfl rfl
theorem kw_2_179 : Jvm.Cond.methodLink "TalkKnotsLaw" (80 : Nat) ({ cls := "TalkKnots", name := "falls", desc := "(I)I" } : Jvm.MethodName) ∈ kw := km2 179 rfl rfl
theorem kw_2_180 : Jvm.Cond.instanceMethod ({ cls := "TalkKnots", name := "falls", desc := "(I)I" } : Jvm.MethodName) ∈ kw := km2 180 rfl rfl
theorem kw_2_181 : Jvm.Cond.selects "TalkKnots" ({ cls := "TalkKnots", name := "falls", desc := "(I)I" } : Jvm.MethodName) ({ cls := "TalkKnots", name := "falls", desc := "(I)I" } : Jvm.MethodName) ∈ kw := km2 181 rfl rfl
theorem kw_2_182 : Jvm.Cond.code ({ cls := "TalkKnots", name := "falls", desc := "(I)I" } : Jvm.MethodName) prog_1_method_18_code (3 : Nat) (Option.some Jvm.ClassFile.FieldType.int) ∈ kw := km2 182 rfl rfl
theorem kw_2_183 : Jvm.Cond.methodLink "TalkKnots" (175 : Nat) ({ cls := "TalkKnots$Yard", name := "hoursTillFallen", desc := "(I)I" } : Jvm.MethodName) ∈ kw := km2 183 rfl rfl
theorem kw_2_184 : Jvm.Cond.instanceMethod ({ cls := "TalkKnots$Yard", name := "hoursTillFallen", desc := "(I)I" } : Jvm.MethodName) ∈ kw := km2 184 rfl rfl
theorem kw_2_185 : Jvm.Cond.selects "TalkKnots$Yard" ({ cls := "TalkKnots$Yard", name := "hoursTillFallen", desc := "(I)I" } : Jvm.MethodName) ({ cls := "TalkKnots$Yard", name := "hoursTillFallen", desc := "(I)I" } : Jvm.MethodName) ∈ kw := km2 185 rfl rfl
theorem kw_2_186 : Jvm.Cond.code ({ cls := "TalkKnots$Yard", name := "hoursTillFallen", desc := "(I)I" } : Jvm.MethodName) prog_6_method_22_code (3 : Nat) (Option.some Jvm.ClassFile.FieldType.int) ∈ kw := km2 186 rfl rfl
theorem kw_2_187 : Jvm.Cond.constant "TalkKnots" (178 : Nat) (-1000000004 : Int32) ∈ kw := km2 187 rfl rfl
theorem kw_2_188 : Jvm.Cond.methodLink "TalkKnotsLaw" (84 : Nat) ({ cls := "TalkKnots", name := "gives", desc := "(I)I" } : Jvm.MethodName) ∈ kw := km2 188 rfl rfl
theorem kw_2_189 : Jvm.Cond.instanceMethod ({ cls := "TalkKnots", name := "gives", desc := "(I)I" } : Jvm.MethodName) ∈ kw := km2 189 rfl rfl
theorem kw_2_190 : Jvm.Cond.selects "TalkKnots" ({ cls := "TalkKnots", name := "gives", desc := "(I)I" } : Jvm.MethodName) ({ cls := "TalkKnots", name := "gives", desc := "(I)I" } : Jvm.MethodName) ∈ kw := km2 190 rfl rfl
theorem kw_2_191 : Jvm.Cond.code ({ cls := "TalkKnots", name := "gives", desc := "(I)I" } : Jvm.MethodName) prog_1_method_19_code (3 : Nat) (Option.some Jvm.ClassFile.FieldType.int) ∈ kw := km2 191 rfl rfl
theorem kw_2_192 : Jvm.Cond.methodLink "TalkKnots" (179 : Nat) ({ cls := "TalkKnots$Yard", name := "hoursTillLoose", desc := "(LTalkKnots$Knot;)I" } : Jvm.MethodName) ∈ kw := km2 192 rfl rfl
theorem kw_2_193 : Jvm.Cond.instanceMethod ({ cls := "TalkKnots$Yard", name := "hoursTillLoose", desc := "(LTalkKnots$Knot;)I" } : Jvm.MethodName) ∈ kw := km2 193 rfl rfl
theorem kw_2_194 : Jvm.Cond.selects "TalkKnots$Yard" ({ cls := "TalkKnots$Yard", name := "hoursTillLoose", desc := "(LTalkKnots$Knot;)I" } : Jvm.MethodName) ({ cls := "TalkKnots$Yard", name := "hoursTillLoose", desc := "(LTalkKnots$Knot;)I" } : Jvm.MethodName) ∈ kw := km2 194 rfl rfl
theorem kw_2_195 : Jvm.Cond.code ({ cls := "TalkKnots$Yard", name := "hoursTillLoose", desc := "(LTalkKnots$Knot;)I" } : Jvm.MethodName) prog_6_method_23_code (3 : Nat) (Option.some Jvm.ClassFile.FieldType.int) ∈ kw := km2 195 rfl rfl
theorem kw_2_196 : Jvm.Cond.methodLink "TalkKnotsLaw" (88 : Nat) ({ cls := "TalkKnots", name := "best", desc := "(I)I" } : Jvm.MethodName) ∈ kw := km2 196 rfl rfl
theorem kw_2_197 : Jvm.Cond.instanceMethod ({ cls := "TalkKnots", name := "best", desc := "(I)I" } : Jvm.MethodName) ∈ kw := km2 197 rfl rfl
theorem kw_2_198 : Jvm.Cond.selects "TalkKnots" ({ cls := "TalkKnots", name := "best", desc := "(I)I" } : Jvm.MethodName) ({ cls := "TalkKnots", name := "best", desc := "(I)I" } : Jvm.MethodName) ∈ kw := km2 198 rfl rfl
theorem kw_2_199 : Jvm.Cond.code ({ cls := "TalkKnots", name := "best", desc := "(I)I" } : Jvm.MethodName) prog_1_method_20_code (6 : Nat) (Option.some Jvm.ClassFile.FieldType.int) ∈ kw := km2 199 rfl rfl
theorem kw_2_200 : Jvm.Cond.methodLink "TalkKnotsLaw" (92 : Nat) ({ cls := "TalkKnots", name := "kind", desc := "(I)I" } : Jvm.MethodName) ∈ kw := km2 200 rfl rfl
theorem kw_2_201 : Jvm.Cond.instanceMethod ({ cls := "TalkKnots", name := "kind", desc := "(I)I" } : Jvm.MethodName) ∈ kw := km2 201 rfl rfl
theorem kw_2_202 : Jvm.Cond.selects "TalkKnots" ({ cls := "TalkKnots", name := "kind", desc := "(I)I" } : Jvm.MethodName) ({ cls := "TalkKnots", name := "kind", desc := "(I)I" } : Jvm.MethodName) ∈ kw := km2 202 rfl rfl
theorem kw_2_203 : Jvm.Cond.code ({ cls := "TalkKnots", name := "kind", desc := "(I)I" } : Jvm.MethodName) prog_1_method_21_code (6 : Nat) (Option.some Jvm.ClassFile.FieldType.int) ∈ kw := km2 203 rfl rfl
theorem kw_2_204 : Jvm.Cond.methodLink "TalkKnotsLaw" (96 : Nat) ({ cls := "TalkKnots", name := "open", desc := "(II)I" } : Jvm.MethodName) ∈ kw := km2 204 rfl rfl
theorem kw_2_205 : Jvm.Cond.instanceMethod ({ cls := "TalkKnots", name := "open", desc := "(II)I" } : Jvm.MethodName) ∈ kw := km2 205 rfl rfl
theorem kw_2_206 : Jvm.Cond.selects "TalkKnots" ({ cls := "TalkKnots", name := "open", desc := "(II)I" } : Jvm.MethodName) ({ cls := "TalkKnots", name := "open", desc := "(II)I" } : Jvm.MethodName) ∈ kw := km2 206 rfl rfl
theorem kw_2_207 : Jvm.Cond.code ({ cls := "TalkKnots", name := "open", desc := "(II)I" } : Jvm.MethodName) prog_1_method_22_code (4 : Nat) (Option.some Jvm.ClassFile.FieldType.int) ∈ kw := km2 207 rfl rfl
theorem kw_2_208 : Jvm.Cond.methodLink "TalkKnots" (185 : Nat) ({ cls := "TalkKnots$Yard", name := "staysFast", desc := "(LTalkKnots$Knot;I)Z" } : Jvm.MethodName) ∈ kw := km2 208 rfl rfl
theorem kw_2_209 : Jvm.Cond.instanceMethod ({ cls := "TalkKnots$Yard", name := "staysFast", desc := "(LTalkKnots$Knot;I)Z" } : Jvm.MethodName) ∈ kw := km2 209 rfl rfl
theorem kw_2_210 : Jvm.Cond.selects "TalkKnots$Yard" ({ cls := "TalkKnots$Yard", name := "staysFast", desc := "(LTalkKnots$Knot;I)Z" } : Jvm.MethodName) ({ cls := "TalkKnots$Yard", name := "staysFast", desc := "(LTalkKnots$Knot;I)Z" } : Jvm.MethodName) ∈ kw := km2 210 rfl rfl
theorem kw_2_211 : Jvm.Cond.code ({ cls := "TalkKnots$Yard", name := "staysFast", desc := "(LTalkKnots$Knot;I)Z" } : Jvm.MethodName) prog_6_method_21_code (4 : Nat) (Option.some Jvm.ClassFile.FieldType.boolean) ∈ kw := km2 211 rfl rfl
theorem kw_2_212 : Jvm.Cond.methodLink "TalkKnotsLaw" (100 : Nat) ({ cls := "TalkKnots", name := "bears", desc := "(II)I" } : Jvm.MethodName) ∈ kw := km2 212 rfl rfl
theorem kw_2_213 : Jvm.Cond.instanceMethod ({ cls := "TalkKnots", name := "bears", desc := "(II)I" } : Jvm.MethodName) ∈ kw := km2 213 rfl rfl
theorem kw_2_214 : Jvm.Cond.selects "TalkKnots" ({ cls := "TalkKnots", name := "bears", desc := "(II)I" } : Jvm.MethodName) ({ cls := "TalkKnots", name := "bears", desc := "(II)I" } : Jvm.MethodName) ∈ kw := km2 214 rfl rfl
theorem kw_2_215 : Jvm.Cond.code ({ cls := "TalkKnots", name := "bears", desc := "(II)I" } : Jvm.MethodName) prog_1_method_23_code (7 : Nat) (Option.some Jvm.ClassFile.FieldType.int) ∈ kw := km2 215 rfl rfl
theorem kw_2_216 : Jvm.Cond.methodLink "TalkKnots" (189 : Nat) ({ cls := "TalkKnots$Yard", name := "staysUp", desc := "(II)Z" } : Jvm.MethodName) ∈ kw := km2 216 rfl rfl
theorem kw_2_217 : Jvm.Cond.instanceMethod ({ cls := "TalkKnots$Yard", name := "staysUp", desc := "(II)Z" } : Jvm.MethodName) ∈ kw := km2 217 rfl rfl
theorem kw_2_218 : Jvm.Cond.selects "TalkKnots$Yard" ({ cls := "TalkKnots$Yard", name := "staysUp", desc := "(II)Z" } : Jvm.MethodName) ({ cls := "TalkKnots$Yard", name := "staysUp", desc := "(II)Z" } : Jvm.MethodName) ∈ kw := km2 218 rfl rfl
theorem kw_2_219 : Jvm.Cond.code ({ cls := "TalkKnots$Yard", name := "staysUp", desc := "(II)Z" } : Jvm.MethodName) prog_6_method_20_code (4 : Nat) (Option.some Jvm.ClassFile.FieldType.boolean) ∈ kw := km2 219 rfl rfl
theorem kw_2_220 : Jvm.Cond.methodLink "TalkKnotsLaw" (104 : Nat) ({ cls := "TalkKnots", name := "move", desc := "(II)I" } : Jvm.MethodName) ∈ kw := km2 220 rfl rfl
theorem kw_2_221 : Jvm.Cond.instanceMethod ({ cls := "TalkKnots", name := "move", desc := "(II)I" } : Jvm.MethodName) ∈ kw := km2 221 rfl rfl
theorem kw_2_222 : Jvm.Cond.selects "TalkKnots" ({ cls := "TalkKnots", name := "move", desc := "(II)I" } : Jvm.MethodName) ({ cls := "TalkKnots", name := "move", desc := "(II)I" } : Jvm.MethodName) ∈ kw := km2 222 rfl rfl
theorem kw_2_223 : Jvm.Cond.code ({ cls := "TalkKnots", name := "move", desc := "(II)I" } : Jvm.MethodName) prog_1_method_24_code (7 : Nat) (Option.some Jvm.ClassFile.FieldType.int) ∈ kw := km2 223 rfl rfl
theorem kw_2_224 : Jvm.Cond.methodLink "TalkKnots" (193 : Nat) ({ cls := "java/lang/Integer", name := "bitCount", desc := "(I)I" } : Jvm.MethodName) ∈ kw := km2 224 rfl rfl
theorem kw_2_225 : Jvm.Cond.static ({ cls := "java/lang/Integer", name := "bitCount", desc := "(I)I" } : Jvm.MethodName) ∈ kw := km2 225 rfl rfl
theorem kw_2_226 : Jvm.Cond.code ({ cls := "java/lang/Integer", name := "bitCount", desc := "(I)I" } : Jvm.MethodName) prog_9_method_49_code (1 : Nat) (Option.some Jvm.ClassFile.FieldType.int) ∈ kw := km2 226 rfl rfl
theorem kw_2_227 : Jvm.Cond.constant "java/lang/Integer" (265 : Nat) (1431655765 : Int32) ∈ kw := km2 227 rfl rfl
theorem kw_2_228 : Jvm.Cond.constant "java/lang/Integer" (266 : Nat) (858993459 : Int32) ∈ kw := km2 228 rfl rfl
theorem kw_2_229 : Jvm.Cond.constant "java/lang/Integer" (267 : Nat) (252645135 : Int32) ∈ kw := km2 229 rfl rfl
theorem kw_2_230 : Jvm.Cond.methodLink "TalkKnotsLaw" (108 : Nat) ({ cls := "TalkKnots", name := "calm", desc := "(I)I" } : Jvm.MethodName) ∈ kw := km2 230 rfl rfl
theorem kw_2_231 : Jvm.Cond.instanceMethod ({ cls := "TalkKnots", name := "calm", desc := "(I)I" } : Jvm.MethodName) ∈ kw := km2 231 rfl rfl
theorem kw_2_232 : Jvm.Cond.selects "TalkKnots" ({ cls := "TalkKnots", name := "calm", desc := "(I)I" } : Jvm.MethodName) ({ cls := "TalkKnots", name := "calm", desc := "(I)I" } : Jvm.MethodName) ∈ kw := km2 232 rfl rfl
theorem kw_2_233 : Jvm.Cond.code ({ cls := "TalkKnots", name := "calm", desc := "(I)I" } : Jvm.MethodName) prog_1_method_25_code (6 : Nat) (Option.some Jvm.ClassFile.FieldType.int) ∈ kw := km2 233 rfl rfl
theorem kw_2_234 : Jvm.Cond.methodLink "TalkKnotsLaw" (112 : Nat) ({ cls := "TalkKnots", name := "firmest", desc := "(I)I" } : Jvm.MethodName) ∈ kw := km2 234 rfl rfl
theorem kw_2_235 : Jvm.Cond.instanceMethod ({ cls := "TalkKnots", name := "firmest", desc := "(I)I" } : Jvm.MethodName) ∈ kw := km2 235 rfl rfl
theorem kw_2_236 : Jvm.Cond.selects "TalkKnots" ({ cls := "TalkKnots", name := "firmest", desc := "(I)I" } : Jvm.MethodName) ({ cls := "TalkKnots", name := "firmest", desc := "(I)I" } : Jvm.MethodName) ∈ kw := km2 236 rfl rfl
theorem kw_2_237 : Jvm.Cond.code ({ cls := "TalkKnots", name := "firmest", desc := "(I)I" } : Jvm.MethodName) prog_1_method_26_code (6 : Nat) (Option.some Jvm.ClassFile.FieldType.int) ∈ kw := km2 237 rfl rfl
theorem kw_2_238 : Jvm.Cond.methodLink "TalkKnotsLaw" (116 : Nat) ({ cls := "TalkKnots", name := "feed", desc := "(II)I" } : Jvm.MethodName) ∈ kw := km2 238 rfl rfl
theorem kw_2_239 : Jvm.Cond.instanceMethod ({ cls := "TalkKnots", name := "feed", desc := "(II)I" } : Jvm.MethodName) ∈ kw := km2 239 rfl rfl
theorem kw_3_0 : Jvm.Cond.selects "TalkKnots" ({ cls := "TalkKnots", name := "feed", desc := "(II)I" } : Jvm.MethodName) ({ cls := "TalkKnots", name := "feed", desc := "(II)I" } : Jvm.MethodName) ∈ kw := km3 0 rfl rfl
theorem kw_3_1 : Jvm.Cond.code ({ cls := "TalkKnots", name := "feed", desc := "(II)I" } : Jvm.MethodName) prog_1_method_27_code (4 : Nat) (Option.some Jvm.ClassFile.FieldType.int) ∈ kw := km3 1 rfl rfl
theorem kw_3_2 : Jvm.Cond.methodLink "TalkKnots" (201 : Nat) ({ cls := "TalkKnots$Tape", name := "add", desc := "(I)V" } : Jvm.MethodName) ∈ kw := km3 2 rfl rfl
theorem kw_3_3 : Jvm.Cond.instanceMethod ({ cls := "TalkKnots$Tape", name := "add", desc := "(I)V" } : Jvm.MethodName) ∈ kw := km3 3 rfl rfl
theorem kw_3_4 : Jvm.Cond.selects "TalkKnots$Tape" ({ cls := "TalkKnots$Tape", name := "add", desc := "(I)V" } : Jvm.MethodName) ({ cls := "TalkKnots$Tape", name := "add", desc := "(I)V" } : Jvm.MethodName) ∈ kw := km3 4 rfl rfl
theorem kw_3_5 : Jvm.Cond.code ({ cls := "TalkKnots$Tape", name := "add", desc := "(I)V" } : Jvm.MethodName) prog_4_method_2_code (2 : Nat) (Option.none : Option Jvm.ClassFile.FieldType) ∈ kw := km3 5 rfl rfl
theorem kw_3_6 : Jvm.Cond.methodLink "TalkKnotsLaw" (120 : Nat) ({ cls := "TalkKnots", name := "wipe", desc := "()I" } : Jvm.MethodName) ∈ kw := km3 6 rfl rfl
theorem kw_3_7 : Jvm.Cond.instanceMethod ({ cls := "TalkKnots", name := "wipe", desc := "()I" } : Jvm.MethodName) ∈ kw := km3 7 rfl rfl
theorem kw_3_8 : Jvm.Cond.selects "TalkKnots" ({ cls := "TalkKnots", name := "wipe", desc := "()I" } : Jvm.MethodName) ({ cls := "TalkKnots", name := "wipe", desc := "()I" } : Jvm.MethodName) ∈ kw := km3 8 rfl rfl
theorem kw_3_9 : Jvm.Cond.code ({ cls := "TalkKnots", name := "wipe", desc := "()I" } : Jvm.MethodName) prog_1_method_28_code (2 : Nat) (Option.some Jvm.ClassFile.FieldType.int) ∈ kw := km3 9 rfl rfl
theorem kw_3_10 : Jvm.Cond.methodLink "TalkKnotsLaw" (125 : Nat) ({ cls := "TalkKnots", name := "yard", desc := "()I" } : Jvm.MethodName) ∈ kw := km3 10 rfl rfl
theorem kw_3_11 : Jvm.Cond.instanceMethod ({ cls := "TalkKnots", name := "yard", desc := "()I" } : Jvm.MethodName) ∈ kw := km3 11 rfl rfl
theorem kw_3_12 : Jvm.Cond.selects "TalkKnots" ({ cls := "TalkKnots", name := "yard", desc := "()I" } : Jvm.MethodName) ({ cls := "TalkKnots", name := "yard", desc := "()I" } : Jvm.MethodName) ∈ kw := km3 12 rfl rfl
theorem kw_3_13 : Jvm.Cond.code ({ cls := "TalkKnots", name := "yard", desc := "()I" } : Jvm.MethodName) prog_1_method_29_code (2 : Nat) (Option.some Jvm.ClassFile.FieldType.int) ∈ kw := km3 13 rfl rfl
theorem kw_3_14 : Jvm.Cond.methodLink "TalkKnots" (204 : Nat) ({ cls := "TalkKnots$TextReader", name := "readText", desc := "()I" } : Jvm.MethodName) ∈ kw := km3 14 rfl rfl
theorem kw_3_15 : Jvm.Cond.instanceMethod ({ cls := "TalkKnots$TextReader", name := "readText", desc := "()I" } : Jvm.MethodName) ∈ kw := km3 15 rfl rfl
theorem kw_3_16 : Jvm.Cond.selects "TalkKnots$TextReader" ({ cls := "TalkKnots$TextReader", name := "readText", desc := "()I" } : Jvm.MethodName) ({ cls := "TalkKnots$TextReader", name := "readText", desc := "()I" } : Jvm.MethodName) ∈ kw := km3 16 rfl rfl
theorem kw_3_17 : Jvm.Cond.code ({ cls := "TalkKnots$TextReader", name := "readText", desc := "()I" } : Jvm.MethodName) prog_5_method_2_code (2 : Nat) (Option.some Jvm.ClassFile.FieldType.int) ∈ kw := km3 17 rfl rfl
theorem kw_3_18 : Jvm.Cond.methodLink "TalkKnots$TextReader" (35 : Nat) ({ cls := "TalkKnots$TextReader", name := "readToken", desc := "()V" } : Jvm.MethodName) ∈ kw := km3 18 rfl rfl
theorem kw_3_20 : Jvm.Cond.instanceMethod ({ cls := "TalkKnots$TextReader", name := "readToken", desc := "()V" } : Jvm.MethodName) ∈ kw := km3 20 rfl rfl
theorem kw_3_21 : Jvm.Cond.code ({ cls := "TalkKnots$TextReader", name := "readToken", desc := "()V" } : Jvm.MethodName) prog_5_method_13_code (2 : Nat) (Option.none : Option Jvm.ClassFile.FieldType) ∈ kw := km3 21 rfl rfl
theorem kw_3_22 : Jvm.Cond.methodLink "TalkKnots$TextReader" (140 : Nat) ({ cls := "TalkKnots$Tape", name := "byteAt", desc := "(I)I" } : Jvm.MethodName) ∈ kw := km3 22 rfl rfl
theorem kw_3_23 : Jvm.Cond.instanceMethod ({ cls := "TalkKnots$Tape", name := "byteAt", desc := "(I)I" } : Jvm.MethodName) ∈ kw := km3 23 rfl rfl
theorem kw_3_24 : Jvm.Cond.selects "TalkKnots$Tape" ({ cls := "TalkKnots$Tape", name := "byteAt", desc := "(I)I" } : Jvm.MethodName) ({ cls := "TalkKnots$Tape", name := "byteAt", desc := "(I)I" } : Jvm.MethodName) ∈ kw := km3 24 rfl rfl
theorem kw_3_25 : Jvm.Cond.code ({ cls := "TalkKnots$Tape", name := "byteAt", desc := "(I)I" } : Jvm.MethodName) prog_4_method_3_code (2 : Nat) (Option.some Jvm.ClassFile.FieldType.int) ∈ kw := km3 25 rfl rfl
theorem kw_3_26 : Jvm.Cond.methodLink "TalkKnots$TextReader" (152 : Nat) ({ cls := "TalkKnots$TextReader", name := "isLetter", desc := "(I)Z" } : Jvm.MethodName) ∈ kw := km3 26 rfl rfl
theorem kw_3_27 : Jvm.Cond.static ({ cls := "TalkKnots$TextReader", name := "isLetter", desc := "(I)Z" } : Jvm.MethodName) ∈ kw := km3 27 rfl rfl
theorem kw_3_28 : Jvm.Cond.code ({ cls := "TalkKnots$TextReader", name := "isLetter", desc := "(I)Z" } : Jvm.MethodName) prog_5_method_14_code (1 : Nat) (Option.some Jvm.ClassFile.FieldType.boolean) ∈ kw := km3 28 rfl rfl
theorem kw_3_29 : Jvm.Cond.methodLink "TalkKnots$TextReader" (155 : Nat) ({ cls := "TalkKnots$TextReader", name := "isDigit", desc := "(I)Z" } : Jvm.MethodName) ∈ kw := km3 29 rfl rfl
theorem kw_3_30 : Jvm.Cond.static ({ cls := "TalkKnots$TextReader", name := "isDigit", desc := "(I)Z" } : Jvm.MethodName) ∈ kw := km3 30 rfl rfl
theorem kw_3_31 : Jvm.Cond.code ({ cls := "TalkKnots$TextReader", name := "isDigit", desc := "(I)Z" } : Jvm.MethodName) prog_5_method_15_code (1 : Nat) (Option.some Jvm.ClassFile.FieldType.boolean) ∈ kw := km3 31 rfl rfl
theorem kw_3_32 : Jvm.Cond.methodLink "TalkKnots$TextReader" (158 : Nat) ({ cls := "java/lang/Math", name := "min", desc := "(II)I" } : Jvm.MethodName) ∈ kw := km3 32 rfl rfl
theorem kw_3_33 : Jvm.Cond.methodLink "TalkKnots$TextReader" (38 : Nat) ({ cls := "TalkKnots$TextReader", name := "readItem", desc := "()Z" } : Jvm.MethodName) ∈ kw := km3 33 rfl rfl
theorem kw_3_35 : Jvm.Cond.instanceMethod ({ cls := "TalkKnots$TextReader", name := "readItem", desc := "()Z" } : Jvm.MethodName) ∈ kw := km3 35 rfl rfl
theorem kw_3_36 : Jvm.Cond.code ({ cls := "TalkKnots$TextReader", name := "readItem", desc := "()Z" } : Jvm.MethodName) prog_5_method_3_code (1 : Nat) (Option.some Jvm.ClassFile.FieldType.boolean) ∈ kw := km3 36 rfl rfl
theorem kw_3_38 : Jvm.Cond.methodLink "TalkKnots$TextReader" (44 : Nat) ({ cls := "TalkKnots$TextReader", name := "takeWord", desc := "(Ljava/lang/String;)Z" } : Jvm.MethodName) ∈ kw := km3 38 rfl rfl
theorem kw_3_40 : Jvm.Cond.instanceMethod ({ cls := "TalkKnots$TextReader", name := "takeWord", desc := "(Ljava/lang/String;)Z" } : Jvm.MethodName) ∈ kw := km3 40 rfl rfl
theorem kw_3_41 : Jvm.Cond.code ({ cls := "TalkKnots$TextReader", name := "takeWord", desc := "(Ljava/lang/String;)Z" } : Jvm.MethodName) prog_5_method_10_code (2 : Nat) (Option.some Jvm.ClassFile.FieldType.boolean) ∈ kw := km3 41 rfl rfl
theorem kw_3_42 : Jvm.Cond.methodLink "TalkKnots$TextReader" (120 : Nat) ({ cls := "TalkKnots$TextReader", name := "isWord", desc := "(Ljava/lang/String;)Z" } : Jvm.MethodName) ∈ kw := km3 42 rfl rfl
theorem kw_3_44 : Jvm.Cond.instanceMethod ({ cls := "TalkKnots$TextReader", name := "isWord", desc := "(Ljava/lang/String;)Z" } : Jvm.MethodName) ∈ kw := km3 44 rfl rfl
theorem kw_3_45 : Jvm.Cond.code ({ cls := "TalkKnots$TextReader", name := "isWord", desc := "(Ljava/lang/String;)Z" } : Jvm.MethodName) prog_5_method_11_code (3 : Nat) (Option.some Jvm.ClassFile.FieldType.boolean) ∈ kw := km3 45 rfl rfl
theorem kw_3_46 : Jvm.Cond.methodLink "TalkKnots$TextReader" (135 : Nat) ({ cls := "java/lang/String", name := "length", desc := "()I" } : Jvm.MethodName) ∈ kw := km3 46 rfl rfl
theorem kw_3_47 : Jvm.Cond.instanceMethod ({ cls := "java/lang/String", name := "length", desc := "()I" } : Jvm.MethodName) ∈ kw := km3 47 rfl rfl
theorem kw_3_48 : Jvm.Cond.selects "java/lang/String" ({ cls := "java/lang/String", name := "length", desc := "()I" } : Jvm.MethodName) ({ cls := "java/lang/String", name := "length", desc := "()I" } : Jvm.MethodName) ∈ kw := km3 48 rfl rfl
theorem kw_3_49 : Jvm.Cond.code ({ cls := "java/lang/String", name := "length", desc := "()I" } : Jvm.MethodName) prog_11_method_54_code (1 : Nat) (Option.some Jvm.ClassFile.FieldType.int) ∈ kw := km3 49 rfl rfl
theorem kw_3_50 : Jvm.Cond.methodLink "java/lang/String" (335 : Nat) ({ cls := "java/lang/String", name := "coder", desc := "()B" } : Jvm.MethodName) ∈ kw := km3 50 rfl rfl
theorem kw_3_51 : Jvm.Cond.instanceMethod ({ cls := "java/lang/String", name := "coder", desc := "()B" } : Jvm.MethodName) ∈ kw := km3 51 rfl rfl
theorem kw_3_52 : Jvm.Cond.selects "java/lang/String" ({ cls := "java/lang/String", name := "coder", desc := "()B" } : Jvm.MethodName) ({ cls := "java/lang/String", name := "coder", desc := "()B" } : Jvm.MethodName) ∈ kw := km3 52 rfl rfl
theorem kw_3_53 : Jvm.Cond.code ({ cls := "java/lang/String", name := "coder", desc := "()B" } : Jvm.MethodName) prog_11_method_152_code (1 : Nat) (Option.some Jvm.ClassFile.FieldType.byte) ∈ kw := km3 53 rfl rfl
theorem kw_3_54 : Jvm.Cond.fieldLink "java/lang/String" (38 : Nat) "java/lang/String" "COMPACT_STRINGS" "Z" ∈ kw := km3 54 rfl rfl
theorem kw_3_56 : Jvm.Cond.methodLink "TalkKnots$TextReader" (146 : Nat) ({ cls := "java/lang/String", name := "charAt", desc := "(I)C" } : Jvm.MethodName) ∈ kw := km3 56 rfl rfl
theorem kw_3_57 : Jvm.Cond.instanceMethod ({ cls := "java/lang/String", name := "charAt", desc := "(I)C" } : Jvm.MethodName) ∈ kw := km3 57 rfl rfl
theorem kw_3_58 : Jvm.Cond.selects "java/lang/String" ({ cls := "java/lang/String", name := "charAt", desc := "(I)C" } : Jvm.MethodName) ({ cls := "java/lang/String", name := "charAt", desc := "(I)C" } : Jvm.MethodName) ∈ kw := km3 58 rfl rfl
theorem kw_3_59 : Jvm.Cond.code ({ cls := "java/lang/String", name := "charAt", desc := "(I)C" } : Jvm.MethodName) prog_11_method_56_code (2 : Nat) (Option.some Jvm.ClassFile.FieldType.char) ∈ kw := km3 59 rfl rfl
theorem kw_3_60 : Jvm.Cond.methodLink "java/lang/String" (492 : Nat) ({ cls := "java/lang/String", name := "isLatin1", desc := "()Z" } : Jvm.MethodName) ∈ kw := km3 60 rfl rfl
theorem kw_3_61 : Jvm.Cond.instanceMethod ({ cls := "java/lang/String", name := "isLatin1", desc := "()Z" } : Jvm.MethodName) ∈ kw := km3 61 rfl rfl
theorem kw_3_62 : Jvm.Cond.selects "java/lang/String" ({ cls := "java/lang/String", name := "isLatin1", desc := "()Z" } : Jvm.MethodName) ({ cls := "java/lang/String", name := "isLatin1", desc := "()Z" } : Jvm.MethodName) ∈ kw := km3 62 rfl rfl
theorem kw_3_63 : Jvm.Cond.code ({ cls := "java/lang/String", name := "isLatin1", desc := "()Z" } : Jvm.MethodName) prog_11_method_154_code (1 : Nat) (Option.some Jvm.ClassFile.FieldType.boolean) ∈ kw := km3 63 rfl rfl
theorem kw_3_64 : Jvm.Cond.methodLink "java/lang/String" (495 : Nat) ({ cls := "java/lang/StringLatin1", name := "charAt", desc := "([BI)C" } : Jvm.MethodName) ∈ kw := km3 64 rfl rfl
theorem kw_3_65 : Jvm.Cond.static ({ cls := "java/lang/StringLatin1", name := "charAt", desc := "([BI)C" } : Jvm.MethodName) ∈ kw := km3 65 rfl rfl
theorem kw_3_66 : Jvm.Cond.code ({ cls := "java/lang/StringLatin1", name := "charAt", desc := "([BI)C" } : Jvm.MethodName) prog_12_method_2_code (2 : Nat) (Option.some Jvm.ClassFile.FieldType.char) ∈ kw := km3 66 rfl rfl
theorem kw_3_67 : Jvm.Cond.methodLink "java/lang/StringLatin1" (9 : Nat) ({ cls := "java/lang/String", name := "checkIndex", desc := "(II)V" } : Jvm.MethodName) ∈ kw := km3 67 rfl rfl
theorem kw_3_68 : Jvm.Cond.static ({ cls := "java/lang/String", name := "checkIndex", desc := "(II)V" } : Jvm.MethodName) ∈ kw := km3 68 rfl rfl
theorem kw_3_69 : Jvm.Cond.code ({ cls := "java/lang/String", name := "checkIndex", desc := "(II)V" } : Jvm.MethodName) prog_11_method_155_code (2 : Nat) (Option.none : Option Jvm.ClassFile.FieldType) ∈ kw := km3 69 rfl rfl
theorem kw_3_70 : Jvm.Cond.fieldLink "java/lang/String" (1053 : Nat) "jdk/internal/util/Preconditions" "SIOOBE_FORMATTER" "Ljava/util/function/BiFunction;" ∈ kw := km3 70 rfl rfl
theorem kw_3_72 : Jvm.Cond.methodLink "java/lang/String" (1059 : Nat) ({ cls := "jdk/internal/util/Preconditions", name := "checkIndex", desc := "(IILjava/util/function/BiFunction;)I" } : Jvm.MethodName) ∈ kw := km3 72 rfl rfl
theorem kw_3_73 : Jvm.Cond.static ({ cls := "jdk/internal/util/Preconditions", name := "checkIndex", desc := "(IILjava/util/function/BiFunction;)I" } : Jvm.MethodName) ∈ kw := km3 73 rfl rfl
theorem kw_3_74 : Jvm.Cond.code ({ cls := "jdk/internal/util/Preconditions", name := "checkIndex", desc := "(IILjava/util/function/BiFunction;)I" } : Jvm.MethodName) prog_15_method_11_code (3 : Nat) (Option.some Jvm.ClassFile.FieldType.int) ∈ kw := km3 74 rfl rfl
theorem kw_3_75 : Jvm.Cond.methodLink "java/lang/String" (498 : Nat) ({ cls := "java/lang/StringUTF16", name := "charAt", desc := "([BI)C" } : Jvm.MethodName) ∈ kw := km3 75 rfl rfl
theorem kw_3_76 : Jvm.Cond.static ({ cls := "java/lang/StringUTF16", name := "charAt", desc := "([BI)C" } : Jvm.MethodName) ∈ kw := km3 76 rfl rfl
theorem kw_3_77 : Jvm.Cond.code ({ cls := "java/lang/StringUTF16", name := "charAt", desc := "([BI)C" } : Jvm.MethodName) prog_13_method_83_code (2 : Nat) (Option.some Jvm.ClassFile.FieldType.char) ∈ kw := km3 77 rfl rfl
theorem kw_3_78 : Jvm.Cond.methodLink "java/lang/StringUTF16" (67 : Nat) ({ cls := "java/lang/StringUTF16", name := "checkIndex", desc := "(I[B)V" } : Jvm.MethodName) ∈ kw := km3 78 rfl rfl
theorem kw_3_79 : Jvm.Cond.static ({ cls := "java/lang/StringUTF16", name := "checkIndex", desc := "(I[B)V" } : Jvm.MethodName) ∈ kw := km3 79 rfl rfl
theorem kw_3_80 : Jvm.Cond.code ({ cls := "java/lang/StringUTF16", name := "checkIndex", desc := "(I[B)V" } : Jvm.MethodName) prog_13_method_91_code (2 : Nat) (Option.none : Option Jvm.ClassFile.FieldType) ∈ kw := km3 80 rfl rfl
theorem kw_3_81 : Jvm.Cond.methodLink "java/lang/StringUTF16" (48 : Nat) ({ cls := "java/lang/StringUTF16", name := "length", desc := "([B)I" } : Jvm.MethodName) ∈ kw := km3 81 rfl rfl
theorem kw_3_82 : Jvm.Cond.static ({ cls := "java/lang/StringUTF16", name := "length", desc := "([B)I" } : Jvm.MethodName) ∈ kw := km3 82 rfl rfl
theorem kw_3_83 : Jvm.Cond.code ({ cls := "java/lang/StringUTF16", name := "length", desc := "([B)I" } : Jvm.MethodName) prog_13_method_6_code (1 : Nat) (Option.some Jvm.ClassFile.FieldType.int) ∈ kw := km3 83 rfl rfl
theorem kw_3_84 : Jvm.Cond.methodLink "java/lang/StringUTF16" (414 : Nat) ({ cls := "java/lang/String", name := "checkIndex", desc := "(II)V" } : Jvm.MethodName) ∈ kw := km3 84 rfl rfl
theorem kw_3_85 : Jvm.Cond.methodLink "java/lang/StringUTF16" (71 : Nat) ({ cls := "java/lang/StringUTF16", name := "getChar", desc := "([BI)C" } : Jvm.MethodName) ∈ kw := km3 85 rfl rfl
theorem kw_3_86 : Jvm.Cond.static ({ cls := "java/lang/StringUTF16", name := "getChar", desc := "([BI)C" } : Jvm.MethodName) ∈ kw := km3 86 rfl rfl
theorem kw_3_87 : Jvm.Cond.code ({ cls := "java/lang/StringUTF16", name := "getChar", desc := "([BI)C" } : Jvm.MethodName) prog_13_method_5_code (2 : Nat) (Option.some Jvm.ClassFile.FieldType.char) ∈ kw := km3 87 rfl rfl
theorem kw_3_88 : Jvm.Cond.fieldLink "java/lang/StringUTF16" (44 : Nat) "java/lang/StringUTF16" "$assertionsDisabled" "Z" ∈ kw := km3 88 rfl rfl
theorem kw_3_90 : Jvm.Cond.fieldLink "java/lang/StringUTF16" (59 : Nat) "java/lang/StringUTF16" "HI_BYTE_SHIFT" "I" ∈ kw := km3 90 rfl rfl
theorem kw_3_92 : Jvm.Cond.fieldLink "java/lang/StringUTF16" (63 : Nat) "java/lang/StringUTF16" "LO_BYTE_SHIFT" "I" ∈ kw := km3 92 rfl rfl
theorem kw_3_94 : Jvm.Cond.methodLink "TalkKnots$TextReader" (48 : Nat) ({ cls := "TalkKnots$TextReader", name := "readMast", desc := "()Z" } : Jvm.MethodName) ∈ kw := km3 94 rfl rfl
theorem kw_3_96 : Jvm.Cond.instanceMethod ({ cls := "TalkKnots$TextReader", name := "readMast", desc := "()Z" } : Jvm.MethodName) ∈ kw := km3 96 rfl rfl
theorem kw_3_97 : Jvm.Cond.code ({ cls := "TalkKnots$TextReader", name := "readMast", desc := "()Z" } : Jvm.MethodName) prog_5_method_4_code (2 : Nat) (Option.some Jvm.ClassFile.FieldType.boolean) ∈ kw := km3 97 rfl rfl
theorem kw_3_98 : Jvm.Cond.methodLink "TalkKnots$TextReader" (64 : Nat) ({ cls := "TalkKnots$TextReader", name := "takeNumber", desc := "(I)Z" } : Jvm.MethodName) ∈ kw := km3 98 rfl rfl
theorem kw_3_100 : Jvm.Cond.instanceMethod ({ cls := "TalkKnots$TextReader", name := "takeNumber", desc := "(I)Z" } : Jvm.MethodName) ∈ kw := km3 100 rfl rfl
theorem kw_3_101 : Jvm.Cond.code ({ cls := "TalkKnots$TextReader", name := "takeNumber", desc := "(I)Z" } : Jvm.MethodName) prog_5_method_12_code (2 : Nat) (Option.some Jvm.ClassFile.FieldType.boolean) ∈ kw := km3 101 rfl rfl
theorem kw_3_103 : Jvm.Cond.methodLink "TalkKnots$TextReader" (76 : Nat) ({ cls := "TalkKnots$Yard", name := "putUp", desc := "(IZ)V" } : Jvm.MethodName) ∈ kw := km3 103 rfl rfl
theorem kw_3_105 : Jvm.Cond.methodLink "TalkKnots$TextReader" (53 : Nat) ({ cls := "TalkKnots$TextReader", name := "readWind", desc := "()Z" } : Jvm.MethodName) ∈ kw := km3 105 rfl rfl
theorem kw_3_107 : Jvm.Cond.instanceMethod ({ cls := "TalkKnots$TextReader", name := "readWind", desc := "()Z" } : Jvm.MethodName) ∈ kw := km3 107 rfl rfl
theorem kw_3_108 : Jvm.Cond.code ({ cls := "TalkKnots$TextReader", name := "readWind", desc := "()Z" } : Jvm.MethodName) prog_5_method_5_code (2 : Nat) (Option.some Jvm.ClassFile.FieldType.boolean) ∈ kw := km3 108 rfl rfl
theorem kw_3_110 : Jvm.Cond.methodLink "TalkKnots$TextReader" (58 : Nat) ({ cls := "TalkKnots$TextReader", name := "readTease", desc := "()Z" } : Jvm.MethodName) ∈ kw := km3 110 rfl rfl
theorem kw_3_112 : Jvm.Cond.instanceMethod ({ cls := "TalkKnots$TextReader", name := "readTease", desc := "()Z" } : Jvm.MethodName) ∈ kw := km3 112 rfl rfl
theorem kw_3_113 : Jvm.Cond.code ({ cls := "TalkKnots$TextReader", name := "readTease", desc := "()Z" } : Jvm.MethodName) prog_5_method_6_code (1 : Nat) (Option.some Jvm.ClassFile.FieldType.boolean) ∈ kw := km3 113 rfl rfl
theorem kw_3_114 : Jvm.Cond.methodLink "TalkKnots$TextReader" (90 : Nat) ({ cls := "TalkKnots$Knot", name := "beTeased", desc := "()V" } : Jvm.MethodName) ∈ kw := km3 114 rfl rfl
theorem kw_3_115 : Jvm.Cond.methodLink "TalkKnots$TextReader" (61 : Nat) ({ cls := "TalkKnots$TextReader", name := "readKnot", desc := "()Z" } : Jvm.MethodName) ∈ kw := km3 115 rfl rfl
theorem kw_3_117 : Jvm.Cond.instanceMethod ({ cls := "TalkKnots$TextReader", name := "readKnot", desc := "()Z" } : Jvm.MethodName) ∈ kw := km3 117 rfl rfl
theorem kw_3_118 : Jvm.Cond.code ({ cls := "TalkKnots$TextReader", name := "readKnot", desc := "()Z" } : Jvm.MethodName) prog_5_method_7_code (3 : Nat) (Option.some Jvm.ClassFile.FieldType.boolean) ∈ kw := km3 118 rfl rfl
theorem kw_3_119 : Jvm.Cond.methodLink "TalkKnots$TextReader" (95 : Nat) ({ cls := "TalkKnots$TextReader", name := "kindTold", desc := "()I" } : Jvm.MethodName) ∈ kw := km3 119 rfl rfl
theorem kw_3_121 : Jvm.Cond.instanceMethod ({ cls := "TalkKnots$TextReader", name := "kindTold", desc := "()I" } : Jvm.MethodName) ∈ kw := km3 121 rfl rfl
theorem kw_3_122 : Jvm.Cond.code ({ cls := "TalkKnots$TextReader", name := "kindTold", desc := "()I" } : Jvm.MethodName) prog_5_method_8_code (2 : Nat) (Option.some Jvm.ClassFile.FieldType.int) ∈ kw := km3 122 rfl rfl
theorem kw_3_123 : Jvm.Cond.methodLink "TalkKnots$TextReader" (116 : Nat) ({ cls := "TalkKnots$TextReader", name := "nameOf", desc := "(I)Ljava/lang/String;" } : Jvm.MethodName) ∈ kw := km3 123 rfl rfl
theorem kw_3_124 : Jvm.Cond.static ({ cls := "TalkKnots$TextReader", name := "nameOf", desc := "(I)Ljava/lang/String;" } : Jvm.MethodName) ∈ kw := km3 124 rfl rfl
theorem kw_3_125 : Jvm.Cond.code ({ cls := "TalkKnots$TextReader", name := "nameOf", desc := "(I)Ljava/lang/String;" } : Jvm.MethodName) prog_5_method_9_code (1 : Nat) (Option.some (Jvm.ClassFile.FieldType.object "java/lang/String")) ∈ kw := km3 125 rfl rfl
theorem kw_3_132 : Jvm.Cond.methodLink "TalkKnots$TextReader" (99 : Nat) ({ cls := "TalkKnots$Yard", name := "isFull", desc := "()Z" } : Jvm.MethodName) ∈ kw := km3 132 rfl rfl
theorem kw_3_133 : Jvm.Cond.methodLink "TalkKnots$TextReader" (102 : Nat) ({ cls := "TalkKnots$Yard", name := "addKnot", desc := "(II)I" } : Jvm.MethodName) ∈ kw := km3 133 rfl rfl
theorem kw_3_136 : Jvm.Cond.arrayClass Jvm.ClassFile.FieldType.byte ∈ kw := km3 136 rfl rfl
theorem kw_3_137 : Jvm.Cond.methodLink "TalkKnotsLaw" (129 : Nat) ({ cls := "TalkKnots", name := "sheet", desc := "(III)I" } : Jvm.MethodName) ∈ kw := km3 137 rfl rfl
theorem kw_3_138 : Jvm.Cond.instanceMethod ({ cls := "TalkKnots", name := "sheet", desc := "(III)I" } : Jvm.MethodName) ∈ kw := km3 138 rfl rfl
theorem kw_3_139 : Jvm.Cond.selects "TalkKnots" ({ cls := "TalkKnots", name := "sheet", desc := "(III)I" } : Jvm.MethodName) ({ cls := "TalkKnots", name := "sheet", desc := "(III)I" } : Jvm.MethodName) ∈ kw := km3 139 rfl rfl
theorem kw_3_140 : Jvm.Cond.code ({ cls := "TalkKnots", name := "sheet", desc := "(III)I" } : Jvm.MethodName) prog_1_method_30_code (5 : Nat) (Option.some Jvm.ClassFile.FieldType.int) ∈ kw := km3 140 rfl rfl
theorem kw_3_141 : Jvm.Cond.methodLink "TalkKnots" (207 : Nat) ({ cls := "TalkKnots", name := "isSheet", desc := "(I)Z" } : Jvm.MethodName) ∈ kw := km3 141 rfl rfl
theorem kw_3_142 : Jvm.Cond.static ({ cls := "TalkKnots", name := "isSheet", desc := "(I)Z" } : Jvm.MethodName) ∈ kw := km3 142 rfl rfl
theorem kw_3_143 : Jvm.Cond.code ({ cls := "TalkKnots", name := "isSheet", desc := "(I)Z" } : Jvm.MethodName) prog_1_method_48_code (1 : Nat) (Option.some Jvm.ClassFile.FieldType.boolean) ∈ kw := km3 143 rfl rfl
theorem kw_3_144 : Jvm.Cond.methodLink "TalkKnots" (210 : Nat) ({ cls := "TalkKnots", name := "isSheetBits", desc := "(I)Z" } : Jvm.MethodName) ∈ kw := km3 144 rfl rfl
theorem kw_3_145 : Jvm.Cond.static ({ cls := "TalkKnots", name := "isSheetBits", desc := "(I)Z" } : Jvm.MethodName) ∈ kw := km3 145 rfl rfl
theorem kw_3_146 : Jvm.Cond.code ({ cls := "TalkKnots", name := "isSheetBits", desc := "(I)Z" } : Jvm.MethodName) prog_1_method_49_code (1 : Nat) (Option.some Jvm.ClassFile.FieldType.boolean) ∈ kw := km3 146 rfl rfl
theorem kw_3_147 : Jvm.Cond.constant "TalkKnots" (213 : Nat) (-1000000007 : Int32) ∈ kw := km3 147 rfl rfl
theorem kw_3_148 : Jvm.Cond.methodLink "TalkKnots" (214 : Nat) ({ cls := "TalkKnots$Sheet", name := "begin", desc := "(II)V" } : Jvm.MethodName) ∈ kw := km3 148 rfl rfl
theorem kw_3_149 : Jvm.Cond.instanceMethod ({ cls := "TalkKnots$Sheet", name := "begin", desc := "(II)V" } : Jvm.MethodName) ∈ kw := km3 149 rfl rfl
theorem kw_3_150 : Jvm.Cond.selects "TalkKnots$Sheet" ({ cls := "TalkKnots$Sheet", name := "begin", desc := "(II)V" } : Jvm.MethodName) ({ cls := "TalkKnots$Sheet", name := "begin", desc := "(II)V" } : Jvm.MethodName) ∈ kw := km3 150 rfl rfl
theorem kw_3_151 : Jvm.Cond.code ({ cls := "TalkKnots$Sheet", name := "begin", desc := "(II)V" } : Jvm.MethodName) prog_3_method_2_code (4 : Nat) (Option.none : Option Jvm.ClassFile.FieldType) ∈ kw := km3 151 rfl rfl
theorem kw_3_152 : Jvm.Cond.methodLink "TalkKnotsLaw" (135 : Nat) ({ cls := "TalkKnots", name := "write", desc := "(IIJ)J" } : Jvm.MethodName) ∈ kw := km3 152 rfl rfl
theorem kw_3_153 : Jvm.Cond.instanceMethod ({ cls := "TalkKnots", name := "write", desc := "(IIJ)J" } : Jvm.MethodName) ∈ kw := km3 153 rfl rfl
theorem kw_3_154 : Jvm.Cond.selects "TalkKnots" ({ cls := "TalkKnots", name := "write", desc := "(IIJ)J" } : Jvm.MethodName) ({ cls := "TalkKnots", name := "write", desc := "(IIJ)J" } : Jvm.MethodName) ∈ kw := km3 154 rfl rfl
theorem kw_3_155 : Jvm.Cond.code ({ cls := "TalkKnots", name := "write", desc := "(IIJ)J" } : Jvm.MethodName) prog_1_method_31_code (8 : Nat) (Option.some Jvm.ClassFile.FieldType.long) ∈ kw := km3 155 rfl rfl
theorem kw_3_156 : Jvm.Cond.methodLink "TalkKnots" (218 : Nat) ({ cls := "TalkKnots$Sheet", name := "isMissing", desc := "()Z" } : Jvm.MethodName) ∈ kw := km3 156 rfl rfl
theorem kw_3_157 : Jvm.Cond.instanceMethod ({ cls := "TalkKnots$Sheet", name := "isMissing", desc := "()Z" } : Jvm.MethodName) ∈ kw := km3 157 rfl rfl
theorem kw_3_158 : Jvm.Cond.selects "TalkKnots$Sheet" ({ cls := "TalkKnots$Sheet", name := "isMissing", desc := "()Z" } : Jvm.MethodName) ({ cls := "TalkKnots$Sheet", name := "isMissing", desc := "()Z" } : Jvm.MethodName) ∈ kw := km3 158 rfl rfl
theorem kw_3_159 : Jvm.Cond.code ({ cls := "TalkKnots$Sheet", name := "isMissing", desc := "()Z" } : Jvm.MethodName) prog_3_method_3_code (1 : Nat) (Option.some Jvm.ClassFile.FieldType.boolean) ∈ kw := km3 159 rfl rfl
theorem kw_3_160 : Jvm.Cond.constant "TalkKnots" (221 : Nat) (-1000000006 : Int32) ∈ kw := km3 160 rfl rfl
theorem kw_3_161 : Jvm.Cond.methodLink "TalkKnots" (229 : Nat) ({ cls := "TalkKnots$Sheet", name := "put", desc := "(IJ)V" } : Jvm.MethodName) ∈ kw := km3 161 rfl rfl
theorem kw_3_162 : Jvm.Cond.instanceMethod ({ cls := "TalkKnots$Sheet", name := "put", desc := "(IJ)V" } : Jvm.MethodName) ∈ kw := km3 162 rfl rfl
theorem kw_3_163 : Jvm.Cond.selects "TalkKnots$Sheet" ({ cls := "TalkKnots$Sheet", name := "put", desc := "(IJ)V" } : Jvm.MethodName) ({ cls := "TalkKnots$Sheet", name := "put", desc := "(IJ)V" } : Jvm.MethodName) ∈ kw := km3 163 rfl rfl
theorem kw_3_164 : Jvm.Cond.code ({ cls := "TalkKnots$Sheet", name := "put", desc := "(IJ)V" } : Jvm.MethodName) prog_3_method_6_code (4 : Nat) (Option.none : Option Jvm.ClassFile.FieldType) ∈ kw := km3 164 rfl rfl
theorem kw_3_165 : Jvm.Cond.methodLink "TalkKnotsLaw" (140 : Nat) ({ cls := "TalkKnots", name := "copy", desc := "(IIIII)I" } : Jvm.MethodName) ∈ kw := km3 165 rfl rfl
theorem kw_3_166 : Jvm.Cond.instanceMethod ({ cls := "TalkKnots", name := "copy", desc := "(IIIII)I" } : Jvm.MethodName) ∈ kw := km3 166 rfl rfl
theorem kw_3_167 : Jvm.Cond.selects "TalkKnots" ({ cls := "TalkKnots", name := "copy", desc := "(IIIII)I" } : Jvm.MethodName) ({ cls := "TalkKnots", name := "copy", desc := "(IIIII)I" } : Jvm.MethodName) ∈ kw := km3 167 rfl rfl
theorem kw_3_168 : Jvm.Cond.code ({ cls := "TalkKnots", name := "copy", desc := "(IIIII)I" } : Jvm.MethodName) prog_1_method_32_code (8 : Nat) (Option.some Jvm.ClassFile.FieldType.int) ∈ kw := km3 168 rfl rfl
theorem kw_3_169 : Jvm.Cond.methodLink "TalkKnots" (236 : Nat) ({ cls := "TalkKnots$Sheet", name := "has", desc := "(II)Z" } : Jvm.MethodName) ∈ kw := km3 169 rfl rfl
theorem kw_3_170 : Jvm.Cond.instanceMethod ({ cls := "TalkKnots$Sheet", name := "has", desc := "(II)Z" } : Jvm.MethodName) ∈ kw := km3 170 rfl rfl
theorem kw_3_171 : Jvm.Cond.selects "TalkKnots$Sheet" ({ cls := "TalkKnots$Sheet", name := "has", desc := "(II)Z" } : Jvm.MethodName) ({ cls := "TalkKnots$Sheet", name := "has", desc := "(II)Z" } : Jvm.MethodName) ∈ kw := km3 171 rfl rfl
theorem kw_3_172 : Jvm.Cond.code ({ cls := "TalkKnots$Sheet", name := "has", desc := "(II)Z" } : Jvm.MethodName) prog_3_method_4_code (3 : Nat) (Option.some Jvm.ClassFile.FieldType.boolean) ∈ kw := km3 172 rfl rfl
theorem kw_3_173 : Jvm.Cond.methodLink "TalkKnots" (239 : Nat) ({ cls := "java/lang/System", name := "arraycopy", desc := "(Ljava/lang/Object;ILjava/lang/Object;II)V" } : Jvm.MethodName) ∈ kw := km3 173 rfl rfl
theorem kw_3_174 : Jvm.Cond.methodLink "TalkKnotsLaw" (145 : Nat) ({ cls := "TalkKnots", name := "lays", desc := "(I)I" } : Jvm.MethodName) ∈ kw := km3 174 rfl rfl
theorem kw_3_175 : Jvm.Cond.instanceMethod ({ cls := "TalkKnots", name := "lays", desc := "(I)I" } : Jvm.MethodName) ∈ kw := km3 175 rfl rfl
theorem kw_3_176 : Jvm.Cond.selects "TalkKnots" ({ cls := "TalkKnots", name := "lays", desc := "(I)I" } : Jvm.MethodName) ({ cls := "TalkKnots", name := "lays", desc := "(I)I" } : Jvm.MethodName) ∈ kw := km3 176 rfl rfl
theorem kw_3_177 : Jvm.Cond.code ({ cls := "TalkKnots", name := "lays", desc := "(I)I" } : Jvm.MethodName) prog_1_method_33_code (7 : Nat) (Option.some Jvm.ClassFile.FieldType.int) ∈ kw := km3 177 rfl rfl
theorem kw_3_178 : Jvm.Cond.constantLong "TalkKnots" (245 : Nat) (99 : Int64) ∈ kw := km3 178 rfl rfl
theorem kw_3_179 : Jvm.Cond.methodLink "TalkKnotsLaw" (149 : Nat) ({ cls := "TalkKnots", name := "book", desc := "(II)I" } : Jvm.MethodName) ∈ kw := km3 179 rfl rfl
theorem kw_3_180 : Jvm.Cond.instanceMethod ({ cls := "TalkKnots", name := "book", desc := "(II)I" } : Jvm.MethodName) ∈ kw := km3 180 rfl rfl
theorem kw_3_181 : Jvm.Cond.selects "TalkKnots" ({ cls := "TalkKnots", name := "book", desc := "(II)I" } : Jvm.MethodName) ({ cls := "TalkKnots", name := "book", desc := "(II)I" } : Jvm.MethodName) ∈ kw := km3 181 rfl rfl
theorem kw_3_182 : Jvm.Cond.code ({ cls := "TalkKnots", name := "book", desc := "(II)I" } : Jvm.MethodName) prog_1_method_34_code (5 : Nat) (Option.some Jvm.ClassFile.FieldType.int) ∈ kw := km3 182 rfl rfl
theorem kw_3_183 : Jvm.Cond.methodLink "TalkKnots" (247 : Nat) ({ cls := "TalkKnots$Yard", name := "passHour", desc := "()V" } : Jvm.MethodName) ∈ kw := km3 183 rfl rfl
theorem kw_3_184 : Jvm.Cond.methodLink "TalkKnotsLaw" (153 : Nat) ({ cls := "TalkKnots", name := "read", desc := "(II)I" } : Jvm.MethodName) ∈ kw := km3 184 rfl rfl
theorem kw_3_185 : Jvm.Cond.instanceMethod ({ cls := "TalkKnots", name := "read", desc := "(II)I" } : Jvm.MethodName) ∈ kw := km3 185 rfl rfl
theorem kw_3_186 : Jvm.Cond.selects "TalkKnots" ({ cls := "TalkKnots", name := "read", desc := "(II)I" } : Jvm.MethodName) ({ cls := "TalkKnots", name := "read", desc := "(II)I" } : Jvm.MethodName) ∈ kw := km3 186 rfl rfl
theorem kw_3_187 : Jvm.Cond.code ({ cls := "TalkKnots", name := "read", desc := "(II)I" } : Jvm.MethodName) prog_1_method_35_code (7 : Nat) (Option.some Jvm.ClassFile.FieldType.int) ∈ kw := km3 187 rfl rfl
theorem kw_3_188 : Jvm.Cond.methodLink "TalkKnots" (250 : Nat) ({ cls := "TalkKnots$Sheet", name := "mayBeginWith", desc := "(I)Z" } : Jvm.MethodName) ∈ kw := km3 188 rfl rfl
theorem kw_3_189 : Jvm.Cond.instanceMethod ({ cls := "TalkKnots$Sheet", name := "mayBeginWith", desc := "(I)Z" } : Jvm.MethodName) ∈ kw := km3 189 rfl rfl
theorem kw_3_190 : Jvm.Cond.selects "TalkKnots$Sheet" ({ cls := "TalkKnots$Sheet", name := "mayBeginWith", desc := "(I)Z" } : Jvm.MethodName) ({ cls := "TalkKnots$Sheet", name := "mayBeginWith", desc := "(I)Z" } : Jvm.MethodName) ∈ kw := km3 190 rfl rfl
theorem kw_3_191 : Jvm.Cond.code ({ cls := "TalkKnots$Sheet", name := "mayBeginWith", desc := "(I)Z" } : Jvm.MethodName) prog_3_method_5_code (2 : Nat) (Option.some Jvm.ClassFile.FieldType.boolean) ∈ kw := km3 191 rfl rfl
theorem kw_3_192 : Jvm.Cond.methodLink "TalkKnots" (253 : Nat) ({ cls := "TalkKnots", name := "goesAsTold", desc := "(LTalkKnots$Sheet;III)Z" } : Jvm.MethodName) ∈ kw := km3 192 rfl rfl
theorem kw_3_194 : Jvm.Cond.instanceMethod ({ cls := "TalkKnots", name := "goesAsTold", desc := "(LTalkKnots$Sheet;III)Z" } : Jvm.MethodName) ∈ kw := km3 194 rfl rfl
theorem kw_3_195 : Jvm.Cond.code ({ cls := "TalkKnots", name := "goesAsTold", desc := "(LTalkKnots$Sheet;III)Z" } : Jvm.MethodName) prog_1_method_44_code (7 : Nat) (Option.some Jvm.ClassFile.FieldType.boolean) ∈ kw := km3 195 rfl rfl
theorem kw_3_196 : Jvm.Cond.methodLink "TalkKnotsLaw" (157 : Nat) ({ cls := "TalkKnots", name := "image", desc := "()I" } : Jvm.MethodName) ∈ kw := km3 196 rfl rfl
theorem kw_3_197 : Jvm.Cond.instanceMethod ({ cls := "TalkKnots", name := "image", desc := "()I" } : Jvm.MethodName) ∈ kw := km3 197 rfl rfl
theorem kw_3_198 : Jvm.Cond.selects "TalkKnots" ({ cls := "TalkKnots", name := "image", desc := "()I" } : Jvm.MethodName) ({ cls := "TalkKnots", name := "image", desc := "()I" } : Jvm.MethodName) ∈ kw := km3 198 rfl rfl
theorem kw_3_199 : Jvm.Cond.code ({ cls := "TalkKnots", name := "image", desc := "()I" } : Jvm.MethodName) prog_1_method_36_code (1 : Nat) (Option.some Jvm.ClassFile.FieldType.int) ∈ kw := km3 199 rfl rfl
theorem kw_3_200 : Jvm.Cond.methodLink "TalkKnotsLaw" (161 : Nat) ({ cls := "TalkKnots", name := "undo", desc := "()I" } : Jvm.MethodName) ∈ kw := km3 200 rfl rfl
theorem kw_3_201 : Jvm.Cond.instanceMethod ({ cls := "TalkKnots", name := "undo", desc := "()I" } : Jvm.MethodName) ∈ kw := km3 201 rfl rfl
theorem kw_3_202 : Jvm.Cond.selects "TalkKnots" ({ cls := "TalkKnots", name := "undo", desc := "()I" } : Jvm.MethodName) ({ cls := "TalkKnots", name := "undo", desc := "()I" } : Jvm.MethodName) ∈ kw := km3 202 rfl rfl
theorem kw_3_203 : Jvm.Cond.code ({ cls := "TalkKnots", name := "undo", desc := "()I" } : Jvm.MethodName) prog_1_method_37_code (1 : Nat) (Option.some Jvm.ClassFile.FieldType.int) ∈ kw := km3 203 rfl rfl
theorem kw_3_204 : Jvm.Cond.methodLink "TalkKnotsLaw" (165 : Nat) ({ cls := "TalkKnots", name := "tear", desc := "()I" } : Jvm.MethodName) ∈ kw := km3 204 rfl rfl
theorem kw_3_205 : Jvm.Cond.instanceMethod ({ cls := "TalkKnots", name := "tear", desc := "()I" } : Jvm.MethodName) ∈ kw := km3 205 rfl rfl
theorem kw_3_206 : Jvm.Cond.selects "TalkKnots" ({ cls := "TalkKnots", name := "tear", desc := "()I" } : Jvm.MethodName) ({ cls := "TalkKnots", name := "tear", desc := "()I" } : Jvm.MethodName) ∈ kw := km3 206 rfl rfl
theorem kw_3_207 : Jvm.Cond.code ({ cls := "TalkKnots", name := "tear", desc := "()I" } : Jvm.MethodName) prog_1_method_38_code (2 : Nat) (Option.some Jvm.ClassFile.FieldType.int) ∈ kw := km3 207 rfl rfl
theorem kw_3_208 : Jvm.Cond.methodLink "TalkKnotsLaw" (169 : Nat) ({ cls := "TalkKnots", name := "count", desc := "(I)I" } : Jvm.MethodName) ∈ kw := km3 208 rfl rfl
theorem kw_3_209 : Jvm.Cond.instanceMethod ({ cls := "TalkKnots", name := "count", desc := "(I)I" } : Jvm.MethodName) ∈ kw := km3 209 rfl rfl
theorem kw_3_210 : Jvm.Cond.selects "TalkKnots" ({ cls := "TalkKnots", name := "count", desc := "(I)I" } : Jvm.MethodName) ({ cls := "TalkKnots", name := "count", desc := "(I)I" } : Jvm.MethodName) ∈ kw := km3 210 rfl rfl
theorem kw_3_211 : Jvm.Cond.code ({ cls := "TalkKnots", name := "count", desc := "(I)I" } : Jvm.MethodName) prog_1_method_39_code (2 : Nat) (Option.some Jvm.ClassFile.FieldType.int) ∈ kw := km3 211 rfl rfl
theorem kw_3_212 : Jvm.Cond.methodLink "TalkKnots" (257 : Nat) ({ cls := "TalkKnots$Yard", name := "allWeights", desc := "()I" } : Jvm.MethodName) ∈ kw := km3 212 rfl rfl
theorem kw_3_213 : Jvm.Cond.instanceMethod ({ cls := "TalkKnots$Yard", name := "allWeights", desc := "()I" } : Jvm.MethodName) ∈ kw := km3 213 rfl rfl
theorem kw_3_214 : Jvm.Cond.selects "TalkKnots$Yard" ({ cls := "TalkKnots$Yard", name := "allWeights", desc := "()I" } : Jvm.MethodName) ({ cls := "TalkKnots$Yard", name := "allWeights", desc := "()I" } : Jvm.MethodName) ∈ kw := km3 214 rfl rfl
theorem kw_3_215 : Jvm.Cond.code ({ cls := "TalkKnots$Yard", name := "allWeights", desc := "()I" } : Jvm.MethodName) prog_6_method_13_code (3 : Nat) (Option.some Jvm.ClassFile.FieldType.int) ∈ kw := km3 215 rfl rfl
theorem kw_3_216 : Jvm.Cond.methodLink "TalkKnots" (260 : Nat) ({ cls := "TalkKnots$Yard", name := "allAges", desc := "()I" } : Jvm.MethodName) ∈ kw := km3 216 rfl rfl
theorem kw_3_217 : Jvm.Cond.instanceMethod ({ cls := "TalkKnots$Yard", name := "allAges", desc := "()I" } : Jvm.MethodName) ∈ kw := km3 217 rfl rfl
theorem kw_3_218 : Jvm.Cond.selects "TalkKnots$Yard" ({ cls := "TalkKnots$Yard", name := "allAges", desc := "()I" } : Jvm.MethodName) ({ cls := "TalkKnots$Yard", name := "allAges", desc := "()I" } : Jvm.MethodName) ∈ kw := km3 218 rfl rfl
theorem kw_3_219 : Jvm.Cond.code ({ cls := "TalkKnots$Yard", name := "allAges", desc := "()I" } : Jvm.MethodName) prog_6_method_12_code (3 : Nat) (Option.some Jvm.ClassFile.FieldType.int) ∈ kw := km3 219 rfl rfl
theorem kw_3_220 : Jvm.Cond.methodLink "TalkKnotsLaw" (173 : Nat) ({ cls := "TalkKnots", name := "status", desc := "(I)I" } : Jvm.MethodName) ∈ kw := km3 220 rfl rfl
theorem kw_3_221 : Jvm.Cond.instanceMethod ({ cls := "TalkKnots", name := "status", desc := "(I)I" } : Jvm.MethodName) ∈ kw := km3 221 rfl rfl
theorem kw_3_222 : Jvm.Cond.selects "TalkKnots" ({ cls := "TalkKnots", name := "status", desc := "(I)I" } : Jvm.MethodName) ({ cls := "TalkKnots", name := "status", desc := "(I)I" } : Jvm.MethodName) ∈ kw := km3 222 rfl rfl
theorem kw_3_223 : Jvm.Cond.code ({ cls := "TalkKnots", name := "status", desc := "(I)I" } : Jvm.MethodName) prog_1_method_40_code (2 : Nat) (Option.some Jvm.ClassFile.FieldType.int) ∈ kw := km3 223 rfl rfl
theorem kw_3_224 : Jvm.Cond.methodLink "TalkKnots" (263 : Nat) ({ cls := "TalkKnots", name := "allTold", desc := "()I" } : Jvm.MethodName) ∈ kw := km3 224 rfl rfl
theorem kw_3_226 : Jvm.Cond.instanceMethod ({ cls := "TalkKnots", name := "allTold", desc := "()I" } : Jvm.MethodName) ∈ kw := km3 226 rfl rfl
theorem kw_3_227 : Jvm.Cond.code ({ cls := "TalkKnots", name := "allTold", desc := "()I" } : Jvm.MethodName) prog_1_method_42_code (3 : Nat) (Option.some Jvm.ClassFile.FieldType.int) ∈ kw := km3 227 rfl rfl
theorem kw_3_228 : Jvm.Cond.classLink "TalkKnotsLaw" (10 : Nat) "TalkKnotsModel" ∈ kw := km3 228 rfl rfl
theorem kw_3_229 : Jvm.Cond.instantiable "TalkKnotsModel" (19 : Nat) ∈ kw := km3 229 rfl rfl
theorem kw_3_230 : Jvm.Cond.methodLink "TalkKnotsLaw" (12 : Nat) ({ cls := "TalkKnotsModel", name := "<init>", desc := "()V" } : Jvm.MethodName) ∈ kw := km3 230 rfl rfl
theorem kw_3_231 : Jvm.Cond.instanceMethod ({ cls := "TalkKnotsModel", name := "<init>", desc := "()V" } : Jvm.MethodName) ∈ kw := km3 231 rfl rfl
theorem kw_3_232 : Jvm.Cond.code ({ cls := "TalkKnotsModel", name := "<init>", desc := "()V" } : Jvm.MethodName) prog_8_method_1_code (2 : Nat) (Option.none : Option Jvm.ClassFile.FieldType) ∈ kw := km3 232 rfl rfl
theorem kw_3_233 : Jvm.Cond.methodLink "TalkKnotsModel" (1 : Nat) ({ cls := "java/lang/Object", name := "<init>", desc := "()V" } : Jvm.MethodName) ∈ kw := km3 233 rfl rfl
theorem kw_3_234 : Jvm.Cond.methodLink "TalkKnotsModel" (44 : Nat) ({ cls := "TalkKnotsModel", name := "puts1", desc := "(III)V" } : Jvm.MethodName) ∈ kw := km3 234 rfl rfl
theorem kw_3_236 : Jvm.Cond.instanceMethod ({ cls := "TalkKnotsModel", name := "puts1", desc := "(III)V" } : Jvm.MethodName) ∈ kw := km3 236 rfl rfl
theorem kw_3_237 : Jvm.Cond.code ({ cls := "TalkKnotsModel", name := "puts1", desc := "(III)V" } : Jvm.MethodName) prog_8_method_8_code (4 : Nat) (Option.none : Option Jvm.ClassFile.FieldType) ∈ kw := km3 237 rfl rfl
theorem kw_3_238 : Jvm.Cond.fieldLink "TalkKnotsModel" (7 : Nat) "TalkKnotsModel" "row" "[I" ∈ kw := km3 238 rfl rfl
theorem kw_3_239 : Jvm.Cond.fieldLink "TalkKnotsModel" (13 : Nat) "TalkKnotsModel" "found" "[I" ∈ kw := km3 239 rfl rfl
theorem kw_4_0 : Jvm.Cond.fieldLink "TalkKnotsModel" (16 : Nat) "TalkKnotsModel" "tried" "[I" ∈ kw := km4 0 rfl rfl
theorem kw_4_1 : Jvm.Cond.fieldLink "TalkKnotsModel" (19 : Nat) "TalkKnotsModel" "before1" "[I" ∈ kw := km4 1 rfl rfl
theorem kw_4_2 : Jvm.Cond.fieldLink "TalkKnotsModel" (22 : Nat) "TalkKnotsModel" "tape" "[I" ∈ kw := km4 2 rfl rfl
theorem kw_4_3 : Jvm.Cond.fieldLink "TalkKnotsModel" (158 : Nat) "TalkKnotsModel" "tapeMany" "I" ∈ kw := km4 3 rfl rfl
theorem kw_4_4 : Jvm.Cond.fieldLink "TalkKnotsModel" (177 : Nat) "TalkKnotsModel" "sort" "I" ∈ kw := km4 4 rfl rfl
theorem kw_4_5 : Jvm.Cond.fieldLink "TalkKnotsModel" (165 : Nat) "TalkKnotsModel" "begins" "I" ∈ kw := km4 5 rfl rfl
theorem kw_4_6 : Jvm.Cond.fieldLink "TalkKnotsModel" (162 : Nat) "TalkKnotsModel" "tokenEnds" "I" ∈ kw := km4 6 rfl rfl
theorem kw_4_7 : Jvm.Cond.fieldLink "TalkKnotsModel" (180 : Nat) "TalkKnotsModel" "word" "J" ∈ kw := km4 7 rfl rfl
theorem kw_4_8 : Jvm.Cond.fieldLink "TalkKnotsModel" (184 : Nat) "TalkKnotsModel" "value" "I" ∈ kw := km4 8 rfl rfl
theorem kw_4_9 : Jvm.Cond.fieldLink "TalkKnotsModel" (209 : Nat) "TalkKnotsModel" "good" "Z" ∈ kw := km4 9 rfl rfl
theorem kw_4_10 : Jvm.Cond.fieldLink "TalkKnotsModel" (25 : Nat) "TalkKnotsModel" "bitsOf" "[I" ∈ kw := km4 10 rfl rfl
theorem kw_4_11 : Jvm.Cond.fieldLink "TalkKnotsModel" (28 : Nat) "TalkKnotsModel" "sizeOf" "[I" ∈ kw := km4 11 rfl rfl
theorem kw_4_12 : Jvm.Cond.fieldLink "TalkKnotsModel" (31 : Nat) "TalkKnotsModel" "sheets" "[J" ∈ kw := km4 12 rfl rfl
theorem kw_4_13 : Jvm.Cond.fieldLink "TalkKnotsModel" (35 : Nat) "TalkKnotsModel" "lent" "[J" ∈ kw := km4 13 rfl rfl
theorem kw_4_14 : Jvm.Cond.fieldLink "TalkKnotsModel" (38 : Nat) "TalkKnotsModel" "image" "[I" ∈ kw := km4 14 rfl rfl
theorem kw_4_15 : Jvm.Cond.fieldLink "TalkKnotsModel" (41 : Nat) "TalkKnotsModel" "before" "[I" ∈ kw := km4 15 rfl rfl
theorem kw_4_16 : Jvm.Cond.fieldLink "TalkKnotsModel" (272 : Nat) "TalkKnotsModel" "isKept" "Z" ∈ kw := km4 16 rfl rfl
theorem kw_4_17 : Jvm.Cond.laysFinal "TalkKnotsModel" "TalkKnotsModel" "row" "[I" ∈ kw := km4 17 rfl rfl
theorem kw_4_18 : Jvm.Cond.soleField "TalkKnotsModel" "row" ∈ kw := km4 18 rfl rfl
theorem kw_4_19 : Jvm.Cond.laysFinal "TalkKnotsModel" "TalkKnotsModel" "found" "[I" ∈ kw := km4 19 rfl rfl
theorem kw_4_20 : Jvm.Cond.soleField "TalkKnotsModel" "found" ∈ kw := km4 20 rfl rfl
theorem kw_4_21 : Jvm.Cond.laysFinal "TalkKnotsModel" "TalkKnotsModel" "tried" "[I" ∈ kw := km4 21 rfl rfl
theorem kw_4_22 : Jvm.Cond.soleField "TalkKnotsModel" "tried" ∈ kw := km4 22 rfl rfl
theorem kw_4_23 : Jvm.Cond.laysFinal "TalkKnotsModel" "TalkKnotsModel" "before1" "[I" ∈ kw := km4 23 rfl rfl
theorem kw_4_24 : Jvm.Cond.soleField "TalkKnotsModel" "before1" ∈ kw := km4 24 rfl rfl
theorem kw_4_25 : Jvm.Cond.laysFinal "TalkKnotsModel" "TalkKnotsModel" "tape" "[I" ∈ kw := km4 25 rfl rfl
theorem kw_4_26 : Jvm.Cond.soleField "TalkKnotsModel" "tape" ∈ kw := km4 26 rfl rfl
theorem kw_4_27 : Jvm.Cond.lays "TalkKnotsModel" "TalkKnotsModel" "tapeMany" "I" ∈ kw := km4 27 rfl rfl
theorem kw_4_28 : Jvm.Cond.soleField "TalkKnotsModel" "tapeMany" ∈ kw := km4 28 rfl rfl
theorem kw_4_29 : Jvm.Cond.lays "TalkKnotsModel" "TalkKnotsModel" "sort" "I" ∈ kw := km4 29 rfl rfl
theorem kw_4_30 : Jvm.Cond.soleField "TalkKnotsModel" "sort" ∈ kw := km4 30 rfl rfl
theorem kw_4_31 : Jvm.Cond.lays "TalkKnotsModel" "TalkKnotsModel" "begins" "I" ∈ kw := km4 31 rfl rfl
theorem kw_4_32 : Jvm.Cond.soleField "TalkKnotsModel" "begins" ∈ kw := km4 32 rfl rfl
theorem kw_4_33 : Jvm.Cond.lays "TalkKnotsModel" "TalkKnotsModel" "tokenEnds" "I" ∈ kw := km4 33 rfl rfl
theorem kw_4_34 : Jvm.Cond.soleField "TalkKnotsModel" "tokenEnds" ∈ kw := km4 34 rfl rfl
theorem kw_4_35 : Jvm.Cond.lays "TalkKnotsModel" "TalkKnotsModel" "word" "J" ∈ kw := km4 35 rfl rfl
theorem kw_4_36 : Jvm.Cond.soleField "TalkKnotsModel" "word" ∈ kw := km4 36 rfl rfl
theorem kw_4_37 : Jvm.Cond.lays "TalkKnotsModel" "TalkKnotsModel" "value" "I" ∈ kw := km4 37 rfl rfl
theorem kw_4_38 : Jvm.Cond.soleField "TalkKnotsModel" "value" ∈ kw := km4 38 rfl rfl
theorem kw_4_39 : Jvm.Cond.lays "TalkKnotsModel" "TalkKnotsModel" "good" "Z" ∈ kw := km4 39 rfl rfl
theorem kw_4_40 : Jvm.Cond.soleField "TalkKnotsModel" "good" ∈ kw := km4 40 rfl rfl
theorem kw_4_41 : Jvm.Cond.laysFinal "TalkKnotsModel" "TalkKnotsModel" "bitsOf" "[I" ∈ kw := km4 41 rfl rfl
theorem kw_4_42 : Jvm.Cond.soleField "TalkKnotsModel" "bitsOf" ∈ kw := km4 42 rfl rfl
theorem kw_4_43 : Jvm.Cond.laysFinal "TalkKnotsModel" "TalkKnotsModel" "sizeOf" "[I" ∈ kw := km4 43 rfl rfl
theorem kw_4_44 : Jvm.Cond.soleField "TalkKnotsModel" "sizeOf" ∈ kw := km4 44 rfl rfl
theorem kw_4_45 : Jvm.Cond.laysFinal "TalkKnotsModel" "TalkKnotsModel" "sheets" "[J" ∈ kw := km4 45 rfl rfl
theorem kw_4_46 : Jvm.Cond.soleField "TalkKnotsModel" "sheets" ∈ kw := km4 46 rfl rfl
theorem kw_4_47 : Jvm.Cond.laysFinal "TalkKnotsModel" "TalkKnotsModel" "lent" "[J" ∈ kw := km4 47 rfl rfl
theorem kw_4_48 : Jvm.Cond.soleField "TalkKnotsModel" "lent" ∈ kw := km4 48 rfl rfl
theorem kw_4_49 : Jvm.Cond.laysFinal "TalkKnotsModel" "TalkKnotsModel" "image" "[I" ∈ kw := km4 49 rfl rfl
theorem kw_4_50 : Jvm.Cond.soleField "TalkKnotsModel" "image" ∈ kw := km4 50 rfl rfl
theorem kw_4_51 : Jvm.Cond.laysFinal "TalkKnotsModel" "TalkKnotsModel" "before" "[I" ∈ kw := km4 51 rfl rfl
theorem kw_4_52 : Jvm.Cond.soleField "TalkKnotsModel" "before" ∈ kw := km4 52 rfl rfl
theorem kw_4_53 : Jvm.Cond.lays "TalkKnotsModel" "TalkKnotsModel" "isKept" "Z" ∈ kw := km4 53 rfl rfl
theorem kw_4_54 : Jvm.Cond.soleField "TalkKnotsModel" "isKept" ∈ kw := km4 54 rfl rfl
theorem kw_4_55 : Jvm.Cond.superclass "TalkKnotsModel" "java/lang/Object" ∈ kw := km4 55 rfl rfl
theorem kw_4_56 : Jvm.Cond.methodLink "TalkKnotsLaw" (17 : Nat) ({ cls := "TalkKnotsModel", name := "wind", desc := "(II)I" } : Jvm.MethodName) ∈ kw := km4 56 rfl rfl
theorem kw_4_57 : Jvm.Cond.instanceMethod ({ cls := "TalkKnotsModel", name := "wind", desc := "(II)I" } : Jvm.MethodName) ∈ kw := km4 57 rfl rfl
theorem kw_4_58 : Jvm.Cond.selects "TalkKnotsModel" ({ cls := "TalkKnotsModel", name := "wind", desc := "(II)I" } : Jvm.MethodName) ({ cls := "TalkKnotsModel", name := "wind", desc := "(II)I" } : Jvm.MethodName) ∈ kw := km4 58 rfl rfl
theorem kw_4_59 : Jvm.Cond.code ({ cls := "TalkKnotsModel", name := "wind", desc := "(II)I" } : Jvm.MethodName) prog_8_method_23_code (3 : Nat) (Option.some Jvm.ClassFile.FieldType.int) ∈ kw := km4 59 rfl rfl
theorem kw_4_60 : Jvm.Cond.methodLink "TalkKnotsModel" (49 : Nat) ({ cls := "TalkKnotsModel", name := "in", desc := "(III)Z" } : Jvm.MethodName) ∈ kw := km4 60 rfl rfl
theorem kw_4_61 : Jvm.Cond.static ({ cls := "TalkKnotsModel", name := "in", desc := "(III)Z" } : Jvm.MethodName) ∈ kw := km4 61 rfl rfl
theorem kw_4_62 : Jvm.Cond.code ({ cls := "TalkKnotsModel", name := "in", desc := "(III)Z" } : Jvm.MethodName) prog_8_method_2_code (3 : Nat) (Option.some Jvm.ClassFile.FieldType.boolean) ∈ kw := km4 62 rfl rfl
theorem kw_4_63 : Jvm.Cond.methodLink "TalkKnotsModel" (79 : Nat) ({ cls := "TalkKnotsModel", name := "becomes", desc := "(II)I" } : Jvm.MethodName) ∈ kw := km4 63 rfl rfl
theorem kw_4_65 : Jvm.Cond.instanceMethod ({ cls := "TalkKnotsModel", name := "becomes", desc := "(II)I" } : Jvm.MethodName) ∈ kw := km4 65 rfl rfl
theorem kw_4_66 : Jvm.Cond.code ({ cls := "TalkKnotsModel", name := "becomes", desc := "(II)I" } : Jvm.MethodName) prog_8_method_9_code (4 : Nat) (Option.some Jvm.ClassFile.FieldType.int) ∈ kw := km4 66 rfl rfl
theorem kw_4_67 : Jvm.Cond.constant "TalkKnotsModel" (48 : Nat) (-1000000001 : Int32) ∈ kw := km4 67 rfl rfl
theorem kw_4_68 : Jvm.Cond.methodLink "TalkKnotsModel" (82 : Nat) ({ cls := "TalkKnotsModel", name := "finds", desc := "(I)I" } : Jvm.MethodName) ∈ kw := km4 68 rfl rfl
theorem kw_4_70 : Jvm.Cond.instanceMethod ({ cls := "TalkKnotsModel", name := "finds", desc := "(I)I" } : Jvm.MethodName) ∈ kw := km4 70 rfl rfl
theorem kw_4_71 : Jvm.Cond.code ({ cls := "TalkKnotsModel", name := "finds", desc := "(I)I" } : Jvm.MethodName) prog_8_method_3_code (2 : Nat) (Option.some Jvm.ClassFile.FieldType.int) ∈ kw := km4 71 rfl rfl
theorem kw_4_72 : Jvm.Cond.methodLink "TalkKnotsLaw" (21 : Nat) ({ cls := "TalkKnotsModel", name := "weight", desc := "(II)I" } : Jvm.MethodName) ∈ kw := km4 72 rfl rfl
theorem kw_4_73 : Jvm.Cond.instanceMethod ({ cls := "TalkKnotsModel", name := "weight", desc := "(II)I" } : Jvm.MethodName) ∈ kw := km4 73 rfl rfl
theorem kw_4_74 : Jvm.Cond.selects "TalkKnotsModel" ({ cls := "TalkKnotsModel", name := "weight", desc := "(II)I" } : Jvm.MethodName) ({ cls := "TalkKnotsModel", name := "weight", desc := "(II)I" } : Jvm.MethodName) ∈ kw := km4 74 rfl rfl
theorem kw_4_75 : Jvm.Cond.code ({ cls := "TalkKnotsModel", name := "weight", desc := "(II)I" } : Jvm.MethodName) prog_8_method_24_code (3 : Nat) (Option.some Jvm.ClassFile.FieldType.int) ∈ kw := km4 75 rfl rfl
theorem kw_4_76 : Jvm.Cond.methodLink "TalkKnotsModel" (85 : Nat) ({ cls := "TalkKnotsModel", name := "isMast", desc := "(I)Z" } : Jvm.MethodName) ∈ kw := km4 76 rfl rfl
theorem kw_4_77 : Jvm.Cond.static ({ cls := "TalkKnotsModel", name := "isMast", desc := "(I)Z" } : Jvm.MethodName) ∈ kw := km4 77 rfl rfl
theorem kw_4_78 : Jvm.Cond.code ({ cls := "TalkKnotsModel", name := "isMast", desc := "(I)Z" } : Jvm.MethodName) prog_8_method_12_code (1 : Nat) (Option.some Jvm.ClassFile.FieldType.boolean) ∈ kw := km4 78 rfl rfl
theorem kw_4_79 : Jvm.Cond.methodLink "TalkKnotsLaw" (26 : Nat) ({ cls := "TalkKnotsModel", name := "raise", desc := "(I)I" } : Jvm.MethodName) ∈ kw := km4 79 rfl rfl
theorem kw_4_80 : Jvm.Cond.instanceMethod ({ cls := "TalkKnotsModel", name := "raise", desc := "(I)I" } : Jvm.MethodName) ∈ kw := km4 80 rfl rfl
theorem kw_4_81 : Jvm.Cond.selects "TalkKnotsModel" ({ cls := "TalkKnotsModel", name := "raise", desc := "(I)I" } : Jvm.MethodName) ({ cls := "TalkKnotsModel", name := "raise", desc := "(I)I" } : Jvm.MethodName) ∈ kw := km4 81 rfl rfl
theorem kw_4_82 : Jvm.Cond.code ({ cls := "TalkKnotsModel", name := "raise", desc := "(I)I" } : Jvm.MethodName) prog_8_method_25_code (2 : Nat) (Option.some Jvm.ClassFile.FieldType.int) ∈ kw := km4 82 rfl rfl
theorem kw_4_83 : Jvm.Cond.methodLink "TalkKnotsLaw" (30 : Nat) ({ cls := "TalkKnotsModel", name := "mastOf", desc := "(II)I" } : Jvm.MethodName) ∈ kw := km4 83 rfl rfl
theorem kw_4_84 : Jvm.Cond.instanceMethod ({ cls := "TalkKnotsModel", name := "mastOf", desc := "(II)I" } : Jvm.MethodName) ∈ kw := km4 84 rfl rfl
theorem kw_4_85 : Jvm.Cond.selects "TalkKnotsModel" ({ cls := "TalkKnotsModel", name := "mastOf", desc := "(II)I" } : Jvm.MethodName) ({ cls := "TalkKnotsModel", name := "mastOf", desc := "(II)I" } : Jvm.MethodName) ∈ kw := km4 85 rfl rfl
theorem kw_4_86 : Jvm.Cond.code ({ cls := "TalkKnotsModel", name := "mastOf", desc := "(II)I" } : Jvm.MethodName) prog_8_method_27_code (3 : Nat) (Option.some Jvm.ClassFile.FieldType.int) ∈ kw := km4 86 rfl rfl
theorem kw_4_87 : Jvm.Cond.methodLink "TalkKnotsModel" (57 : Nat) ({ cls := "TalkKnotsModel", name := "ofMast", desc := "(II)I" } : Jvm.MethodName) ∈ kw := km4 87 rfl rfl
theorem kw_4_89 : Jvm.Cond.instanceMethod ({ cls := "TalkKnotsModel", name := "ofMast", desc := "(II)I" } : Jvm.MethodName) ∈ kw := km4 89 rfl rfl
theorem kw_4_90 : Jvm.Cond.code ({ cls := "TalkKnotsModel", name := "ofMast", desc := "(II)I" } : Jvm.MethodName) prog_8_method_7_code (3 : Nat) (Option.some Jvm.ClassFile.FieldType.int) ∈ kw := km4 90 rfl rfl
theorem kw_4_91 : Jvm.Cond.methodLink "TalkKnotsModel" (60 : Nat) ({ cls := "TalkKnotsModel", name := "knotsOf", desc := "(IZ)I" } : Jvm.MethodName) ∈ kw := km4 91 rfl rfl
theorem kw_4_93 : Jvm.Cond.instanceMethod ({ cls := "TalkKnotsModel", name := "knotsOf", desc := "(IZ)I" } : Jvm.MethodName) ∈ kw := km4 93 rfl rfl
theorem kw_4_94 : Jvm.Cond.code ({ cls := "TalkKnotsModel", name := "knotsOf", desc := "(IZ)I" } : Jvm.MethodName) prog_8_method_15_code (5 : Nat) (Option.some Jvm.ClassFile.FieldType.int) ∈ kw := km4 94 rfl rfl
theorem kw_4_95 : Jvm.Cond.methodLink "TalkKnotsModel" (53 : Nat) ({ cls := "TalkKnotsModel", name := "its", desc := "(II)I" } : Jvm.MethodName) ∈ kw := km4 95 rfl rfl
theorem kw_4_97 : Jvm.Cond.instanceMethod ({ cls := "TalkKnotsModel", name := "its", desc := "(II)I" } : Jvm.MethodName) ∈ kw := km4 97 rfl rfl
theorem kw_4_98 : Jvm.Cond.code ({ cls := "TalkKnotsModel", name := "its", desc := "(II)I" } : Jvm.MethodName) prog_8_method_5_code (3 : Nat) (Option.some Jvm.ClassFile.FieldType.int) ∈ kw := km4 98 rfl rfl
theorem kw_4_99 : Jvm.Cond.methodLink "TalkKnotsModel" (89 : Nat) ({ cls := "TalkKnotsModel", name := "strain", desc := "(I)I" } : Jvm.MethodName) ∈ kw := km4 99 rfl rfl
theorem kw_4_101 : Jvm.Cond.instanceMethod ({ cls := "TalkKnotsModel", name := "strain", desc := "(I)I" } : Jvm.MethodName) ∈ kw := km4 101 rfl rfl
theorem kw_4_102 : Jvm.Cond.code ({ cls := "TalkKnotsModel", name := "strain", desc := "(I)I" } : Jvm.MethodName) prog_8_method_18_code (3 : Nat) (Option.some Jvm.ClassFile.FieldType.int) ∈ kw := km4 102 rfl rfl
theorem kw_4_103 : Jvm.Cond.methodLink "TalkKnotsModel" (64 : Nat) ({ cls := "TalkKnotsModel", name := "bits", desc := "(I)I" } : Jvm.MethodName) ∈ kw := km4 103 rfl rfl
theorem kw_4_104 : Jvm.Cond.static ({ cls := "TalkKnotsModel", name := "bits", desc := "(I)I" } : Jvm.MethodName) ∈ kw := km4 104 rfl rfl
theorem kw_4_105 : Jvm.Cond.code ({ cls := "TalkKnotsModel", name := "bits", desc := "(I)I" } : Jvm.MethodName) prog_8_method_13_code (3 : Nat) (Option.some Jvm.ClassFile.FieldType.int) ∈ kw := km4 105 rfl rfl
theorem kw_4_106 : Jvm.Cond.methodLink "TalkKnotsModel" (68 : Nat) ({ cls := "TalkKnotsModel", name := "blowing", desc := "()I" } : Jvm.MethodName) ∈ kw := km4 106 rfl rfl
theorem kw_4_108 : Jvm.Cond.instanceMethod ({ cls := "TalkKnotsModel", name := "blowing", desc := "()I" } : Jvm.MethodName) ∈ kw := km4 108 rfl rfl
theorem kw_4_109 : Jvm.Cond.code ({ cls := "TalkKnotsModel", name := "blowing", desc := "()I" } : Jvm.MethodName) prog_8_method_14_code (1 : Nat) (Option.some Jvm.ClassFile.FieldType.int) ∈ kw := km4 109 rfl rfl
theorem kw_4_110 : Jvm.Cond.methodLink "TalkKnotsModel" (92 : Nat) ({ cls := "TalkKnotsModel", name := "heldOf", desc := "(I)I" } : Jvm.MethodName) ∈ kw := km4 110 rfl rfl
theorem kw_4_112 : Jvm.Cond.instanceMethod ({ cls := "TalkKnotsModel", name := "heldOf", desc := "(I)I" } : Jvm.MethodName) ∈ kw := km4 112 rfl rfl
theorem kw_4_113 : Jvm.Cond.code ({ cls := "TalkKnotsModel", name := "heldOf", desc := "(I)I" } : Jvm.MethodName) prog_8_method_26_code (4 : Nat) (Option.some Jvm.ClassFile.FieldType.int) ∈ kw := km4 113 rfl rfl
theorem kw_4_114 : Jvm.Cond.methodLink "TalkKnotsModel" (76 : Nat) ({ cls := "TalkKnotsModel", name := "holding", desc := "(I)I" } : Jvm.MethodName) ∈ kw := km4 114 rfl rfl
theorem kw_4_116 : Jvm.Cond.instanceMethod ({ cls := "TalkKnotsModel", name := "holding", desc := "(I)I" } : Jvm.MethodName) ∈ kw := km4 116 rfl rfl
theorem kw_4_117 : Jvm.Cond.code ({ cls := "TalkKnotsModel", name := "holding", desc := "(I)I" } : Jvm.MethodName) prog_8_method_19_code (5 : Nat) (Option.some Jvm.ClassFile.FieldType.int) ∈ kw := km4 117 rfl rfl
theorem kw_4_118 : Jvm.Cond.methodLink "TalkKnotsModel" (72 : Nat) ({ cls := "TalkKnotsModel", name := "held", desc := "(III)I" } : Jvm.MethodName) ∈ kw := km4 118 rfl rfl
theorem kw_4_119 : Jvm.Cond.static ({ cls := "TalkKnotsModel", name := "held", desc := "(III)I" } : Jvm.MethodName) ∈ kw := km4 119 rfl rfl
theorem kw_4_120 : Jvm.Cond.code ({ cls := "TalkKnotsModel", name := "held", desc := "(III)I" } : Jvm.MethodName) prog_8_method_4_code (3 : Nat) (Option.some Jvm.ClassFile.FieldType.int) ∈ kw := km4 120 rfl rfl
theorem kw_4_121 : Jvm.Cond.methodLink "TalkKnotsLaw" (34 : Nat) ({ cls := "TalkKnotsModel", name := "now", desc := "(I)I" } : Jvm.MethodName) ∈ kw := km4 121 rfl rfl
theorem kw_4_122 : Jvm.Cond.instanceMethod ({ cls := "TalkKnotsModel", name := "now", desc := "(I)I" } : Jvm.MethodName) ∈ kw := km4 122 rfl rfl
theorem kw_4_123 : Jvm.Cond.selects "TalkKnotsModel" ({ cls := "TalkKnotsModel", name := "now", desc := "(I)I" } : Jvm.MethodName) ({ cls := "TalkKnotsModel", name := "now", desc := "(I)I" } : Jvm.MethodName) ∈ kw := km4 123 rfl rfl
theorem kw_4_124 : Jvm.Cond.code ({ cls := "TalkKnotsModel", name := "now", desc := "(I)I" } : Jvm.MethodName) prog_8_method_29_code (2 : Nat) (Option.some Jvm.ClassFile.FieldType.int) ∈ kw := km4 124 rfl rfl
theorem kw_4_125 : Jvm.Cond.methodLink "TalkKnotsModel" (95 : Nat) ({ cls := "TalkKnotsModel", name := "upSet", desc := "()I" } : Jvm.MethodName) ∈ kw := km4 125 rfl rfl
theorem kw_4_127 : Jvm.Cond.instanceMethod ({ cls := "TalkKnotsModel", name := "upSet", desc := "()I" } : Jvm.MethodName) ∈ kw := km4 127 rfl rfl
theorem kw_4_128 : Jvm.Cond.code ({ cls := "TalkKnotsModel", name := "upSet", desc := "()I" } : Jvm.MethodName) prog_8_method_17_code (3 : Nat) (Option.some Jvm.ClassFile.FieldType.int) ∈ kw := km4 128 rfl rfl
theorem kw_4_129 : Jvm.Cond.methodLink "TalkKnotsModel" (98 : Nat) ({ cls := "TalkKnotsModel", name := "fastSet", desc := "()I" } : Jvm.MethodName) ∈ kw := km4 129 rfl rfl
theorem kw_4_131 : Jvm.Cond.instanceMethod ({ cls := "TalkKnotsModel", name := "fastSet", desc := "()I" } : Jvm.MethodName) ∈ kw := km4 131 rfl rfl
theorem kw_4_132 : Jvm.Cond.code ({ cls := "TalkKnotsModel", name := "fastSet", desc := "()I" } : Jvm.MethodName) prog_8_method_16_code (3 : Nat) (Option.some Jvm.ClassFile.FieldType.int) ∈ kw := km4 132 rfl rfl
theorem kw_4_133 : Jvm.Cond.methodLink "TalkKnotsModel" (101 : Nat) ({ cls := "TalkKnotsModel", name := "sumOf", desc := "(I)I" } : Jvm.MethodName) ∈ kw := km4 133 rfl rfl
theorem kw_4_135 : Jvm.Cond.instanceMethod ({ cls := "TalkKnotsModel", name := "sumOf", desc := "(I)I" } : Jvm.MethodName) ∈ kw := km4 135 rfl rfl
theorem kw_4_136 : Jvm.Cond.code ({ cls := "TalkKnotsModel", name := "sumOf", desc := "(I)I" } : Jvm.MethodName) prog_8_method_28_code (4 : Nat) (Option.some Jvm.ClassFile.FieldType.int) ∈ kw := km4 136 rfl rfl
theorem kw_4_137 : Jvm.Cond.methodLink "TalkKnotsLaw" (38 : Nat) ({ cls := "TalkKnotsModel", name := "knot", desc := "(II)I" } : Jvm.MethodName) ∈ kw := km4 137 rfl rfl
theorem kw_4_138 : Jvm.Cond.instanceMethod ({ cls := "TalkKnotsModel", name := "knot", desc := "(II)I" } : Jvm.MethodName) ∈ kw := km4 138 rfl rfl
theorem kw_4_139 : Jvm.Cond.selects "TalkKnotsModel" ({ cls := "TalkKnotsModel", name := "knot", desc := "(II)I" } : Jvm.MethodName) ({ cls := "TalkKnotsModel", name := "knot", desc := "(II)I" } : Jvm.MethodName) ∈ kw := km4 139 rfl rfl
theorem kw_4_140 : Jvm.Cond.code ({ cls := "TalkKnotsModel", name := "knot", desc := "(II)I" } : Jvm.MethodName) prog_8_method_31_code (3 : Nat) (Option.some Jvm.ClassFile.FieldType.int) ∈ kw := km4 140 rfl rfl
theorem kw_4_141 : Jvm.Cond.methodLink "TalkKnotsModel" (107 : Nat) ({ cls := "TalkKnotsModel", name := "isKind", desc := "(I)Z" } : Jvm.MethodName) ∈ kw := km4 141 rfl rfl
theorem kw_4_142 : Jvm.Cond.static ({ cls := "TalkKnotsModel", name := "isKind", desc := "(I)Z" } : Jvm.MethodName) ∈ kw := km4 142 rfl rfl
theorem kw_4_143 : Jvm.Cond.code ({ cls := "TalkKnotsModel", name := "isKind", desc := "(I)Z" } : Jvm.MethodName) prog_8_method_11_code (1 : Nat) (Option.some Jvm.ClassFile.FieldType.boolean) ∈ kw := km4 143 rfl rfl
theorem kw_4_144 : Jvm.Cond.constant "TalkKnotsModel" (110 : Nat) (-1000000002 : Int32) ∈ kw := km4 144 rfl rfl
theorem kw_4_145 : Jvm.Cond.methodLink "TalkKnotsModel" (111 : Nat) ({ cls := "TalkKnotsModel", name := "adds", desc := "(IIII)V" } : Jvm.MethodName) ∈ kw := km4 145 rfl rfl
theorem kw_4_147 : Jvm.Cond.instanceMethod ({ cls := "TalkKnotsModel", name := "adds", desc := "(IIII)V" } : Jvm.MethodName) ∈ kw := km4 147 rfl rfl
theorem kw_4_148 : Jvm.Cond.code ({ cls := "TalkKnotsModel", name := "adds", desc := "(IIII)V" } : Jvm.MethodName) prog_8_method_30_code (6 : Nat) (Option.none : Option Jvm.ClassFile.FieldType) ∈ kw := km4 148 rfl rfl
theorem kw_4_149 : Jvm.Cond.methodLink "TalkKnotsModel" (104 : Nat) ({ cls := "TalkKnotsModel", name := "puts", desc := "(III)V" } : Jvm.MethodName) ∈ kw := km4 149 rfl rfl
theorem kw_4_151 : Jvm.Cond.instanceMethod ({ cls := "TalkKnotsModel", name := "puts", desc := "(III)V" } : Jvm.MethodName) ∈ kw := km4 151 rfl rfl
theorem kw_4_152 : Jvm.Cond.code ({ cls := "TalkKnotsModel", name := "puts", desc := "(III)V" } : Jvm.MethodName) prog_8_method_6_code (4 : Nat) (Option.none : Option Jvm.ClassFile.FieldType) ∈ kw := km4 152 rfl rfl
theorem kw_4_153 : Jvm.Cond.methodLink "TalkKnotsLaw" (42 : Nat) ({ cls := "TalkKnotsModel", name := "of", desc := "(II)I" } : Jvm.MethodName) ∈ kw := km4 153 rfl rfl
theorem kw_4_154 : Jvm.Cond.instanceMethod ({ cls := "TalkKnotsModel", name := "of", desc := "(II)I" } : Jvm.MethodName) ∈ kw := km4 154 rfl rfl
theorem kw_4_155 : Jvm.Cond.selects "TalkKnotsModel" ({ cls := "TalkKnotsModel", name := "of", desc := "(II)I" } : Jvm.MethodName) ({ cls := "TalkKnotsModel", name := "of", desc := "(II)I" } : Jvm.MethodName) ∈ kw := km4 155 rfl rfl
theorem kw_4_156 : Jvm.Cond.code ({ cls := "TalkKnotsModel", name := "of", desc := "(II)I" } : Jvm.MethodName) prog_8_method_32_code (3 : Nat) (Option.some Jvm.ClassFile.FieldType.int) ∈ kw := km4 156 rfl rfl
theorem kw_4_157 : Jvm.Cond.methodLink "TalkKnotsModel" (115 : Nat) ({ cls := "TalkKnotsModel", name := "isOne", desc := "(I)Z" } : Jvm.MethodName) ∈ kw := km4 157 rfl rfl
theorem kw_4_159 : Jvm.Cond.instanceMethod ({ cls := "TalkKnotsModel", name := "isOne", desc := "(I)Z" } : Jvm.MethodName) ∈ kw := km4 159 rfl rfl
theorem kw_4_160 : Jvm.Cond.code ({ cls := "TalkKnotsModel", name := "isOne", desc := "(I)Z" } : Jvm.MethodName) prog_8_method_10_code (2 : Nat) (Option.some Jvm.ClassFile.FieldType.boolean) ∈ kw := km4 160 rfl rfl
theorem kw_4_161 : Jvm.Cond.methodLink "TalkKnotsModel" (118 : Nat) ({ cls := "TalkKnotsModel", name := "settling", desc := "(I)I" } : Jvm.MethodName) ∈ kw := km4 161 rfl rfl
theorem kw_4_163 : Jvm.Cond.instanceMethod ({ cls := "TalkKnotsModel", name := "settling", desc := "(I)I" } : Jvm.MethodName) ∈ kw := km4 163 rfl rfl
theorem kw_4_164 : Jvm.Cond.code ({ cls := "TalkKnotsModel", name := "settling", desc := "(I)I" } : Jvm.MethodName) prog_8_method_20_code (4 : Nat) (Option.some Jvm.ClassFile.FieldType.int) ∈ kw := km4 164 rfl rfl
theorem kw_4_165 : Jvm.Cond.methodLink "TalkKnotsModel" (121 : Nat) ({ cls := "TalkKnotsModel", name := "teasing", desc := "(I)I" } : Jvm.MethodName) ∈ kw := km4 165 rfl rfl
theorem kw_4_167 : Jvm.Cond.instanceMethod ({ cls := "TalkKnotsModel", name := "teasing", desc := "(I)I" } : Jvm.MethodName) ∈ kw := km4 167 rfl rfl
theorem kw_4_168 : Jvm.Cond.code ({ cls := "TalkKnotsModel", name := "teasing", desc := "(I)I" } : Jvm.MethodName) prog_8_method_21_code (2 : Nat) (Option.some Jvm.ClassFile.FieldType.int) ∈ kw := km4 168 rfl rfl
theorem kw_4_169 : Jvm.Cond.methodLink "TalkKnotsModel" (124 : Nat) ({ cls := "TalkKnotsModel", name := "isGiving", desc := "(II)Z" } : Jvm.MethodName) ∈ kw := km4 169 rfl rfl
theorem kw_4_171 : Jvm.Cond.instanceMethod ({ cls := "TalkKnotsModel", name := "isGiving", desc := "(II)Z" } : Jvm.MethodName) ∈ kw := km4 171 rfl rfl
theorem kw_4_172 : Jvm.Cond.code ({ cls := "TalkKnotsModel", name := "isGiving", desc := "(II)Z" } : Jvm.MethodName) prog_8_method_22_code (4 : Nat) (Option.some Jvm.ClassFile.FieldType.boolean) ∈ kw := km4 172 rfl rfl
theorem kw_4_173 : Jvm.Cond.methodLink "TalkKnotsLaw" (47 : Nat) ({ cls := "TalkKnotsModel", name := "set", desc := "(III)I" } : Jvm.MethodName) ∈ kw := km4 173 rfl rfl
theorem kw_4_174 : Jvm.Cond.instanceMethod ({ cls := "TalkKnotsModel", name := "set", desc := "(III)I" } : Jvm.MethodName) ∈ kw := km4 174 rfl rfl
theorem kw_4_175 : Jvm.Cond.selects "TalkKnotsModel" ({ cls := "TalkKnotsModel", name := "set", desc := "(III)I" } : Jvm.MethodName) ({ cls := "TalkKnotsModel", name := "set", desc := "(III)I" } : Jvm.MethodName) ∈ kw := km4 175 rfl rfl
theorem kw_4_176 : Jvm.Cond.code ({ cls := "TalkKnotsModel", name := "set", desc := "(III)I" } : Jvm.MethodName) prog_8_method_34_code (4 : Nat) (Option.some Jvm.ClassFile.FieldType.int) ∈ kw := km4 176 rfl rfl
theorem kw_4_177 : Jvm.Cond.methodLink "TalkKnotsModel" (128 : Nat) ({ cls := "TalkKnotsModel", name := "isPart", desc := "(II)Z" } : Jvm.MethodName) ∈ kw := km4 177 rfl rfl
theorem kw_4_178 : Jvm.Cond.static ({ cls := "TalkKnotsModel", name := "isPart", desc := "(II)Z" } : Jvm.MethodName) ∈ kw := km4 178 rfl rfl
theorem kw_4_179 : Jvm.Cond.code ({ cls := "TalkKnotsModel", name := "isPart", desc := "(II)Z" } : Jvm.MethodName) prog_8_method_33_code (2 : Nat) (Option.some Jvm.ClassFile.FieldType.boolean) ∈ kw := km4 179 rfl rfl
theorem kw_4_180 : Jvm.Cond.methodLink "TalkKnotsLaw" (51 : Nat) ({ cls := "TalkKnotsModel", name := "turn", desc := "(II)I" } : Jvm.MethodName) ∈ kw := km4 180 rfl rfl
theorem kw_4_181 : Jvm.Cond.instanceMethod ({ cls := "TalkKnotsModel", name := "turn", desc := "(II)I" } : Jvm.MethodName) ∈ kw := km4 181 rfl rfl
theorem kw_4_182 : Jvm.Cond.selects "TalkKnotsModel" ({ cls := "TalkKnotsModel", name := "turn", desc := "(II)I" } : Jvm.MethodName) ({ cls := "TalkKnotsModel", name := "turn", desc := "(II)I" } : Jvm.MethodName) ∈ kw := km4 182 rfl rfl
theorem kw_4_183 : Jvm.Cond.code ({ cls := "TalkKnotsModel", name := "turn", desc := "(II)I" } : Jvm.MethodName) prog_8_method_35_code (3 : Nat) (Option.some Jvm.ClassFile.FieldType.int) ∈ kw := km4 183 rfl rfl
theorem kw_4_184 : Jvm.Cond.methodLink "TalkKnotsLaw" (55 : Nat) ({ cls := "TalkKnotsModel", name := "as", desc := "(II)I" } : Jvm.MethodName) ∈ kw := km4 184 rfl rfl
theorem kw_4_185 : Jvm.Cond.instanceMethod ({ cls := "TalkKnotsModel", name := "as", desc := "(II)I" } : Jvm.MethodName) ∈ kw := km4 185 rfl rfl
theorem kw_4_186 : Jvm.Cond.selects "TalkKnotsModel" ({ cls := "TalkKnotsModel", name := "as", desc := "(II)I" } : Jvm.MethodName) ({ cls := "TalkKnotsModel", name := "as", desc := "(II)I" } : Jvm.MethodName) ∈ kw := km4 186 rfl rfl
theorem kw_4_187 : Jvm.Cond.code ({ cls := "TalkKnotsModel", name := "as", desc := "(II)I" } : Jvm.MethodName) prog_8_method_36_code (5 : Nat) (Option.some Jvm.ClassFile.FieldType.int) ∈ kw := km4 187 rfl rfl
theorem kw_4_188 : Jvm.Cond.constant "TalkKnotsModel" (131 : Nat) (-1000000003 : Int32) ∈ kw := km4 188 rfl rfl
theorem kw_4_189 : Jvm.Cond.methodLink "TalkKnotsLaw" (59 : Nat) ({ cls := "TalkKnotsModel", name := "tease", desc := "(I)I" } : Jvm.MethodName) ∈ kw := km4 189 rfl rfl
theorem kw_4_190 : Jvm.Cond.instanceMethod ({ cls := "TalkKnotsModel", name := "tease", desc := "(I)I" } : Jvm.MethodName) ∈ kw := km4 190 rfl rfl
theorem kw_4_191 : Jvm.Cond.selects "TalkKnotsModel" ({ cls := "TalkKnotsModel", name := "tease", desc := "(I)I" } : Jvm.MethodName) ({ cls := "TalkKnotsModel", name := "tease", desc := "(I)I" } : Jvm.MethodName) ∈ kw := km4 191 rfl rfl
theorem kw_4_192 : Jvm.Cond.code ({ cls := "TalkKnotsModel", name := "tease", desc := "(I)I" } : Jvm.MethodName) prog_8_method_38_code (2 : Nat) (Option.some Jvm.ClassFile.FieldType.int) ∈ kw := km4 192 rfl rfl
theorem kw_4_193 : Jvm.Cond.methodLink "TalkKnotsModel" (132 : Nat) ({ cls := "TalkKnotsModel", name := "teases", desc := "(I)V" } : Jvm.MethodName) ∈ kw := km4 193 rfl rfl
theorem kw_4_195 : Jvm.Cond.instanceMethod ({ cls := "TalkKnotsModel", name := "teases", desc := "(I)V" } : Jvm.MethodName) ∈ kw := km4 195 rfl rfl
theorem kw_4_196 : Jvm.Cond.code ({ cls := "TalkKnotsModel", name := "teases", desc := "(I)V" } : Jvm.MethodName) prog_8_method_37_code (2 : Nat) (Option.none : Option Jvm.ClassFile.FieldType) ∈ kw := km4 196 rfl rfl
theorem kw_4_197 : Jvm.Cond.methodLink "TalkKnotsLaw" (63 : Nat) ({ cls := "TalkKnotsModel", name := "tie", desc := "(I)I" } : Jvm.MethodName) ∈ kw := km4 197 rfl rfl
theorem kw_4_198 : Jvm.Cond.instanceMethod ({ cls := "TalkKnotsModel", name := "tie", desc := "(I)I" } : Jvm.MethodName) ∈ kw := km4 198 rfl rfl
theorem kw_4_199 : Jvm.Cond.selects "TalkKnotsModel" ({ cls := "TalkKnotsModel", name := "tie", desc := "(I)I" } : Jvm.MethodName) ({ cls := "TalkKnotsModel", name := "tie", desc := "(I)I" } : Jvm.MethodName) ∈ kw := km4 199 rfl rfl
theorem kw_4_200 : Jvm.Cond.code ({ cls := "TalkKnotsModel", name := "tie", desc := "(I)I" } : Jvm.MethodName) prog_8_method_39_code (2 : Nat) (Option.some Jvm.ClassFile.FieldType.int) ∈ kw := km4 200 rfl rfl
theorem kw_4_201 : Jvm.Cond.constant "TalkKnotsModel" (136 : Nat) (-1000000005 : Int32) ∈ kw := km4 201 rfl rfl
theorem kw_4_202 : Jvm.Cond.methodLink "TalkKnotsLaw" (67 : Nat) ({ cls := "TalkKnotsModel", name := "cast", desc := "(I)I" } : Jvm.MethodName) ∈ kw := km4 202 rfl rfl
theorem kw_4_203 : Jvm.Cond.instanceMethod ({ cls := "TalkKnotsModel", name := "cast", desc := "(I)I" } : Jvm.MethodName) ∈ kw := km4 203 rfl rfl
theorem kw_4_204 : Jvm.Cond.selects "TalkKnotsModel" ({ cls := "TalkKnotsModel", name := "cast", desc := "(I)I" } : Jvm.MethodName) ({ cls := "TalkKnotsModel", name := "cast", desc := "(I)I" } : Jvm.MethodName) ∈ kw := km4 204 rfl rfl
theorem kw_4_205 : Jvm.Cond.code ({ cls := "TalkKnotsModel", name := "cast", desc := "(I)I" } : Jvm.MethodName) prog_8_method_40_code (2 : Nat) (Option.some Jvm.ClassFile.FieldType.int) ∈ kw := km4 205 rfl rfl
theorem kw_4_206 : Jvm.Cond.methodLink "TalkKnotsLaw" (71 : Nat) ({ cls := "TalkKnotsModel", name := "hours", desc := "(I)I" } : Jvm.MethodName) ∈ kw := km4 206 rfl rfl
theorem kw_4_207 : Jvm.Cond.instanceMethod ({ cls := "TalkKnotsModel", name := "hours", desc := "(I)I" } : Jvm.MethodName) ∈ kw := km4 207 rfl rfl
theorem kw_4_208 : Jvm.Cond.selects "TalkKnotsModel" ({ cls := "TalkKnotsModel", name := "hours", desc := "(I)I" } : Jvm.MethodName) ({ cls := "TalkKnotsModel", name := "hours", desc := "(I)I" } : Jvm.MethodName) ∈ kw := km4 208 rfl rfl
theorem kw_4_209 : Jvm.Cond.code ({ cls := "TalkKnotsModel", name := "hours", desc := "(I)I" } : Jvm.MethodName) prog_8_method_44_code (2 : Nat) (Option.some Jvm.ClassFile.FieldType.int) ∈ kw := km4 209 rfl rfl
theorem kw_4_210 : Jvm.Cond.constant "TalkKnotsModel" (143 : Nat) (99999 : Int32) ∈ kw := km4 210 rfl rfl
theorem kw_4_211 : Jvm.Cond.methodLink "TalkKnotsModel" (144 : Nat) ({ cls := "TalkKnotsModel", name := "passes", desc := "(I)V" } : Jvm.MethodName) ∈ kw := km4 211 rfl rfl
theorem kw_4_213 : Jvm.Cond.instanceMethod ({ cls := "TalkKnotsModel", name := "passes", desc := "(I)V" } : Jvm.MethodName) ∈ kw := km4 213 rfl rfl
theorem kw_4_214 : Jvm.Cond.code ({ cls := "TalkKnotsModel", name := "passes", desc := "(I)V" } : Jvm.MethodName) prog_8_method_43_code (3 : Nat) (Option.none : Option Jvm.ClassFile.FieldType) ∈ kw := km4 214 rfl rfl
theorem kw_4_215 : Jvm.Cond.methodLink "TalkKnotsModel" (140 : Nat) ({ cls := "TalkKnotsModel", name := "oneHour", desc := "()V" } : Jvm.MethodName) ∈ kw := km4 215 rfl rfl
theorem kw_4_217 : Jvm.Cond.instanceMethod ({ cls := "TalkKnotsModel", name := "oneHour", desc := "()V" } : Jvm.MethodName) ∈ kw := km4 217 rfl rfl
theorem kw_4_218 : Jvm.Cond.code ({ cls := "TalkKnotsModel", name := "oneHour", desc := "()V" } : Jvm.MethodName) prog_8_method_42_code (2 : Nat) (Option.none : Option Jvm.ClassFile.FieldType) ∈ kw := km4 218 rfl rfl
theorem kw_4_219 : Jvm.Cond.methodLink "TalkKnotsModel" (137 : Nat) ({ cls := "TalkKnotsModel", name := "pulls", desc := "(I)V" } : Jvm.MethodName) ∈ kw := km4 219 rfl rfl
theorem kw_4_221 : Jvm.Cond.instanceMethod ({ cls := "TalkKnotsModel", name := "pulls", desc := "(I)V" } : Jvm.MethodName) ∈ kw := km4 221 rfl rfl
theorem kw_4_222 : Jvm.Cond.code ({ cls := "TalkKnotsModel", name := "pulls", desc := "(I)V" } : Jvm.MethodName) prog_8_method_41_code (5 : Nat) (Option.none : Option Jvm.ClassFile.FieldType) ∈ kw := km4 222 rfl rfl
theorem kw_4_223 : Jvm.Cond.methodLink "TalkKnotsLaw" (75 : Nat) ({ cls := "TalkKnotsModel", name := "on", desc := "(III)I" } : Jvm.MethodName) ∈ kw := km4 223 rfl rfl
theorem kw_4_224 : Jvm.Cond.instanceMethod ({ cls := "TalkKnotsModel", name := "on", desc := "(III)I" } : Jvm.MethodName) ∈ kw := km4 224 rfl rfl
theorem kw_4_225 : Jvm.Cond.selects "TalkKnotsModel" ({ cls := "TalkKnotsModel", name := "on", desc := "(III)I" } : Jvm.MethodName) ({ cls := "TalkKnotsModel", name := "on", desc := "(III)I" } : Jvm.MethodName) ∈ kw := km4 225 rfl rfl
theorem kw_4_226 : Jvm.Cond.code ({ cls := "TalkKnotsModel", name := "on", desc := "(III)I" } : Jvm.MethodName) prog_8_method_45_code (5 : Nat) (Option.some Jvm.ClassFile.FieldType.int) ∈ kw := km4 226 rfl rfl
theorem kw_4_227 : Jvm.Cond.methodLink "TalkKnotsModel" (147 : Nat) ({ cls := "TalkKnotsModel", name := "moveAll", desc := "(Z[I)V" } : Jvm.MethodName) ∈ kw := km4 227 rfl rfl
theorem kw_4_229 : Jvm.Cond.instanceMethod ({ cls := "TalkKnotsModel", name := "moveAll", desc := "(Z[I)V" } : Jvm.MethodName) ∈ kw := km4 229 rfl rfl
theorem kw_4_230 : Jvm.Cond.code ({ cls := "TalkKnotsModel", name := "moveAll", desc := "(Z[I)V" } : Jvm.MethodName) prog_8_method_85_code (4 : Nat) (Option.none : Option Jvm.ClassFile.FieldType) ∈ kw := km4 230 rfl rfl
theorem kw_4_231 : Jvm.Cond.methodLink "TalkKnotsLaw" (79 : Nat) ({ cls := "TalkKnotsModel", name := "then", desc := "(II)I" } : Jvm.MethodName) ∈ kw := km4 231 rfl rfl
theorem kw_4_232 : Jvm.Cond.instanceMethod ({ cls := "TalkKnotsModel", name := "then", desc := "(II)I" } : Jvm.MethodName) ∈ kw := km4 232 rfl rfl
theorem kw_4_233 : Jvm.Cond.selects "TalkKnotsModel" ({ cls := "TalkKnotsModel", name := "then", desc := "(II)I" } : Jvm.MethodName) ({ cls := "TalkKnotsModel", name := "then", desc := "(II)I" } : Jvm.MethodName) ∈ kw := km4 233 rfl rfl
theorem kw_4_234 : Jvm.Cond.code ({ cls := "TalkKnotsModel", name := "then", desc := "(II)I" } : Jvm.MethodName) prog_8_method_46_code (4 : Nat) (Option.some Jvm.ClassFile.FieldType.int) ∈ kw := km4 234 rfl rfl
theorem kw_4_235 : Jvm.Cond.methodLink "TalkKnotsLaw" (83 : Nat) ({ cls := "TalkKnotsModel", name := "falls", desc := "(I)I" } : Jvm.MethodName) ∈ kw := km4 235 rfl rfl
theorem kw_4_236 : Jvm.Cond.instanceMethod ({ cls := "TalkKnotsModel", name := "falls", desc := "(I)I" } : Jvm.MethodName) ∈ kw := km4 236 rfl rfl
theorem kw_4_237 : Jvm.Cond.selects "TalkKnotsModel" ({ cls := "TalkKnotsModel", name := "falls", desc := "(I)I" } : Jvm.MethodName) ({ cls := "TalkKnotsModel", name := "falls", desc := "(I)I" } : Jvm.MethodName) ∈ kw := km4 237 rfl rfl
theorem kw_4_238 : Jvm.Cond.code ({ cls := "TalkKnotsModel", name := "falls", desc := "(I)I" } : Jvm.MethodName) prog_8_method_48_code (3 : Nat) (Option.some Jvm.ClassFile.FieldType.int) ∈ kw := km4 238 rfl rfl
theorem kw_4_239 : Jvm.Cond.methodLink "TalkKnotsModel" (151 : Nat) ({ cls := "TalkKnotsModel", name := "goneIn", desc := "(I)I" } : Jvm.MethodName) ∈ kw := km4 239 rfl rfl
theorem kw_5_1 : Jvm.Cond.instanceMethod ({ cls := "TalkKnotsModel", name := "goneIn", desc := "(I)I" } : Jvm.MethodName) ∈ kw := km5 1 rfl rfl
theorem kw_5_2 : Jvm.Cond.code ({ cls := "TalkKnotsModel", name := "goneIn", desc := "(I)I" } : Jvm.MethodName) prog_8_method_47_code (3 : Nat) (Option.some Jvm.ClassFile.FieldType.int) ∈ kw := km5 2 rfl rfl
theorem kw_5_3 : Jvm.Cond.constant "TalkKnotsModel" (154 : Nat) (-1000000004 : Int32) ∈ kw := km5 3 rfl rfl
theorem kw_5_4 : Jvm.Cond.methodLink "TalkKnotsLaw" (87 : Nat) ({ cls := "TalkKnotsModel", name := "gives", desc := "(I)I" } : Jvm.MethodName) ∈ kw := km5 4 rfl rfl
theorem kw_5_5 : Jvm.Cond.instanceMethod ({ cls := "TalkKnotsModel", name := "gives", desc := "(I)I" } : Jvm.MethodName) ∈ kw := km5 5 rfl rfl
theorem kw_5_6 : Jvm.Cond.selects "TalkKnotsModel" ({ cls := "TalkKnotsModel", name := "gives", desc := "(I)I" } : Jvm.MethodName) ({ cls := "TalkKnotsModel", name := "gives", desc := "(I)I" } : Jvm.MethodName) ∈ kw := km5 6 rfl rfl
theorem kw_5_7 : Jvm.Cond.code ({ cls := "TalkKnotsModel", name := "gives", desc := "(I)I" } : Jvm.MethodName) prog_8_method_49_code (3 : Nat) (Option.some Jvm.ClassFile.FieldType.int) ∈ kw := km5 7 rfl rfl
theorem kw_5_8 : Jvm.Cond.methodLink "TalkKnotsLaw" (91 : Nat) ({ cls := "TalkKnotsModel", name := "best", desc := "(I)I" } : Jvm.MethodName) ∈ kw := km5 8 rfl rfl
theorem kw_5_9 : Jvm.Cond.instanceMethod ({ cls := "TalkKnotsModel", name := "best", desc := "(I)I" } : Jvm.MethodName) ∈ kw := km5 9 rfl rfl
theorem kw_5_10 : Jvm.Cond.selects "TalkKnotsModel" ({ cls := "TalkKnotsModel", name := "best", desc := "(I)I" } : Jvm.MethodName) ({ cls := "TalkKnotsModel", name := "best", desc := "(I)I" } : Jvm.MethodName) ∈ kw := km5 10 rfl rfl
theorem kw_5_11 : Jvm.Cond.code ({ cls := "TalkKnotsModel", name := "best", desc := "(I)I" } : Jvm.MethodName) prog_8_method_50_code (6 : Nat) (Option.some Jvm.ClassFile.FieldType.int) ∈ kw := km5 11 rfl rfl
theorem kw_5_12 : Jvm.Cond.methodLink "TalkKnotsLaw" (95 : Nat) ({ cls := "TalkKnotsModel", name := "kind", desc := "(I)I" } : Jvm.MethodName) ∈ kw := km5 12 rfl rfl
theorem kw_5_13 : Jvm.Cond.instanceMethod ({ cls := "TalkKnotsModel", name := "kind", desc := "(I)I" } : Jvm.MethodName) ∈ kw := km5 13 rfl rfl
theorem kw_5_14 : Jvm.Cond.selects "TalkKnotsModel" ({ cls := "TalkKnotsModel", name := "kind", desc := "(I)I" } : Jvm.MethodName) ({ cls := "TalkKnotsModel", name := "kind", desc := "(I)I" } : Jvm.MethodName) ∈ kw := km5 14 rfl rfl
theorem kw_5_15 : Jvm.Cond.code ({ cls := "TalkKnotsModel", name := "kind", desc := "(I)I" } : Jvm.MethodName) prog_8_method_51_code (6 : Nat) (Option.some Jvm.ClassFile.FieldType.int) ∈ kw := km5 15 rfl rfl
theorem kw_5_16 : Jvm.Cond.methodLink "TalkKnotsLaw" (99 : Nat) ({ cls := "TalkKnotsModel", name := "open", desc := "(II)I" } : Jvm.MethodName) ∈ kw := km5 16 rfl rfl
theorem kw_5_17 : Jvm.Cond.instanceMethod ({ cls := "TalkKnotsModel", name := "open", desc := "(II)I" } : Jvm.MethodName) ∈ kw := km5 17 rfl rfl
theorem kw_5_18 : Jvm.Cond.selects "TalkKnotsModel" ({ cls := "TalkKnotsModel", name := "open", desc := "(II)I" } : Jvm.MethodName) ({ cls := "TalkKnotsModel", name := "open", desc := "(II)I" } : Jvm.MethodName) ∈ kw := km5 18 rfl rfl
theorem kw_5_19 : Jvm.Cond.code ({ cls := "TalkKnotsModel", name := "open", desc := "(II)I" } : Jvm.MethodName) prog_8_method_53_code (5 : Nat) (Option.some Jvm.ClassFile.FieldType.int) ∈ kw := km5 19 rfl rfl
theorem kw_5_20 : Jvm.Cond.methodLink "TalkKnotsModel" (155 : Nat) ({ cls := "TalkKnotsModel", name := "lasts", desc := "(II)Z" } : Jvm.MethodName) ∈ kw := km5 20 rfl rfl
theorem kw_5_22 : Jvm.Cond.instanceMethod ({ cls := "TalkKnotsModel", name := "lasts", desc := "(II)Z" } : Jvm.MethodName) ∈ kw := km5 22 rfl rfl
theorem kw_5_23 : Jvm.Cond.code ({ cls := "TalkKnotsModel", name := "lasts", desc := "(II)Z" } : Jvm.MethodName) prog_8_method_52_code (4 : Nat) (Option.some Jvm.ClassFile.FieldType.boolean) ∈ kw := km5 23 rfl rfl
theorem kw_5_24 : Jvm.Cond.methodLink "TalkKnotsLaw" (103 : Nat) ({ cls := "TalkKnotsModel", name := "bears", desc := "(II)I" } : Jvm.MethodName) ∈ kw := km5 24 rfl rfl
theorem kw_5_25 : Jvm.Cond.instanceMethod ({ cls := "TalkKnotsModel", name := "bears", desc := "(II)I" } : Jvm.MethodName) ∈ kw := km5 25 rfl rfl
theorem kw_5_26 : Jvm.Cond.selects "TalkKnotsModel" ({ cls := "TalkKnotsModel", name := "bears", desc := "(II)I" } : Jvm.MethodName) ({ cls := "TalkKnotsModel", name := "bears", desc := "(II)I" } : Jvm.MethodName) ∈ kw := km5 26 rfl rfl
theorem kw_5_27 : Jvm.Cond.code ({ cls := "TalkKnotsModel", name := "bears", desc := "(II)I" } : Jvm.MethodName) prog_8_method_54_code (5 : Nat) (Option.some Jvm.ClassFile.FieldType.int) ∈ kw := km5 27 rfl rfl
theorem kw_5_28 : Jvm.Cond.methodLink "TalkKnotsLaw" (107 : Nat) ({ cls := "TalkKnotsModel", name := "move", desc := "(II)I" } : Jvm.MethodName) ∈ kw := km5 28 rfl rfl
theorem kw_5_29 : Jvm.Cond.instanceMethod ({ cls := "TalkKnotsModel", name := "move", desc := "(II)I" } : Jvm.MethodName) ∈ kw := km5 29 rfl rfl
theorem kw_5_30 : Jvm.Cond.selects "TalkKnotsModel" ({ cls := "TalkKnotsModel", name := "move", desc := "(II)I" } : Jvm.MethodName) ({ cls := "TalkKnotsModel", name := "move", desc := "(II)I" } : Jvm.MethodName) ∈ kw := km5 30 rfl rfl
theorem kw_5_31 : Jvm.Cond.code ({ cls := "TalkKnotsModel", name := "move", desc := "(II)I" } : Jvm.MethodName) prog_8_method_55_code (7 : Nat) (Option.some Jvm.ClassFile.FieldType.int) ∈ kw := km5 31 rfl rfl
theorem kw_5_32 : Jvm.Cond.methodLink "TalkKnotsLaw" (111 : Nat) ({ cls := "TalkKnotsModel", name := "calm", desc := "(I)I" } : Jvm.MethodName) ∈ kw := km5 32 rfl rfl
theorem kw_5_33 : Jvm.Cond.instanceMethod ({ cls := "TalkKnotsModel", name := "calm", desc := "(I)I" } : Jvm.MethodName) ∈ kw := km5 33 rfl rfl
theorem kw_5_34 : Jvm.Cond.selects "TalkKnotsModel" ({ cls := "TalkKnotsModel", name := "calm", desc := "(I)I" } : Jvm.MethodName) ({ cls := "TalkKnotsModel", name := "calm", desc := "(I)I" } : Jvm.MethodName) ∈ kw := km5 34 rfl rfl
theorem kw_5_35 : Jvm.Cond.code ({ cls := "TalkKnotsModel", name := "calm", desc := "(I)I" } : Jvm.MethodName) prog_8_method_56_code (6 : Nat) (Option.some Jvm.ClassFile.FieldType.int) ∈ kw := km5 35 rfl rfl
theorem kw_5_36 : Jvm.Cond.methodLink "TalkKnotsLaw" (115 : Nat) ({ cls := "TalkKnotsModel", name := "firmest", desc := "(I)I" } : Jvm.MethodName) ∈ kw := km5 36 rfl rfl
theorem kw_5_37 : Jvm.Cond.instanceMethod ({ cls := "TalkKnotsModel", name := "firmest", desc := "(I)I" } : Jvm.MethodName) ∈ kw := km5 37 rfl rfl
theorem kw_5_38 : Jvm.Cond.selects "TalkKnotsModel" ({ cls := "TalkKnotsModel", name := "firmest", desc := "(I)I" } : Jvm.MethodName) ({ cls := "TalkKnotsModel", name := "firmest", desc := "(I)I" } : Jvm.MethodName) ∈ kw := km5 38 rfl rfl
theorem kw_5_39 : Jvm.Cond.code ({ cls := "TalkKnotsModel", name := "firmest", desc := "(I)I" } : Jvm.MethodName) prog_8_method_57_code (4 : Nat) (Option.some Jvm.ClassFile.FieldType.int) ∈ kw := km5 39 rfl rfl
theorem kw_5_40 : Jvm.Cond.methodLink "TalkKnotsLaw" (119 : Nat) ({ cls := "TalkKnotsModel", name := "feed", desc := "(II)I" } : Jvm.MethodName) ∈ kw := km5 40 rfl rfl
theorem kw_5_41 : Jvm.Cond.instanceMethod ({ cls := "TalkKnotsModel", name := "feed", desc := "(II)I" } : Jvm.MethodName) ∈ kw := km5 41 rfl rfl
theorem kw_5_42 : Jvm.Cond.selects "TalkKnotsModel" ({ cls := "TalkKnotsModel", name := "feed", desc := "(II)I" } : Jvm.MethodName) ({ cls := "TalkKnotsModel", name := "feed", desc := "(II)I" } : Jvm.MethodName) ∈ kw := km5 42 rfl rfl
theorem kw_5_43 : Jvm.Cond.code ({ cls := "TalkKnotsModel", name := "feed", desc := "(II)I" } : Jvm.MethodName) prog_8_method_58_code (4 : Nat) (Option.some Jvm.ClassFile.FieldType.int) ∈ kw := km5 43 rfl rfl
theorem kw_5_44 : Jvm.Cond.methodLink "TalkKnotsLaw" (124 : Nat) ({ cls := "TalkKnotsModel", name := "wipe", desc := "()I" } : Jvm.MethodName) ∈ kw := km5 44 rfl rfl
theorem kw_5_45 : Jvm.Cond.instanceMethod ({ cls := "TalkKnotsModel", name := "wipe", desc := "()I" } : Jvm.MethodName) ∈ kw := km5 45 rfl rfl
theorem kw_5_46 : Jvm.Cond.selects "TalkKnotsModel" ({ cls := "TalkKnotsModel", name := "wipe", desc := "()I" } : Jvm.MethodName) ({ cls := "TalkKnotsModel", name := "wipe", desc := "()I" } : Jvm.MethodName) ∈ kw := km5 46 rfl rfl
theorem kw_5_47 : Jvm.Cond.code ({ cls := "TalkKnotsModel", name := "wipe", desc := "()I" } : Jvm.MethodName) prog_8_method_59_code (2 : Nat) (Option.some Jvm.ClassFile.FieldType.int) ∈ kw := km5 47 rfl rfl
theorem kw_5_48 : Jvm.Cond.methodLink "TalkKnotsLaw" (128 : Nat) ({ cls := "TalkKnotsModel", name := "yard", desc := "()I" } : Jvm.MethodName) ∈ kw := km5 48 rfl rfl
theorem kw_5_49 : Jvm.Cond.instanceMethod ({ cls := "TalkKnotsModel", name := "yard", desc := "()I" } : Jvm.MethodName) ∈ kw := km5 49 rfl rfl
theorem kw_5_50 : Jvm.Cond.selects "TalkKnotsModel" ({ cls := "TalkKnotsModel", name := "yard", desc := "()I" } : Jvm.MethodName) ({ cls := "TalkKnotsModel", name := "yard", desc := "()I" } : Jvm.MethodName) ∈ kw := km5 50 rfl rfl
theorem kw_5_51 : Jvm.Cond.code ({ cls := "TalkKnotsModel", name := "yard", desc := "()I" } : Jvm.MethodName) prog_8_method_73_code (3 : Nat) (Option.some Jvm.ClassFile.FieldType.int) ∈ kw := km5 51 rfl rfl
theorem kw_5_52 : Jvm.Cond.methodLink "TalkKnotsModel" (213 : Nat) ({ cls := "TalkKnotsModel", name := "advance", desc := "()V" } : Jvm.MethodName) ∈ kw := km5 52 rfl rfl
theorem kw_5_54 : Jvm.Cond.instanceMethod ({ cls := "TalkKnotsModel", name := "advance", desc := "()V" } : Jvm.MethodName) ∈ kw := km5 54 rfl rfl
theorem kw_5_55 : Jvm.Cond.code ({ cls := "TalkKnotsModel", name := "advance", desc := "()V" } : Jvm.MethodName) prog_8_method_63_code (2 : Nat) (Option.none : Option Jvm.ClassFile.FieldType) ∈ kw := km5 55 rfl rfl
theorem kw_5_56 : Jvm.Cond.methodLink "TalkKnotsModel" (168 : Nat) ({ cls := "TalkKnotsModel", name := "byteAt", desc := "(I)I" } : Jvm.MethodName) ∈ kw := km5 56 rfl rfl
theorem kw_5_58 : Jvm.Cond.instanceMethod ({ cls := "TalkKnotsModel", name := "byteAt", desc := "(I)I" } : Jvm.MethodName) ∈ kw := km5 58 rfl rfl
theorem kw_5_59 : Jvm.Cond.code ({ cls := "TalkKnotsModel", name := "byteAt", desc := "(I)I" } : Jvm.MethodName) prog_8_method_60_code (2 : Nat) (Option.some Jvm.ClassFile.FieldType.int) ∈ kw := km5 59 rfl rfl
theorem kw_5_60 : Jvm.Cond.methodLink "TalkKnotsModel" (171 : Nat) ({ cls := "TalkKnotsModel", name := "isLetter", desc := "(I)Z" } : Jvm.MethodName) ∈ kw := km5 60 rfl rfl
theorem kw_5_61 : Jvm.Cond.static ({ cls := "TalkKnotsModel", name := "isLetter", desc := "(I)Z" } : Jvm.MethodName) ∈ kw := km5 61 rfl rfl
theorem kw_5_62 : Jvm.Cond.code ({ cls := "TalkKnotsModel", name := "isLetter", desc := "(I)Z" } : Jvm.MethodName) prog_8_method_61_code (1 : Nat) (Option.some Jvm.ClassFile.FieldType.boolean) ∈ kw := km5 62 rfl rfl
theorem kw_5_63 : Jvm.Cond.methodLink "TalkKnotsModel" (174 : Nat) ({ cls := "TalkKnotsModel", name := "isDigit", desc := "(I)Z" } : Jvm.MethodName) ∈ kw := km5 63 rfl rfl
theorem kw_5_64 : Jvm.Cond.static ({ cls := "TalkKnotsModel", name := "isDigit", desc := "(I)Z" } : Jvm.MethodName) ∈ kw := km5 64 rfl rfl
theorem kw_5_65 : Jvm.Cond.code ({ cls := "TalkKnotsModel", name := "isDigit", desc := "(I)Z" } : Jvm.MethodName) prog_8_method_62_code (1 : Nat) (Option.some Jvm.ClassFile.FieldType.boolean) ∈ kw := km5 65 rfl rfl
theorem kw_5_66 : Jvm.Cond.constantLong "TalkKnotsModel" (187 : Nat) (27 : Int64) ∈ kw := km5 66 rfl rfl
theorem kw_5_67 : Jvm.Cond.constantLong "TalkKnotsModel" (189 : Nat) (96 : Int64) ∈ kw := km5 67 rfl rfl
theorem kw_5_68 : Jvm.Cond.constantLong "TalkKnotsModel" (191 : Nat) (-1 : Int64) ∈ kw := km5 68 rfl rfl
theorem kw_5_69 : Jvm.Cond.methodLink "TalkKnotsModel" (250 : Nat) ({ cls := "TalkKnotsModel", name := "wantItem", desc := "()V" } : Jvm.MethodName) ∈ kw := km5 69 rfl rfl
theorem kw_5_71 : Jvm.Cond.instanceMethod ({ cls := "TalkKnotsModel", name := "wantItem", desc := "()V" } : Jvm.MethodName) ∈ kw := km5 71 rfl rfl
theorem kw_5_72 : Jvm.Cond.code ({ cls := "TalkKnotsModel", name := "wantItem", desc := "()V" } : Jvm.MethodName) prog_8_method_72_code (2 : Nat) (Option.none : Option Jvm.ClassFile.FieldType) ∈ kw := km5 72 rfl rfl
theorem kw_5_73 : Jvm.Cond.methodLink "TalkKnotsModel" (232 : Nat) ({ cls := "TalkKnotsModel", name := "kindHere", desc := "()I" } : Jvm.MethodName) ∈ kw := km5 73 rfl rfl
theorem kw_5_75 : Jvm.Cond.instanceMethod ({ cls := "TalkKnotsModel", name := "kindHere", desc := "()I" } : Jvm.MethodName) ∈ kw := km5 75 rfl rfl
theorem kw_5_76 : Jvm.Cond.code ({ cls := "TalkKnotsModel", name := "kindHere", desc := "()I" } : Jvm.MethodName) prog_8_method_65_code (1 : Nat) (Option.some Jvm.ClassFile.FieldType.int) ∈ kw := km5 76 rfl rfl
theorem kw_5_77 : Jvm.Cond.constantLong "TalkKnotsModel" (193 : Nat) (227144 : Int64) ∈ kw := km5 77 rfl rfl
theorem kw_5_78 : Jvm.Cond.methodLink "TalkKnotsModel" (195 : Nat) ({ cls := "TalkKnotsModel", name := "isWord", desc := "(J)Z" } : Jvm.MethodName) ∈ kw := km5 78 rfl rfl
theorem kw_5_80 : Jvm.Cond.instanceMethod ({ cls := "TalkKnotsModel", name := "isWord", desc := "(J)Z" } : Jvm.MethodName) ∈ kw := km5 80 rfl rfl
theorem kw_5_81 : Jvm.Cond.code ({ cls := "TalkKnotsModel", name := "isWord", desc := "(J)Z" } : Jvm.MethodName) prog_8_method_64_code (3 : Nat) (Option.some Jvm.ClassFile.FieldType.boolean) ∈ kw := km5 81 rfl rfl
theorem kw_5_82 : Jvm.Cond.constantLong "TalkKnotsModel" (199 : Nat) (281375132 : Int64) ∈ kw := km5 82 rfl rfl
theorem kw_5_83 : Jvm.Cond.constantLong "TalkKnotsModel" (201 : Nat) (4443344 : Int64) ∈ kw := km5 83 rfl rfl
theorem kw_5_84 : Jvm.Cond.constantLong "TalkKnotsModel" (203 : Nat) (129450 : Int64) ∈ kw := km5 84 rfl rfl
theorem kw_5_85 : Jvm.Cond.constantLong "TalkKnotsModel" (205 : Nat) (115789410 : Int64) ∈ kw := km5 85 rfl rfl
theorem kw_5_86 : Jvm.Cond.constantLong "TalkKnotsModel" (207 : Nat) (16466 : Int64) ∈ kw := km5 86 rfl rfl
theorem kw_5_87 : Jvm.Cond.methodLink "TalkKnotsModel" (235 : Nat) ({ cls := "TalkKnotsModel", name := "wantOne", desc := "(I)V" } : Jvm.MethodName) ∈ kw := km5 87 rfl rfl
theorem kw_5_89 : Jvm.Cond.instanceMethod ({ cls := "TalkKnotsModel", name := "wantOne", desc := "(I)V" } : Jvm.MethodName) ∈ kw := km5 89 rfl rfl
theorem kw_5_90 : Jvm.Cond.code ({ cls := "TalkKnotsModel", name := "wantOne", desc := "(I)V" } : Jvm.MethodName) prog_8_method_69_code (5 : Nat) (Option.none : Option Jvm.ClassFile.FieldType) ∈ kw := km5 90 rfl rfl
theorem kw_5_91 : Jvm.Cond.methodLink "TalkKnotsModel" (216 : Nat) ({ cls := "TalkKnotsModel", name := "wantNumber", desc := "(II)I" } : Jvm.MethodName) ∈ kw := km5 91 rfl rfl
theorem kw_5_93 : Jvm.Cond.instanceMethod ({ cls := "TalkKnotsModel", name := "wantNumber", desc := "(II)I" } : Jvm.MethodName) ∈ kw := km5 93 rfl rfl
theorem kw_5_94 : Jvm.Cond.code ({ cls := "TalkKnotsModel", name := "wantNumber", desc := "(II)I" } : Jvm.MethodName) prog_8_method_66_code (4 : Nat) (Option.some Jvm.ClassFile.FieldType.int) ∈ kw := km5 94 rfl rfl
theorem kw_5_95 : Jvm.Cond.constantLong "TalkKnotsModel" (219 : Nat) (307058 : Int64) ∈ kw := km5 95 rfl rfl
theorem kw_5_96 : Jvm.Cond.methodLink "TalkKnotsModel" (221 : Nat) ({ cls := "TalkKnotsModel", name := "mayWant", desc := "(JIII)I" } : Jvm.MethodName) ∈ kw := km5 96 rfl rfl
theorem kw_5_98 : Jvm.Cond.instanceMethod ({ cls := "TalkKnotsModel", name := "mayWant", desc := "(JIII)I" } : Jvm.MethodName) ∈ kw := km5 98 rfl rfl
theorem kw_5_99 : Jvm.Cond.code ({ cls := "TalkKnotsModel", name := "mayWant", desc := "(JIII)I" } : Jvm.MethodName) prog_8_method_67_code (6 : Nat) (Option.some Jvm.ClassFile.FieldType.int) ∈ kw := km5 99 rfl rfl
theorem kw_5_100 : Jvm.Cond.constantLong "TalkKnotsModel" (225 : Nat) (6683990 : Int64) ∈ kw := km5 100 rfl rfl
theorem kw_5_101 : Jvm.Cond.methodLink "TalkKnotsModel" (227 : Nat) ({ cls := "TalkKnotsModel", name := "may", desc := "(J)Z" } : Jvm.MethodName) ∈ kw := km5 101 rfl rfl
theorem kw_5_103 : Jvm.Cond.instanceMethod ({ cls := "TalkKnotsModel", name := "may", desc := "(J)Z" } : Jvm.MethodName) ∈ kw := km5 103 rfl rfl
theorem kw_5_104 : Jvm.Cond.code ({ cls := "TalkKnotsModel", name := "may", desc := "(J)Z" } : Jvm.MethodName) prog_8_method_68_code (4 : Nat) (Option.some Jvm.ClassFile.FieldType.boolean) ∈ kw := km5 104 rfl rfl
theorem kw_5_105 : Jvm.Cond.constantLong "TalkKnotsModel" (238 : Nat) (257141 : Int64) ∈ kw := km5 105 rfl rfl
theorem kw_5_106 : Jvm.Cond.methodLink "TalkKnotsModel" (240 : Nat) ({ cls := "TalkKnotsModel", name := "wantMast", desc := "()V" } : Jvm.MethodName) ∈ kw := km5 106 rfl rfl
theorem kw_5_108 : Jvm.Cond.instanceMethod ({ cls := "TalkKnotsModel", name := "wantMast", desc := "()V" } : Jvm.MethodName) ∈ kw := km5 108 rfl rfl
theorem kw_5_109 : Jvm.Cond.code ({ cls := "TalkKnotsModel", name := "wantMast", desc := "()V" } : Jvm.MethodName) prog_8_method_70_code (4 : Nat) (Option.none : Option Jvm.ClassFile.FieldType) ∈ kw := km5 109 rfl rfl
theorem kw_5_110 : Jvm.Cond.constantLong "TalkKnotsModel" (230 : Nat) (90302 : Int64) ∈ kw := km5 110 rfl rfl
theorem kw_5_111 : Jvm.Cond.constantLong "TalkKnotsModel" (243 : Nat) (459652 : Int64) ∈ kw := km5 111 rfl rfl
theorem kw_5_112 : Jvm.Cond.methodLink "TalkKnotsModel" (245 : Nat) ({ cls := "TalkKnotsModel", name := "wantWind", desc := "()V" } : Jvm.MethodName) ∈ kw := km5 112 rfl rfl
theorem kw_5_114 : Jvm.Cond.instanceMethod ({ cls := "TalkKnotsModel", name := "wantWind", desc := "()V" } : Jvm.MethodName) ∈ kw := km5 114 rfl rfl
theorem kw_5_115 : Jvm.Cond.code ({ cls := "TalkKnotsModel", name := "wantWind", desc := "()V" } : Jvm.MethodName) prog_8_method_71_code (3 : Nat) (Option.none : Option Jvm.ClassFile.FieldType) ∈ kw := km5 115 rfl rfl
theorem kw_5_116 : Jvm.Cond.constantLong "TalkKnotsModel" (248 : Nat) (10728482 : Int64) ∈ kw := km5 116 rfl rfl
theorem kw_5_117 : Jvm.Cond.methodLink "TalkKnotsLaw" (132 : Nat) ({ cls := "TalkKnotsModel", name := "sheet", desc := "(III)I" } : Jvm.MethodName) ∈ kw := km5 117 rfl rfl
theorem kw_5_118 : Jvm.Cond.instanceMethod ({ cls := "TalkKnotsModel", name := "sheet", desc := "(III)I" } : Jvm.MethodName) ∈ kw := km5 118 rfl rfl
theorem kw_5_119 : Jvm.Cond.selects "TalkKnotsModel" ({ cls := "TalkKnotsModel", name := "sheet", desc := "(III)I" } : Jvm.MethodName) ({ cls := "TalkKnotsModel", name := "sheet", desc := "(III)I" } : Jvm.MethodName) ∈ kw := km5 119 rfl rfl
theorem kw_5_120 : Jvm.Cond.code ({ cls := "TalkKnotsModel", name := "sheet", desc := "(III)I" } : Jvm.MethodName) prog_8_method_76_code (5 : Nat) (Option.some Jvm.ClassFile.FieldType.int) ∈ kw := km5 120 rfl rfl
theorem kw_5_121 : Jvm.Cond.methodLink "TalkKnotsModel" (253 : Nat) ({ cls := "TalkKnotsModel", name := "isSheet", desc := "(I)Z" } : Jvm.MethodName) ∈ kw := km5 121 rfl rfl
theorem kw_5_122 : Jvm.Cond.static ({ cls := "TalkKnotsModel", name := "isSheet", desc := "(I)Z" } : Jvm.MethodName) ∈ kw := km5 122 rfl rfl
theorem kw_5_123 : Jvm.Cond.code ({ cls := "TalkKnotsModel", name := "isSheet", desc := "(I)Z" } : Jvm.MethodName) prog_8_method_74_code (1 : Nat) (Option.some Jvm.ClassFile.FieldType.boolean) ∈ kw := km5 123 rfl rfl
theorem kw_5_124 : Jvm.Cond.constant "TalkKnotsModel" (256 : Nat) (-1000000007 : Int32) ∈ kw := km5 124 rfl rfl
theorem kw_5_125 : Jvm.Cond.methodLink "TalkKnotsLaw" (139 : Nat) ({ cls := "TalkKnotsModel", name := "write", desc := "(IIJ)J" } : Jvm.MethodName) ∈ kw := km5 125 rfl rfl
theorem kw_5_126 : Jvm.Cond.instanceMethod ({ cls := "TalkKnotsModel", name := "write", desc := "(IIJ)J" } : Jvm.MethodName) ∈ kw := km5 126 rfl rfl
theorem kw_5_127 : Jvm.Cond.selects "TalkKnotsModel" ({ cls := "TalkKnotsModel", name := "write", desc := "(IIJ)J" } : Jvm.MethodName) ({ cls := "TalkKnotsModel", name := "write", desc := "(IIJ)J" } : Jvm.MethodName) ∈ kw := km5 127 rfl rfl
theorem kw_5_128 : Jvm.Cond.code ({ cls := "TalkKnotsModel", name := "write", desc := "(IIJ)J" } : Jvm.MethodName) prog_8_method_77_code (7 : Nat) (Option.some Jvm.ClassFile.FieldType.long) ∈ kw := km5 128 rfl rfl
theorem kw_5_129 : Jvm.Cond.constant "TalkKnotsModel" (257 : Nat) (-1000000006 : Int32) ∈ kw := km5 129 rfl rfl
theorem kw_5_130 : Jvm.Cond.methodLink "TalkKnotsModel" (258 : Nat) ({ cls := "TalkKnotsModel", name := "narrow", desc := "(IJ)J" } : Jvm.MethodName) ∈ kw := km5 130 rfl rfl
theorem kw_5_131 : Jvm.Cond.static ({ cls := "TalkKnotsModel", name := "narrow", desc := "(IJ)J" } : Jvm.MethodName) ∈ kw := km5 131 rfl rfl
theorem kw_5_132 : Jvm.Cond.code ({ cls := "TalkKnotsModel", name := "narrow", desc := "(IJ)J" } : Jvm.MethodName) prog_8_method_75_code (3 : Nat) (Option.some Jvm.ClassFile.FieldType.long) ∈ kw := km5 132 rfl rfl
theorem kw_5_133 : Jvm.Cond.methodLink "TalkKnotsLaw" (144 : Nat) ({ cls := "TalkKnotsModel", name := "copy", desc := "(IIIII)I" } : Jvm.MethodName) ∈ kw := km5 133 rfl rfl
theorem kw_5_134 : Jvm.Cond.instanceMethod ({ cls := "TalkKnotsModel", name := "copy", desc := "(IIIII)I" } : Jvm.MethodName) ∈ kw := km5 134 rfl rfl
theorem kw_5_135 : Jvm.Cond.selects "TalkKnotsModel" ({ cls := "TalkKnotsModel", name := "copy", desc := "(IIIII)I" } : Jvm.MethodName) ({ cls := "TalkKnotsModel", name := "copy", desc := "(IIIII)I" } : Jvm.MethodName) ∈ kw := km5 135 rfl rfl
theorem kw_5_136 : Jvm.Cond.code ({ cls := "TalkKnotsModel", name := "copy", desc := "(IIIII)I" } : Jvm.MethodName) prog_8_method_79_code (7 : Nat) (Option.some Jvm.ClassFile.FieldType.int) ∈ kw := km5 136 rfl rfl
theorem kw_5_137 : Jvm.Cond.methodLink "TalkKnotsModel" (262 : Nat) ({ cls := "TalkKnotsModel", name := "isPart", desc := "(III)Z" } : Jvm.MethodName) ∈ kw := km5 137 rfl rfl
theorem kw_5_139 : Jvm.Cond.instanceMethod ({ cls := "TalkKnotsModel", name := "isPart", desc := "(III)Z" } : Jvm.MethodName) ∈ kw := km5 139 rfl rfl
theorem kw_5_140 : Jvm.Cond.code ({ cls := "TalkKnotsModel", name := "isPart", desc := "(III)Z" } : Jvm.MethodName) prog_8_method_78_code (4 : Nat) (Option.some Jvm.ClassFile.FieldType.boolean) ∈ kw := km5 140 rfl rfl
theorem kw_5_141 : Jvm.Cond.methodLink "TalkKnotsLaw" (148 : Nat) ({ cls := "TalkKnotsModel", name := "lays", desc := "(I)I" } : Jvm.MethodName) ∈ kw := km5 141 rfl rfl
theorem kw_5_142 : Jvm.Cond.instanceMethod ({ cls := "TalkKnotsModel", name := "lays", desc := "(I)I" } : Jvm.MethodName) ∈ kw := km5 142 rfl rfl
theorem kw_5_143 : Jvm.Cond.selects "TalkKnotsModel" ({ cls := "TalkKnotsModel", name := "lays", desc := "(I)I" } : Jvm.MethodName) ({ cls := "TalkKnotsModel", name := "lays", desc := "(I)I" } : Jvm.MethodName) ∈ kw := km5 143 rfl rfl
theorem kw_5_144 : Jvm.Cond.code ({ cls := "TalkKnotsModel", name := "lays", desc := "(I)I" } : Jvm.MethodName) prog_8_method_81_code (7 : Nat) (Option.some Jvm.ClassFile.FieldType.int) ∈ kw := km5 144 rfl rfl
theorem kw_5_145 : Jvm.Cond.methodLink "TalkKnotsModel" (264 : Nat) ({ cls := "TalkKnotsModel", name := "badSheet", desc := "(I)I" } : Jvm.MethodName) ∈ kw := km5 145 rfl rfl
theorem kw_5_147 : Jvm.Cond.instanceMethod ({ cls := "TalkKnotsModel", name := "badSheet", desc := "(I)I" } : Jvm.MethodName) ∈ kw := km5 147 rfl rfl
theorem kw_5_148 : Jvm.Cond.code ({ cls := "TalkKnotsModel", name := "badSheet", desc := "(I)I" } : Jvm.MethodName) prog_8_method_80_code (2 : Nat) (Option.some Jvm.ClassFile.FieldType.int) ∈ kw := km5 148 rfl rfl
theorem kw_5_149 : Jvm.Cond.constantLong "TalkKnotsModel" (267 : Nat) (99 : Int64) ∈ kw := km5 149 rfl rfl
theorem kw_5_150 : Jvm.Cond.methodLink "TalkKnotsLaw" (152 : Nat) ({ cls := "TalkKnotsModel", name := "book", desc := "(II)I" } : Jvm.MethodName) ∈ kw := km5 150 rfl rfl
theorem kw_5_151 : Jvm.Cond.instanceMethod ({ cls := "TalkKnotsModel", name := "book", desc := "(II)I" } : Jvm.MethodName) ∈ kw := km5 151 rfl rfl
theorem kw_5_152 : Jvm.Cond.selects "TalkKnotsModel" ({ cls := "TalkKnotsModel", name := "book", desc := "(II)I" } : Jvm.MethodName) ({ cls := "TalkKnotsModel", name := "book", desc := "(II)I" } : Jvm.MethodName) ∈ kw := km5 152 rfl rfl
theorem kw_5_153 : Jvm.Cond.code ({ cls := "TalkKnotsModel", name := "book", desc := "(II)I" } : Jvm.MethodName) prog_8_method_82_code (5 : Nat) (Option.some Jvm.ClassFile.FieldType.int) ∈ kw := km5 153 rfl rfl
theorem kw_5_154 : Jvm.Cond.methodLink "TalkKnotsLaw" (156 : Nat) ({ cls := "TalkKnotsModel", name := "read", desc := "(II)I" } : Jvm.MethodName) ∈ kw := km5 154 rfl rfl
theorem kw_5_155 : Jvm.Cond.instanceMethod ({ cls := "TalkKnotsModel", name := "read", desc := "(II)I" } : Jvm.MethodName) ∈ kw := km5 155 rfl rfl
theorem kw_5_156 : Jvm.Cond.selects "TalkKnotsModel" ({ cls := "TalkKnotsModel", name := "read", desc := "(II)I" } : Jvm.MethodName) ({ cls := "TalkKnotsModel", name := "read", desc := "(II)I" } : Jvm.MethodName) ∈ kw := km5 156 rfl rfl
theorem kw_5_157 : Jvm.Cond.code ({ cls := "TalkKnotsModel", name := "read", desc := "(II)I" } : Jvm.MethodName) prog_8_method_84_code (6 : Nat) (Option.some Jvm.ClassFile.FieldType.int) ∈ kw := km5 157 rfl rfl
theorem kw_5_158 : Jvm.Cond.methodLink "TalkKnotsModel" (269 : Nat) ({ cls := "TalkKnotsModel", name := "isSo", desc := "(II)Z" } : Jvm.MethodName) ∈ kw := km5 158 rfl rfl
theorem kw_5_160 : Jvm.Cond.instanceMethod ({ cls := "TalkKnotsModel", name := "isSo", desc := "(II)Z" } : Jvm.MethodName) ∈ kw := km5 160 rfl rfl
theorem kw_5_161 : Jvm.Cond.code ({ cls := "TalkKnotsModel", name := "isSo", desc := "(II)Z" } : Jvm.MethodName) prog_8_method_83_code (5 : Nat) (Option.some Jvm.ClassFile.FieldType.boolean) ∈ kw := km5 161 rfl rfl
theorem kw_5_162 : Jvm.Cond.methodLink "TalkKnotsLaw" (160 : Nat) ({ cls := "TalkKnotsModel", name := "image", desc := "()I" } : Jvm.MethodName) ∈ kw := km5 162 rfl rfl
theorem kw_5_163 : Jvm.Cond.instanceMethod ({ cls := "TalkKnotsModel", name := "image", desc := "()I" } : Jvm.MethodName) ∈ kw := km5 163 rfl rfl
theorem kw_5_164 : Jvm.Cond.selects "TalkKnotsModel" ({ cls := "TalkKnotsModel", name := "image", desc := "()I" } : Jvm.MethodName) ({ cls := "TalkKnotsModel", name := "image", desc := "()I" } : Jvm.MethodName) ∈ kw := km5 164 rfl rfl
theorem kw_5_165 : Jvm.Cond.code ({ cls := "TalkKnotsModel", name := "image", desc := "()I" } : Jvm.MethodName) prog_8_method_86_code (1 : Nat) (Option.some Jvm.ClassFile.FieldType.int) ∈ kw := km5 165 rfl rfl
theorem kw_5_166 : Jvm.Cond.methodLink "TalkKnotsLaw" (164 : Nat) ({ cls := "TalkKnotsModel", name := "undo", desc := "()I" } : Jvm.MethodName) ∈ kw := km5 166 rfl rfl
theorem kw_5_167 : Jvm.Cond.instanceMethod ({ cls := "TalkKnotsModel", name := "undo", desc := "()I" } : Jvm.MethodName) ∈ kw := km5 167 rfl rfl
theorem kw_5_168 : Jvm.Cond.selects "TalkKnotsModel" ({ cls := "TalkKnotsModel", name := "undo", desc := "()I" } : Jvm.MethodName) ({ cls := "TalkKnotsModel", name := "undo", desc := "()I" } : Jvm.MethodName) ∈ kw := km5 168 rfl rfl
theorem kw_5_169 : Jvm.Cond.code ({ cls := "TalkKnotsModel", name := "undo", desc := "()I" } : Jvm.MethodName) prog_8_method_87_code (1 : Nat) (Option.some Jvm.ClassFile.FieldType.int) ∈ kw := km5 169 rfl rfl
theorem kw_5_170 : Jvm.Cond.methodLink "TalkKnotsLaw" (168 : Nat) ({ cls := "TalkKnotsModel", name := "tear", desc := "()I" } : Jvm.MethodName) ∈ kw := km5 170 rfl rfl
theorem kw_5_171 : Jvm.Cond.instanceMethod ({ cls := "TalkKnotsModel", name := "tear", desc := "()I" } : Jvm.MethodName) ∈ kw := km5 171 rfl rfl
theorem kw_5_172 : Jvm.Cond.selects "TalkKnotsModel" ({ cls := "TalkKnotsModel", name := "tear", desc := "()I" } : Jvm.MethodName) ({ cls := "TalkKnotsModel", name := "tear", desc := "()I" } : Jvm.MethodName) ∈ kw := km5 172 rfl rfl
theorem kw_5_173 : Jvm.Cond.code ({ cls := "TalkKnotsModel", name := "tear", desc := "()I" } : Jvm.MethodName) prog_8_method_88_code (2 : Nat) (Option.some Jvm.ClassFile.FieldType.int) ∈ kw := km5 173 rfl rfl
theorem kw_5_174 : Jvm.Cond.methodLink "TalkKnotsLaw" (172 : Nat) ({ cls := "TalkKnotsModel", name := "count", desc := "(I)I" } : Jvm.MethodName) ∈ kw := km5 174 rfl rfl
theorem kw_5_175 : Jvm.Cond.instanceMethod ({ cls := "TalkKnotsModel", name := "count", desc := "(I)I" } : Jvm.MethodName) ∈ kw := km5 175 rfl rfl
theorem kw_5_176 : Jvm.Cond.selects "TalkKnotsModel" ({ cls := "TalkKnotsModel", name := "count", desc := "(I)I" } : Jvm.MethodName) ({ cls := "TalkKnotsModel", name := "count", desc := "(I)I" } : Jvm.MethodName) ∈ kw := km5 176 rfl rfl
theorem kw_5_177 : Jvm.Cond.code ({ cls := "TalkKnotsModel", name := "count", desc := "(I)I" } : Jvm.MethodName) prog_8_method_90_code (2 : Nat) (Option.some Jvm.ClassFile.FieldType.int) ∈ kw := km5 177 rfl rfl
theorem kw_5_178 : Jvm.Cond.methodLink "TalkKnotsModel" (275 : Nat) ({ cls := "TalkKnotsModel", name := "weights", desc := "()I" } : Jvm.MethodName) ∈ kw := km5 178 rfl rfl
theorem kw_5_180 : Jvm.Cond.instanceMethod ({ cls := "TalkKnotsModel", name := "weights", desc := "()I" } : Jvm.MethodName) ∈ kw := km5 180 rfl rfl
theorem kw_5_181 : Jvm.Cond.code ({ cls := "TalkKnotsModel", name := "weights", desc := "()I" } : Jvm.MethodName) prog_8_method_89_code (3 : Nat) (Option.some Jvm.ClassFile.FieldType.int) ∈ kw := km5 181 rfl rfl
theorem kw_5_182 : Jvm.Cond.methodLink "TalkKnotsLaw" (176 : Nat) ({ cls := "TalkKnotsModel", name := "status", desc := "(I)I" } : Jvm.MethodName) ∈ kw := km5 182 rfl rfl
theorem kw_5_183 : Jvm.Cond.instanceMethod ({ cls := "TalkKnotsModel", name := "status", desc := "(I)I" } : Jvm.MethodName) ∈ kw := km5 183 rfl rfl
theorem kw_5_184 : Jvm.Cond.selects "TalkKnotsModel" ({ cls := "TalkKnotsModel", name := "status", desc := "(I)I" } : Jvm.MethodName) ({ cls := "TalkKnotsModel", name := "status", desc := "(I)I" } : Jvm.MethodName) ∈ kw := km5 184 rfl rfl
theorem kw_5_185 : Jvm.Cond.code ({ cls := "TalkKnotsModel", name := "status", desc := "(I)I" } : Jvm.MethodName) prog_8_method_91_code (4 : Nat) (Option.some Jvm.ClassFile.FieldType.int) ∈ kw := km5 185 rfl rfl
theorem kw_5_186 : Jvm.Cond.constantLong "TalkKnotsLaw" (133 : Nat) (4294967295 : Int64) ∈ kw := km5 186 rfl rfl
theorem kw_5_187 : Jvm.Cond.fieldLink "java/lang/String" (9 : Nat) "java/lang/String" "value" "[B" ∈ kw := km5 187 rfl rfl
theorem kw_5_188 : Jvm.Cond.fieldLink "java/lang/String" (15 : Nat) "java/lang/String" "coder" "B" ∈ kw := km5 188 rfl rfl
theorem kw_0_0 : Jvm.Cond.selects "TalkKnots" ({ cls := "TalkKnots", name := "tell", desc := "(I)I" } : Jvm.MethodName) ({ cls := "TalkKnots", name := "tell", desc := "(I)I" } : Jvm.MethodName) ∈ kw := km0 0 rfl rfl
theorem kw_0_1 : Jvm.Cond.selects "TalkKnots$Yard" ({ cls := "TalkKnots$Yard", name := "countFast", desc := "()V" } : Jvm.MethodName) ({ cls := "TalkKnots$Yard", name := "countFast", desc := "()V" } : Jvm.MethodName) ∈ kw := km0 1 rfl rfl
theorem kw_0_2 : Jvm.Cond.selects "TalkKnots$Yard" ({ cls := "TalkKnots$Yard", name := "strain", desc := "(II)I" } : Jvm.MethodName) ({ cls := "TalkKnots$Yard", name := "strain", desc := "(II)I" } : Jvm.MethodName) ∈ kw := km0 2 rfl rfl
theorem kw_0_3 : Jvm.Cond.selects "TalkKnots$Yard" ({ cls := "TalkKnots$Yard", name := "heldBy", desc := "(LTalkKnots$Knot;I)I" } : Jvm.MethodName) ({ cls := "TalkKnots$Yard", name := "heldBy", desc := "(LTalkKnots$Knot;I)I" } : Jvm.MethodName) ∈ kw := km0 3 rfl rfl
theorem kw_0_4 : Jvm.Cond.selects "TalkKnots$Knot" ({ cls := "TalkKnots$Knot", name := "spliceHolding", desc := "()I" } : Jvm.MethodName) ({ cls := "TalkKnots$Knot", name := "spliceHolding", desc := "()I" } : Jvm.MethodName) ∈ kw := km0 4 rfl rfl
theorem kw_0_5 : Jvm.Cond.selects "TalkKnots" ({ cls := "TalkKnots", name := "isKnot", desc := "(I)Z" } : Jvm.MethodName) ({ cls := "TalkKnots", name := "isKnot", desc := "(I)Z" } : Jvm.MethodName) ∈ kw := km0 5 rfl rfl
theorem kw_0_6 : Jvm.Cond.selects "TalkKnots$Knot" ({ cls := "TalkKnots$Knot", name := "openBy", desc := "(I)V" } : Jvm.MethodName) ({ cls := "TalkKnots$Knot", name := "openBy", desc := "(I)V" } : Jvm.MethodName) ∈ kw := km0 6 rfl rfl
theorem kw_0_7 : Jvm.Cond.selects "TalkKnots$Yard" ({ cls := "TalkKnots$Yard", name := "letGo", desc := "(I)V" } : Jvm.MethodName) ({ cls := "TalkKnots$Yard", name := "letGo", desc := "(I)V" } : Jvm.MethodName) ∈ kw := km0 7 rfl rfl
theorem kw_0_8 : Jvm.Cond.selects "TalkKnots$Yard" ({ cls := "TalkKnots$Yard", name := "dropMasts", desc := "()V" } : Jvm.MethodName) ({ cls := "TalkKnots$Yard", name := "dropMasts", desc := "()V" } : Jvm.MethodName) ∈ kw := km0 8 rfl rfl
theorem kw_0_9 : Jvm.Cond.selects "TalkKnots$Yard" ({ cls := "TalkKnots$Yard", name := "settleKnots", desc := "(I)V" } : Jvm.MethodName) ({ cls := "TalkKnots$Yard", name := "settleKnots", desc := "(I)V" } : Jvm.MethodName) ∈ kw := km0 9 rfl rfl
theorem kw_0_10 : Jvm.Cond.selects "TalkKnots$TextReader" ({ cls := "TalkKnots$TextReader", name := "readToken", desc := "()V" } : Jvm.MethodName) ({ cls := "TalkKnots$TextReader", name := "readToken", desc := "()V" } : Jvm.MethodName) ∈ kw := km0 10 rfl rfl
theorem kw_0_11 : Jvm.Cond.selects "TalkKnots$TextReader" ({ cls := "TalkKnots$TextReader", name := "readItem", desc := "()Z" } : Jvm.MethodName) ({ cls := "TalkKnots$TextReader", name := "readItem", desc := "()Z" } : Jvm.MethodName) ∈ kw := km0 11 rfl rfl
theorem kw_0_12 : Jvm.Cond.selects "TalkKnots$TextReader" ({ cls := "TalkKnots$TextReader", name := "takeWord", desc := "(Ljava/lang/String;)Z" } : Jvm.MethodName) ({ cls := "TalkKnots$TextReader", name := "takeWord", desc := "(Ljava/lang/String;)Z" } : Jvm.MethodName) ∈ kw := km0 12 rfl rfl
theorem kw_0_13 : Jvm.Cond.selects "TalkKnots$TextReader" ({ cls := "TalkKnots$TextReader", name := "isWord", desc := "(Ljava/lang/String;)Z" } : Jvm.MethodName) ({ cls := "TalkKnots$TextReader", name := "isWord", desc := "(Ljava/lang/String;)Z" } : Jvm.MethodName) ∈ kw := km0 13 rfl rfl
theorem kw_0_14 : Jvm.Cond.selects "TalkKnots$TextReader" ({ cls := "TalkKnots$TextReader", name := "readMast", desc := "()Z" } : Jvm.MethodName) ({ cls := "TalkKnots$TextReader", name := "readMast", desc := "()Z" } : Jvm.MethodName) ∈ kw := km0 14 rfl rfl
theorem kw_0_15 : Jvm.Cond.selects "TalkKnots$TextReader" ({ cls := "TalkKnots$TextReader", name := "takeNumber", desc := "(I)Z" } : Jvm.MethodName) ({ cls := "TalkKnots$TextReader", name := "takeNumber", desc := "(I)Z" } : Jvm.MethodName) ∈ kw := km0 15 rfl rfl
theorem kw_0_16 : Jvm.Cond.selects "TalkKnots$TextReader" ({ cls := "TalkKnots$TextReader", name := "readWind", desc := "()Z" } : Jvm.MethodName) ({ cls := "TalkKnots$TextReader", name := "readWind", desc := "()Z" } : Jvm.MethodName) ∈ kw := km0 16 rfl rfl
theorem kw_0_17 : Jvm.Cond.selects "TalkKnots$TextReader" ({ cls := "TalkKnots$TextReader", name := "readTease", desc := "()Z" } : Jvm.MethodName) ({ cls := "TalkKnots$TextReader", name := "readTease", desc := "()Z" } : Jvm.MethodName) ∈ kw := km0 17 rfl rfl
theorem kw_0_18 : Jvm.Cond.selects "TalkKnots$TextReader" ({ cls := "TalkKnots$TextReader", name := "readKnot", desc := "()Z" } : Jvm.MethodName) ({ cls := "TalkKnots$TextReader", name := "readKnot", desc := "()Z" } : Jvm.MethodName) ∈ kw := km0 18 rfl rfl
theorem kw_0_19 : Jvm.Cond.selects "TalkKnots$TextReader" ({ cls := "TalkKnots$TextReader", name := "kindTold", desc := "()I" } : Jvm.MethodName) ({ cls := "TalkKnots$TextReader", name := "kindTold", desc := "()I" } : Jvm.MethodName) ∈ kw := km0 19 rfl rfl
theorem kw_0_20 : Jvm.Cond.selects "TalkKnots" ({ cls := "TalkKnots", name := "goesAsTold", desc := "(LTalkKnots$Sheet;III)Z" } : Jvm.MethodName) ({ cls := "TalkKnots", name := "goesAsTold", desc := "(LTalkKnots$Sheet;III)Z" } : Jvm.MethodName) ∈ kw := km0 20 rfl rfl
theorem kw_0_21 : Jvm.Cond.selects "TalkKnots" ({ cls := "TalkKnots", name := "allTold", desc := "()I" } : Jvm.MethodName) ({ cls := "TalkKnots", name := "allTold", desc := "()I" } : Jvm.MethodName) ∈ kw := km0 21 rfl rfl
theorem kw_0_22 : Jvm.Cond.selects "TalkKnotsModel" ({ cls := "TalkKnotsModel", name := "puts1", desc := "(III)V" } : Jvm.MethodName) ({ cls := "TalkKnotsModel", name := "puts1", desc := "(III)V" } : Jvm.MethodName) ∈ kw := km0 22 rfl rfl
theorem kw_0_23 : Jvm.Cond.selects "TalkKnotsModel" ({ cls := "TalkKnotsModel", name := "becomes", desc := "(II)I" } : Jvm.MethodName) ({ cls := "TalkKnotsModel", name := "becomes", desc := "(II)I" } : Jvm.MethodName) ∈ kw := km0 23 rfl rfl
theorem kw_0_24 : Jvm.Cond.selects "TalkKnotsModel" ({ cls := "TalkKnotsModel", name := "finds", desc := "(I)I" } : Jvm.MethodName) ({ cls := "TalkKnotsModel", name := "finds", desc := "(I)I" } : Jvm.MethodName) ∈ kw := km0 24 rfl rfl
theorem kw_0_25 : Jvm.Cond.selects "TalkKnotsModel" ({ cls := "TalkKnotsModel", name := "ofMast", desc := "(II)I" } : Jvm.MethodName) ({ cls := "TalkKnotsModel", name := "ofMast", desc := "(II)I" } : Jvm.MethodName) ∈ kw := km0 25 rfl rfl
theorem kw_0_26 : Jvm.Cond.selects "TalkKnotsModel" ({ cls := "TalkKnotsModel", name := "knotsOf", desc := "(IZ)I" } : Jvm.MethodName) ({ cls := "TalkKnotsModel", name := "knotsOf", desc := "(IZ)I" } : Jvm.MethodName) ∈ kw := km0 26 rfl rfl
theorem kw_0_27 : Jvm.Cond.selects "TalkKnotsModel" ({ cls := "TalkKnotsModel", name := "its", desc := "(II)I" } : Jvm.MethodName) ({ cls := "TalkKnotsModel", name := "its", desc := "(II)I" } : Jvm.MethodName) ∈ kw := km0 27 rfl rfl
theorem kw_0_28 : Jvm.Cond.selects "TalkKnotsModel" ({ cls := "TalkKnotsModel", name := "strain", desc := "(I)I" } : Jvm.MethodName) ({ cls := "TalkKnotsModel", name := "strain", desc := "(I)I" } : Jvm.MethodName) ∈ kw := km0 28 rfl rfl
theorem kw_0_29 : Jvm.Cond.selects "TalkKnotsModel" ({ cls := "TalkKnotsModel", name := "blowing", desc := "()I" } : Jvm.MethodName) ({ cls := "TalkKnotsModel", name := "blowing", desc := "()I" } : Jvm.MethodName) ∈ kw := km0 29 rfl rfl
theorem kw_0_30 : Jvm.Cond.selects "TalkKnotsModel" ({ cls := "TalkKnotsModel", name := "heldOf", desc := "(I)I" } : Jvm.MethodName) ({ cls := "TalkKnotsModel", name := "heldOf", desc := "(I)I" } : Jvm.MethodName) ∈ kw := km0 30 rfl rfl
theorem kw_0_31 : Jvm.Cond.selects "TalkKnotsModel" ({ cls := "TalkKnotsModel", name := "holding", desc := "(I)I" } : Jvm.MethodName) ({ cls := "TalkKnotsModel", name := "holding", desc := "(I)I" } : Jvm.MethodName) ∈ kw := km0 31 rfl rfl
theorem kw_0_32 : Jvm.Cond.selects "TalkKnotsModel" ({ cls := "TalkKnotsModel", name := "upSet", desc := "()I" } : Jvm.MethodName) ({ cls := "TalkKnotsModel", name := "upSet", desc := "()I" } : Jvm.MethodName) ∈ kw := km0 32 rfl rfl
theorem kw_0_33 : Jvm.Cond.selects "TalkKnotsModel" ({ cls := "TalkKnotsModel", name := "fastSet", desc := "()I" } : Jvm.MethodName) ({ cls := "TalkKnotsModel", name := "fastSet", desc := "()I" } : Jvm.MethodName) ∈ kw := km0 33 rfl rfl
theorem kw_0_34 : Jvm.Cond.selects "TalkKnotsModel" ({ cls := "TalkKnotsModel", name := "sumOf", desc := "(I)I" } : Jvm.MethodName) ({ cls := "TalkKnotsModel", name := "sumOf", desc := "(I)I" } : Jvm.MethodName) ∈ kw := km0 34 rfl rfl
theorem kw_0_35 : Jvm.Cond.selects "TalkKnotsModel" ({ cls := "TalkKnotsModel", name := "adds", desc := "(IIII)V" } : Jvm.MethodName) ({ cls := "TalkKnotsModel", name := "adds", desc := "(IIII)V" } : Jvm.MethodName) ∈ kw := km0 35 rfl rfl
theorem kw_0_36 : Jvm.Cond.selects "TalkKnotsModel" ({ cls := "TalkKnotsModel", name := "puts", desc := "(III)V" } : Jvm.MethodName) ({ cls := "TalkKnotsModel", name := "puts", desc := "(III)V" } : Jvm.MethodName) ∈ kw := km0 36 rfl rfl
theorem kw_0_37 : Jvm.Cond.selects "TalkKnotsModel" ({ cls := "TalkKnotsModel", name := "isOne", desc := "(I)Z" } : Jvm.MethodName) ({ cls := "TalkKnotsModel", name := "isOne", desc := "(I)Z" } : Jvm.MethodName) ∈ kw := km0 37 rfl rfl
theorem kw_0_38 : Jvm.Cond.selects "TalkKnotsModel" ({ cls := "TalkKnotsModel", name := "settling", desc := "(I)I" } : Jvm.MethodName) ({ cls := "TalkKnotsModel", name := "settling", desc := "(I)I" } : Jvm.MethodName) ∈ kw := km0 38 rfl rfl
theorem kw_0_39 : Jvm.Cond.selects "TalkKnotsModel" ({ cls := "TalkKnotsModel", name := "teasing", desc := "(I)I" } : Jvm.MethodName) ({ cls := "TalkKnotsModel", name := "teasing", desc := "(I)I" } : Jvm.MethodName) ∈ kw := km0 39 rfl rfl
theorem kw_0_40 : Jvm.Cond.selects "TalkKnotsModel" ({ cls := "TalkKnotsModel", name := "isGiving", desc := "(II)Z" } : Jvm.MethodName) ({ cls := "TalkKnotsModel", name := "isGiving", desc := "(II)Z" } : Jvm.MethodName) ∈ kw := km0 40 rfl rfl
theorem kw_0_41 : Jvm.Cond.selects "TalkKnotsModel" ({ cls := "TalkKnotsModel", name := "teases", desc := "(I)V" } : Jvm.MethodName) ({ cls := "TalkKnotsModel", name := "teases", desc := "(I)V" } : Jvm.MethodName) ∈ kw := km0 41 rfl rfl
theorem kw_0_42 : Jvm.Cond.selects "TalkKnotsModel" ({ cls := "TalkKnotsModel", name := "passes", desc := "(I)V" } : Jvm.MethodName) ({ cls := "TalkKnotsModel", name := "passes", desc := "(I)V" } : Jvm.MethodName) ∈ kw := km0 42 rfl rfl
theorem kw_0_43 : Jvm.Cond.selects "TalkKnotsModel" ({ cls := "TalkKnotsModel", name := "oneHour", desc := "()V" } : Jvm.MethodName) ({ cls := "TalkKnotsModel", name := "oneHour", desc := "()V" } : Jvm.MethodName) ∈ kw := km0 43 rfl rfl
theorem kw_0_44 : Jvm.Cond.selects "TalkKnotsModel" ({ cls := "TalkKnotsModel", name := "pulls", desc := "(I)V" } : Jvm.MethodName) ({ cls := "TalkKnotsModel", name := "pulls", desc := "(I)V" } : Jvm.MethodName) ∈ kw := km0 44 rfl rfl
theorem kw_0_45 : Jvm.Cond.selects "TalkKnotsModel" ({ cls := "TalkKnotsModel", name := "moveAll", desc := "(Z[I)V" } : Jvm.MethodName) ({ cls := "TalkKnotsModel", name := "moveAll", desc := "(Z[I)V" } : Jvm.MethodName) ∈ kw := km0 45 rfl rfl
theorem kw_0_46 : Jvm.Cond.selects "TalkKnotsModel" ({ cls := "TalkKnotsModel", name := "goneIn", desc := "(I)I" } : Jvm.MethodName) ({ cls := "TalkKnotsModel", name := "goneIn", desc := "(I)I" } : Jvm.MethodName) ∈ kw := km0 46 rfl rfl
theorem kw_0_47 : Jvm.Cond.selects "TalkKnotsModel" ({ cls := "TalkKnotsModel", name := "lasts", desc := "(II)Z" } : Jvm.MethodName) ({ cls := "TalkKnotsModel", name := "lasts", desc := "(II)Z" } : Jvm.MethodName) ∈ kw := km0 47 rfl rfl
theorem kw_0_48 : Jvm.Cond.selects "TalkKnotsModel" ({ cls := "TalkKnotsModel", name := "advance", desc := "()V" } : Jvm.MethodName) ({ cls := "TalkKnotsModel", name := "advance", desc := "()V" } : Jvm.MethodName) ∈ kw := km0 48 rfl rfl
theorem kw_0_49 : Jvm.Cond.selects "TalkKnotsModel" ({ cls := "TalkKnotsModel", name := "byteAt", desc := "(I)I" } : Jvm.MethodName) ({ cls := "TalkKnotsModel", name := "byteAt", desc := "(I)I" } : Jvm.MethodName) ∈ kw := km0 49 rfl rfl
theorem kw_0_50 : Jvm.Cond.selects "TalkKnotsModel" ({ cls := "TalkKnotsModel", name := "wantItem", desc := "()V" } : Jvm.MethodName) ({ cls := "TalkKnotsModel", name := "wantItem", desc := "()V" } : Jvm.MethodName) ∈ kw := km0 50 rfl rfl
theorem kw_0_51 : Jvm.Cond.selects "TalkKnotsModel" ({ cls := "TalkKnotsModel", name := "kindHere", desc := "()I" } : Jvm.MethodName) ({ cls := "TalkKnotsModel", name := "kindHere", desc := "()I" } : Jvm.MethodName) ∈ kw := km0 51 rfl rfl
theorem kw_0_52 : Jvm.Cond.selects "TalkKnotsModel" ({ cls := "TalkKnotsModel", name := "isWord", desc := "(J)Z" } : Jvm.MethodName) ({ cls := "TalkKnotsModel", name := "isWord", desc := "(J)Z" } : Jvm.MethodName) ∈ kw := km0 52 rfl rfl
theorem kw_0_53 : Jvm.Cond.selects "TalkKnotsModel" ({ cls := "TalkKnotsModel", name := "wantOne", desc := "(I)V" } : Jvm.MethodName) ({ cls := "TalkKnotsModel", name := "wantOne", desc := "(I)V" } : Jvm.MethodName) ∈ kw := km0 53 rfl rfl
theorem kw_0_54 : Jvm.Cond.selects "TalkKnotsModel" ({ cls := "TalkKnotsModel", name := "wantNumber", desc := "(II)I" } : Jvm.MethodName) ({ cls := "TalkKnotsModel", name := "wantNumber", desc := "(II)I" } : Jvm.MethodName) ∈ kw := km0 54 rfl rfl
theorem kw_0_55 : Jvm.Cond.selects "TalkKnotsModel" ({ cls := "TalkKnotsModel", name := "mayWant", desc := "(JIII)I" } : Jvm.MethodName) ({ cls := "TalkKnotsModel", name := "mayWant", desc := "(JIII)I" } : Jvm.MethodName) ∈ kw := km0 55 rfl rfl
theorem kw_0_56 : Jvm.Cond.selects "TalkKnotsModel" ({ cls := "TalkKnotsModel", name := "may", desc := "(J)Z" } : Jvm.MethodName) ({ cls := "TalkKnotsModel", name := "may", desc := "(J)Z" } : Jvm.MethodName) ∈ kw := km0 56 rfl rfl
theorem kw_0_57 : Jvm.Cond.selects "TalkKnotsModel" ({ cls := "TalkKnotsModel", name := "wantMast", desc := "()V" } : Jvm.MethodName) ({ cls := "TalkKnotsModel", name := "wantMast", desc := "()V" } : Jvm.MethodName) ∈ kw := km0 57 rfl rfl
theorem kw_0_58 : Jvm.Cond.selects "TalkKnotsModel" ({ cls := "TalkKnotsModel", name := "wantWind", desc := "()V" } : Jvm.MethodName) ({ cls := "TalkKnotsModel", name := "wantWind", desc := "()V" } : Jvm.MethodName) ∈ kw := km0 58 rfl rfl
theorem kw_0_59 : Jvm.Cond.selects "TalkKnotsModel" ({ cls := "TalkKnotsModel", name := "isPart", desc := "(III)Z" } : Jvm.MethodName) ({ cls := "TalkKnotsModel", name := "isPart", desc := "(III)Z" } : Jvm.MethodName) ∈ kw := km0 59 rfl rfl
theorem kw_0_60 : Jvm.Cond.selects "TalkKnotsModel" ({ cls := "TalkKnotsModel", name := "badSheet", desc := "(I)I" } : Jvm.MethodName) ({ cls := "TalkKnotsModel", name := "badSheet", desc := "(I)I" } : Jvm.MethodName) ∈ kw := km0 60 rfl rfl
theorem kw_0_61 : Jvm.Cond.selects "TalkKnotsModel" ({ cls := "TalkKnotsModel", name := "isSo", desc := "(II)Z" } : Jvm.MethodName) ({ cls := "TalkKnotsModel", name := "isSo", desc := "(II)Z" } : Jvm.MethodName) ∈ kw := km0 61 rfl rfl
theorem kw_0_62 : Jvm.Cond.selects "TalkKnotsModel" ({ cls := "TalkKnotsModel", name := "weights", desc := "()I" } : Jvm.MethodName) ({ cls := "TalkKnotsModel", name := "weights", desc := "()I" } : Jvm.MethodName) ∈ kw := km0 62 rfl rfl
