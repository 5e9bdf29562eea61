/-! the tables' words that hold everywhere; each by its place. Laid by wip/whole/mkwords.py. -/
noncomputable def zbig : List Cond := lw_tbl.filter goodWord
theorem zbig_good : zbig.all goodWord = true := List.all_eq_true.mpr fun w h => (List.mem_filter.mp h).2
theorem zbig_in {w : Cond} (h : w ∈ zbig) : w ∈ lw_tbl := (List.mem_filter.mp h).1
theorem zm {w c : Cond} (h : w ∈ zbig) : w ∈ c :: zbig := List.mem_cons_of_mem _ h
theorem zts {q : MethodName × Nat} (i : Nat) (h : lw_privs[i]? = some q) : Cond.selects q.1.cls q.1 q.1 ∈ zbig := List.mem_filter.mpr ⟨List.mem_append_left _ (List.mem_map.mpr ⟨q, List.mem_of_getElem? h, rfl⟩), rfl⟩
theorem zt1 {w : Cond} (i : Nat) (h : tables_1_1[i]? = some w) (hg : goodWord w = true) : w ∈ zbig := List.mem_filter.mpr ⟨List.mem_append_right _ (show w ∈ tables_1 from List.mem_append_left _ (List.mem_of_getElem? h)), hg⟩
theorem zt2 {w : Cond} (i : Nat) (h : tables_1_2[i]? = some w) (hg : goodWord w = true) : w ∈ zbig := List.mem_filter.mpr ⟨List.mem_append_right _ (show w ∈ tables_1 from List.mem_append_right _ (List.mem_append_left _ (List.mem_of_getElem? h))), hg⟩
theorem zt3 {w : Cond} (i : Nat) (h : tables_1_3[i]? = some w) (hg : goodWord w = true) : w ∈ zbig := List.mem_filter.mpr ⟨List.mem_append_right _ (show w ∈ tables_1 from List.mem_append_right _ (List.mem_append_right _ (List.mem_append_left _ (List.mem_of_getElem? h)))), hg⟩
theorem zt4 {w : Cond} (i : Nat) (h : tables_1_4[i]? = some w) (hg : goodWord w = true) : w ∈ zbig := List.mem_filter.mpr ⟨List.mem_append_right _ (show w ∈ tables_1 from List.mem_append_right _ (List.mem_append_right _ (List.mem_append_right _ (List.mem_append_left _ (List.mem_of_getElem? h))))), hg⟩
theorem zt5 {w : Cond} (i : Nat) (h : tables_1_5[i]? = some w) (hg : goodWord w = true) : w ∈ zbig := List.mem_filter.mpr ⟨List.mem_append_right _ (show w ∈ tables_1 from List.mem_append_right _ (List.mem_append_right _ (List.mem_append_right _ (List.mem_append_right _ (List.mem_append_left _ (List.mem_of_getElem? h)))))), hg⟩
theorem zt6 {w : Cond} (i : Nat) (h : tables_1_6[i]? = some w) (hg : goodWord w = true) : w ∈ zbig := List.mem_filter.mpr ⟨List.mem_append_right _ (show w ∈ tables_1 from List.mem_append_right _ (List.mem_append_right _ (List.mem_append_right _ (List.mem_append_right _ (List.mem_append_right _ (List.mem_of_getElem? h)))))), hg⟩
theorem zwd_0 : (Jvm.Cond.initialized "PremiumHoursLaw") ∈ zbig := zt1 0 rfl rfl
theorem zwd_1 : (Jvm.Cond.initialized "PremiumHours") ∈ zbig := zt1 1 rfl rfl
theorem zwd_2 : (Jvm.Cond.initialized "PremiumHours$Tape") ∈ zbig := zt1 2 rfl rfl
theorem zwd_3 : (Jvm.Cond.initialized "PremiumHours$RuleReader") ∈ zbig := zt1 3 rfl rfl
theorem zwd_4 : (Jvm.Cond.initialized "PremiumHours$Rules") ∈ zbig := zt1 4 rfl rfl
theorem zwd_5 : (Jvm.Cond.initialized "PremiumHours$Clock") ∈ zbig := zt1 5 rfl rfl
theorem zwd_6 : (Jvm.Cond.initialized "PremiumHours$Premium") ∈ zbig := zt1 6 rfl rfl
theorem zwd_7 : (Jvm.Cond.initialized "PremiumHours$Card") ∈ zbig := zt1 7 rfl rfl
theorem zwd_8 : (Jvm.Cond.initialized "PremiumHours$Sheet") ∈ zbig := zt1 8 rfl rfl
theorem zwd_9 : (Jvm.Cond.initialized "PremiumHours$Pieces") ∈ zbig := zt1 9 rfl rfl
theorem zwd_10 : (Jvm.Cond.initialized "PremiumHours$History") ∈ zbig := zt1 10 rfl rfl
theorem zwd_11 : (Jvm.Cond.initialized "PremiumHours$BestWay") ∈ zbig := zt1 11 rfl rfl
theorem zwd_12 : (Jvm.Cond.initialized "PremiumHours$Week") ∈ zbig := zt1 12 rfl rfl
theorem zwd_13 : (Jvm.Cond.initialized "PremiumHoursModel") ∈ zbig := zt1 13 rfl rfl
theorem zwd_14 : (Jvm.Cond.initialized "java/lang/Math") ∈ zbig := zt1 14 rfl rfl
theorem zwd_15 : (Jvm.Cond.initialized "java/lang/String") ∈ zbig := zt1 15 rfl rfl
theorem zwd_16 : (Jvm.Cond.initialized "java/lang/StringLatin1") ∈ zbig := zt1 16 rfl rfl
theorem zwd_17 : (Jvm.Cond.initialized "jdk/internal/util/Preconditions") ∈ zbig := zt1 17 rfl rfl
theorem zwd_18 : (Jvm.Cond.initialized "java/lang/StringUTF16") ∈ zbig := zt1 18 rfl rfl
theorem zwd_19 : (Jvm.Cond.initialized "java/lang/Throwable") ∈ zbig := zt1 19 rfl rfl
theorem zwd_20 : (Jvm.Cond.initialized "java/lang/Exception") ∈ zbig := zt1 20 rfl rfl
theorem zwd_21 : (Jvm.Cond.initialized "java/lang/RuntimeException") ∈ zbig := zt1 21 rfl rfl
theorem zwd_22 : (Jvm.Cond.initialized "java/util/NoSuchElementException") ∈ zbig := zt1 22 rfl rfl
theorem zwd_23 : (Jvm.Cond.classLink "PremiumHoursLaw" (8 : Nat) "PremiumHours") ∈ zbig := zt1 23 rfl rfl
theorem zwd_24 : (Jvm.Cond.instantiable "PremiumHours" (10 : Nat)) ∈ zbig := zt1 24 rfl rfl
theorem zwd_25 : (Jvm.Cond.methodLink "PremiumHoursLaw" (19 : Nat) ({ cls := "PremiumHours", name := "<init>", desc := "()V" } : Jvm.MethodName)) ∈ zbig := zt1 25 rfl rfl
theorem zwd_26 : (Jvm.Cond.instanceMethod ({ cls := "PremiumHours", name := "<init>", desc := "()V" } : Jvm.MethodName)) ∈ zbig := zt1 26 rfl rfl
theorem zwd_27 : (Jvm.Cond.code ({ cls := "PremiumHours", name := "<init>", desc := "()V" } : Jvm.MethodName) prog_1_method_1_code (2 : Nat) (Option.none : Option Jvm.ClassFile.FieldType)) ∈ zbig := zt1 27 rfl rfl
theorem zwd_28 : (Jvm.Cond.methodLink "PremiumHours" (3 : Nat) ({ cls := "java/lang/Object", name := "<init>", desc := "()V" } : Jvm.MethodName)) ∈ zbig := zt1 28 rfl rfl
theorem zwd_29 : (Jvm.Cond.instanceMethod ({ cls := "java/lang/Object", name := "<init>", desc := "()V" } : Jvm.MethodName)) ∈ zbig := zt1 29 rfl rfl
theorem zwd_30 : (Jvm.Cond.code ({ cls := "java/lang/Object", name := "<init>", desc := "()V" } : Jvm.MethodName) object_method_1_code (1 : Nat) (Option.none : Option Jvm.ClassFile.FieldType)) ∈ zbig := zt1 30 rfl rfl
theorem zwd_31 : (Jvm.Cond.classLink "PremiumHours" (9 : Nat) "PremiumHours$Tape") ∈ zbig := zt1 31 rfl rfl
theorem zwd_32 : (Jvm.Cond.instantiable "PremiumHours$Tape" (6 : Nat)) ∈ zbig := zt1 32 rfl rfl
theorem zwd_34 : (Jvm.Cond.instanceMethod ({ cls := "PremiumHours$Tape", name := "<init>", desc := "()V" } : Jvm.MethodName)) ∈ zbig := zt1 34 rfl rfl
theorem zwd_35 : (Jvm.Cond.code ({ cls := "PremiumHours$Tape", name := "<init>", desc := "()V" } : Jvm.MethodName) prog_11_method_1_code (1 : Nat) (Option.none : Option Jvm.ClassFile.FieldType)) ∈ zbig := zt1 35 rfl rfl
theorem zwd_36 : (Jvm.Cond.methodLink "PremiumHours$Tape" (3 : Nat) ({ cls := "java/lang/Object", name := "<init>", desc := "()V" } : Jvm.MethodName)) ∈ zbig := zt1 36 rfl rfl
theorem zwd_37 : (Jvm.Cond.fieldLink "PremiumHours$Tape" (9 : Nat) "PremiumHours$Tape" "bytes" "[I") ∈ zbig := zt1 37 rfl rfl
theorem zwd_38 : (Jvm.Cond.fieldLink "PremiumHours$Tape" (15 : Nat) "PremiumHours$Tape" "size" "I") ∈ zbig := zt1 38 rfl rfl
theorem zwd_39 : (Jvm.Cond.fieldLink "PremiumHours" (77 : Nat) "PremiumHours$Tape" "size" "I") ∈ zbig := zt1 39 rfl rfl
theorem zwd_40 : (Jvm.Cond.fieldLink "PremiumHours$Tape" (25 : Nat) "PremiumHours$Tape" "limit" "I") ∈ zbig := zt1 40 rfl rfl
theorem zwd_41 : (Jvm.Cond.fieldLink "PremiumHours$RuleReader" (29 : Nat) "PremiumHours$Tape" "sort" "I") ∈ zbig := zt1 41 rfl rfl
theorem zwd_42 : (Jvm.Cond.fieldLink "PremiumHours$Tape" (37 : Nat) "PremiumHours$Tape" "sort" "I") ∈ zbig := zt1 42 rfl rfl
theorem zwd_43 : (Jvm.Cond.fieldLink "PremiumHours$RuleReader" (83 : Nat) "PremiumHours$Tape" "start" "I") ∈ zbig := zt1 43 rfl rfl
theorem zwd_44 : (Jvm.Cond.fieldLink "PremiumHours$Tape" (34 : Nat) "PremiumHours$Tape" "start" "I") ∈ zbig := zt1 44 rfl rfl
theorem zwd_45 : (Jvm.Cond.fieldLink "PremiumHours$Tape" (28 : Nat) "PremiumHours$Tape" "end" "I") ∈ zbig := zt1 45 rfl rfl
theorem zwd_46 : (Jvm.Cond.laysFinal "PremiumHours$Tape" "PremiumHours$Tape" "bytes" "[I") ∈ zbig := zt1 46 rfl rfl
theorem zwd_48 : (Jvm.Cond.lays "PremiumHours$Tape" "PremiumHours$Tape" "size" "I") ∈ zbig := zt1 48 rfl rfl
theorem zwd_50 : (Jvm.Cond.lays "PremiumHours$Tape" "PremiumHours$Tape" "limit" "I") ∈ zbig := zt1 50 rfl rfl
theorem zwd_52 : (Jvm.Cond.lays "PremiumHours$Tape" "PremiumHours$Tape" "sort" "I") ∈ zbig := zt1 52 rfl rfl
theorem zwd_54 : (Jvm.Cond.lays "PremiumHours$Tape" "PremiumHours$Tape" "start" "I") ∈ zbig := zt1 54 rfl rfl
theorem zwd_56 : (Jvm.Cond.lays "PremiumHours$Tape" "PremiumHours$Tape" "end" "I") ∈ zbig := zt1 56 rfl rfl
theorem zwd_59 : (Jvm.Cond.arrayClass Jvm.ClassFile.FieldType.int) ∈ zbig := zt1 59 rfl rfl
theorem zwd_60 : (Jvm.Cond.classLink "PremiumHours" (16 : Nat) "PremiumHours$RuleReader") ∈ zbig := zt1 60 rfl rfl
theorem zwd_61 : (Jvm.Cond.instantiable "PremiumHours$RuleReader" (2 : Nat)) ∈ zbig := zt1 61 rfl rfl
theorem zwd_63 : (Jvm.Cond.instanceMethod ({ cls := "PremiumHours$RuleReader", name := "<init>", desc := "()V" } : Jvm.MethodName)) ∈ zbig := zt1 63 rfl rfl
theorem zwd_64 : (Jvm.Cond.code ({ cls := "PremiumHours$RuleReader", name := "<init>", desc := "()V" } : Jvm.MethodName) prog_8_method_1_code (1 : Nat) (Option.none : Option Jvm.ClassFile.FieldType)) ∈ zbig := zt1 64 rfl rfl
theorem zwd_65 : (Jvm.Cond.methodLink "PremiumHours$RuleReader" (3 : Nat) ({ cls := "java/lang/Object", name := "<init>", desc := "()V" } : Jvm.MethodName)) ∈ zbig := zt1 65 rfl rfl
theorem zwd_66 : (Jvm.Cond.fieldLink "PremiumHours$RuleReader" (9 : Nat) "PremiumHours$RuleReader" "fault" "I") ∈ zbig := zt1 66 rfl rfl
theorem zwd_67 : (Jvm.Cond.fieldLink "PremiumHours$RuleReader" (15 : Nat) "PremiumHours$RuleReader" "told" "I") ∈ zbig := zt1 67 rfl rfl
theorem zwd_68 : (Jvm.Cond.lays "PremiumHours$RuleReader" "PremiumHours$RuleReader" "fault" "I") ∈ zbig := zt1 68 rfl rfl
theorem zwd_70 : (Jvm.Cond.lays "PremiumHours$RuleReader" "PremiumHours$RuleReader" "told" "I") ∈ zbig := zt1 70 rfl rfl
theorem zwd_73 : (Jvm.Cond.classLink "PremiumHours" (23 : Nat) "PremiumHours$Rules") ∈ zbig := zt1 73 rfl rfl
theorem zwd_74 : (Jvm.Cond.instantiable "PremiumHours$Rules" (10 : Nat)) ∈ zbig := zt1 74 rfl rfl
theorem zwd_75 : (Jvm.Cond.methodLink "PremiumHours" (25 : Nat) ({ cls := "PremiumHours$Rules", name := "<init>", desc := "()V" } : Jvm.MethodName)) ∈ zbig := zt1 75 rfl rfl
theorem zwd_76 : (Jvm.Cond.instanceMethod ({ cls := "PremiumHours$Rules", name := "<init>", desc := "()V" } : Jvm.MethodName)) ∈ zbig := zt1 76 rfl rfl
theorem zwd_77 : (Jvm.Cond.code ({ cls := "PremiumHours$Rules", name := "<init>", desc := "()V" } : Jvm.MethodName) prog_9_method_1_code (2 : Nat) (Option.none : Option Jvm.ClassFile.FieldType)) ∈ zbig := zt1 77 rfl rfl
theorem zwd_78 : (Jvm.Cond.methodLink "PremiumHours$Rules" (3 : Nat) ({ cls := "java/lang/Object", name := "<init>", desc := "()V" } : Jvm.MethodName)) ∈ zbig := zt1 78 rfl rfl
theorem zwd_79 : (Jvm.Cond.classLink "PremiumHours$Rules" (9 : Nat) "PremiumHours$Clock") ∈ zbig := zt1 79 rfl rfl
theorem zwd_80 : (Jvm.Cond.instantiable "PremiumHours$Clock" (5 : Nat)) ∈ zbig := zt1 80 rfl rfl
theorem zwd_82 : (Jvm.Cond.instanceMethod ({ cls := "PremiumHours$Clock", name := "<init>", desc := "()V" } : Jvm.MethodName)) ∈ zbig := zt1 82 rfl rfl
theorem zwd_83 : (Jvm.Cond.code ({ cls := "PremiumHours$Clock", name := "<init>", desc := "()V" } : Jvm.MethodName) prog_4_method_1_code (1 : Nat) (Option.none : Option Jvm.ClassFile.FieldType)) ∈ zbig := zt1 83 rfl rfl
theorem zwd_84 : (Jvm.Cond.methodLink "PremiumHours$Clock" (3 : Nat) ({ cls := "java/lang/Object", name := "<init>", desc := "()V" } : Jvm.MethodName)) ∈ zbig := zt1 84 rfl rfl
theorem zwd_85 : (Jvm.Cond.fieldLink "PremiumHours$Clock" (9 : Nat) "PremiumHours$Clock" "day" "I") ∈ zbig := zt1 85 rfl rfl
theorem zwd_86 : (Jvm.Cond.fieldLink "PremiumHours" (124 : Nat) "PremiumHours$Clock" "day" "I") ∈ zbig := zt1 86 rfl rfl
theorem zwd_87 : (Jvm.Cond.fieldLink "PremiumHours$Clock" (15 : Nat) "PremiumHours$Clock" "hour" "I") ∈ zbig := zt1 87 rfl rfl
theorem zwd_88 : (Jvm.Cond.fieldLink "PremiumHours" (127 : Nat) "PremiumHours$Clock" "hour" "I") ∈ zbig := zt1 88 rfl rfl
theorem zwd_89 : (Jvm.Cond.fieldLink "PremiumHours$Clock" (18 : Nat) "PremiumHours$Clock" "sort" "I") ∈ zbig := zt1 89 rfl rfl
theorem zwd_90 : (Jvm.Cond.fieldLink "PremiumHours" (130 : Nat) "PremiumHours$Clock" "sort" "I") ∈ zbig := zt1 90 rfl rfl
theorem zwd_91 : (Jvm.Cond.fieldLink "PremiumHours$Clock" (21 : Nat) "PremiumHours$Clock" "turn" "I") ∈ zbig := zt1 91 rfl rfl
theorem zwd_92 : (Jvm.Cond.fieldLink "PremiumHours$Clock" (24 : Nat) "PremiumHours$Clock" "shift" "I") ∈ zbig := zt1 92 rfl rfl
theorem zwd_93 : (Jvm.Cond.lays "PremiumHours$Clock" "PremiumHours$Clock" "day" "I") ∈ zbig := zt1 93 rfl rfl
theorem zwd_95 : (Jvm.Cond.lays "PremiumHours$Clock" "PremiumHours$Clock" "hour" "I") ∈ zbig := zt1 95 rfl rfl
theorem zwd_97 : (Jvm.Cond.lays "PremiumHours$Clock" "PremiumHours$Clock" "sort" "I") ∈ zbig := zt1 97 rfl rfl
theorem zwd_99 : (Jvm.Cond.lays "PremiumHours$Clock" "PremiumHours$Clock" "turn" "I") ∈ zbig := zt1 99 rfl rfl
theorem zwd_101 : (Jvm.Cond.lays "PremiumHours$Clock" "PremiumHours$Clock" "shift" "I") ∈ zbig := zt1 101 rfl rfl
theorem zwd_104 : (Jvm.Cond.classLink "PremiumHours$Rules" (18 : Nat) "PremiumHours$Premium") ∈ zbig := zt1 104 rfl rfl
theorem zwd_106 : (Jvm.Cond.instantiable "PremiumHours$Premium" (5 : Nat)) ∈ zbig := zt1 106 rfl rfl
theorem zwd_108 : (Jvm.Cond.instanceMethod ({ cls := "PremiumHours$Premium", name := "<init>", desc := "()V" } : Jvm.MethodName)) ∈ zbig := zt1 108 rfl rfl
theorem zwd_109 : (Jvm.Cond.code ({ cls := "PremiumHours$Premium", name := "<init>", desc := "()V" } : Jvm.MethodName) prog_7_method_1_code (1 : Nat) (Option.none : Option Jvm.ClassFile.FieldType)) ∈ zbig := zt1 109 rfl rfl
theorem zwd_110 : (Jvm.Cond.methodLink "PremiumHours$Premium" (1 : Nat) ({ cls := "java/lang/Object", name := "<init>", desc := "()V" } : Jvm.MethodName)) ∈ zbig := zt1 110 rfl rfl
theorem zwd_111 : (Jvm.Cond.fieldLink "PremiumHours" (143 : Nat) "PremiumHours$Premium" "kind" "I") ∈ zbig := zt1 111 rfl rfl
theorem zwd_112 : (Jvm.Cond.fieldLink "PremiumHours$RuleReader" (152 : Nat) "PremiumHours$Premium" "kind" "I") ∈ zbig := zt1 112 rfl rfl
theorem zwd_113 : (Jvm.Cond.fieldLink "PremiumHours$Rules" (65 : Nat) "PremiumHours$Premium" "kind" "I") ∈ zbig := zt1 113 rfl rfl
theorem zwd_114 : (Jvm.Cond.fieldLink "PremiumHours$Rules" (62 : Nat) "PremiumHours$Premium" "hundredths" "I") ∈ zbig := zt1 114 rfl rfl
theorem zwd_115 : (Jvm.Cond.fieldLink "PremiumHours$RuleReader" (132 : Nat) "PremiumHours$Premium" "hundredths" "I") ∈ zbig := zt1 115 rfl rfl
theorem zwd_116 : (Jvm.Cond.fieldLink "PremiumHours" (148 : Nat) "PremiumHours$Premium" "hundredths" "I") ∈ zbig := zt1 116 rfl rfl
theorem zwd_117 : (Jvm.Cond.fieldLink "PremiumHours$BestWay" (118 : Nat) "PremiumHours$Premium" "hundredths" "I") ∈ zbig := zt1 117 rfl rfl
theorem zwd_118 : (Jvm.Cond.fieldLink "PremiumHours$Rules" (58 : Nat) "PremiumHours$Premium" "counts" "Z") ∈ zbig := zt1 118 rfl rfl
theorem zwd_119 : (Jvm.Cond.fieldLink "PremiumHours$RuleReader" (139 : Nat) "PremiumHours$Premium" "counts" "Z") ∈ zbig := zt1 119 rfl rfl
theorem zwd_120 : (Jvm.Cond.fieldLink "PremiumHours" (151 : Nat) "PremiumHours$Premium" "counts" "Z") ∈ zbig := zt1 120 rfl rfl
theorem zwd_121 : (Jvm.Cond.fieldLink "PremiumHours$BestWay" (112 : Nat) "PremiumHours$Premium" "counts" "Z") ∈ zbig := zt1 121 rfl rfl
theorem zwd_122 : (Jvm.Cond.fieldLink "PremiumHours$Premium" (7 : Nat) "PremiumHours$Premium" "first" "I") ∈ zbig := zt1 122 rfl rfl
theorem zwd_123 : (Jvm.Cond.fieldLink "PremiumHours" (155 : Nat) "PremiumHours$Premium" "first" "I") ∈ zbig := zt1 123 rfl rfl
theorem zwd_124 : (Jvm.Cond.fieldLink "PremiumHours$RuleReader" (142 : Nat) "PremiumHours$Premium" "first" "I") ∈ zbig := zt1 124 rfl rfl
theorem zwd_125 : (Jvm.Cond.fieldLink "PremiumHours$Rules" (68 : Nat) "PremiumHours$Premium" "first" "I") ∈ zbig := zt1 125 rfl rfl
theorem zwd_126 : (Jvm.Cond.fieldLink "PremiumHours$Premium" (13 : Nat) "PremiumHours$Premium" "second" "I") ∈ zbig := zt1 126 rfl rfl
theorem zwd_127 : (Jvm.Cond.fieldLink "PremiumHours" (158 : Nat) "PremiumHours$Premium" "second" "I") ∈ zbig := zt1 127 rfl rfl
theorem zwd_128 : (Jvm.Cond.fieldLink "PremiumHours$RuleReader" (145 : Nat) "PremiumHours$Premium" "second" "I") ∈ zbig := zt1 128 rfl rfl
theorem zwd_129 : (Jvm.Cond.lays "PremiumHours$Premium" "PremiumHours$Premium" "kind" "I") ∈ zbig := zt1 129 rfl rfl
theorem zwd_131 : (Jvm.Cond.lays "PremiumHours$Premium" "PremiumHours$Premium" "hundredths" "I") ∈ zbig := zt1 131 rfl rfl
theorem zwd_133 : (Jvm.Cond.lays "PremiumHours$Premium" "PremiumHours$Premium" "counts" "Z") ∈ zbig := zt1 133 rfl rfl
theorem zwd_135 : (Jvm.Cond.lays "PremiumHours$Premium" "PremiumHours$Premium" "first" "I") ∈ zbig := zt1 135 rfl rfl
theorem zwd_137 : (Jvm.Cond.lays "PremiumHours$Premium" "PremiumHours$Premium" "second" "I") ∈ zbig := zt1 137 rfl rfl
theorem zwd_140 : (Jvm.Cond.methodLink "PremiumHours$Rules" (29 : Nat) ({ cls := "PremiumHours$Rules", name := "clear", desc := "()V" } : Jvm.MethodName)) ∈ zbig := zt1 140 rfl rfl
theorem zwd_141 : (Jvm.Cond.instanceMethod ({ cls := "PremiumHours$Rules", name := "clear", desc := "()V" } : Jvm.MethodName)) ∈ zbig := zt1 141 rfl rfl
theorem zwd_142 : (Jvm.Cond.selects "PremiumHours$Rules" ({ cls := "PremiumHours$Rules", name := "clear", desc := "()V" } : Jvm.MethodName) ({ cls := "PremiumHours$Rules", name := "clear", desc := "()V" } : Jvm.MethodName)) ∈ zbig := zt1 142 rfl rfl
theorem zwd_143 : (Jvm.Cond.code ({ cls := "PremiumHours$Rules", name := "clear", desc := "()V" } : Jvm.MethodName) prog_9_method_2_code (1 : Nat) (Option.none : Option Jvm.ClassFile.FieldType)) ∈ zbig := zt1 143 rfl rfl
theorem zwd_144 : (Jvm.Cond.methodLink "PremiumHours$Rules" (32 : Nat) ({ cls := "PremiumHours$Clock", name := "set", desc := "(III)V" } : Jvm.MethodName)) ∈ zbig := zt1 144 rfl rfl
theorem zwd_145 : (Jvm.Cond.instanceMethod ({ cls := "PremiumHours$Clock", name := "set", desc := "(III)V" } : Jvm.MethodName)) ∈ zbig := zt1 145 rfl rfl
theorem zwd_146 : (Jvm.Cond.selects "PremiumHours$Clock" ({ cls := "PremiumHours$Clock", name := "set", desc := "(III)V" } : Jvm.MethodName) ({ cls := "PremiumHours$Clock", name := "set", desc := "(III)V" } : Jvm.MethodName)) ∈ zbig := zt1 146 rfl rfl
theorem zwd_147 : (Jvm.Cond.code ({ cls := "PremiumHours$Clock", name := "set", desc := "(III)V" } : Jvm.MethodName) prog_4_method_2_code (4 : Nat) (Option.none : Option Jvm.ClassFile.FieldType)) ∈ zbig := zt1 147 rfl rfl
theorem zwd_148 : (Jvm.Cond.fieldLink "PremiumHours$Rules" (12 : Nat) "PremiumHours$Rules" "clock" "LPremiumHours$Clock;") ∈ zbig := zt1 148 rfl rfl
theorem zwd_149 : (Jvm.Cond.fieldLink "PremiumHours$Week" (38 : Nat) "PremiumHours$Rules" "clock" "LPremiumHours$Clock;") ∈ zbig := zt1 149 rfl rfl
theorem zwd_150 : (Jvm.Cond.fieldLink "PremiumHours$Sheet" (64 : Nat) "PremiumHours$Rules" "clock" "LPremiumHours$Clock;") ∈ zbig := zt1 150 rfl rfl
theorem zwd_151 : (Jvm.Cond.fieldLink "PremiumHours" (91 : Nat) "PremiumHours$Rules" "clock" "LPremiumHours$Clock;") ∈ zbig := zt1 151 rfl rfl
theorem zwd_152 : (Jvm.Cond.fieldLink "PremiumHours$RuleReader" (98 : Nat) "PremiumHours$Rules" "clock" "LPremiumHours$Clock;") ∈ zbig := zt1 152 rfl rfl
theorem zwd_153 : (Jvm.Cond.fieldLink "PremiumHours$Rules" (20 : Nat) "PremiumHours$Rules" "premiums" "[LPremiumHours$Premium;") ∈ zbig := zt1 153 rfl rfl
theorem zwd_154 : (Jvm.Cond.fieldLink "PremiumHours$RuleReader" (124 : Nat) "PremiumHours$Rules" "premiums" "[LPremiumHours$Premium;") ∈ zbig := zt1 154 rfl rfl
theorem zwd_155 : (Jvm.Cond.fieldLink "PremiumHours" (139 : Nat) "PremiumHours$Rules" "premiums" "[LPremiumHours$Premium;") ∈ zbig := zt1 155 rfl rfl
theorem zwd_156 : (Jvm.Cond.fieldLink "PremiumHours$BestWay" (108 : Nat) "PremiumHours$Rules" "premiums" "[LPremiumHours$Premium;") ∈ zbig := zt1 156 rfl rfl
theorem zwd_157 : (Jvm.Cond.fieldLink "PremiumHours$Rules" (36 : Nat) "PremiumHours$Rules" "premiumCount" "I") ∈ zbig := zt1 157 rfl rfl
theorem zwd_158 : (Jvm.Cond.fieldLink "PremiumHours" (88 : Nat) "PremiumHours$Rules" "premiumCount" "I") ∈ zbig := zt1 158 rfl rfl
theorem zwd_159 : (Jvm.Cond.fieldLink "PremiumHours$RuleReader" (121 : Nat) "PremiumHours$Rules" "premiumCount" "I") ∈ zbig := zt1 159 rfl rfl
theorem zwd_160 : (Jvm.Cond.fieldLink "PremiumHours$BestWay" (105 : Nat) "PremiumHours$Rules" "premiumCount" "I") ∈ zbig := zt1 160 rfl rfl
theorem zwd_161 : (Jvm.Cond.fieldLink "PremiumHours$Rules" (24 : Nat) "PremiumHours$Rules" "holidays" "[I") ∈ zbig := zt1 161 rfl rfl
theorem zwd_162 : (Jvm.Cond.fieldLink "PremiumHours$RuleReader" (117 : Nat) "PremiumHours$Rules" "holidays" "[I") ∈ zbig := zt1 162 rfl rfl
theorem zwd_163 : (Jvm.Cond.fieldLink "PremiumHours$Rules" (40 : Nat) "PremiumHours$Rules" "holidayCount" "I") ∈ zbig := zt1 163 rfl rfl
theorem zwd_164 : (Jvm.Cond.fieldLink "PremiumHours$RuleReader" (107 : Nat) "PremiumHours$Rules" "holidayCount" "I") ∈ zbig := zt1 164 rfl rfl
theorem zwd_165 : (Jvm.Cond.fieldLink "PremiumHours" (106 : Nat) "PremiumHours$Rules" "holidayCount" "I") ∈ zbig := zt1 165 rfl rfl
theorem zwd_166 : (Jvm.Cond.fieldLink "PremiumHours$Rules" (43 : Nat) "PremiumHours$Rules" "round" "I") ∈ zbig := zt1 166 rfl rfl
theorem zwd_167 : (Jvm.Cond.fieldLink "PremiumHours$RuleReader" (60 : Nat) "PremiumHours$Rules" "round" "I") ∈ zbig := zt1 167 rfl rfl
theorem zwd_168 : (Jvm.Cond.fieldLink "PremiumHours" (109 : Nat) "PremiumHours$Rules" "round" "I") ∈ zbig := zt1 168 rfl rfl
theorem zwd_169 : (Jvm.Cond.fieldLink "PremiumHours$Rules" (46 : Nat) "PremiumHours$Rules" "mealAfter" "I") ∈ zbig := zt1 169 rfl rfl
theorem zwd_170 : (Jvm.Cond.fieldLink "PremiumHours$RuleReader" (64 : Nat) "PremiumHours$Rules" "mealAfter" "I") ∈ zbig := zt1 170 rfl rfl
theorem zwd_171 : (Jvm.Cond.fieldLink "PremiumHours" (112 : Nat) "PremiumHours$Rules" "mealAfter" "I") ∈ zbig := zt1 171 rfl rfl
theorem zwd_172 : (Jvm.Cond.fieldLink "PremiumHours$Sheet" (116 : Nat) "PremiumHours$Rules" "mealAfter" "I") ∈ zbig := zt1 172 rfl rfl
theorem zwd_173 : (Jvm.Cond.fieldLink "PremiumHours$Rules" (49 : Nat) "PremiumHours$Rules" "mealLength" "I") ∈ zbig := zt1 173 rfl rfl
theorem zwd_174 : (Jvm.Cond.fieldLink "PremiumHours$RuleReader" (67 : Nat) "PremiumHours$Rules" "mealLength" "I") ∈ zbig := zt1 174 rfl rfl
theorem zwd_175 : (Jvm.Cond.fieldLink "PremiumHours" (115 : Nat) "PremiumHours$Rules" "mealLength" "I") ∈ zbig := zt1 175 rfl rfl
theorem zwd_176 : (Jvm.Cond.fieldLink "PremiumHours$Sheet" (122 : Nat) "PremiumHours$Rules" "mealLength" "I") ∈ zbig := zt1 176 rfl rfl
theorem zwd_177 : (Jvm.Cond.fieldLink "PremiumHours$Rules" (52 : Nat) "PremiumHours$Rules" "longest" "I") ∈ zbig := zt1 177 rfl rfl
theorem zwd_178 : (Jvm.Cond.fieldLink "PremiumHours$RuleReader" (72 : Nat) "PremiumHours$Rules" "longest" "I") ∈ zbig := zt1 178 rfl rfl
theorem zwd_179 : (Jvm.Cond.fieldLink "PremiumHours$Sheet" (100 : Nat) "PremiumHours$Rules" "longest" "I") ∈ zbig := zt1 179 rfl rfl
theorem zwd_180 : (Jvm.Cond.fieldLink "PremiumHours" (118 : Nat) "PremiumHours$Rules" "longest" "I") ∈ zbig := zt1 180 rfl rfl
theorem zwd_181 : (Jvm.Cond.fieldLink "PremiumHours$Rules" (55 : Nat) "PremiumHours$Rules" "rate" "I") ∈ zbig := zt1 181 rfl rfl
theorem zwd_182 : (Jvm.Cond.fieldLink "PremiumHours$RuleReader" (76 : Nat) "PremiumHours$Rules" "rate" "I") ∈ zbig := zt1 182 rfl rfl
theorem zwd_183 : (Jvm.Cond.fieldLink "PremiumHours" (121 : Nat) "PremiumHours$Rules" "rate" "I") ∈ zbig := zt1 183 rfl rfl
theorem zwd_184 : (Jvm.Cond.fieldLink "PremiumHours$Sheet" (153 : Nat) "PremiumHours$Rules" "rate" "I") ∈ zbig := zt1 184 rfl rfl
theorem zwd_185 : (Jvm.Cond.laysFinal "PremiumHours$Rules" "PremiumHours$Rules" "clock" "LPremiumHours$Clock;") ∈ zbig := zt1 185 rfl rfl
theorem zwd_187 : (Jvm.Cond.laysFinal "PremiumHours$Rules" "PremiumHours$Rules" "premiums" "[LPremiumHours$Premium;") ∈ zbig := zt1 187 rfl rfl
theorem zwd_189 : (Jvm.Cond.lays "PremiumHours$Rules" "PremiumHours$Rules" "premiumCount" "I") ∈ zbig := zt1 189 rfl rfl
theorem zwd_191 : (Jvm.Cond.laysFinal "PremiumHours$Rules" "PremiumHours$Rules" "holidays" "[I") ∈ zbig := zt1 191 rfl rfl
theorem zwd_193 : (Jvm.Cond.lays "PremiumHours$Rules" "PremiumHours$Rules" "holidayCount" "I") ∈ zbig := zt1 193 rfl rfl
theorem zwd_195 : (Jvm.Cond.lays "PremiumHours$Rules" "PremiumHours$Rules" "round" "I") ∈ zbig := zt1 195 rfl rfl
theorem zwd_197 : (Jvm.Cond.lays "PremiumHours$Rules" "PremiumHours$Rules" "mealAfter" "I") ∈ zbig := zt1 197 rfl rfl
theorem zwd_199 : (Jvm.Cond.lays "PremiumHours$Rules" "PremiumHours$Rules" "mealLength" "I") ∈ zbig := zt1 199 rfl rfl
theorem zwd_201 : (Jvm.Cond.lays "PremiumHours$Rules" "PremiumHours$Rules" "longest" "I") ∈ zbig := zt1 201 rfl rfl
theorem zwd_203 : (Jvm.Cond.lays "PremiumHours$Rules" "PremiumHours$Rules" "rate" "I") ∈ zbig := zt1 203 rfl rfl
theorem zwd_206 : (Jvm.Cond.classLink "PremiumHours" (33 : Nat) "PremiumHours$Card") ∈ zbig := zt1 206 rfl rfl
theorem zwd_208 : (Jvm.Cond.classLink "PremiumHours" (39 : Nat) "PremiumHours$Sheet") ∈ zbig := zt1 208 rfl rfl
theorem zwd_210 : (Jvm.Cond.instantiable "PremiumHours$Card" (3 : Nat)) ∈ zbig := zt1 210 rfl rfl
theorem zwd_212 : (Jvm.Cond.instanceMethod ({ cls := "PremiumHours$Card", name := "<init>", desc := "()V" } : Jvm.MethodName)) ∈ zbig := zt1 212 rfl rfl
theorem zwd_213 : (Jvm.Cond.code ({ cls := "PremiumHours$Card", name := "<init>", desc := "()V" } : Jvm.MethodName) prog_3_method_1_code (1 : Nat) (Option.none : Option Jvm.ClassFile.FieldType)) ∈ zbig := zt1 213 rfl rfl
theorem zwd_214 : (Jvm.Cond.methodLink "PremiumHours$Card" (3 : Nat) ({ cls := "java/lang/Object", name := "<init>", desc := "()V" } : Jvm.MethodName)) ∈ zbig := zt1 214 rfl rfl
theorem zwd_215 : (Jvm.Cond.fieldLink "PremiumHours$Card" (9 : Nat) "PremiumHours$Card" "moments" "[I") ∈ zbig := zt1 215 rfl rfl
theorem zwd_216 : (Jvm.Cond.fieldLink "PremiumHours$Sheet" (97 : Nat) "PremiumHours$Card" "moments" "[I") ∈ zbig := zt1 216 rfl rfl
theorem zwd_217 : (Jvm.Cond.fieldLink "PremiumHours" (214 : Nat) "PremiumHours$Card" "moments" "[I") ∈ zbig := zt1 217 rfl rfl
theorem zwd_218 : (Jvm.Cond.fieldLink "PremiumHours$Card" (15 : Nat) "PremiumHours$Card" "kinds" "[I") ∈ zbig := zt1 218 rfl rfl
theorem zwd_219 : (Jvm.Cond.fieldLink "PremiumHours$Sheet" (94 : Nat) "PremiumHours$Card" "kinds" "[I") ∈ zbig := zt1 219 rfl rfl
theorem zwd_220 : (Jvm.Cond.fieldLink "PremiumHours" (196 : Nat) "PremiumHours$Card" "kinds" "[I") ∈ zbig := zt1 220 rfl rfl
theorem zwd_221 : (Jvm.Cond.fieldLink "PremiumHours$Card" (18 : Nat) "PremiumHours$Card" "size" "I") ∈ zbig := zt1 221 rfl rfl
theorem zwd_222 : (Jvm.Cond.fieldLink "PremiumHours" (105 : Nat) "PremiumHours$Card" "size" "I") ∈ zbig := zt1 222 rfl rfl
theorem zwd_223 : (Jvm.Cond.fieldLink "PremiumHours$Sheet" (91 : Nat) "PremiumHours$Card" "size" "I") ∈ zbig := zt1 223 rfl rfl
theorem zwd_224 : (Jvm.Cond.laysFinal "PremiumHours$Card" "PremiumHours$Card" "moments" "[I") ∈ zbig := zt1 224 rfl rfl
theorem zwd_226 : (Jvm.Cond.laysFinal "PremiumHours$Card" "PremiumHours$Card" "kinds" "[I") ∈ zbig := zt1 226 rfl rfl
theorem zwd_228 : (Jvm.Cond.lays "PremiumHours$Card" "PremiumHours$Card" "size" "I") ∈ zbig := zt1 228 rfl rfl
theorem zwd_231 : (Jvm.Cond.instantiable "PremiumHours$Sheet" (14 : Nat)) ∈ zbig := zt1 231 rfl rfl
theorem zwd_233 : (Jvm.Cond.instanceMethod ({ cls := "PremiumHours$Sheet", name := "<init>", desc := "()V" } : Jvm.MethodName)) ∈ zbig := zt1 233 rfl rfl
theorem zwd_234 : (Jvm.Cond.code ({ cls := "PremiumHours$Sheet", name := "<init>", desc := "()V" } : Jvm.MethodName) prog_10_method_1_code (1 : Nat) (Option.none : Option Jvm.ClassFile.FieldType)) ∈ zbig := zt1 234 rfl rfl
theorem zwd_235 : (Jvm.Cond.methodLink "PremiumHours$Sheet" (3 : Nat) ({ cls := "java/lang/Object", name := "<init>", desc := "()V" } : Jvm.MethodName)) ∈ zbig := zt1 235 rfl rfl
theorem zwd_236 : (Jvm.Cond.classLink "PremiumHours$Sheet" (37 : Nat) "PremiumHours$Pieces") ∈ zbig := zt1 236 rfl rfl
theorem zwd_237 : (Jvm.Cond.instantiable "PremiumHours$Pieces" (3 : Nat)) ∈ zbig := zt1 237 rfl rfl
theorem zwd_239 : (Jvm.Cond.instanceMethod ({ cls := "PremiumHours$Pieces", name := "<init>", desc := "()V" } : Jvm.MethodName)) ∈ zbig := zt1 239 rfl rfl
theorem zwd_240 : (Jvm.Cond.code ({ cls := "PremiumHours$Pieces", name := "<init>", desc := "()V" } : Jvm.MethodName) prog_6_method_1_code (1 : Nat) (Option.none : Option Jvm.ClassFile.FieldType)) ∈ zbig := zt2 0 rfl rfl
theorem zwd_241 : (Jvm.Cond.methodLink "PremiumHours$Pieces" (3 : Nat) ({ cls := "java/lang/Object", name := "<init>", desc := "()V" } : Jvm.MethodName)) ∈ zbig := zt2 1 rfl rfl
theorem zwd_242 : (Jvm.Cond.fieldLink "PremiumHours$Pieces" (9 : Nat) "PremiumHours$Pieces" "begins" "[I") ∈ zbig := zt2 2 rfl rfl
theorem zwd_243 : (Jvm.Cond.fieldLink "PremiumHours$Week" (60 : Nat) "PremiumHours$Pieces" "begins" "[I") ∈ zbig := zt2 3 rfl rfl
theorem zwd_244 : (Jvm.Cond.fieldLink "PremiumHours$Pieces" (15 : Nat) "PremiumHours$Pieces" "ends" "[I") ∈ zbig := zt2 4 rfl rfl
theorem zwd_245 : (Jvm.Cond.fieldLink "PremiumHours$Week" (51 : Nat) "PremiumHours$Pieces" "ends" "[I") ∈ zbig := zt2 5 rfl rfl
theorem zwd_246 : (Jvm.Cond.fieldLink "PremiumHours$Pieces" (18 : Nat) "PremiumHours$Pieces" "size" "I") ∈ zbig := zt2 6 rfl rfl
theorem zwd_247 : (Jvm.Cond.fieldLink "PremiumHours$Sheet" (57 : Nat) "PremiumHours$Pieces" "size" "I") ∈ zbig := zt2 7 rfl rfl
theorem zwd_248 : (Jvm.Cond.fieldLink "PremiumHours$Week" (48 : Nat) "PremiumHours$Pieces" "size" "I") ∈ zbig := zt2 8 rfl rfl
theorem zwd_249 : (Jvm.Cond.laysFinal "PremiumHours$Pieces" "PremiumHours$Pieces" "begins" "[I") ∈ zbig := zt2 9 rfl rfl
theorem zwd_251 : (Jvm.Cond.laysFinal "PremiumHours$Pieces" "PremiumHours$Pieces" "ends" "[I") ∈ zbig := zt2 11 rfl rfl
theorem zwd_253 : (Jvm.Cond.lays "PremiumHours$Pieces" "PremiumHours$Pieces" "size" "I") ∈ zbig := zt2 13 rfl rfl
theorem zwd_256 : (Jvm.Cond.fieldLink "PremiumHours$Sheet" (9 : Nat) "PremiumHours$Sheet" "stale" "Z") ∈ zbig := zt2 16 rfl rfl
theorem zwd_257 : (Jvm.Cond.fieldLink "PremiumHours" (183 : Nat) "PremiumHours$Sheet" "stale" "Z") ∈ zbig := zt2 17 rfl rfl
theorem zwd_258 : (Jvm.Cond.fieldLink "PremiumHours$Sheet" (15 : Nat) "PremiumHours$Sheet" "roles" "[I") ∈ zbig := zt2 18 rfl rfl
theorem zwd_259 : (Jvm.Cond.fieldLink "PremiumHours" (219 : Nat) "PremiumHours$Sheet" "roles" "[I") ∈ zbig := zt2 19 rfl rfl
theorem zwd_260 : (Jvm.Cond.fieldLink "PremiumHours$Sheet" (19 : Nat) "PremiumHours$Sheet" "spanBegins" "[I") ∈ zbig := zt2 20 rfl rfl
theorem zwd_261 : (Jvm.Cond.fieldLink "PremiumHours" (225 : Nat) "PremiumHours$Sheet" "spanBegins" "[I") ∈ zbig := zt2 21 rfl rfl
theorem zwd_262 : (Jvm.Cond.fieldLink "PremiumHours$Sheet" (22 : Nat) "PremiumHours$Sheet" "spanEnds" "[I") ∈ zbig := zt2 22 rfl rfl
theorem zwd_263 : (Jvm.Cond.fieldLink "PremiumHours" (228 : Nat) "PremiumHours$Sheet" "spanEnds" "[I") ∈ zbig := zt2 23 rfl rfl
theorem zwd_264 : (Jvm.Cond.fieldLink "PremiumHours$Sheet" (25 : Nat) "PremiumHours$Sheet" "spanWorked" "[I") ∈ zbig := zt2 24 rfl rfl
theorem zwd_265 : (Jvm.Cond.fieldLink "PremiumHours" (231 : Nat) "PremiumHours$Sheet" "spanWorked" "[I") ∈ zbig := zt2 25 rfl rfl
theorem zwd_266 : (Jvm.Cond.fieldLink "PremiumHours$Sheet" (88 : Nat) "PremiumHours$Sheet" "spanCount" "I") ∈ zbig := zt2 26 rfl rfl
theorem zwd_267 : (Jvm.Cond.fieldLink "PremiumHours" (222 : Nat) "PremiumHours$Sheet" "spanCount" "I") ∈ zbig := zt2 27 rfl rfl
theorem zwd_268 : (Jvm.Cond.fieldLink "PremiumHours$Sheet" (28 : Nat) "PremiumHours$Sheet" "paid" "[I") ∈ zbig := zt2 28 rfl rfl
theorem zwd_269 : (Jvm.Cond.fieldLink "PremiumHours" (237 : Nat) "PremiumHours$Sheet" "paid" "[I") ∈ zbig := zt2 29 rfl rfl
theorem zwd_270 : (Jvm.Cond.fieldLink "PremiumHours$Sheet" (31 : Nat) "PremiumHours$Sheet" "came" "[I") ∈ zbig := zt2 30 rfl rfl
theorem zwd_271 : (Jvm.Cond.fieldLink "PremiumHours" (243 : Nat) "PremiumHours$Sheet" "came" "[I") ∈ zbig := zt2 31 rfl rfl
theorem zwd_272 : (Jvm.Cond.fieldLink "PremiumHours$Sheet" (34 : Nat) "PremiumHours$Sheet" "may" "[I") ∈ zbig := zt2 32 rfl rfl
theorem zwd_273 : (Jvm.Cond.fieldLink "PremiumHours" (245 : Nat) "PremiumHours$Sheet" "may" "[I") ∈ zbig := zt2 33 rfl rfl
theorem zwd_274 : (Jvm.Cond.fieldLink "PremiumHours$Sheet" (40 : Nat) "PremiumHours$Sheet" "pieces" "LPremiumHours$Pieces;") ∈ zbig := zt2 34 rfl rfl
theorem zwd_275 : (Jvm.Cond.fieldLink "PremiumHours$Sheet" (44 : Nat) "PremiumHours$Sheet" "earlier" "LPremiumHours$Pieces;") ∈ zbig := zt2 35 rfl rfl
theorem zwd_276 : (Jvm.Cond.fieldLink "PremiumHours$Sheet" (47 : Nat) "PremiumHours$Sheet" "weekPay" "[I") ∈ zbig := zt2 36 rfl rfl
theorem zwd_277 : (Jvm.Cond.fieldLink "PremiumHours$Sheet" (50 : Nat) "PremiumHours$Sheet" "knownWeeks" "I") ∈ zbig := zt2 37 rfl rfl
theorem zwd_278 : (Jvm.Cond.fieldLink "PremiumHours$Sheet" (54 : Nat) "PremiumHours$Sheet" "allowedThen" "I") ∈ zbig := zt2 38 rfl rfl
theorem zwd_279 : (Jvm.Cond.lays "PremiumHours$Sheet" "PremiumHours$Sheet" "stale" "Z") ∈ zbig := zt2 39 rfl rfl
theorem zwd_281 : (Jvm.Cond.laysFinal "PremiumHours$Sheet" "PremiumHours$Sheet" "roles" "[I") ∈ zbig := zt2 41 rfl rfl
theorem zwd_283 : (Jvm.Cond.laysFinal "PremiumHours$Sheet" "PremiumHours$Sheet" "spanBegins" "[I") ∈ zbig := zt2 43 rfl rfl
theorem zwd_285 : (Jvm.Cond.laysFinal "PremiumHours$Sheet" "PremiumHours$Sheet" "spanEnds" "[I") ∈ zbig := zt2 45 rfl rfl
theorem zwd_287 : (Jvm.Cond.laysFinal "PremiumHours$Sheet" "PremiumHours$Sheet" "spanWorked" "[I") ∈ zbig := zt2 47 rfl rfl
theorem zwd_289 : (Jvm.Cond.lays "PremiumHours$Sheet" "PremiumHours$Sheet" "spanCount" "I") ∈ zbig := zt2 49 rfl rfl
theorem zwd_291 : (Jvm.Cond.laysFinal "PremiumHours$Sheet" "PremiumHours$Sheet" "paid" "[I") ∈ zbig := zt2 51 rfl rfl
theorem zwd_293 : (Jvm.Cond.laysFinal "PremiumHours$Sheet" "PremiumHours$Sheet" "came" "[I") ∈ zbig := zt2 53 rfl rfl
theorem zwd_295 : (Jvm.Cond.laysFinal "PremiumHours$Sheet" "PremiumHours$Sheet" "may" "[I") ∈ zbig := zt2 55 rfl rfl
theorem zwd_297 : (Jvm.Cond.lays "PremiumHours$Sheet" "PremiumHours$Sheet" "pieces" "LPremiumHours$Pieces;") ∈ zbig := zt2 57 rfl rfl
theorem zwd_299 : (Jvm.Cond.lays "PremiumHours$Sheet" "PremiumHours$Sheet" "earlier" "LPremiumHours$Pieces;") ∈ zbig := zt2 59 rfl rfl
theorem zwd_301 : (Jvm.Cond.laysFinal "PremiumHours$Sheet" "PremiumHours$Sheet" "weekPay" "[I") ∈ zbig := zt2 61 rfl rfl
theorem zwd_303 : (Jvm.Cond.lays "PremiumHours$Sheet" "PremiumHours$Sheet" "knownWeeks" "I") ∈ zbig := zt2 63 rfl rfl
theorem zwd_305 : (Jvm.Cond.lays "PremiumHours$Sheet" "PremiumHours$Sheet" "allowedThen" "I") ∈ zbig := zt2 65 rfl rfl
theorem zwd_308 : (Jvm.Cond.classLink "PremiumHours" (47 : Nat) "PremiumHours$History") ∈ zbig := zt2 68 rfl rfl
theorem zwd_309 : (Jvm.Cond.instantiable "PremiumHours$History" (5 : Nat)) ∈ zbig := zt2 69 rfl rfl
theorem zwd_311 : (Jvm.Cond.instanceMethod ({ cls := "PremiumHours$History", name := "<init>", desc := "()V" } : Jvm.MethodName)) ∈ zbig := zt2 71 rfl rfl
theorem zwd_312 : (Jvm.Cond.code ({ cls := "PremiumHours$History", name := "<init>", desc := "()V" } : Jvm.MethodName) prog_5_method_1_code (1 : Nat) (Option.none : Option Jvm.ClassFile.FieldType)) ∈ zbig := zt2 72 rfl rfl
theorem zwd_313 : (Jvm.Cond.methodLink "PremiumHours$History" (1 : Nat) ({ cls := "java/lang/Object", name := "<init>", desc := "()V" } : Jvm.MethodName)) ∈ zbig := zt2 73 rfl rfl
theorem zwd_314 : (Jvm.Cond.fieldLink "PremiumHours$History" (9 : Nat) "PremiumHours$History" "workers" "[I") ∈ zbig := zt2 74 rfl rfl
theorem zwd_315 : (Jvm.Cond.fieldLink "PremiumHours" (203 : Nat) "PremiumHours$History" "workers" "[I") ∈ zbig := zt2 75 rfl rfl
theorem zwd_316 : (Jvm.Cond.fieldLink "PremiumHours$History" (13 : Nat) "PremiumHours$History" "moments" "[I") ∈ zbig := zt2 76 rfl rfl
theorem zwd_317 : (Jvm.Cond.fieldLink "PremiumHours" (210 : Nat) "PremiumHours$History" "moments" "[I") ∈ zbig := zt2 77 rfl rfl
theorem zwd_318 : (Jvm.Cond.fieldLink "PremiumHours$History" (16 : Nat) "PremiumHours$History" "kinds" "[I") ∈ zbig := zt2 78 rfl rfl
theorem zwd_319 : (Jvm.Cond.fieldLink "PremiumHours" (213 : Nat) "PremiumHours$History" "kinds" "[I") ∈ zbig := zt2 79 rfl rfl
theorem zwd_320 : (Jvm.Cond.fieldLink "PremiumHours$History" (19 : Nat) "PremiumHours$History" "came" "[Z") ∈ zbig := zt2 80 rfl rfl
theorem zwd_321 : (Jvm.Cond.fieldLink "PremiumHours" (206 : Nat) "PremiumHours$History" "came" "[Z") ∈ zbig := zt2 81 rfl rfl
theorem zwd_322 : (Jvm.Cond.fieldLink "PremiumHours$History" (23 : Nat) "PremiumHours$History" "size" "I") ∈ zbig := zt2 82 rfl rfl
theorem zwd_323 : (Jvm.Cond.fieldLink "PremiumHours" (101 : Nat) "PremiumHours$History" "size" "I") ∈ zbig := zt2 83 rfl rfl
theorem zwd_324 : (Jvm.Cond.laysFinal "PremiumHours$History" "PremiumHours$History" "workers" "[I") ∈ zbig := zt2 84 rfl rfl
theorem zwd_326 : (Jvm.Cond.laysFinal "PremiumHours$History" "PremiumHours$History" "moments" "[I") ∈ zbig := zt2 86 rfl rfl
theorem zwd_328 : (Jvm.Cond.laysFinal "PremiumHours$History" "PremiumHours$History" "kinds" "[I") ∈ zbig := zt2 88 rfl rfl
theorem zwd_330 : (Jvm.Cond.laysFinal "PremiumHours$History" "PremiumHours$History" "came" "[Z") ∈ zbig := zt2 90 rfl rfl
theorem zwd_332 : (Jvm.Cond.lays "PremiumHours$History" "PremiumHours$History" "size" "I") ∈ zbig := zt2 92 rfl rfl
theorem zwd_335 : (Jvm.Cond.arrayClass Jvm.ClassFile.FieldType.boolean) ∈ zbig := zt2 95 rfl rfl
theorem zwd_336 : (Jvm.Cond.classLink "PremiumHours" (62 : Nat) "PremiumHours$BestWay") ∈ zbig := zt2 96 rfl rfl
theorem zwd_337 : (Jvm.Cond.instantiable "PremiumHours$BestWay" (9 : Nat)) ∈ zbig := zt2 97 rfl rfl
theorem zwd_339 : (Jvm.Cond.instanceMethod ({ cls := "PremiumHours$BestWay", name := "<init>", desc := "()V" } : Jvm.MethodName)) ∈ zbig := zt2 99 rfl rfl
theorem zwd_340 : (Jvm.Cond.code ({ cls := "PremiumHours$BestWay", name := "<init>", desc := "()V" } : Jvm.MethodName) prog_2_method_1_code (1 : Nat) (Option.none : Option Jvm.ClassFile.FieldType)) ∈ zbig := zt2 100 rfl rfl
theorem zwd_341 : (Jvm.Cond.methodLink "PremiumHours$BestWay" (5 : Nat) ({ cls := "java/lang/Object", name := "<init>", desc := "()V" } : Jvm.MethodName)) ∈ zbig := zt2 101 rfl rfl
theorem zwd_342 : (Jvm.Cond.classLink "PremiumHours$BestWay" (11 : Nat) "PremiumHours$Week") ∈ zbig := zt2 102 rfl rfl
theorem zwd_343 : (Jvm.Cond.instantiable "PremiumHours$Week" (5 : Nat)) ∈ zbig := zt2 103 rfl rfl
theorem zwd_345 : (Jvm.Cond.instanceMethod ({ cls := "PremiumHours$Week", name := "<init>", desc := "()V" } : Jvm.MethodName)) ∈ zbig := zt2 105 rfl rfl
theorem zwd_346 : (Jvm.Cond.code ({ cls := "PremiumHours$Week", name := "<init>", desc := "()V" } : Jvm.MethodName) prog_12_method_1_code (1 : Nat) (Option.none : Option Jvm.ClassFile.FieldType)) ∈ zbig := zt2 106 rfl rfl
theorem zwd_347 : (Jvm.Cond.methodLink "PremiumHours$Week" (3 : Nat) ({ cls := "java/lang/Object", name := "<init>", desc := "()V" } : Jvm.MethodName)) ∈ zbig := zt2 107 rfl rfl
theorem zwd_348 : (Jvm.Cond.fieldLink "PremiumHours$Week" (9 : Nat) "PremiumHours$Week" "quarters" "[I") ∈ zbig := zt2 108 rfl rfl
theorem zwd_349 : (Jvm.Cond.fieldLink "PremiumHours$Sheet" (142 : Nat) "PremiumHours$Week" "quarters" "[I") ∈ zbig := zt2 109 rfl rfl
theorem zwd_350 : (Jvm.Cond.fieldLink "PremiumHours$Week" (15 : Nat) "PremiumHours$Week" "bits" "[I") ∈ zbig := zt2 110 rfl rfl
theorem zwd_351 : (Jvm.Cond.fieldLink "PremiumHours$BestWay" (73 : Nat) "PremiumHours$Week" "bits" "[I") ∈ zbig := zt2 111 rfl rfl
theorem zwd_352 : (Jvm.Cond.fieldLink "PremiumHours$Sheet" (150 : Nat) "PremiumHours$Week" "bits" "[I") ∈ zbig := zt2 112 rfl rfl
theorem zwd_353 : (Jvm.Cond.fieldLink "PremiumHours$Week" (18 : Nat) "PremiumHours$Week" "paid" "[I") ∈ zbig := zt2 113 rfl rfl
theorem zwd_354 : (Jvm.Cond.fieldLink "PremiumHours$BestWay" (88 : Nat) "PremiumHours$Week" "paid" "[I") ∈ zbig := zt2 114 rfl rfl
theorem zwd_355 : (Jvm.Cond.fieldLink "PremiumHours$Sheet" (145 : Nat) "PremiumHours$Week" "paid" "[I") ∈ zbig := zt2 115 rfl rfl
theorem zwd_356 : (Jvm.Cond.fieldLink "PremiumHours$Week" (21 : Nat) "PremiumHours$Week" "size" "I") ∈ zbig := zt2 116 rfl rfl
theorem zwd_357 : (Jvm.Cond.fieldLink "PremiumHours$BestWay" (40 : Nat) "PremiumHours$Week" "size" "I") ∈ zbig := zt2 117 rfl rfl
theorem zwd_358 : (Jvm.Cond.fieldLink "PremiumHours$Sheet" (141 : Nat) "PremiumHours$Week" "size" "I") ∈ zbig := zt2 118 rfl rfl
theorem zwd_359 : (Jvm.Cond.fieldLink "PremiumHours$Week" (25 : Nat) "PremiumHours$Week" "daysWorked" "I") ∈ zbig := zt2 119 rfl rfl
theorem zwd_360 : (Jvm.Cond.laysFinal "PremiumHours$Week" "PremiumHours$Week" "quarters" "[I") ∈ zbig := zt2 120 rfl rfl
theorem zwd_362 : (Jvm.Cond.laysFinal "PremiumHours$Week" "PremiumHours$Week" "bits" "[I") ∈ zbig := zt2 122 rfl rfl
theorem zwd_364 : (Jvm.Cond.laysFinal "PremiumHours$Week" "PremiumHours$Week" "paid" "[I") ∈ zbig := zt2 124 rfl rfl
theorem zwd_366 : (Jvm.Cond.lays "PremiumHours$Week" "PremiumHours$Week" "size" "I") ∈ zbig := zt2 126 rfl rfl
theorem zwd_368 : (Jvm.Cond.lays "PremiumHours$Week" "PremiumHours$Week" "daysWorked" "I") ∈ zbig := zt2 128 rfl rfl
theorem zwd_371 : (Jvm.Cond.fieldLink "PremiumHours$BestWay" (14 : Nat) "PremiumHours$BestWay" "work" "LPremiumHours$Week;") ∈ zbig := zt2 131 rfl rfl
theorem zwd_372 : (Jvm.Cond.fieldLink "PremiumHours$Sheet" (125 : Nat) "PremiumHours$BestWay" "work" "LPremiumHours$Week;") ∈ zbig := zt2 132 rfl rfl
theorem zwd_373 : (Jvm.Cond.fieldLink "PremiumHours$BestWay" (18 : Nat) "PremiumHours$BestWay" "counting" "[I") ∈ zbig := zt2 133 rfl rfl
theorem zwd_374 : (Jvm.Cond.fieldLink "PremiumHours$BestWay" (22 : Nat) "PremiumHours$BestWay" "other" "[I") ∈ zbig := zt2 134 rfl rfl
theorem zwd_375 : (Jvm.Cond.fieldLink "PremiumHours$BestWay" (25 : Nat) "PremiumHours$BestWay" "weekCounting" "[I") ∈ zbig := zt2 135 rfl rfl
theorem zwd_376 : (Jvm.Cond.fieldLink "PremiumHours$BestWay" (28 : Nat) "PremiumHours$BestWay" "weekOther" "[I") ∈ zbig := zt2 136 rfl rfl
theorem zwd_377 : (Jvm.Cond.fieldLink "PremiumHours$BestWay" (31 : Nat) "PremiumHours$BestWay" "least" "[I") ∈ zbig := zt2 137 rfl rfl
theorem zwd_378 : (Jvm.Cond.fieldLink "PremiumHours$BestWay" (34 : Nat) "PremiumHours$BestWay" "rest" "[I") ∈ zbig := zt2 138 rfl rfl
theorem zwd_379 : (Jvm.Cond.fieldLink "PremiumHours$BestWay" (37 : Nat) "PremiumHours$BestWay" "marks" "[I") ∈ zbig := zt2 139 rfl rfl
theorem zwd_380 : (Jvm.Cond.fieldLink "PremiumHours$BestWay" (50 : Nat) "PremiumHours$BestWay" "top" "I") ∈ zbig := zt2 140 rfl rfl
theorem zwd_381 : (Jvm.Cond.laysFinal "PremiumHours$BestWay" "PremiumHours$BestWay" "work" "LPremiumHours$Week;") ∈ zbig := zt2 141 rfl rfl
theorem zwd_383 : (Jvm.Cond.laysFinal "PremiumHours$BestWay" "PremiumHours$BestWay" "counting" "[I") ∈ zbig := zt2 143 rfl rfl
theorem zwd_385 : (Jvm.Cond.laysFinal "PremiumHours$BestWay" "PremiumHours$BestWay" "other" "[I") ∈ zbig := zt2 145 rfl rfl
theorem zwd_387 : (Jvm.Cond.laysFinal "PremiumHours$BestWay" "PremiumHours$BestWay" "weekCounting" "[I") ∈ zbig := zt2 147 rfl rfl
theorem zwd_389 : (Jvm.Cond.laysFinal "PremiumHours$BestWay" "PremiumHours$BestWay" "weekOther" "[I") ∈ zbig := zt2 149 rfl rfl
theorem zwd_391 : (Jvm.Cond.laysFinal "PremiumHours$BestWay" "PremiumHours$BestWay" "least" "[I") ∈ zbig := zt2 151 rfl rfl
theorem zwd_393 : (Jvm.Cond.laysFinal "PremiumHours$BestWay" "PremiumHours$BestWay" "rest" "[I") ∈ zbig := zt2 153 rfl rfl
theorem zwd_395 : (Jvm.Cond.laysFinal "PremiumHours$BestWay" "PremiumHours$BestWay" "marks" "[I") ∈ zbig := zt2 155 rfl rfl
theorem zwd_397 : (Jvm.Cond.lays "PremiumHours$BestWay" "PremiumHours$BestWay" "top" "I") ∈ zbig := zt2 157 rfl rfl
theorem zwd_400 : (Jvm.Cond.fieldLink "PremiumHours" (12 : Nat) "PremiumHours" "tape" "LPremiumHours$Tape;") ∈ zbig := zt2 160 rfl rfl
theorem zwd_401 : (Jvm.Cond.fieldLink "PremiumHours" (19 : Nat) "PremiumHours" "reader" "LPremiumHours$RuleReader;") ∈ zbig := zt2 161 rfl rfl
theorem zwd_402 : (Jvm.Cond.fieldLink "PremiumHours" (26 : Nat) "PremiumHours" "inForce" "LPremiumHours$Rules;") ∈ zbig := zt2 162 rfl rfl
theorem zwd_403 : (Jvm.Cond.fieldLink "PremiumHours" (30 : Nat) "PremiumHours" "spare" "LPremiumHours$Rules;") ∈ zbig := zt2 163 rfl rfl
theorem zwd_404 : (Jvm.Cond.fieldLink "PremiumHours" (35 : Nat) "PremiumHours" "cards" "[LPremiumHours$Card;") ∈ zbig := zt2 164 rfl rfl
theorem zwd_405 : (Jvm.Cond.fieldLink "PremiumHours" (41 : Nat) "PremiumHours" "sheets" "[LPremiumHours$Sheet;") ∈ zbig := zt2 165 rfl rfl
theorem zwd_406 : (Jvm.Cond.fieldLink "PremiumHours" (50 : Nat) "PremiumHours" "history" "LPremiumHours$History;") ∈ zbig := zt2 166 rfl rfl
theorem zwd_407 : (Jvm.Cond.fieldLink "PremiumHours" (54 : Nat) "PremiumHours" "trialCard" "LPremiumHours$Card;") ∈ zbig := zt2 167 rfl rfl
theorem zwd_408 : (Jvm.Cond.fieldLink "PremiumHours" (58 : Nat) "PremiumHours" "trialSheet" "LPremiumHours$Sheet;") ∈ zbig := zt2 168 rfl rfl
theorem zwd_409 : (Jvm.Cond.fieldLink "PremiumHours" (65 : Nat) "PremiumHours" "way" "LPremiumHours$BestWay;") ∈ zbig := zt2 169 rfl rfl
theorem zwd_410 : (Jvm.Cond.laysFinal "PremiumHours" "PremiumHours" "tape" "LPremiumHours$Tape;") ∈ zbig := zt2 170 rfl rfl
theorem zwd_412 : (Jvm.Cond.laysFinal "PremiumHours" "PremiumHours" "reader" "LPremiumHours$RuleReader;") ∈ zbig := zt2 172 rfl rfl
theorem zwd_414 : (Jvm.Cond.lays "PremiumHours" "PremiumHours" "inForce" "LPremiumHours$Rules;") ∈ zbig := zt2 174 rfl rfl
theorem zwd_416 : (Jvm.Cond.lays "PremiumHours" "PremiumHours" "spare" "LPremiumHours$Rules;") ∈ zbig := zt2 176 rfl rfl
theorem zwd_418 : (Jvm.Cond.laysFinal "PremiumHours" "PremiumHours" "cards" "[LPremiumHours$Card;") ∈ zbig := zt2 178 rfl rfl
theorem zwd_420 : (Jvm.Cond.laysFinal "PremiumHours" "PremiumHours" "sheets" "[LPremiumHours$Sheet;") ∈ zbig := zt2 180 rfl rfl
theorem zwd_422 : (Jvm.Cond.laysFinal "PremiumHours" "PremiumHours" "history" "LPremiumHours$History;") ∈ zbig := zt2 182 rfl rfl
theorem zwd_424 : (Jvm.Cond.laysFinal "PremiumHours" "PremiumHours" "trialCard" "LPremiumHours$Card;") ∈ zbig := zt2 184 rfl rfl
theorem zwd_426 : (Jvm.Cond.laysFinal "PremiumHours" "PremiumHours" "trialSheet" "LPremiumHours$Sheet;") ∈ zbig := zt2 186 rfl rfl
theorem zwd_428 : (Jvm.Cond.laysFinal "PremiumHours" "PremiumHours" "way" "LPremiumHours$BestWay;") ∈ zbig := zt2 188 rfl rfl
theorem zwd_431 : (Jvm.Cond.methodLink "PremiumHoursLaw" (23 : Nat) ({ cls := "PremiumHours", name := "feed", desc := "(IIIII)I" } : Jvm.MethodName)) ∈ zbig := zt2 191 rfl rfl
theorem zwd_432 : (Jvm.Cond.instanceMethod ({ cls := "PremiumHours", name := "feed", desc := "(IIIII)I" } : Jvm.MethodName)) ∈ zbig := zt2 192 rfl rfl
theorem zwd_433 : (Jvm.Cond.selects "PremiumHours" ({ cls := "PremiumHours", name := "feed", desc := "(IIIII)I" } : Jvm.MethodName) ({ cls := "PremiumHours", name := "feed", desc := "(IIIII)I" } : Jvm.MethodName)) ∈ zbig := zt2 193 rfl rfl
theorem zwd_434 : (Jvm.Cond.code ({ cls := "PremiumHours", name := "feed", desc := "(IIIII)I" } : Jvm.MethodName) prog_1_method_2_code (6 : Nat) (Option.some Jvm.ClassFile.FieldType.int)) ∈ zbig := zt2 194 rfl rfl
theorem zwd_435 : (Jvm.Cond.methodLink "PremiumHours" (69 : Nat) ({ cls := "PremiumHours$Tape", name := "hasRoom", desc := "(I)Z" } : Jvm.MethodName)) ∈ zbig := zt2 195 rfl rfl
theorem zwd_436 : (Jvm.Cond.instanceMethod ({ cls := "PremiumHours$Tape", name := "hasRoom", desc := "(I)Z" } : Jvm.MethodName)) ∈ zbig := zt2 196 rfl rfl
theorem zwd_437 : (Jvm.Cond.selects "PremiumHours$Tape" ({ cls := "PremiumHours$Tape", name := "hasRoom", desc := "(I)Z" } : Jvm.MethodName) ({ cls := "PremiumHours$Tape", name := "hasRoom", desc := "(I)Z" } : Jvm.MethodName)) ∈ zbig := zt2 197 rfl rfl
theorem zwd_438 : (Jvm.Cond.code ({ cls := "PremiumHours$Tape", name := "hasRoom", desc := "(I)Z" } : Jvm.MethodName) prog_11_method_2_code (2 : Nat) (Option.some Jvm.ClassFile.FieldType.boolean)) ∈ zbig := zt2 198 rfl rfl
theorem zwd_439 : (Jvm.Cond.methodLink "PremiumHours" (73 : Nat) ({ cls := "PremiumHours$Tape", name := "put", desc := "(I)V" } : Jvm.MethodName)) ∈ zbig := zt2 199 rfl rfl
theorem zwd_440 : (Jvm.Cond.instanceMethod ({ cls := "PremiumHours$Tape", name := "put", desc := "(I)V" } : Jvm.MethodName)) ∈ zbig := zt2 200 rfl rfl
theorem zwd_441 : (Jvm.Cond.selects "PremiumHours$Tape" ({ cls := "PremiumHours$Tape", name := "put", desc := "(I)V" } : Jvm.MethodName) ({ cls := "PremiumHours$Tape", name := "put", desc := "(I)V" } : Jvm.MethodName)) ∈ zbig := zt2 201 rfl rfl
theorem zwd_442 : (Jvm.Cond.code ({ cls := "PremiumHours$Tape", name := "put", desc := "(I)V" } : Jvm.MethodName) prog_11_method_3_code (3 : Nat) (Option.none : Option Jvm.ClassFile.FieldType)) ∈ zbig := zt2 202 rfl rfl
theorem zwd_443 : (Jvm.Cond.methodLink "PremiumHoursLaw" (28 : Nat) ({ cls := "PremiumHours", name := "rules", desc := "(I)I" } : Jvm.MethodName)) ∈ zbig := zt2 203 rfl rfl
theorem zwd_444 : (Jvm.Cond.instanceMethod ({ cls := "PremiumHours", name := "rules", desc := "(I)I" } : Jvm.MethodName)) ∈ zbig := zt2 204 rfl rfl
theorem zwd_445 : (Jvm.Cond.selects "PremiumHours" ({ cls := "PremiumHours", name := "rules", desc := "(I)I" } : Jvm.MethodName) ({ cls := "PremiumHours", name := "rules", desc := "(I)I" } : Jvm.MethodName)) ∈ zbig := zt2 205 rfl rfl
theorem zwd_446 : (Jvm.Cond.code ({ cls := "PremiumHours", name := "rules", desc := "(I)I" } : Jvm.MethodName) prog_1_method_3_code (3 : Nat) (Option.some Jvm.ClassFile.FieldType.int)) ∈ zbig := zt2 206 rfl rfl
theorem zwd_447 : (Jvm.Cond.methodLink "PremiumHours" (81 : Nat) ({ cls := "PremiumHours$RuleReader", name := "read", desc := "(LPremiumHours$Tape;ILPremiumHours$Rules;)I" } : Jvm.MethodName)) ∈ zbig := zt2 207 rfl rfl
theorem zwd_448 : (Jvm.Cond.instanceMethod ({ cls := "PremiumHours$RuleReader", name := "read", desc := "(LPremiumHours$Tape;ILPremiumHours$Rules;)I" } : Jvm.MethodName)) ∈ zbig := zt2 208 rfl rfl
theorem zwd_449 : (Jvm.Cond.selects "PremiumHours$RuleReader" ({ cls := "PremiumHours$RuleReader", name := "read", desc := "(LPremiumHours$Tape;ILPremiumHours$Rules;)I" } : Jvm.MethodName) ({ cls := "PremiumHours$RuleReader", name := "read", desc := "(LPremiumHours$Tape;ILPremiumHours$Rules;)I" } : Jvm.MethodName)) ∈ zbig := zt2 209 rfl rfl
theorem zwd_450 : (Jvm.Cond.code ({ cls := "PremiumHours$RuleReader", name := "read", desc := "(LPremiumHours$Tape;ILPremiumHours$Rules;)I" } : Jvm.MethodName) prog_8_method_2_code (5 : Nat) (Option.some Jvm.ClassFile.FieldType.int)) ∈ zbig := zt2 210 rfl rfl
theorem zwd_451 : (Jvm.Cond.methodLink "PremiumHours$RuleReader" (18 : Nat) ({ cls := "PremiumHours$Rules", name := "clear", desc := "()V" } : Jvm.MethodName)) ∈ zbig := zt2 211 rfl rfl
theorem zwd_452 : (Jvm.Cond.methodLink "PremiumHours$RuleReader" (23 : Nat) ({ cls := "PremiumHours$Tape", name := "open", desc := "(I)V" } : Jvm.MethodName)) ∈ zbig := zt2 212 rfl rfl
theorem zwd_453 : (Jvm.Cond.instanceMethod ({ cls := "PremiumHours$Tape", name := "open", desc := "(I)V" } : Jvm.MethodName)) ∈ zbig := zt2 213 rfl rfl
theorem zwd_454 : (Jvm.Cond.selects "PremiumHours$Tape" ({ cls := "PremiumHours$Tape", name := "open", desc := "(I)V" } : Jvm.MethodName) ({ cls := "PremiumHours$Tape", name := "open", desc := "(I)V" } : Jvm.MethodName)) ∈ zbig := zt2 214 rfl rfl
theorem zwd_455 : (Jvm.Cond.code ({ cls := "PremiumHours$Tape", name := "open", desc := "(I)V" } : Jvm.MethodName) prog_11_method_4_code (2 : Nat) (Option.none : Option Jvm.ClassFile.FieldType)) ∈ zbig := zt2 215 rfl rfl
theorem zwd_456 : (Jvm.Cond.methodLink "PremiumHours$Tape" (19 : Nat) ({ cls := "java/lang/Math", name := "min", desc := "(II)I" } : Jvm.MethodName)) ∈ zbig := zt2 216 rfl rfl
theorem zwd_457 : (Jvm.Cond.static ({ cls := "java/lang/Math", name := "min", desc := "(II)I" } : Jvm.MethodName)) ∈ zbig := zt2 217 rfl rfl
theorem zwd_458 : (Jvm.Cond.code ({ cls := "java/lang/Math", name := "min", desc := "(II)I" } : Jvm.MethodName) prog_19_method_69_code (2 : Nat) (Option.some Jvm.ClassFile.FieldType.int)) ∈ zbig := zt2 218 rfl rfl
theorem zwd_459 : (Jvm.Cond.methodLink "PremiumHours$Tape" (31 : Nat) ({ cls := "PremiumHours$Tape", name := "advance", desc := "()V" } : Jvm.MethodName)) ∈ zbig := zt2 219 rfl rfl
theorem zwd_460 : (Jvm.Cond.instanceMethod ({ cls := "PremiumHours$Tape", name := "advance", desc := "()V" } : Jvm.MethodName)) ∈ zbig := zt2 220 rfl rfl
theorem zwd_461 : (Jvm.Cond.selects "PremiumHours$Tape" ({ cls := "PremiumHours$Tape", name := "advance", desc := "()V" } : Jvm.MethodName) ({ cls := "PremiumHours$Tape", name := "advance", desc := "()V" } : Jvm.MethodName)) ∈ zbig := zt2 221 rfl rfl
theorem zwd_462 : (Jvm.Cond.code ({ cls := "PremiumHours$Tape", name := "advance", desc := "()V" } : Jvm.MethodName) prog_11_method_5_code (1 : Nat) (Option.none : Option Jvm.ClassFile.FieldType)) ∈ zbig := zt2 222 rfl rfl
theorem zwd_463 : (Jvm.Cond.methodLink "PremiumHours$Tape" (40 : Nat) ({ cls := "PremiumHours$Tape", name := "isLetter", desc := "(I)Z" } : Jvm.MethodName)) ∈ zbig := zt2 223 rfl rfl
theorem zwd_464 : (Jvm.Cond.static ({ cls := "PremiumHours$Tape", name := "isLetter", desc := "(I)Z" } : Jvm.MethodName)) ∈ zbig := zt2 224 rfl rfl
theorem zwd_465 : (Jvm.Cond.code ({ cls := "PremiumHours$Tape", name := "isLetter", desc := "(I)Z" } : Jvm.MethodName) prog_11_method_8_code (1 : Nat) (Option.some Jvm.ClassFile.FieldType.boolean)) ∈ zbig := zt2 225 rfl rfl
theorem zwd_466 : (Jvm.Cond.methodLink "PremiumHours$Tape" (44 : Nat) ({ cls := "PremiumHours$Tape", name := "isDigit", desc := "(I)Z" } : Jvm.MethodName)) ∈ zbig := zt2 226 rfl rfl
theorem zwd_467 : (Jvm.Cond.static ({ cls := "PremiumHours$Tape", name := "isDigit", desc := "(I)Z" } : Jvm.MethodName)) ∈ zbig := zt2 227 rfl rfl
theorem zwd_468 : (Jvm.Cond.code ({ cls := "PremiumHours$Tape", name := "isDigit", desc := "(I)Z" } : Jvm.MethodName) prog_11_method_9_code (1 : Nat) (Option.some Jvm.ClassFile.FieldType.boolean)) ∈ zbig := zt2 228 rfl rfl
theorem zwd_469 : (Jvm.Cond.methodLink "PremiumHours$RuleReader" (32 : Nat) ({ cls := "PremiumHours$RuleReader", name := "readLine", desc := "(LPremiumHours$Tape;LPremiumHours$Rules;)V" } : Jvm.MethodName)) ∈ zbig := zt2 229 rfl rfl
theorem zwd_471 : (Jvm.Cond.instanceMethod ({ cls := "PremiumHours$RuleReader", name := "readLine", desc := "(LPremiumHours$Tape;LPremiumHours$Rules;)V" } : Jvm.MethodName)) ∈ zbig := zt2 231 rfl rfl
theorem zwd_472 : (Jvm.Cond.code ({ cls := "PremiumHours$RuleReader", name := "readLine", desc := "(LPremiumHours$Tape;LPremiumHours$Rules;)V" } : Jvm.MethodName) prog_8_method_3_code (3 : Nat) (Option.none : Option Jvm.ClassFile.FieldType)) ∈ zbig := zt2 232 rfl rfl
theorem zwd_474 : (Jvm.Cond.methodLink "PremiumHours$RuleReader" (38 : Nat) ({ cls := "PremiumHours$Tape", name := "tells", desc := "(Ljava/lang/String;)Z" } : Jvm.MethodName)) ∈ zbig := zt2 234 rfl rfl
theorem zwd_475 : (Jvm.Cond.instanceMethod ({ cls := "PremiumHours$Tape", name := "tells", desc := "(Ljava/lang/String;)Z" } : Jvm.MethodName)) ∈ zbig := zt2 235 rfl rfl
theorem zwd_476 : (Jvm.Cond.selects "PremiumHours$Tape" ({ cls := "PremiumHours$Tape", name := "tells", desc := "(Ljava/lang/String;)Z" } : Jvm.MethodName) ({ cls := "PremiumHours$Tape", name := "tells", desc := "(Ljava/lang/String;)Z" } : Jvm.MethodName)) ∈ zbig := zt2 236 rfl rfl
theorem zwd_477 : (Jvm.Cond.code ({ cls := "PremiumHours$Tape", name := "tells", desc := "(Ljava/lang/String;)Z" } : Jvm.MethodName) prog_11_method_6_code (3 : Nat) (Option.some Jvm.ClassFile.FieldType.boolean)) ∈ zbig := zt2 237 rfl rfl
theorem zwd_478 : (Jvm.Cond.methodLink "PremiumHours$Tape" (47 : Nat) ({ cls := "java/lang/String", name := "length", desc := "()I" } : Jvm.MethodName)) ∈ zbig := zt2 238 rfl rfl
theorem zwd_479 : (Jvm.Cond.instanceMethod ({ cls := "java/lang/String", name := "length", desc := "()I" } : Jvm.MethodName)) ∈ zbig := zt2 239 rfl rfl
theorem zwd_480 : (Jvm.Cond.selects "java/lang/String" ({ cls := "java/lang/String", name := "length", desc := "()I" } : Jvm.MethodName) ({ cls := "java/lang/String", name := "length", desc := "()I" } : Jvm.MethodName)) ∈ zbig := zt3 0 rfl rfl
theorem zwd_481 : (Jvm.Cond.code ({ cls := "java/lang/String", name := "length", desc := "()I" } : Jvm.MethodName) prog_21_method_54_code (1 : Nat) (Option.some Jvm.ClassFile.FieldType.int)) ∈ zbig := zt3 1 rfl rfl
theorem zwd_482 : (Jvm.Cond.methodLink "java/lang/String" (335 : Nat) ({ cls := "java/lang/String", name := "coder", desc := "()B" } : Jvm.MethodName)) ∈ zbig := zt3 2 rfl rfl
theorem zwd_483 : (Jvm.Cond.instanceMethod ({ cls := "java/lang/String", name := "coder", desc := "()B" } : Jvm.MethodName)) ∈ zbig := zt3 3 rfl rfl
theorem zwd_484 : (Jvm.Cond.selects "java/lang/String" ({ cls := "java/lang/String", name := "coder", desc := "()B" } : Jvm.MethodName) ({ cls := "java/lang/String", name := "coder", desc := "()B" } : Jvm.MethodName)) ∈ zbig := zt3 4 rfl rfl
theorem zwd_485 : (Jvm.Cond.code ({ cls := "java/lang/String", name := "coder", desc := "()B" } : Jvm.MethodName) prog_21_method_152_code (1 : Nat) (Option.some Jvm.ClassFile.FieldType.byte)) ∈ zbig := zt3 5 rfl rfl
theorem zwd_486 : (Jvm.Cond.fieldLink "java/lang/String" (38 : Nat) "java/lang/String" "COMPACT_STRINGS" "Z") ∈ zbig := zt3 6 rfl rfl
theorem zwd_488 : (Jvm.Cond.methodLink "PremiumHours$Tape" (53 : Nat) ({ cls := "java/lang/String", name := "charAt", desc := "(I)C" } : Jvm.MethodName)) ∈ zbig := zt3 8 rfl rfl
theorem zwd_489 : (Jvm.Cond.instanceMethod ({ cls := "java/lang/String", name := "charAt", desc := "(I)C" } : Jvm.MethodName)) ∈ zbig := zt3 9 rfl rfl
theorem zwd_490 : (Jvm.Cond.selects "java/lang/String" ({ cls := "java/lang/String", name := "charAt", desc := "(I)C" } : Jvm.MethodName) ({ cls := "java/lang/String", name := "charAt", desc := "(I)C" } : Jvm.MethodName)) ∈ zbig := zt3 10 rfl rfl
theorem zwd_491 : (Jvm.Cond.code ({ cls := "java/lang/String", name := "charAt", desc := "(I)C" } : Jvm.MethodName) prog_21_method_56_code (2 : Nat) (Option.some Jvm.ClassFile.FieldType.char)) ∈ zbig := zt3 11 rfl rfl
theorem zwd_492 : (Jvm.Cond.methodLink "java/lang/String" (492 : Nat) ({ cls := "java/lang/String", name := "isLatin1", desc := "()Z" } : Jvm.MethodName)) ∈ zbig := zt3 12 rfl rfl
theorem zwd_493 : (Jvm.Cond.instanceMethod ({ cls := "java/lang/String", name := "isLatin1", desc := "()Z" } : Jvm.MethodName)) ∈ zbig := zt3 13 rfl rfl
theorem zwd_494 : (Jvm.Cond.selects "java/lang/String" ({ cls := "java/lang/String", name := "isLatin1", desc := "()Z" } : Jvm.MethodName) ({ cls := "java/lang/String", name := "isLatin1", desc := "()Z" } : Jvm.MethodName)) ∈ zbig := zt3 14 rfl rfl
theorem zwd_495 : (Jvm.Cond.code ({ cls := "java/lang/String", name := "isLatin1", desc := "()Z" } : Jvm.MethodName) prog_21_method_154_code (1 : Nat) (Option.some Jvm.ClassFile.FieldType.boolean)) ∈ zbig := zt3 15 rfl rfl
theorem zwd_496 : (Jvm.Cond.methodLink "java/lang/String" (495 : Nat) ({ cls := "java/lang/StringLatin1", name := "charAt", desc := "([BI)C" } : Jvm.MethodName)) ∈ zbig := zt3 16 rfl rfl
theorem zwd_497 : (Jvm.Cond.static ({ cls := "java/lang/StringLatin1", name := "charAt", desc := "([BI)C" } : Jvm.MethodName)) ∈ zbig := zt3 17 rfl rfl
theorem zwd_498 : (Jvm.Cond.code ({ cls := "java/lang/StringLatin1", name := "charAt", desc := "([BI)C" } : Jvm.MethodName) prog_22_method_2_code (2 : Nat) (Option.some Jvm.ClassFile.FieldType.char)) ∈ zbig := zt3 18 rfl rfl
theorem zwd_499 : (Jvm.Cond.methodLink "java/lang/StringLatin1" (9 : Nat) ({ cls := "java/lang/String", name := "checkIndex", desc := "(II)V" } : Jvm.MethodName)) ∈ zbig := zt3 19 rfl rfl
theorem zwd_500 : (Jvm.Cond.static ({ cls := "java/lang/String", name := "checkIndex", desc := "(II)V" } : Jvm.MethodName)) ∈ zbig := zt3 20 rfl rfl
theorem zwd_501 : (Jvm.Cond.code ({ cls := "java/lang/String", name := "checkIndex", desc := "(II)V" } : Jvm.MethodName) prog_21_method_155_code (2 : Nat) (Option.none : Option Jvm.ClassFile.FieldType)) ∈ zbig := zt3 21 rfl rfl
theorem zwd_502 : (Jvm.Cond.fieldLink "java/lang/String" (1053 : Nat) "jdk/internal/util/Preconditions" "SIOOBE_FORMATTER" "Ljava/util/function/BiFunction;") ∈ zbig := zt3 22 rfl rfl
theorem zwd_504 : (Jvm.Cond.methodLink "java/lang/String" (1059 : Nat) ({ cls := "jdk/internal/util/Preconditions", name := "checkIndex", desc := "(IILjava/util/function/BiFunction;)I" } : Jvm.MethodName)) ∈ zbig := zt3 24 rfl rfl
theorem zwd_505 : (Jvm.Cond.static ({ cls := "jdk/internal/util/Preconditions", name := "checkIndex", desc := "(IILjava/util/function/BiFunction;)I" } : Jvm.MethodName)) ∈ zbig := zt3 25 rfl rfl
theorem zwd_506 : (Jvm.Cond.code ({ cls := "jdk/internal/util/Preconditions", name := "checkIndex", desc := "(IILjava/util/function/BiFunction;)I" } : Jvm.MethodName) prog_28_method_11_code (3 : Nat) (Option.some Jvm.ClassFile.FieldType.int)) ∈ zbig := zt3 26 rfl rfl
theorem zwd_507 : (Jvm.Cond.methodLink "java/lang/String" (498 : Nat) ({ cls := "java/lang/StringUTF16", name := "charAt", desc := "([BI)C" } : Jvm.MethodName)) ∈ zbig := zt3 27 rfl rfl
theorem zwd_508 : (Jvm.Cond.static ({ cls := "java/lang/StringUTF16", name := "charAt", desc := "([BI)C" } : Jvm.MethodName)) ∈ zbig := zt3 28 rfl rfl
theorem zwd_509 : (Jvm.Cond.code ({ cls := "java/lang/StringUTF16", name := "charAt", desc := "([BI)C" } : Jvm.MethodName) prog_23_method_83_code (2 : Nat) (Option.some Jvm.ClassFile.FieldType.char)) ∈ zbig := zt3 29 rfl rfl
theorem zwd_510 : (Jvm.Cond.methodLink "java/lang/StringUTF16" (67 : Nat) ({ cls := "java/lang/StringUTF16", name := "checkIndex", desc := "(I[B)V" } : Jvm.MethodName)) ∈ zbig := zt3 30 rfl rfl
theorem zwd_511 : (Jvm.Cond.static ({ cls := "java/lang/StringUTF16", name := "checkIndex", desc := "(I[B)V" } : Jvm.MethodName)) ∈ zbig := zt3 31 rfl rfl
theorem zwd_512 : (Jvm.Cond.code ({ cls := "java/lang/StringUTF16", name := "checkIndex", desc := "(I[B)V" } : Jvm.MethodName) prog_23_method_91_code (2 : Nat) (Option.none : Option Jvm.ClassFile.FieldType)) ∈ zbig := zt3 32 rfl rfl
theorem zwd_513 : (Jvm.Cond.methodLink "java/lang/StringUTF16" (48 : Nat) ({ cls := "java/lang/StringUTF16", name := "length", desc := "([B)I" } : Jvm.MethodName)) ∈ zbig := zt3 33 rfl rfl
theorem zwd_514 : (Jvm.Cond.static ({ cls := "java/lang/StringUTF16", name := "length", desc := "([B)I" } : Jvm.MethodName)) ∈ zbig := zt3 34 rfl rfl
theorem zwd_515 : (Jvm.Cond.code ({ cls := "java/lang/StringUTF16", name := "length", desc := "([B)I" } : Jvm.MethodName) prog_23_method_6_code (1 : Nat) (Option.some Jvm.ClassFile.FieldType.int)) ∈ zbig := zt3 35 rfl rfl
theorem zwd_516 : (Jvm.Cond.methodLink "java/lang/StringUTF16" (414 : Nat) ({ cls := "java/lang/String", name := "checkIndex", desc := "(II)V" } : Jvm.MethodName)) ∈ zbig := zt3 36 rfl rfl
theorem zwd_517 : (Jvm.Cond.methodLink "java/lang/StringUTF16" (71 : Nat) ({ cls := "java/lang/StringUTF16", name := "getChar", desc := "([BI)C" } : Jvm.MethodName)) ∈ zbig := zt3 37 rfl rfl
theorem zwd_518 : (Jvm.Cond.static ({ cls := "java/lang/StringUTF16", name := "getChar", desc := "([BI)C" } : Jvm.MethodName)) ∈ zbig := zt3 38 rfl rfl
theorem zwd_519 : (Jvm.Cond.code ({ cls := "java/lang/StringUTF16", name := "getChar", desc := "([BI)C" } : Jvm.MethodName) prog_23_method_5_code (2 : Nat) (Option.some Jvm.ClassFile.FieldType.char)) ∈ zbig := zt3 39 rfl rfl
theorem zwd_520 : (Jvm.Cond.fieldLink "java/lang/StringUTF16" (44 : Nat) "java/lang/StringUTF16" "$assertionsDisabled" "Z") ∈ zbig := zt3 40 rfl rfl
theorem zwd_522 : (Jvm.Cond.fieldLink "java/lang/StringUTF16" (59 : Nat) "java/lang/StringUTF16" "HI_BYTE_SHIFT" "I") ∈ zbig := zt3 42 rfl rfl
theorem zwd_524 : (Jvm.Cond.fieldLink "java/lang/StringUTF16" (63 : Nat) "java/lang/StringUTF16" "LO_BYTE_SHIFT" "I") ∈ zbig := zt3 44 rfl rfl
theorem zwd_526 : (Jvm.Cond.methodLink "PremiumHours$RuleReader" (42 : Nat) ({ cls := "PremiumHours$RuleReader", name := "readClock", desc := "(LPremiumHours$Tape;LPremiumHours$Rules;)V" } : Jvm.MethodName)) ∈ zbig := zt3 46 rfl rfl
theorem zwd_528 : (Jvm.Cond.instanceMethod ({ cls := "PremiumHours$RuleReader", name := "readClock", desc := "(LPremiumHours$Tape;LPremiumHours$Rules;)V" } : Jvm.MethodName)) ∈ zbig := zt3 48 rfl rfl
theorem zwd_529 : (Jvm.Cond.code ({ cls := "PremiumHours$RuleReader", name := "readClock", desc := "(LPremiumHours$Tape;LPremiumHours$Rules;)V" } : Jvm.MethodName) prog_8_method_4_code (6 : Nat) (Option.none : Option Jvm.ClassFile.FieldType)) ∈ zbig := zt3 49 rfl rfl
theorem zwd_530 : (Jvm.Cond.methodLink "PremiumHours$RuleReader" (52 : Nat) ({ cls := "PremiumHours$RuleReader", name := "passOnce", desc := "(LPremiumHours$Tape;I)V" } : Jvm.MethodName)) ∈ zbig := zt3 50 rfl rfl
theorem zwd_532 : (Jvm.Cond.instanceMethod ({ cls := "PremiumHours$RuleReader", name := "passOnce", desc := "(LPremiumHours$Tape;I)V" } : Jvm.MethodName)) ∈ zbig := zt3 52 rfl rfl
theorem zwd_533 : (Jvm.Cond.code ({ cls := "PremiumHours$RuleReader", name := "passOnce", desc := "(LPremiumHours$Tape;I)V" } : Jvm.MethodName) prog_8_method_9_code (3 : Nat) (Option.none : Option Jvm.ClassFile.FieldType)) ∈ zbig := zt3 53 rfl rfl
theorem zwd_534 : (Jvm.Cond.methodLink "PremiumHours$RuleReader" (86 : Nat) ({ cls := "PremiumHours$RuleReader", name := "refuse", desc := "(II)V" } : Jvm.MethodName)) ∈ zbig := zt3 54 rfl rfl
theorem zwd_536 : (Jvm.Cond.instanceMethod ({ cls := "PremiumHours$RuleReader", name := "refuse", desc := "(II)V" } : Jvm.MethodName)) ∈ zbig := zt3 56 rfl rfl
theorem zwd_537 : (Jvm.Cond.code ({ cls := "PremiumHours$RuleReader", name := "refuse", desc := "(II)V" } : Jvm.MethodName) prog_8_method_12_code (3 : Nat) (Option.none : Option Jvm.ClassFile.FieldType)) ∈ zbig := zt3 57 rfl rfl
theorem zwd_538 : (Jvm.Cond.methodLink "PremiumHours$RuleReader" (90 : Nat) ({ cls := "PremiumHours$RuleReader", name := "passIf", desc := "(LPremiumHours$Tape;Z)V" } : Jvm.MethodName)) ∈ zbig := zt3 58 rfl rfl
theorem zwd_540 : (Jvm.Cond.instanceMethod ({ cls := "PremiumHours$RuleReader", name := "passIf", desc := "(LPremiumHours$Tape;Z)V" } : Jvm.MethodName)) ∈ zbig := zt3 60 rfl rfl
theorem zwd_541 : (Jvm.Cond.code ({ cls := "PremiumHours$RuleReader", name := "passIf", desc := "(LPremiumHours$Tape;Z)V" } : Jvm.MethodName) prog_8_method_10_code (3 : Nat) (Option.none : Option Jvm.ClassFile.FieldType)) ∈ zbig := zt3 61 rfl rfl
theorem zwd_542 : (Jvm.Cond.methodLink "PremiumHours$RuleReader" (110 : Nat) ({ cls := "PremiumHours$Tape", name := "advance", desc := "()V" } : Jvm.MethodName)) ∈ zbig := zt3 62 rfl rfl
theorem zwd_543 : (Jvm.Cond.methodLink "PremiumHours$RuleReader" (56 : Nat) ({ cls := "PremiumHours$RuleReader", name := "readNumber", desc := "(LPremiumHours$Tape;II)I" } : Jvm.MethodName)) ∈ zbig := zt3 63 rfl rfl
theorem zwd_545 : (Jvm.Cond.instanceMethod ({ cls := "PremiumHours$RuleReader", name := "readNumber", desc := "(LPremiumHours$Tape;II)I" } : Jvm.MethodName)) ∈ zbig := zt3 65 rfl rfl
theorem zwd_546 : (Jvm.Cond.code ({ cls := "PremiumHours$RuleReader", name := "readNumber", desc := "(LPremiumHours$Tape;II)I" } : Jvm.MethodName) prog_8_method_11_code (5 : Nat) (Option.some Jvm.ClassFile.FieldType.int)) ∈ zbig := zt3 66 rfl rfl
theorem zwd_547 : (Jvm.Cond.methodLink "PremiumHours$RuleReader" (163 : Nat) ({ cls := "PremiumHours$Tape", name := "value", desc := "()I" } : Jvm.MethodName)) ∈ zbig := zt3 67 rfl rfl
theorem zwd_548 : (Jvm.Cond.instanceMethod ({ cls := "PremiumHours$Tape", name := "value", desc := "()I" } : Jvm.MethodName)) ∈ zbig := zt3 68 rfl rfl
theorem zwd_549 : (Jvm.Cond.selects "PremiumHours$Tape" ({ cls := "PremiumHours$Tape", name := "value", desc := "()I" } : Jvm.MethodName) ({ cls := "PremiumHours$Tape", name := "value", desc := "()I" } : Jvm.MethodName)) ∈ zbig := zt3 69 rfl rfl
theorem zwd_550 : (Jvm.Cond.code ({ cls := "PremiumHours$Tape", name := "value", desc := "()I" } : Jvm.MethodName) prog_11_method_7_code (3 : Nat) (Option.some Jvm.ClassFile.FieldType.int)) ∈ zbig := zt3 70 rfl rfl
theorem zwd_553 : (Jvm.Cond.methodLink "PremiumHours$RuleReader" (103 : Nat) ({ cls := "PremiumHours$Clock", name := "set", desc := "(III)V" } : Jvm.MethodName)) ∈ zbig := zt3 73 rfl rfl
theorem zwd_555 : (Jvm.Cond.methodLink "PremiumHours$RuleReader" (47 : Nat) ({ cls := "PremiumHours$RuleReader", name := "readHoliday", desc := "(LPremiumHours$Tape;LPremiumHours$Rules;)V" } : Jvm.MethodName)) ∈ zbig := zt3 75 rfl rfl
theorem zwd_557 : (Jvm.Cond.instanceMethod ({ cls := "PremiumHours$RuleReader", name := "readHoliday", desc := "(LPremiumHours$Tape;LPremiumHours$Rules;)V" } : Jvm.MethodName)) ∈ zbig := zt3 77 rfl rfl
theorem zwd_558 : (Jvm.Cond.code ({ cls := "PremiumHours$RuleReader", name := "readHoliday", desc := "(LPremiumHours$Tape;LPremiumHours$Rules;)V" } : Jvm.MethodName) prog_8_method_5_code (5 : Nat) (Option.none : Option Jvm.ClassFile.FieldType)) ∈ zbig := zt3 78 rfl rfl
theorem zwd_559 : (Jvm.Cond.methodLink "PremiumHours$RuleReader" (113 : Nat) ({ cls := "PremiumHours$Rules", name := "isHoliday", desc := "(I)Z" } : Jvm.MethodName)) ∈ zbig := zt3 79 rfl rfl
theorem zwd_560 : (Jvm.Cond.instanceMethod ({ cls := "PremiumHours$Rules", name := "isHoliday", desc := "(I)Z" } : Jvm.MethodName)) ∈ zbig := zt3 80 rfl rfl
theorem zwd_561 : (Jvm.Cond.selects "PremiumHours$Rules" ({ cls := "PremiumHours$Rules", name := "isHoliday", desc := "(I)Z" } : Jvm.MethodName) ({ cls := "PremiumHours$Rules", name := "isHoliday", desc := "(I)Z" } : Jvm.MethodName)) ∈ zbig := zt3 81 rfl rfl
theorem zwd_562 : (Jvm.Cond.code ({ cls := "PremiumHours$Rules", name := "isHoliday", desc := "(I)Z" } : Jvm.MethodName) prog_9_method_3_code (3 : Nat) (Option.some Jvm.ClassFile.FieldType.boolean)) ∈ zbig := zt3 82 rfl rfl
theorem zwd_568 : (Jvm.Cond.methodLink "PremiumHours$RuleReader" (80 : Nat) ({ cls := "PremiumHours$RuleReader", name := "readPremium", desc := "(LPremiumHours$Tape;LPremiumHours$Rules;)V" } : Jvm.MethodName)) ∈ zbig := zt3 88 rfl rfl
theorem zwd_570 : (Jvm.Cond.instanceMethod ({ cls := "PremiumHours$RuleReader", name := "readPremium", desc := "(LPremiumHours$Tape;LPremiumHours$Rules;)V" } : Jvm.MethodName)) ∈ zbig := zt3 90 rfl rfl
theorem zwd_571 : (Jvm.Cond.code ({ cls := "PremiumHours$RuleReader", name := "readPremium", desc := "(LPremiumHours$Tape;LPremiumHours$Rules;)V" } : Jvm.MethodName) prog_8_method_6_code (4 : Nat) (Option.none : Option Jvm.ClassFile.FieldType)) ∈ zbig := zt3 91 rfl rfl
theorem zwd_572 : (Jvm.Cond.methodLink "PremiumHours$RuleReader" (128 : Nat) ({ cls := "PremiumHours$RuleReader", name := "readKind", desc := "(LPremiumHours$Tape;LPremiumHours$Premium;)V" } : Jvm.MethodName)) ∈ zbig := zt3 92 rfl rfl
theorem zwd_574 : (Jvm.Cond.instanceMethod ({ cls := "PremiumHours$RuleReader", name := "readKind", desc := "(LPremiumHours$Tape;LPremiumHours$Premium;)V" } : Jvm.MethodName)) ∈ zbig := zt3 94 rfl rfl
theorem zwd_575 : (Jvm.Cond.code ({ cls := "PremiumHours$RuleReader", name := "readKind", desc := "(LPremiumHours$Tape;LPremiumHours$Premium;)V" } : Jvm.MethodName) prog_8_method_7_code (4 : Nat) (Option.none : Option Jvm.ClassFile.FieldType)) ∈ zbig := zt3 95 rfl rfl
theorem zwd_576 : (Jvm.Cond.methodLink "PremiumHours$RuleReader" (148 : Nat) ({ cls := "PremiumHours$RuleReader", name := "kindOf", desc := "(LPremiumHours$Tape;)I" } : Jvm.MethodName)) ∈ zbig := zt3 96 rfl rfl
theorem zwd_577 : (Jvm.Cond.static ({ cls := "PremiumHours$RuleReader", name := "kindOf", desc := "(LPremiumHours$Tape;)I" } : Jvm.MethodName)) ∈ zbig := zt3 97 rfl rfl
theorem zwd_578 : (Jvm.Cond.code ({ cls := "PremiumHours$RuleReader", name := "kindOf", desc := "(LPremiumHours$Tape;)I" } : Jvm.MethodName) prog_8_method_8_code (1 : Nat) (Option.some Jvm.ClassFile.FieldType.int)) ∈ zbig := zt3 98 rfl rfl
theorem zwd_584 : (Jvm.Cond.methodLink "PremiumHours" (85 : Nat) ({ cls := "PremiumHours", name := "replaceRules", desc := "()V" } : Jvm.MethodName)) ∈ zbig := zt3 104 rfl rfl
theorem zwd_586 : (Jvm.Cond.instanceMethod ({ cls := "PremiumHours", name := "replaceRules", desc := "()V" } : Jvm.MethodName)) ∈ zbig := zt3 106 rfl rfl
theorem zwd_587 : (Jvm.Cond.code ({ cls := "PremiumHours", name := "replaceRules", desc := "()V" } : Jvm.MethodName) prog_1_method_4_code (4 : Nat) (Option.none : Option Jvm.ClassFile.FieldType)) ∈ zbig := zt3 107 rfl rfl
theorem zwd_588 : (Jvm.Cond.methodLink "PremiumHours" (95 : Nat) ({ cls := "PremiumHours$Clock", name := "sameAs", desc := "(LPremiumHours$Clock;)Z" } : Jvm.MethodName)) ∈ zbig := zt3 108 rfl rfl
theorem zwd_589 : (Jvm.Cond.instanceMethod ({ cls := "PremiumHours$Clock", name := "sameAs", desc := "(LPremiumHours$Clock;)Z" } : Jvm.MethodName)) ∈ zbig := zt3 109 rfl rfl
theorem zwd_590 : (Jvm.Cond.selects "PremiumHours$Clock" ({ cls := "PremiumHours$Clock", name := "sameAs", desc := "(LPremiumHours$Clock;)Z" } : Jvm.MethodName) ({ cls := "PremiumHours$Clock", name := "sameAs", desc := "(LPremiumHours$Clock;)Z" } : Jvm.MethodName)) ∈ zbig := zt3 110 rfl rfl
theorem zwd_591 : (Jvm.Cond.code ({ cls := "PremiumHours$Clock", name := "sameAs", desc := "(LPremiumHours$Clock;)Z" } : Jvm.MethodName) prog_4_method_3_code (2 : Nat) (Option.some Jvm.ClassFile.FieldType.boolean)) ∈ zbig := zt3 111 rfl rfl
theorem zwd_592 : (Jvm.Cond.methodLink "PremiumHours" (102 : Nat) ({ cls := "PremiumHours$Sheet", name := "forget", desc := "()V" } : Jvm.MethodName)) ∈ zbig := zt3 112 rfl rfl
theorem zwd_593 : (Jvm.Cond.instanceMethod ({ cls := "PremiumHours$Sheet", name := "forget", desc := "()V" } : Jvm.MethodName)) ∈ zbig := zt3 113 rfl rfl
theorem zwd_594 : (Jvm.Cond.selects "PremiumHours$Sheet" ({ cls := "PremiumHours$Sheet", name := "forget", desc := "()V" } : Jvm.MethodName) ({ cls := "PremiumHours$Sheet", name := "forget", desc := "()V" } : Jvm.MethodName)) ∈ zbig := zt3 114 rfl rfl
theorem zwd_595 : (Jvm.Cond.code ({ cls := "PremiumHours$Sheet", name := "forget", desc := "()V" } : Jvm.MethodName) prog_10_method_2_code (1 : Nat) (Option.none : Option Jvm.ClassFile.FieldType)) ∈ zbig := zt3 115 rfl rfl
theorem zwd_596 : (Jvm.Cond.arrayClass Jvm.ClassFile.FieldType.byte) ∈ zbig := zt3 116 rfl rfl
theorem zwd_597 : (Jvm.Cond.methodLink "PremiumHoursLaw" (33 : Nat) ({ cls := "PremiumHours", name := "count", desc := "(I)I" } : Jvm.MethodName)) ∈ zbig := zt3 117 rfl rfl
theorem zwd_598 : (Jvm.Cond.instanceMethod ({ cls := "PremiumHours", name := "count", desc := "(I)I" } : Jvm.MethodName)) ∈ zbig := zt3 118 rfl rfl
theorem zwd_599 : (Jvm.Cond.selects "PremiumHours" ({ cls := "PremiumHours", name := "count", desc := "(I)I" } : Jvm.MethodName) ({ cls := "PremiumHours", name := "count", desc := "(I)I" } : Jvm.MethodName)) ∈ zbig := zt3 119 rfl rfl
theorem zwd_600 : (Jvm.Cond.code ({ cls := "PremiumHours", name := "count", desc := "(I)I" } : Jvm.MethodName) prog_1_method_5_code (2 : Nat) (Option.some Jvm.ClassFile.FieldType.int)) ∈ zbig := zt3 120 rfl rfl
theorem zwd_601 : (Jvm.Cond.methodLink "PremiumHoursLaw" (47 : Nat) ({ cls := "PremiumHours", name := "moment", desc := "(IIZ)I" } : Jvm.MethodName)) ∈ zbig := zt3 121 rfl rfl
theorem zwd_602 : (Jvm.Cond.instanceMethod ({ cls := "PremiumHours", name := "moment", desc := "(IIZ)I" } : Jvm.MethodName)) ∈ zbig := zt3 122 rfl rfl
theorem zwd_603 : (Jvm.Cond.selects "PremiumHours" ({ cls := "PremiumHours", name := "moment", desc := "(IIZ)I" } : Jvm.MethodName) ({ cls := "PremiumHours", name := "moment", desc := "(IIZ)I" } : Jvm.MethodName)) ∈ zbig := zt3 123 rfl rfl
theorem zwd_604 : (Jvm.Cond.code ({ cls := "PremiumHours", name := "moment", desc := "(IIZ)I" } : Jvm.MethodName) prog_1_method_7_code (4 : Nat) (Option.some Jvm.ClassFile.FieldType.int)) ∈ zbig := zt3 124 rfl rfl
theorem zwd_605 : (Jvm.Cond.methodLink "PremiumHours" (161 : Nat) ({ cls := "PremiumHours$Clock", name := "momentAt", desc := "(IIZ)I" } : Jvm.MethodName)) ∈ zbig := zt3 125 rfl rfl
theorem zwd_606 : (Jvm.Cond.instanceMethod ({ cls := "PremiumHours$Clock", name := "momentAt", desc := "(IIZ)I" } : Jvm.MethodName)) ∈ zbig := zt3 126 rfl rfl
theorem zwd_607 : (Jvm.Cond.selects "PremiumHours$Clock" ({ cls := "PremiumHours$Clock", name := "momentAt", desc := "(IIZ)I" } : Jvm.MethodName) ({ cls := "PremiumHours$Clock", name := "momentAt", desc := "(IIZ)I" } : Jvm.MethodName)) ∈ zbig := zt3 127 rfl rfl
theorem zwd_608 : (Jvm.Cond.code ({ cls := "PremiumHours$Clock", name := "momentAt", desc := "(IIZ)I" } : Jvm.MethodName) prog_4_method_4_code (5 : Nat) (Option.some Jvm.ClassFile.FieldType.int)) ∈ zbig := zt3 128 rfl rfl
theorem zwd_609 : (Jvm.Cond.methodLink "PremiumHoursLaw" (52 : Nat) ({ cls := "PremiumHours", name := "clock", desc := "(II)I" } : Jvm.MethodName)) ∈ zbig := zt3 129 rfl rfl
theorem zwd_610 : (Jvm.Cond.instanceMethod ({ cls := "PremiumHours", name := "clock", desc := "(II)I" } : Jvm.MethodName)) ∈ zbig := zt3 130 rfl rfl
theorem zwd_611 : (Jvm.Cond.selects "PremiumHours" ({ cls := "PremiumHours", name := "clock", desc := "(II)I" } : Jvm.MethodName) ({ cls := "PremiumHours", name := "clock", desc := "(II)I" } : Jvm.MethodName)) ∈ zbig := zt3 131 rfl rfl
theorem zwd_612 : (Jvm.Cond.code ({ cls := "PremiumHours", name := "clock", desc := "(II)I" } : Jvm.MethodName) prog_1_method_8_code (4 : Nat) (Option.some Jvm.ClassFile.FieldType.int)) ∈ zbig := zt3 132 rfl rfl
theorem zwd_613 : (Jvm.Cond.methodLink "PremiumHours" (165 : Nat) ({ cls := "PremiumHours$Clock", name := "momentsAhead", desc := "(I)I" } : Jvm.MethodName)) ∈ zbig := zt3 133 rfl rfl
theorem zwd_614 : (Jvm.Cond.instanceMethod ({ cls := "PremiumHours$Clock", name := "momentsAhead", desc := "(I)I" } : Jvm.MethodName)) ∈ zbig := zt3 134 rfl rfl
theorem zwd_615 : (Jvm.Cond.selects "PremiumHours$Clock" ({ cls := "PremiumHours$Clock", name := "momentsAhead", desc := "(I)I" } : Jvm.MethodName) ({ cls := "PremiumHours$Clock", name := "momentsAhead", desc := "(I)I" } : Jvm.MethodName)) ∈ zbig := zt3 135 rfl rfl
theorem zwd_616 : (Jvm.Cond.code ({ cls := "PremiumHours$Clock", name := "momentsAhead", desc := "(I)I" } : Jvm.MethodName) prog_4_method_8_code (2 : Nat) (Option.some Jvm.ClassFile.FieldType.int)) ∈ zbig := zt3 136 rfl rfl
theorem zwd_617 : (Jvm.Cond.methodLink "PremiumHours" (169 : Nat) ({ cls := "PremiumHours$Clock", name := "toldAt", desc := "(I)I" } : Jvm.MethodName)) ∈ zbig := zt3 137 rfl rfl
theorem zwd_618 : (Jvm.Cond.instanceMethod ({ cls := "PremiumHours$Clock", name := "toldAt", desc := "(I)I" } : Jvm.MethodName)) ∈ zbig := zt3 138 rfl rfl
theorem zwd_619 : (Jvm.Cond.selects "PremiumHours$Clock" ({ cls := "PremiumHours$Clock", name := "toldAt", desc := "(I)I" } : Jvm.MethodName) ({ cls := "PremiumHours$Clock", name := "toldAt", desc := "(I)I" } : Jvm.MethodName)) ∈ zbig := zt3 139 rfl rfl
theorem zwd_620 : (Jvm.Cond.code ({ cls := "PremiumHours$Clock", name := "toldAt", desc := "(I)I" } : Jvm.MethodName) prog_4_method_5_code (2 : Nat) (Option.some Jvm.ClassFile.FieldType.int)) ∈ zbig := zt3 140 rfl rfl
theorem zwd_621 : (Jvm.Cond.methodLink "PremiumHours" (172 : Nat) ({ cls := "PremiumHours$Clock", name := "isAgain", desc := "(I)Z" } : Jvm.MethodName)) ∈ zbig := zt3 141 rfl rfl
theorem zwd_622 : (Jvm.Cond.instanceMethod ({ cls := "PremiumHours$Clock", name := "isAgain", desc := "(I)Z" } : Jvm.MethodName)) ∈ zbig := zt3 142 rfl rfl
theorem zwd_623 : (Jvm.Cond.selects "PremiumHours$Clock" ({ cls := "PremiumHours$Clock", name := "isAgain", desc := "(I)Z" } : Jvm.MethodName) ({ cls := "PremiumHours$Clock", name := "isAgain", desc := "(I)Z" } : Jvm.MethodName)) ∈ zbig := zt3 143 rfl rfl
theorem zwd_624 : (Jvm.Cond.code ({ cls := "PremiumHours$Clock", name := "isAgain", desc := "(I)Z" } : Jvm.MethodName) prog_4_method_7_code (2 : Nat) (Option.some Jvm.ClassFile.FieldType.boolean)) ∈ zbig := zt3 144 rfl rfl
theorem zwd_625 : (Jvm.Cond.methodLink "PremiumHoursLaw" (56 : Nat) ({ cls := "PremiumHours", name := "punch", desc := "(IIIIZ)I" } : Jvm.MethodName)) ∈ zbig := zt3 145 rfl rfl
theorem zwd_626 : (Jvm.Cond.instanceMethod ({ cls := "PremiumHours", name := "punch", desc := "(IIIIZ)I" } : Jvm.MethodName)) ∈ zbig := zt3 146 rfl rfl
theorem zwd_627 : (Jvm.Cond.selects "PremiumHours" ({ cls := "PremiumHours", name := "punch", desc := "(IIIIZ)I" } : Jvm.MethodName) ({ cls := "PremiumHours", name := "punch", desc := "(IIIIZ)I" } : Jvm.MethodName)) ∈ zbig := zt3 147 rfl rfl
theorem zwd_628 : (Jvm.Cond.code ({ cls := "PremiumHours", name := "punch", desc := "(IIIIZ)I" } : Jvm.MethodName) prog_1_method_9_code (7 : Nat) (Option.some Jvm.ClassFile.FieldType.int)) ∈ zbig := zt3 148 rfl rfl
theorem zwd_629 : (Jvm.Cond.methodLink "PremiumHours" (175 : Nat) ({ cls := "PremiumHours", name := "freeMoment", desc := "(IIIIZ)I" } : Jvm.MethodName)) ∈ zbig := zt3 149 rfl rfl
theorem zwd_631 : (Jvm.Cond.instanceMethod ({ cls := "PremiumHours", name := "freeMoment", desc := "(IIIIZ)I" } : Jvm.MethodName)) ∈ zbig := zt3 151 rfl rfl
theorem zwd_632 : (Jvm.Cond.code ({ cls := "PremiumHours", name := "freeMoment", desc := "(IIIIZ)I" } : Jvm.MethodName) prog_1_method_30_code (7 : Nat) (Option.some Jvm.ClassFile.FieldType.int)) ∈ zbig := zt3 152 rfl rfl
theorem zwd_633 : (Jvm.Cond.methodLink "PremiumHours" (190 : Nat) ({ cls := "PremiumHours", name := "isWorker", desc := "(I)Z" } : Jvm.MethodName)) ∈ zbig := zt3 153 rfl rfl
theorem zwd_634 : (Jvm.Cond.static ({ cls := "PremiumHours", name := "isWorker", desc := "(I)Z" } : Jvm.MethodName)) ∈ zbig := zt3 154 rfl rfl
theorem zwd_635 : (Jvm.Cond.code ({ cls := "PremiumHours", name := "isWorker", desc := "(I)Z" } : Jvm.MethodName) prog_1_method_27_code (1 : Nat) (Option.some Jvm.ClassFile.FieldType.boolean)) ∈ zbig := zt3 155 rfl rfl
theorem zwd_636 : (Jvm.Cond.methodLink "PremiumHours" (281 : Nat) ({ cls := "PremiumHours$Card", name := "takes", desc := "(I)Z" } : Jvm.MethodName)) ∈ zbig := zt3 156 rfl rfl
theorem zwd_637 : (Jvm.Cond.instanceMethod ({ cls := "PremiumHours$Card", name := "takes", desc := "(I)Z" } : Jvm.MethodName)) ∈ zbig := zt3 157 rfl rfl
theorem zwd_638 : (Jvm.Cond.selects "PremiumHours$Card" ({ cls := "PremiumHours$Card", name := "takes", desc := "(I)Z" } : Jvm.MethodName) ({ cls := "PremiumHours$Card", name := "takes", desc := "(I)Z" } : Jvm.MethodName)) ∈ zbig := zt3 158 rfl rfl
theorem zwd_639 : (Jvm.Cond.code ({ cls := "PremiumHours$Card", name := "takes", desc := "(I)Z" } : Jvm.MethodName) prog_3_method_3_code (2 : Nat) (Option.some Jvm.ClassFile.FieldType.boolean)) ∈ zbig := zt3 159 rfl rfl
theorem zwd_640 : (Jvm.Cond.methodLink "PremiumHours$Card" (22 : Nat) ({ cls := "PremiumHours$Card", name := "find", desc := "(I)I" } : Jvm.MethodName)) ∈ zbig := zt3 160 rfl rfl
theorem zwd_641 : (Jvm.Cond.instanceMethod ({ cls := "PremiumHours$Card", name := "find", desc := "(I)I" } : Jvm.MethodName)) ∈ zbig := zt3 161 rfl rfl
theorem zwd_642 : (Jvm.Cond.selects "PremiumHours$Card" ({ cls := "PremiumHours$Card", name := "find", desc := "(I)I" } : Jvm.MethodName) ({ cls := "PremiumHours$Card", name := "find", desc := "(I)I" } : Jvm.MethodName)) ∈ zbig := zt3 162 rfl rfl
theorem zwd_643 : (Jvm.Cond.code ({ cls := "PremiumHours$Card", name := "find", desc := "(I)I" } : Jvm.MethodName) prog_3_method_2_code (3 : Nat) (Option.some Jvm.ClassFile.FieldType.int)) ∈ zbig := zt3 163 rfl rfl
theorem zwd_644 : (Jvm.Cond.methodLink "PremiumHours" (179 : Nat) ({ cls := "PremiumHours$Card", name := "add", desc := "(II)V" } : Jvm.MethodName)) ∈ zbig := zt3 164 rfl rfl
theorem zwd_645 : (Jvm.Cond.instanceMethod ({ cls := "PremiumHours$Card", name := "add", desc := "(II)V" } : Jvm.MethodName)) ∈ zbig := zt3 165 rfl rfl
theorem zwd_646 : (Jvm.Cond.selects "PremiumHours$Card" ({ cls := "PremiumHours$Card", name := "add", desc := "(II)V" } : Jvm.MethodName) ({ cls := "PremiumHours$Card", name := "add", desc := "(II)V" } : Jvm.MethodName)) ∈ zbig := zt3 166 rfl rfl
theorem zwd_647 : (Jvm.Cond.code ({ cls := "PremiumHours$Card", name := "add", desc := "(II)V" } : Jvm.MethodName) prog_3_method_4_code (4 : Nat) (Option.none : Option Jvm.ClassFile.FieldType)) ∈ zbig := zt3 167 rfl rfl
theorem zwd_648 : (Jvm.Cond.methodLink "PremiumHours" (186 : Nat) ({ cls := "PremiumHours$History", name := "keep", desc := "(IIIZ)V" } : Jvm.MethodName)) ∈ zbig := zt3 168 rfl rfl
theorem zwd_649 : (Jvm.Cond.instanceMethod ({ cls := "PremiumHours$History", name := "keep", desc := "(IIIZ)V" } : Jvm.MethodName)) ∈ zbig := zt3 169 rfl rfl
theorem zwd_650 : (Jvm.Cond.selects "PremiumHours$History" ({ cls := "PremiumHours$History", name := "keep", desc := "(IIIZ)V" } : Jvm.MethodName) ({ cls := "PremiumHours$History", name := "keep", desc := "(IIIZ)V" } : Jvm.MethodName)) ∈ zbig := zt3 170 rfl rfl
theorem zwd_651 : (Jvm.Cond.code ({ cls := "PremiumHours$History", name := "keep", desc := "(IIIZ)V" } : Jvm.MethodName) prog_5_method_2_code (5 : Nat) (Option.none : Option Jvm.ClassFile.FieldType)) ∈ zbig := zt3 171 rfl rfl
theorem zwd_652 : (Jvm.Cond.methodLink "PremiumHours$History" (27 : Nat) ({ cls := "PremiumHours$History", name := "dropOldest", desc := "()V" } : Jvm.MethodName)) ∈ zbig := zt3 172 rfl rfl
theorem zwd_654 : (Jvm.Cond.instanceMethod ({ cls := "PremiumHours$History", name := "dropOldest", desc := "()V" } : Jvm.MethodName)) ∈ zbig := zt3 174 rfl rfl
theorem zwd_655 : (Jvm.Cond.code ({ cls := "PremiumHours$History", name := "dropOldest", desc := "()V" } : Jvm.MethodName) prog_5_method_3_code (2 : Nat) (Option.none : Option Jvm.ClassFile.FieldType)) ∈ zbig := zt3 175 rfl rfl
theorem zwd_656 : (Jvm.Cond.methodLink "PremiumHoursLaw" (61 : Nat) ({ cls := "PremiumHours", name := "strike", desc := "(IIIZ)I" } : Jvm.MethodName)) ∈ zbig := zt3 176 rfl rfl
theorem zwd_657 : (Jvm.Cond.instanceMethod ({ cls := "PremiumHours", name := "strike", desc := "(IIIZ)I" } : Jvm.MethodName)) ∈ zbig := zt3 177 rfl rfl
theorem zwd_658 : (Jvm.Cond.selects "PremiumHours" ({ cls := "PremiumHours", name := "strike", desc := "(IIIZ)I" } : Jvm.MethodName) ({ cls := "PremiumHours", name := "strike", desc := "(IIIZ)I" } : Jvm.MethodName)) ∈ zbig := zt3 178 rfl rfl
theorem zwd_659 : (Jvm.Cond.code ({ cls := "PremiumHours", name := "strike", desc := "(IIIZ)I" } : Jvm.MethodName) prog_1_method_10_code (7 : Nat) (Option.some Jvm.ClassFile.FieldType.int)) ∈ zbig := zt3 179 rfl rfl
theorem zwd_660 : (Jvm.Cond.methodLink "PremiumHours" (193 : Nat) ({ cls := "PremiumHours$Card", name := "find", desc := "(I)I" } : Jvm.MethodName)) ∈ zbig := zt3 180 rfl rfl
theorem zwd_661 : (Jvm.Cond.methodLink "PremiumHours" (200 : Nat) ({ cls := "PremiumHours$Card", name := "removeAt", desc := "(I)V" } : Jvm.MethodName)) ∈ zbig := zt3 181 rfl rfl
theorem zwd_662 : (Jvm.Cond.instanceMethod ({ cls := "PremiumHours$Card", name := "removeAt", desc := "(I)V" } : Jvm.MethodName)) ∈ zbig := zt3 182 rfl rfl
theorem zwd_663 : (Jvm.Cond.selects "PremiumHours$Card" ({ cls := "PremiumHours$Card", name := "removeAt", desc := "(I)V" } : Jvm.MethodName) ({ cls := "PremiumHours$Card", name := "removeAt", desc := "(I)V" } : Jvm.MethodName)) ∈ zbig := zt3 183 rfl rfl
theorem zwd_664 : (Jvm.Cond.code ({ cls := "PremiumHours$Card", name := "removeAt", desc := "(I)V" } : Jvm.MethodName) prog_3_method_5_code (3 : Nat) (Option.none : Option Jvm.ClassFile.FieldType)) ∈ zbig := zt3 184 rfl rfl
theorem zwd_665 : (Jvm.Cond.methodLink "PremiumHoursLaw" (66 : Nat) ({ cls := "PremiumHours", name := "undo", desc := "()I" } : Jvm.MethodName)) ∈ zbig := zt3 185 rfl rfl
theorem zwd_666 : (Jvm.Cond.instanceMethod ({ cls := "PremiumHours", name := "undo", desc := "()I" } : Jvm.MethodName)) ∈ zbig := zt3 186 rfl rfl
theorem zwd_667 : (Jvm.Cond.selects "PremiumHours" ({ cls := "PremiumHours", name := "undo", desc := "()I" } : Jvm.MethodName) ({ cls := "PremiumHours", name := "undo", desc := "()I" } : Jvm.MethodName)) ∈ zbig := zt3 187 rfl rfl
theorem zwd_668 : (Jvm.Cond.code ({ cls := "PremiumHours", name := "undo", desc := "()I" } : Jvm.MethodName) prog_1_method_11_code (3 : Nat) (Option.some Jvm.ClassFile.FieldType.int)) ∈ zbig := zt3 188 rfl rfl
theorem zwd_669 : (Jvm.Cond.methodLink "PremiumHoursLaw" (70 : Nat) ({ cls := "PremiumHours", name := "punched", desc := "(III)I" } : Jvm.MethodName)) ∈ zbig := zt3 189 rfl rfl
theorem zwd_670 : (Jvm.Cond.instanceMethod ({ cls := "PremiumHours", name := "punched", desc := "(III)I" } : Jvm.MethodName)) ∈ zbig := zt3 190 rfl rfl
theorem zwd_671 : (Jvm.Cond.selects "PremiumHours" ({ cls := "PremiumHours", name := "punched", desc := "(III)I" } : Jvm.MethodName) ({ cls := "PremiumHours", name := "punched", desc := "(III)I" } : Jvm.MethodName)) ∈ zbig := zt3 191 rfl rfl
theorem zwd_672 : (Jvm.Cond.code ({ cls := "PremiumHours", name := "punched", desc := "(III)I" } : Jvm.MethodName) prog_1_method_12_code (5 : Nat) (Option.some Jvm.ClassFile.FieldType.int)) ∈ zbig := zt3 192 rfl rfl
theorem zwd_673 : (Jvm.Cond.methodLink "PremiumHours" (215 : Nat) ({ cls := "PremiumHours", name := "sheetOf", desc := "(I)LPremiumHours$Sheet;" } : Jvm.MethodName)) ∈ zbig := zt3 193 rfl rfl
theorem zwd_675 : (Jvm.Cond.instanceMethod ({ cls := "PremiumHours", name := "sheetOf", desc := "(I)LPremiumHours$Sheet;" } : Jvm.MethodName)) ∈ zbig := zt3 195 rfl rfl
theorem zwd_676 : (Jvm.Cond.code ({ cls := "PremiumHours", name := "sheetOf", desc := "(I)LPremiumHours$Sheet;" } : Jvm.MethodName) prog_1_method_31_code (3 : Nat) (Option.some (Jvm.ClassFile.FieldType.object "PremiumHours$Sheet"))) ∈ zbig := zt3 196 rfl rfl
theorem zwd_677 : (Jvm.Cond.methodLink "PremiumHours" (274 : Nat) ({ cls := "PremiumHours$Sheet", name := "renew", desc := "(LPremiumHours$Card;LPremiumHours$Rules;ILPremiumHours$BestWay;)V" } : Jvm.MethodName)) ∈ zbig := zt3 197 rfl rfl
theorem zwd_678 : (Jvm.Cond.instanceMethod ({ cls := "PremiumHours$Sheet", name := "renew", desc := "(LPremiumHours$Card;LPremiumHours$Rules;ILPremiumHours$BestWay;)V" } : Jvm.MethodName)) ∈ zbig := zt3 198 rfl rfl
theorem zwd_679 : (Jvm.Cond.selects "PremiumHours$Sheet" ({ cls := "PremiumHours$Sheet", name := "renew", desc := "(LPremiumHours$Card;LPremiumHours$Rules;ILPremiumHours$BestWay;)V" } : Jvm.MethodName) ({ cls := "PremiumHours$Sheet", name := "renew", desc := "(LPremiumHours$Card;LPremiumHours$Rules;ILPremiumHours$BestWay;)V" } : Jvm.MethodName)) ∈ zbig := zt3 199 rfl rfl
theorem zwd_680 : (Jvm.Cond.code ({ cls := "PremiumHours$Sheet", name := "renew", desc := "(LPremiumHours$Card;LPremiumHours$Rules;ILPremiumHours$BestWay;)V" } : Jvm.MethodName) prog_10_method_3_code (9 : Nat) (Option.none : Option Jvm.ClassFile.FieldType)) ∈ zbig := zt3 200 rfl rfl
theorem zwd_681 : (Jvm.Cond.methodLink "PremiumHours$Sheet" (60 : Nat) ({ cls := "PremiumHours$Sheet", name := "pairUp", desc := "(LPremiumHours$Card;LPremiumHours$Rules;)V" } : Jvm.MethodName)) ∈ zbig := zt3 201 rfl rfl
theorem zwd_683 : (Jvm.Cond.instanceMethod ({ cls := "PremiumHours$Sheet", name := "pairUp", desc := "(LPremiumHours$Card;LPremiumHours$Rules;)V" } : Jvm.MethodName)) ∈ zbig := zt3 203 rfl rfl
theorem zwd_684 : (Jvm.Cond.code ({ cls := "PremiumHours$Sheet", name := "pairUp", desc := "(LPremiumHours$Card;LPremiumHours$Rules;)V" } : Jvm.MethodName) prog_10_method_5_code (6 : Nat) (Option.none : Option Jvm.ClassFile.FieldType)) ∈ zbig := zt3 204 rfl rfl
theorem zwd_685 : (Jvm.Cond.methodLink "PremiumHours$Sheet" (103 : Nat) ({ cls := "PremiumHours$Rules", name := "rounded", desc := "(I)I" } : Jvm.MethodName)) ∈ zbig := zt3 205 rfl rfl
theorem zwd_686 : (Jvm.Cond.instanceMethod ({ cls := "PremiumHours$Rules", name := "rounded", desc := "(I)I" } : Jvm.MethodName)) ∈ zbig := zt3 206 rfl rfl
theorem zwd_687 : (Jvm.Cond.selects "PremiumHours$Rules" ({ cls := "PremiumHours$Rules", name := "rounded", desc := "(I)I" } : Jvm.MethodName) ({ cls := "PremiumHours$Rules", name := "rounded", desc := "(I)I" } : Jvm.MethodName)) ∈ zbig := zt3 207 rfl rfl
theorem zwd_688 : (Jvm.Cond.code ({ cls := "PremiumHours$Rules", name := "rounded", desc := "(I)I" } : Jvm.MethodName) prog_9_method_6_code (3 : Nat) (Option.some Jvm.ClassFile.FieldType.int)) ∈ zbig := zt3 208 rfl rfl
theorem zwd_689 : (Jvm.Cond.methodLink "PremiumHours$Sheet" (106 : Nat) ({ cls := "PremiumHours$Sheet", name := "addSpan", desc := "(IILPremiumHours$Rules;)V" } : Jvm.MethodName)) ∈ zbig := zt3 209 rfl rfl
theorem zwd_691 : (Jvm.Cond.instanceMethod ({ cls := "PremiumHours$Sheet", name := "addSpan", desc := "(IILPremiumHours$Rules;)V" } : Jvm.MethodName)) ∈ zbig := zt3 211 rfl rfl
theorem zwd_692 : (Jvm.Cond.code ({ cls := "PremiumHours$Sheet", name := "addSpan", desc := "(IILPremiumHours$Rules;)V" } : Jvm.MethodName) prog_10_method_6_code (7 : Nat) (Option.none : Option Jvm.ClassFile.FieldType)) ∈ zbig := zt3 212 rfl rfl
theorem zwd_693 : (Jvm.Cond.methodLink "PremiumHours$Sheet" (70 : Nat) ({ cls := "PremiumHours$Clock", name := "quartersAhead", desc := "(I)I" } : Jvm.MethodName)) ∈ zbig := zt3 213 rfl rfl
theorem zwd_694 : (Jvm.Cond.instanceMethod ({ cls := "PremiumHours$Clock", name := "quartersAhead", desc := "(I)I" } : Jvm.MethodName)) ∈ zbig := zt3 214 rfl rfl
theorem zwd_695 : (Jvm.Cond.selects "PremiumHours$Clock" ({ cls := "PremiumHours$Clock", name := "quartersAhead", desc := "(I)I" } : Jvm.MethodName) ({ cls := "PremiumHours$Clock", name := "quartersAhead", desc := "(I)I" } : Jvm.MethodName)) ∈ zbig := zt3 215 rfl rfl
theorem zwd_696 : (Jvm.Cond.code ({ cls := "PremiumHours$Clock", name := "quartersAhead", desc := "(I)I" } : Jvm.MethodName) prog_4_method_9_code (2 : Nat) (Option.some Jvm.ClassFile.FieldType.int)) ∈ zbig := zt3 216 rfl rfl
theorem zwd_697 : (Jvm.Cond.methodLink "PremiumHours$Clock" (31 : Nat) ({ cls := "PremiumHours$Clock", name := "momentsAhead", desc := "(I)I" } : Jvm.MethodName)) ∈ zbig := zt3 217 rfl rfl
theorem zwd_698 : (Jvm.Cond.methodLink "PremiumHours$Sheet" (110 : Nat) ({ cls := "java/lang/Math", name := "min", desc := "(II)I" } : Jvm.MethodName)) ∈ zbig := zt3 218 rfl rfl
theorem zwd_699 : (Jvm.Cond.methodLink "PremiumHours$Sheet" (119 : Nat) ({ cls := "PremiumHours$Pieces", name := "put", desc := "(II)I" } : Jvm.MethodName)) ∈ zbig := zt3 219 rfl rfl
theorem zwd_700 : (Jvm.Cond.instanceMethod ({ cls := "PremiumHours$Pieces", name := "put", desc := "(II)I" } : Jvm.MethodName)) ∈ zbig := zt3 220 rfl rfl
theorem zwd_701 : (Jvm.Cond.selects "PremiumHours$Pieces" ({ cls := "PremiumHours$Pieces", name := "put", desc := "(II)I" } : Jvm.MethodName) ({ cls := "PremiumHours$Pieces", name := "put", desc := "(II)I" } : Jvm.MethodName)) ∈ zbig := zt3 221 rfl rfl
theorem zwd_702 : (Jvm.Cond.code ({ cls := "PremiumHours$Pieces", name := "put", desc := "(II)I" } : Jvm.MethodName) prog_6_method_2_code (3 : Nat) (Option.some Jvm.ClassFile.FieldType.int)) ∈ zbig := zt3 222 rfl rfl
theorem zwd_703 : (Jvm.Cond.methodLink "PremiumHours$Sheet" (76 : Nat) ({ cls := "PremiumHours$Pieces", name := "sameWithin", desc := "(LPremiumHours$Pieces;II)Z" } : Jvm.MethodName)) ∈ zbig := zt3 223 rfl rfl
theorem zwd_704 : (Jvm.Cond.instanceMethod ({ cls := "PremiumHours$Pieces", name := "sameWithin", desc := "(LPremiumHours$Pieces;II)Z" } : Jvm.MethodName)) ∈ zbig := zt3 224 rfl rfl
theorem zwd_705 : (Jvm.Cond.selects "PremiumHours$Pieces" ({ cls := "PremiumHours$Pieces", name := "sameWithin", desc := "(LPremiumHours$Pieces;II)Z" } : Jvm.MethodName) ({ cls := "PremiumHours$Pieces", name := "sameWithin", desc := "(LPremiumHours$Pieces;II)Z" } : Jvm.MethodName)) ∈ zbig := zt3 225 rfl rfl
theorem zwd_706 : (Jvm.Cond.code ({ cls := "PremiumHours$Pieces", name := "sameWithin", desc := "(LPremiumHours$Pieces;II)Z" } : Jvm.MethodName) prog_6_method_3_code (8 : Nat) (Option.some Jvm.ClassFile.FieldType.boolean)) ∈ zbig := zt3 226 rfl rfl
theorem zwd_707 : (Jvm.Cond.methodLink "PremiumHours$Pieces" (22 : Nat) ({ cls := "PremiumHours$Pieces", name := "firstBehind", desc := "(I)I" } : Jvm.MethodName)) ∈ zbig := zt3 227 rfl rfl
theorem zwd_709 : (Jvm.Cond.instanceMethod ({ cls := "PremiumHours$Pieces", name := "firstBehind", desc := "(I)I" } : Jvm.MethodName)) ∈ zbig := zt3 229 rfl rfl
theorem zwd_710 : (Jvm.Cond.code ({ cls := "PremiumHours$Pieces", name := "firstBehind", desc := "(I)I" } : Jvm.MethodName) prog_6_method_4_code (3 : Nat) (Option.some Jvm.ClassFile.FieldType.int)) ∈ zbig := zt3 230 rfl rfl
theorem zwd_711 : (Jvm.Cond.methodLink "PremiumHours$Pieces" (26 : Nat) ({ cls := "java/lang/Math", name := "max", desc := "(II)I" } : Jvm.MethodName)) ∈ zbig := zt3 231 rfl rfl
theorem zwd_712 : (Jvm.Cond.static ({ cls := "java/lang/Math", name := "max", desc := "(II)I" } : Jvm.MethodName)) ∈ zbig := zt3 232 rfl rfl
theorem zwd_713 : (Jvm.Cond.code ({ cls := "java/lang/Math", name := "max", desc := "(II)I" } : Jvm.MethodName) prog_19_method_65_code (2 : Nat) (Option.some Jvm.ClassFile.FieldType.int)) ∈ zbig := zt3 233 rfl rfl
theorem zwd_714 : (Jvm.Cond.methodLink "PremiumHours$Pieces" (32 : Nat) ({ cls := "java/lang/Math", name := "min", desc := "(II)I" } : Jvm.MethodName)) ∈ zbig := zt3 234 rfl rfl
theorem zwd_715 : (Jvm.Cond.methodLink "PremiumHours$Sheet" (80 : Nat) ({ cls := "PremiumHours$Sheet", name := "clearQuarters", desc := "(II)V" } : Jvm.MethodName)) ∈ zbig := zt3 235 rfl rfl
theorem zwd_717 : (Jvm.Cond.instanceMethod ({ cls := "PremiumHours$Sheet", name := "clearQuarters", desc := "(II)V" } : Jvm.MethodName)) ∈ zbig := zt3 237 rfl rfl
theorem zwd_718 : (Jvm.Cond.code ({ cls := "PremiumHours$Sheet", name := "clearQuarters", desc := "(II)V" } : Jvm.MethodName) prog_10_method_7_code (4 : Nat) (Option.none : Option Jvm.ClassFile.FieldType)) ∈ zbig := zt3 238 rfl rfl
theorem zwd_719 : (Jvm.Cond.methodLink "PremiumHours$Sheet" (84 : Nat) ({ cls := "PremiumHours$Sheet", name := "payWeek", desc := "(ILPremiumHours$Rules;ILPremiumHours$BestWay;)V" } : Jvm.MethodName)) ∈ zbig := zt3 239 rfl rfl
theorem zwd_721 : (Jvm.Cond.instanceMethod ({ cls := "PremiumHours$Sheet", name := "payWeek", desc := "(ILPremiumHours$Rules;ILPremiumHours$BestWay;)V" } : Jvm.MethodName)) ∈ zbig := zt4 1 rfl rfl
theorem zwd_722 : (Jvm.Cond.code ({ cls := "PremiumHours$Sheet", name := "payWeek", desc := "(ILPremiumHours$Rules;ILPremiumHours$BestWay;)V" } : Jvm.MethodName) prog_10_method_8_code (8 : Nat) (Option.none : Option Jvm.ClassFile.FieldType)) ∈ zbig := zt4 2 rfl rfl
theorem zwd_723 : (Jvm.Cond.methodLink "PremiumHours$Sheet" (131 : Nat) ({ cls := "PremiumHours$Week", name := "gather", desc := "(ILPremiumHours$Pieces;LPremiumHours$Rules;I)V" } : Jvm.MethodName)) ∈ zbig := zt4 3 rfl rfl
theorem zwd_724 : (Jvm.Cond.instanceMethod ({ cls := "PremiumHours$Week", name := "gather", desc := "(ILPremiumHours$Pieces;LPremiumHours$Rules;I)V" } : Jvm.MethodName)) ∈ zbig := zt4 4 rfl rfl
theorem zwd_725 : (Jvm.Cond.selects "PremiumHours$Week" ({ cls := "PremiumHours$Week", name := "gather", desc := "(ILPremiumHours$Pieces;LPremiumHours$Rules;I)V" } : Jvm.MethodName) ({ cls := "PremiumHours$Week", name := "gather", desc := "(ILPremiumHours$Pieces;LPremiumHours$Rules;I)V" } : Jvm.MethodName)) ∈ zbig := zt4 5 rfl rfl
theorem zwd_726 : (Jvm.Cond.code ({ cls := "PremiumHours$Week", name := "gather", desc := "(ILPremiumHours$Pieces;LPremiumHours$Rules;I)V" } : Jvm.MethodName) prog_12_method_2_code (7 : Nat) (Option.none : Option Jvm.ClassFile.FieldType)) ∈ zbig := zt4 6 rfl rfl
theorem zwd_727 : (Jvm.Cond.methodLink "PremiumHours$Week" (28 : Nat) ({ cls := "PremiumHours$Week", name := "gatherDay", desc := "(ILPremiumHours$Pieces;LPremiumHours$Rules;I)V" } : Jvm.MethodName)) ∈ zbig := zt4 7 rfl rfl
theorem zwd_729 : (Jvm.Cond.instanceMethod ({ cls := "PremiumHours$Week", name := "gatherDay", desc := "(ILPremiumHours$Pieces;LPremiumHours$Rules;I)V" } : Jvm.MethodName)) ∈ zbig := zt4 9 rfl rfl
theorem zwd_730 : (Jvm.Cond.code ({ cls := "PremiumHours$Week", name := "gatherDay", desc := "(ILPremiumHours$Pieces;LPremiumHours$Rules;I)V" } : Jvm.MethodName) prog_12_method_3_code (14 : Nat) (Option.none : Option Jvm.ClassFile.FieldType)) ∈ zbig := zt4 10 rfl rfl
theorem zwd_731 : (Jvm.Cond.methodLink "PremiumHours$Week" (32 : Nat) ({ cls := "PremiumHours$Rules", name := "isHoliday", desc := "(I)Z" } : Jvm.MethodName)) ∈ zbig := zt4 11 rfl rfl
theorem zwd_732 : (Jvm.Cond.methodLink "PremiumHours$Week" (42 : Nat) ({ cls := "PremiumHours$Clock", name := "quartersAhead", desc := "(I)I" } : Jvm.MethodName)) ∈ zbig := zt4 12 rfl rfl
theorem zwd_733 : (Jvm.Cond.methodLink "PremiumHours$Week" (54 : Nat) ({ cls := "java/lang/Math", name := "min", desc := "(II)I" } : Jvm.MethodName)) ∈ zbig := zt4 13 rfl rfl
theorem zwd_734 : (Jvm.Cond.methodLink "PremiumHours$Week" (63 : Nat) ({ cls := "java/lang/Math", name := "max", desc := "(II)I" } : Jvm.MethodName)) ∈ zbig := zt4 14 rfl rfl
theorem zwd_735 : (Jvm.Cond.methodLink "PremiumHours$Week" (66 : Nat) ({ cls := "PremiumHours$Clock", name := "hourAt", desc := "(I)I" } : Jvm.MethodName)) ∈ zbig := zt4 15 rfl rfl
theorem zwd_736 : (Jvm.Cond.instanceMethod ({ cls := "PremiumHours$Clock", name := "hourAt", desc := "(I)I" } : Jvm.MethodName)) ∈ zbig := zt4 16 rfl rfl
theorem zwd_737 : (Jvm.Cond.selects "PremiumHours$Clock" ({ cls := "PremiumHours$Clock", name := "hourAt", desc := "(I)I" } : Jvm.MethodName) ({ cls := "PremiumHours$Clock", name := "hourAt", desc := "(I)I" } : Jvm.MethodName)) ∈ zbig := zt4 17 rfl rfl
theorem zwd_738 : (Jvm.Cond.code ({ cls := "PremiumHours$Clock", name := "hourAt", desc := "(I)I" } : Jvm.MethodName) prog_4_method_6_code (2 : Nat) (Option.some Jvm.ClassFile.FieldType.int)) ∈ zbig := zt4 18 rfl rfl
theorem zwd_739 : (Jvm.Cond.methodLink "PremiumHours$Clock" (27 : Nat) ({ cls := "PremiumHours$Clock", name := "toldAt", desc := "(I)I" } : Jvm.MethodName)) ∈ zbig := zt4 19 rfl rfl
theorem zwd_740 : (Jvm.Cond.methodLink "PremiumHours$Week" (69 : Nat) ({ cls := "PremiumHours$Rules", name := "steadyBits", desc := "(IIZZ)I" } : Jvm.MethodName)) ∈ zbig := zt4 20 rfl rfl
theorem zwd_741 : (Jvm.Cond.instanceMethod ({ cls := "PremiumHours$Rules", name := "steadyBits", desc := "(IIZZ)I" } : Jvm.MethodName)) ∈ zbig := zt4 21 rfl rfl
theorem zwd_742 : (Jvm.Cond.selects "PremiumHours$Rules" ({ cls := "PremiumHours$Rules", name := "steadyBits", desc := "(IIZZ)I" } : Jvm.MethodName) ({ cls := "PremiumHours$Rules", name := "steadyBits", desc := "(IIZZ)I" } : Jvm.MethodName)) ∈ zbig := zt4 22 rfl rfl
theorem zwd_743 : (Jvm.Cond.code ({ cls := "PremiumHours$Rules", name := "steadyBits", desc := "(IIZZ)I" } : Jvm.MethodName) prog_9_method_7_code (8 : Nat) (Option.some Jvm.ClassFile.FieldType.int)) ∈ zbig := zt4 23 rfl rfl
theorem zwd_744 : (Jvm.Cond.methodLink "PremiumHours$Rules" (71 : Nat) ({ cls := "PremiumHours$Premium", name := "isAtNight", desc := "(I)Z" } : Jvm.MethodName)) ∈ zbig := zt4 24 rfl rfl
theorem zwd_745 : (Jvm.Cond.instanceMethod ({ cls := "PremiumHours$Premium", name := "isAtNight", desc := "(I)Z" } : Jvm.MethodName)) ∈ zbig := zt4 25 rfl rfl
theorem zwd_746 : (Jvm.Cond.selects "PremiumHours$Premium" ({ cls := "PremiumHours$Premium", name := "isAtNight", desc := "(I)Z" } : Jvm.MethodName) ({ cls := "PremiumHours$Premium", name := "isAtNight", desc := "(I)Z" } : Jvm.MethodName)) ∈ zbig := zt4 26 rfl rfl
theorem zwd_747 : (Jvm.Cond.code ({ cls := "PremiumHours$Premium", name := "isAtNight", desc := "(I)Z" } : Jvm.MethodName) prog_7_method_2_code (4 : Nat) (Option.some Jvm.ClassFile.FieldType.boolean)) ∈ zbig := zt4 27 rfl rfl
theorem zwd_748 : (Jvm.Cond.methodLink "PremiumHours$Sheet" (137 : Nat) ({ cls := "PremiumHours$Week", name := "payAsTheyCome", desc := "(LPremiumHours$Rules;I)V" } : Jvm.MethodName)) ∈ zbig := zt4 28 rfl rfl
theorem zwd_749 : (Jvm.Cond.instanceMethod ({ cls := "PremiumHours$Week", name := "payAsTheyCome", desc := "(LPremiumHours$Rules;I)V" } : Jvm.MethodName)) ∈ zbig := zt4 29 rfl rfl
theorem zwd_750 : (Jvm.Cond.selects "PremiumHours$Week" ({ cls := "PremiumHours$Week", name := "payAsTheyCome", desc := "(LPremiumHours$Rules;I)V" } : Jvm.MethodName) ({ cls := "PremiumHours$Week", name := "payAsTheyCome", desc := "(LPremiumHours$Rules;I)V" } : Jvm.MethodName)) ∈ zbig := zt4 30 rfl rfl
theorem zwd_751 : (Jvm.Cond.code ({ cls := "PremiumHours$Week", name := "payAsTheyCome", desc := "(LPremiumHours$Rules;I)V" } : Jvm.MethodName) prog_12_method_4_code (5 : Nat) (Option.none : Option Jvm.ClassFile.FieldType)) ∈ zbig := zt4 31 rfl rfl
theorem zwd_752 : (Jvm.Cond.methodLink "PremiumHours$Week" (73 : Nat) ({ cls := "PremiumHours$Rules", name := "weekBits", desc := "(I)I" } : Jvm.MethodName)) ∈ zbig := zt4 32 rfl rfl
theorem zwd_753 : (Jvm.Cond.instanceMethod ({ cls := "PremiumHours$Rules", name := "weekBits", desc := "(I)I" } : Jvm.MethodName)) ∈ zbig := zt4 33 rfl rfl
theorem zwd_754 : (Jvm.Cond.selects "PremiumHours$Rules" ({ cls := "PremiumHours$Rules", name := "weekBits", desc := "(I)I" } : Jvm.MethodName) ({ cls := "PremiumHours$Rules", name := "weekBits", desc := "(I)I" } : Jvm.MethodName)) ∈ zbig := zt4 34 rfl rfl
theorem zwd_755 : (Jvm.Cond.code ({ cls := "PremiumHours$Rules", name := "weekBits", desc := "(I)I" } : Jvm.MethodName) prog_9_method_8_code (4 : Nat) (Option.some Jvm.ClassFile.FieldType.int)) ∈ zbig := zt4 35 rfl rfl
theorem zwd_756 : (Jvm.Cond.methodLink "PremiumHours$Week" (76 : Nat) ({ cls := "PremiumHours$Rules", name := "dearestOf", desc := "(I)I" } : Jvm.MethodName)) ∈ zbig := zt4 36 rfl rfl
theorem zwd_757 : (Jvm.Cond.instanceMethod ({ cls := "PremiumHours$Rules", name := "dearestOf", desc := "(I)I" } : Jvm.MethodName)) ∈ zbig := zt4 37 rfl rfl
theorem zwd_758 : (Jvm.Cond.selects "PremiumHours$Rules" ({ cls := "PremiumHours$Rules", name := "dearestOf", desc := "(I)I" } : Jvm.MethodName) ({ cls := "PremiumHours$Rules", name := "dearestOf", desc := "(I)I" } : Jvm.MethodName)) ∈ zbig := zt4 38 rfl rfl
theorem zwd_759 : (Jvm.Cond.code ({ cls := "PremiumHours$Rules", name := "dearestOf", desc := "(I)I" } : Jvm.MethodName) prog_9_method_9_code (4 : Nat) (Option.some Jvm.ClassFile.FieldType.int)) ∈ zbig := zt4 39 rfl rfl
theorem zwd_760 : (Jvm.Cond.methodLink "PremiumHours$Rules" (75 : Nat) ({ cls := "PremiumHours$Rules", name := "hundredthsUnder", desc := "(I)I" } : Jvm.MethodName)) ∈ zbig := zt4 40 rfl rfl
theorem zwd_761 : (Jvm.Cond.instanceMethod ({ cls := "PremiumHours$Rules", name := "hundredthsUnder", desc := "(I)I" } : Jvm.MethodName)) ∈ zbig := zt4 41 rfl rfl
theorem zwd_762 : (Jvm.Cond.selects "PremiumHours$Rules" ({ cls := "PremiumHours$Rules", name := "hundredthsUnder", desc := "(I)I" } : Jvm.MethodName) ({ cls := "PremiumHours$Rules", name := "hundredthsUnder", desc := "(I)I" } : Jvm.MethodName)) ∈ zbig := zt4 42 rfl rfl
theorem zwd_763 : (Jvm.Cond.code ({ cls := "PremiumHours$Rules", name := "hundredthsUnder", desc := "(I)I" } : Jvm.MethodName) prog_9_method_5_code (2 : Nat) (Option.some Jvm.ClassFile.FieldType.int)) ∈ zbig := zt4 43 rfl rfl
theorem zwd_764 : (Jvm.Cond.methodLink "PremiumHours$Week" (79 : Nat) ({ cls := "PremiumHours$Rules", name := "countsUnder", desc := "(I)Z" } : Jvm.MethodName)) ∈ zbig := zt4 44 rfl rfl
theorem zwd_765 : (Jvm.Cond.instanceMethod ({ cls := "PremiumHours$Rules", name := "countsUnder", desc := "(I)Z" } : Jvm.MethodName)) ∈ zbig := zt4 45 rfl rfl
theorem zwd_766 : (Jvm.Cond.selects "PremiumHours$Rules" ({ cls := "PremiumHours$Rules", name := "countsUnder", desc := "(I)Z" } : Jvm.MethodName) ({ cls := "PremiumHours$Rules", name := "countsUnder", desc := "(I)Z" } : Jvm.MethodName)) ∈ zbig := zt4 46 rfl rfl
theorem zwd_767 : (Jvm.Cond.code ({ cls := "PremiumHours$Rules", name := "countsUnder", desc := "(I)Z" } : Jvm.MethodName) prog_9_method_4_code (2 : Nat) (Option.some Jvm.ClassFile.FieldType.boolean)) ∈ zbig := zt4 47 rfl rfl
theorem zwd_768 : (Jvm.Cond.methodLink "PremiumHours$Sheet" (146 : Nat) ({ cls := "PremiumHours$BestWay", name := "payBest", desc := "(LPremiumHours$Rules;I)I" } : Jvm.MethodName)) ∈ zbig := zt4 48 rfl rfl
theorem zwd_769 : (Jvm.Cond.instanceMethod ({ cls := "PremiumHours$BestWay", name := "payBest", desc := "(LPremiumHours$Rules;I)I" } : Jvm.MethodName)) ∈ zbig := zt4 49 rfl rfl
theorem zwd_770 : (Jvm.Cond.selects "PremiumHours$BestWay" ({ cls := "PremiumHours$BestWay", name := "payBest", desc := "(LPremiumHours$Rules;I)I" } : Jvm.MethodName) ({ cls := "PremiumHours$BestWay", name := "payBest", desc := "(LPremiumHours$Rules;I)I" } : Jvm.MethodName)) ∈ zbig := zt4 50 rfl rfl
theorem zwd_771 : (Jvm.Cond.code ({ cls := "PremiumHours$BestWay", name := "payBest", desc := "(LPremiumHours$Rules;I)I" } : Jvm.MethodName) prog_2_method_2_code (5 : Nat) (Option.some Jvm.ClassFile.FieldType.int)) ∈ zbig := zt4 51 rfl rfl
theorem zwd_772 : (Jvm.Cond.methodLink "PremiumHours$BestWay" (44 : Nat) ({ cls := "PremiumHours$Rules", name := "largestWeekBelow", desc := "(II)I" } : Jvm.MethodName)) ∈ zbig := zt4 52 rfl rfl
theorem zwd_773 : (Jvm.Cond.instanceMethod ({ cls := "PremiumHours$Rules", name := "largestWeekBelow", desc := "(II)I" } : Jvm.MethodName)) ∈ zbig := zt4 53 rfl rfl
theorem zwd_774 : (Jvm.Cond.selects "PremiumHours$Rules" ({ cls := "PremiumHours$Rules", name := "largestWeekBelow", desc := "(II)I" } : Jvm.MethodName) ({ cls := "PremiumHours$Rules", name := "largestWeekBelow", desc := "(II)I" } : Jvm.MethodName)) ∈ zbig := zt4 54 rfl rfl
theorem zwd_775 : (Jvm.Cond.code ({ cls := "PremiumHours$Rules", name := "largestWeekBelow", desc := "(II)I" } : Jvm.MethodName) prog_9_method_11_code (5 : Nat) (Option.some Jvm.ClassFile.FieldType.int)) ∈ zbig := zt4 55 rfl rfl
theorem zwd_776 : (Jvm.Cond.methodLink "PremiumHours$Rules" (79 : Nat) ({ cls := "java/lang/Math", name := "max", desc := "(II)I" } : Jvm.MethodName)) ∈ zbig := zt4 56 rfl rfl
theorem zwd_777 : (Jvm.Cond.methodLink "PremiumHours$BestWay" (53 : Nat) ({ cls := "PremiumHours$Rules", name := "weekBits", desc := "(I)I" } : Jvm.MethodName)) ∈ zbig := zt4 57 rfl rfl
theorem zwd_778 : (Jvm.Cond.methodLink "PremiumHours$BestWay" (57 : Nat) ({ cls := "PremiumHours$Rules", name := "mostOf", desc := "(IZI)I" } : Jvm.MethodName)) ∈ zbig := zt4 58 rfl rfl
theorem zwd_779 : (Jvm.Cond.instanceMethod ({ cls := "PremiumHours$Rules", name := "mostOf", desc := "(IZI)I" } : Jvm.MethodName)) ∈ zbig := zt4 59 rfl rfl
theorem zwd_780 : (Jvm.Cond.selects "PremiumHours$Rules" ({ cls := "PremiumHours$Rules", name := "mostOf", desc := "(IZI)I" } : Jvm.MethodName) ({ cls := "PremiumHours$Rules", name := "mostOf", desc := "(IZI)I" } : Jvm.MethodName)) ∈ zbig := zt4 60 rfl rfl
theorem zwd_781 : (Jvm.Cond.code ({ cls := "PremiumHours$Rules", name := "mostOf", desc := "(IZI)I" } : Jvm.MethodName) prog_9_method_10_code (6 : Nat) (Option.some Jvm.ClassFile.FieldType.int)) ∈ zbig := zt4 61 rfl rfl
theorem zwd_782 : (Jvm.Cond.methodLink "PremiumHours$BestWay" (61 : Nat) ({ cls := "PremiumHours$BestWay", name := "measureQuarters", desc := "(LPremiumHours$Rules;)V" } : Jvm.MethodName)) ∈ zbig := zt4 62 rfl rfl
theorem zwd_784 : (Jvm.Cond.instanceMethod ({ cls := "PremiumHours$BestWay", name := "measureQuarters", desc := "(LPremiumHours$Rules;)V" } : Jvm.MethodName)) ∈ zbig := zt4 64 rfl rfl
theorem zwd_785 : (Jvm.Cond.code ({ cls := "PremiumHours$BestWay", name := "measureQuarters", desc := "(LPremiumHours$Rules;)V" } : Jvm.MethodName) prog_2_method_3_code (4 : Nat) (Option.none : Option Jvm.ClassFile.FieldType)) ∈ zbig := zt4 65 rfl rfl
theorem zwd_786 : (Jvm.Cond.methodLink "PremiumHours$BestWay" (65 : Nat) ({ cls := "PremiumHours$BestWay", name := "markQuarter", desc := "(I)V" } : Jvm.MethodName)) ∈ zbig := zt4 66 rfl rfl
theorem zwd_788 : (Jvm.Cond.instanceMethod ({ cls := "PremiumHours$BestWay", name := "markQuarter", desc := "(I)V" } : Jvm.MethodName)) ∈ zbig := zt4 68 rfl rfl
theorem zwd_789 : (Jvm.Cond.code ({ cls := "PremiumHours$BestWay", name := "markQuarter", desc := "(I)V" } : Jvm.MethodName) prog_2_method_4_code (8 : Nat) (Option.none : Option Jvm.ClassFile.FieldType)) ∈ zbig := zt4 69 rfl rfl
theorem zwd_790 : (Jvm.Cond.methodLink "PremiumHours$BestWay" (76 : Nat) ({ cls := "java/lang/Math", name := "min", desc := "(II)I" } : Jvm.MethodName)) ∈ zbig := zt4 70 rfl rfl
theorem zwd_791 : (Jvm.Cond.methodLink "PremiumHours$BestWay" (81 : Nat) ({ cls := "java/lang/Math", name := "max", desc := "(II)I" } : Jvm.MethodName)) ∈ zbig := zt4 71 rfl rfl
theorem zwd_792 : (Jvm.Cond.methodLink "PremiumHours$BestWay" (84 : Nat) ({ cls := "PremiumHours$BestWay", name := "setMark", desc := "(III)V" } : Jvm.MethodName)) ∈ zbig := zt4 72 rfl rfl
theorem zwd_794 : (Jvm.Cond.instanceMethod ({ cls := "PremiumHours$BestWay", name := "setMark", desc := "(III)V" } : Jvm.MethodName)) ∈ zbig := zt4 74 rfl rfl
theorem zwd_795 : (Jvm.Cond.code ({ cls := "PremiumHours$BestWay", name := "setMark", desc := "(III)V" } : Jvm.MethodName) prog_2_method_5_code (6 : Nat) (Option.none : Option Jvm.ClassFile.FieldType)) ∈ zbig := zt4 75 rfl rfl
theorem zwd_796 : (Jvm.Cond.methodLink "PremiumHours$BestWay" (69 : Nat) ({ cls := "PremiumHours$BestWay", name := "followMarks", desc := "(LPremiumHours$Rules;I)I" } : Jvm.MethodName)) ∈ zbig := zt4 76 rfl rfl
theorem zwd_798 : (Jvm.Cond.instanceMethod ({ cls := "PremiumHours$BestWay", name := "followMarks", desc := "(LPremiumHours$Rules;I)I" } : Jvm.MethodName)) ∈ zbig := zt4 78 rfl rfl
theorem zwd_799 : (Jvm.Cond.code ({ cls := "PremiumHours$BestWay", name := "followMarks", desc := "(LPremiumHours$Rules;I)I" } : Jvm.MethodName) prog_2_method_7_code (6 : Nat) (Option.some Jvm.ClassFile.FieldType.int)) ∈ zbig := zt4 79 rfl rfl
theorem zwd_800 : (Jvm.Cond.methodLink "PremiumHours$BestWay" (91 : Nat) ({ cls := "PremiumHours$BestWay", name := "markAt", desc := "(II)I" } : Jvm.MethodName)) ∈ zbig := zt4 80 rfl rfl
theorem zwd_802 : (Jvm.Cond.instanceMethod ({ cls := "PremiumHours$BestWay", name := "markAt", desc := "(II)I" } : Jvm.MethodName)) ∈ zbig := zt4 82 rfl rfl
theorem zwd_803 : (Jvm.Cond.code ({ cls := "PremiumHours$BestWay", name := "markAt", desc := "(II)I" } : Jvm.MethodName) prog_2_method_6_code (3 : Nat) (Option.some Jvm.ClassFile.FieldType.int)) ∈ zbig := zt4 83 rfl rfl
theorem zwd_804 : (Jvm.Cond.methodLink "PremiumHours$BestWay" (94 : Nat) ({ cls := "PremiumHours$BestWay", name := "firstBest", desc := "(IIILPremiumHours$Rules;)I" } : Jvm.MethodName)) ∈ zbig := zt4 84 rfl rfl
theorem zwd_806 : (Jvm.Cond.instanceMethod ({ cls := "PremiumHours$BestWay", name := "firstBest", desc := "(IIILPremiumHours$Rules;)I" } : Jvm.MethodName)) ∈ zbig := zt4 86 rfl rfl
theorem zwd_807 : (Jvm.Cond.code ({ cls := "PremiumHours$BestWay", name := "firstBest", desc := "(IIILPremiumHours$Rules;)I" } : Jvm.MethodName) prog_2_method_8_code (10 : Nat) (Option.some Jvm.ClassFile.FieldType.int)) ∈ zbig := zt4 87 rfl rfl
theorem zwd_808 : (Jvm.Cond.methodLink "PremiumHours$BestWay" (98 : Nat) ({ cls := "PremiumHours$Rules", name := "hundredthsUnder", desc := "(I)I" } : Jvm.MethodName)) ∈ zbig := zt4 88 rfl rfl
theorem zwd_809 : (Jvm.Cond.methodLink "PremiumHours$BestWay" (101 : Nat) ({ cls := "PremiumHours$Rules", name := "countsUnder", desc := "(I)Z" } : Jvm.MethodName)) ∈ zbig := zt4 89 rfl rfl
theorem zwd_810 : (Jvm.Cond.methodLink "PremiumHoursLaw" (74 : Nat) ({ cls := "PremiumHours", name := "span", desc := "(III)I" } : Jvm.MethodName)) ∈ zbig := zt4 90 rfl rfl
theorem zwd_811 : (Jvm.Cond.instanceMethod ({ cls := "PremiumHours", name := "span", desc := "(III)I" } : Jvm.MethodName)) ∈ zbig := zt4 91 rfl rfl
theorem zwd_812 : (Jvm.Cond.selects "PremiumHours" ({ cls := "PremiumHours", name := "span", desc := "(III)I" } : Jvm.MethodName) ({ cls := "PremiumHours", name := "span", desc := "(III)I" } : Jvm.MethodName)) ∈ zbig := zt4 92 rfl rfl
theorem zwd_813 : (Jvm.Cond.code ({ cls := "PremiumHours", name := "span", desc := "(III)I" } : Jvm.MethodName) prog_1_method_13_code (5 : Nat) (Option.some Jvm.ClassFile.FieldType.int)) ∈ zbig := zt4 93 rfl rfl
theorem zwd_814 : (Jvm.Cond.methodLink "PremiumHoursLaw" (82 : Nat) ({ cls := "PremiumHours", name := "day", desc := "(III)I" } : Jvm.MethodName)) ∈ zbig := zt4 94 rfl rfl
theorem zwd_815 : (Jvm.Cond.instanceMethod ({ cls := "PremiumHours", name := "day", desc := "(III)I" } : Jvm.MethodName)) ∈ zbig := zt4 95 rfl rfl
theorem zwd_816 : (Jvm.Cond.selects "PremiumHours" ({ cls := "PremiumHours", name := "day", desc := "(III)I" } : Jvm.MethodName) ({ cls := "PremiumHours", name := "day", desc := "(III)I" } : Jvm.MethodName)) ∈ zbig := zt4 96 rfl rfl
theorem zwd_817 : (Jvm.Cond.code ({ cls := "PremiumHours", name := "day", desc := "(III)I" } : Jvm.MethodName) prog_1_method_15_code (4 : Nat) (Option.some Jvm.ClassFile.FieldType.int)) ∈ zbig := zt4 97 rfl rfl
theorem zwd_818 : (Jvm.Cond.methodLink "PremiumHours" (248 : Nat) ({ cls := "PremiumHours", name := "countDays", desc := "(IIII)I" } : Jvm.MethodName)) ∈ zbig := zt4 98 rfl rfl
theorem zwd_820 : (Jvm.Cond.instanceMethod ({ cls := "PremiumHours", name := "countDays", desc := "(IIII)I" } : Jvm.MethodName)) ∈ zbig := zt4 100 rfl rfl
theorem zwd_821 : (Jvm.Cond.code ({ cls := "PremiumHours", name := "countDays", desc := "(IIII)I" } : Jvm.MethodName) prog_1_method_17_code (9 : Nat) (Option.some Jvm.ClassFile.FieldType.int)) ∈ zbig := zt4 101 rfl rfl
theorem zwd_822 : (Jvm.Cond.methodLink "PremiumHours" (133 : Nat) ({ cls := "PremiumHours", name := "isPremium", desc := "(I)Z" } : Jvm.MethodName)) ∈ zbig := zt4 102 rfl rfl
theorem zwd_824 : (Jvm.Cond.instanceMethod ({ cls := "PremiumHours", name := "isPremium", desc := "(I)Z" } : Jvm.MethodName)) ∈ zbig := zt4 104 rfl rfl
theorem zwd_825 : (Jvm.Cond.code ({ cls := "PremiumHours", name := "isPremium", desc := "(I)Z" } : Jvm.MethodName) prog_1_method_29_code (2 : Nat) (Option.some Jvm.ClassFile.FieldType.boolean)) ∈ zbig := zt4 105 rfl rfl
theorem zwd_826 : (Jvm.Cond.methodLink "PremiumHours" (234 : Nat) ({ cls := "PremiumHours$Clock", name := "quartersAhead", desc := "(I)I" } : Jvm.MethodName)) ∈ zbig := zt4 106 rfl rfl
theorem zwd_827 : (Jvm.Cond.methodLink "PremiumHoursLaw" (86 : Nat) ({ cls := "PremiumHours", name := "week", desc := "(III)I" } : Jvm.MethodName)) ∈ zbig := zt4 107 rfl rfl
theorem zwd_828 : (Jvm.Cond.instanceMethod ({ cls := "PremiumHours", name := "week", desc := "(III)I" } : Jvm.MethodName)) ∈ zbig := zt4 108 rfl rfl
theorem zwd_829 : (Jvm.Cond.selects "PremiumHours" ({ cls := "PremiumHours", name := "week", desc := "(III)I" } : Jvm.MethodName) ({ cls := "PremiumHours", name := "week", desc := "(III)I" } : Jvm.MethodName)) ∈ zbig := zt4 109 rfl rfl
theorem zwd_830 : (Jvm.Cond.code ({ cls := "PremiumHours", name := "week", desc := "(III)I" } : Jvm.MethodName) prog_1_method_16_code (4 : Nat) (Option.some Jvm.ClassFile.FieldType.int)) ∈ zbig := zt4 110 rfl rfl
theorem zwd_831 : (Jvm.Cond.methodLink "PremiumHours" (252 : Nat) ({ cls := "PremiumHours", name := "isWeek", desc := "(I)Z" } : Jvm.MethodName)) ∈ zbig := zt4 111 rfl rfl
theorem zwd_832 : (Jvm.Cond.static ({ cls := "PremiumHours", name := "isWeek", desc := "(I)Z" } : Jvm.MethodName)) ∈ zbig := zt4 112 rfl rfl
theorem zwd_833 : (Jvm.Cond.code ({ cls := "PremiumHours", name := "isWeek", desc := "(I)Z" } : Jvm.MethodName) prog_1_method_28_code (1 : Nat) (Option.some Jvm.ClassFile.FieldType.boolean)) ∈ zbig := zt4 113 rfl rfl
theorem zwd_834 : (Jvm.Cond.methodLink "PremiumHoursLaw" (90 : Nat) ({ cls := "PremiumHours", name := "counted", desc := "(IIZ)I" } : Jvm.MethodName)) ∈ zbig := zt4 114 rfl rfl
theorem zwd_835 : (Jvm.Cond.instanceMethod ({ cls := "PremiumHours", name := "counted", desc := "(IIZ)I" } : Jvm.MethodName)) ∈ zbig := zt4 115 rfl rfl
theorem zwd_836 : (Jvm.Cond.selects "PremiumHours" ({ cls := "PremiumHours", name := "counted", desc := "(IIZ)I" } : Jvm.MethodName) ({ cls := "PremiumHours", name := "counted", desc := "(IIZ)I" } : Jvm.MethodName)) ∈ zbig := zt4 116 rfl rfl
theorem zwd_837 : (Jvm.Cond.code ({ cls := "PremiumHours", name := "counted", desc := "(IIZ)I" } : Jvm.MethodName) prog_1_method_18_code (9 : Nat) (Option.some Jvm.ClassFile.FieldType.int)) ∈ zbig := zt4 117 rfl rfl
theorem zwd_838 : (Jvm.Cond.methodLink "PremiumHours" (255 : Nat) ({ cls := "PremiumHours$Rules", name := "countsUnder", desc := "(I)Z" } : Jvm.MethodName)) ∈ zbig := zt4 118 rfl rfl
theorem zwd_839 : (Jvm.Cond.methodLink "PremiumHoursLaw" (94 : Nat) ({ cls := "PremiumHours", name := "pay", desc := "(IIZ)I" } : Jvm.MethodName)) ∈ zbig := zt4 119 rfl rfl
theorem zwd_840 : (Jvm.Cond.instanceMethod ({ cls := "PremiumHours", name := "pay", desc := "(IIZ)I" } : Jvm.MethodName)) ∈ zbig := zt4 120 rfl rfl
theorem zwd_841 : (Jvm.Cond.selects "PremiumHours" ({ cls := "PremiumHours", name := "pay", desc := "(IIZ)I" } : Jvm.MethodName) ({ cls := "PremiumHours", name := "pay", desc := "(IIZ)I" } : Jvm.MethodName)) ∈ zbig := zt4 121 rfl rfl
theorem zwd_842 : (Jvm.Cond.code ({ cls := "PremiumHours", name := "pay", desc := "(IIZ)I" } : Jvm.MethodName) prog_1_method_19_code (6 : Nat) (Option.some Jvm.ClassFile.FieldType.int)) ∈ zbig := zt4 122 rfl rfl
theorem zwd_843 : (Jvm.Cond.methodLink "PremiumHours" (258 : Nat) ({ cls := "PremiumHours", name := "payOfDays", desc := "([III)I" } : Jvm.MethodName)) ∈ zbig := zt4 123 rfl rfl
theorem zwd_845 : (Jvm.Cond.instanceMethod ({ cls := "PremiumHours", name := "payOfDays", desc := "([III)I" } : Jvm.MethodName)) ∈ zbig := zt4 125 rfl rfl
theorem zwd_846 : (Jvm.Cond.code ({ cls := "PremiumHours", name := "payOfDays", desc := "([III)I" } : Jvm.MethodName) prog_1_method_21_code (7 : Nat) (Option.some Jvm.ClassFile.FieldType.int)) ∈ zbig := zt4 126 rfl rfl
theorem zwd_847 : (Jvm.Cond.methodLink "PremiumHours" (262 : Nat) ({ cls := "PremiumHours$Rules", name := "hundredthsUnder", desc := "(I)I" } : Jvm.MethodName)) ∈ zbig := zt4 127 rfl rfl
theorem zwd_848 : (Jvm.Cond.methodLink "PremiumHoursLaw" (98 : Nat) ({ cls := "PremiumHours", name := "dayPay", desc := "(II)I" } : Jvm.MethodName)) ∈ zbig := zt4 128 rfl rfl
theorem zwd_849 : (Jvm.Cond.instanceMethod ({ cls := "PremiumHours", name := "dayPay", desc := "(II)I" } : Jvm.MethodName)) ∈ zbig := zt4 129 rfl rfl
theorem zwd_850 : (Jvm.Cond.selects "PremiumHours" ({ cls := "PremiumHours", name := "dayPay", desc := "(II)I" } : Jvm.MethodName) ({ cls := "PremiumHours", name := "dayPay", desc := "(II)I" } : Jvm.MethodName)) ∈ zbig := zt4 130 rfl rfl
theorem zwd_851 : (Jvm.Cond.code ({ cls := "PremiumHours", name := "dayPay", desc := "(II)I" } : Jvm.MethodName) prog_1_method_20_code (3 : Nat) (Option.some Jvm.ClassFile.FieldType.int)) ∈ zbig := zt4 131 rfl rfl
theorem zwd_852 : (Jvm.Cond.methodLink "PremiumHoursLaw" (102 : Nat) ({ cls := "PremiumHours", name := "total", desc := "()I" } : Jvm.MethodName)) ∈ zbig := zt4 132 rfl rfl
theorem zwd_853 : (Jvm.Cond.instanceMethod ({ cls := "PremiumHours", name := "total", desc := "()I" } : Jvm.MethodName)) ∈ zbig := zt4 133 rfl rfl
theorem zwd_854 : (Jvm.Cond.selects "PremiumHours" ({ cls := "PremiumHours", name := "total", desc := "()I" } : Jvm.MethodName) ({ cls := "PremiumHours", name := "total", desc := "()I" } : Jvm.MethodName)) ∈ zbig := zt4 134 rfl rfl
theorem zwd_855 : (Jvm.Cond.code ({ cls := "PremiumHours", name := "total", desc := "()I" } : Jvm.MethodName) prog_1_method_22_code (3 : Nat) (Option.some Jvm.ClassFile.FieldType.int)) ∈ zbig := zt4 135 rfl rfl
theorem zwd_856 : (Jvm.Cond.methodLink "PremiumHours" (265 : Nat) ({ cls := "PremiumHours$Sheet", name := "allPay", desc := "()I" } : Jvm.MethodName)) ∈ zbig := zt4 136 rfl rfl
theorem zwd_857 : (Jvm.Cond.instanceMethod ({ cls := "PremiumHours$Sheet", name := "allPay", desc := "()I" } : Jvm.MethodName)) ∈ zbig := zt4 137 rfl rfl
theorem zwd_858 : (Jvm.Cond.selects "PremiumHours$Sheet" ({ cls := "PremiumHours$Sheet", name := "allPay", desc := "()I" } : Jvm.MethodName) ({ cls := "PremiumHours$Sheet", name := "allPay", desc := "()I" } : Jvm.MethodName)) ∈ zbig := zt4 138 rfl rfl
theorem zwd_859 : (Jvm.Cond.code ({ cls := "PremiumHours$Sheet", name := "allPay", desc := "()I" } : Jvm.MethodName) prog_10_method_4_code (3 : Nat) (Option.some Jvm.ClassFile.FieldType.int)) ∈ zbig := zt4 139 rfl rfl
theorem zwd_860 : (Jvm.Cond.methodLink "PremiumHoursLaw" (106 : Nat) ({ cls := "PremiumHours", name := "would", desc := "(IIIIZ)I" } : Jvm.MethodName)) ∈ zbig := zt4 140 rfl rfl
theorem zwd_861 : (Jvm.Cond.instanceMethod ({ cls := "PremiumHours", name := "would", desc := "(IIIIZ)I" } : Jvm.MethodName)) ∈ zbig := zt4 141 rfl rfl
theorem zwd_862 : (Jvm.Cond.selects "PremiumHours" ({ cls := "PremiumHours", name := "would", desc := "(IIIIZ)I" } : Jvm.MethodName) ({ cls := "PremiumHours", name := "would", desc := "(IIIIZ)I" } : Jvm.MethodName)) ∈ zbig := zt4 142 rfl rfl
theorem zwd_863 : (Jvm.Cond.code ({ cls := "PremiumHours", name := "would", desc := "(IIIIZ)I" } : Jvm.MethodName) prog_1_method_23_code (7 : Nat) (Option.some Jvm.ClassFile.FieldType.int)) ∈ zbig := zt4 143 rfl rfl
theorem zwd_864 : (Jvm.Cond.constant "PremiumHours" (269 : Nat) (-2147483648 : Int32)) ∈ zbig := zt4 144 rfl rfl
theorem zwd_865 : (Jvm.Cond.methodLink "PremiumHours" (270 : Nat) ({ cls := "PremiumHours", name := "payWith", desc := "(III)I" } : Jvm.MethodName)) ∈ zbig := zt4 145 rfl rfl
theorem zwd_867 : (Jvm.Cond.instanceMethod ({ cls := "PremiumHours", name := "payWith", desc := "(III)I" } : Jvm.MethodName)) ∈ zbig := zt4 147 rfl rfl
theorem zwd_868 : (Jvm.Cond.code ({ cls := "PremiumHours", name := "payWith", desc := "(III)I" } : Jvm.MethodName) prog_1_method_32_code (4 : Nat) (Option.some Jvm.ClassFile.FieldType.int)) ∈ zbig := zt4 148 rfl rfl
theorem zwd_869 : (Jvm.Cond.methodLink "PremiumHours" (284 : Nat) ({ cls := "PremiumHours$Card", name := "copy", desc := "(LPremiumHours$Card;)V" } : Jvm.MethodName)) ∈ zbig := zt4 149 rfl rfl
theorem zwd_870 : (Jvm.Cond.instanceMethod ({ cls := "PremiumHours$Card", name := "copy", desc := "(LPremiumHours$Card;)V" } : Jvm.MethodName)) ∈ zbig := zt4 150 rfl rfl
theorem zwd_871 : (Jvm.Cond.selects "PremiumHours$Card" ({ cls := "PremiumHours$Card", name := "copy", desc := "(LPremiumHours$Card;)V" } : Jvm.MethodName) ({ cls := "PremiumHours$Card", name := "copy", desc := "(LPremiumHours$Card;)V" } : Jvm.MethodName)) ∈ zbig := zt4 151 rfl rfl
theorem zwd_872 : (Jvm.Cond.code ({ cls := "PremiumHours$Card", name := "copy", desc := "(LPremiumHours$Card;)V" } : Jvm.MethodName) prog_3_method_6_code (3 : Nat) (Option.none : Option Jvm.ClassFile.FieldType)) ∈ zbig := zt4 152 rfl rfl
theorem zwd_873 : (Jvm.Cond.methodLink "PremiumHoursLaw" (110 : Nat) ({ cls := "PremiumHours", name := "dearest", desc := "(III)I" } : Jvm.MethodName)) ∈ zbig := zt4 153 rfl rfl
theorem zwd_874 : (Jvm.Cond.instanceMethod ({ cls := "PremiumHours", name := "dearest", desc := "(III)I" } : Jvm.MethodName)) ∈ zbig := zt4 154 rfl rfl
theorem zwd_875 : (Jvm.Cond.selects "PremiumHours" ({ cls := "PremiumHours", name := "dearest", desc := "(III)I" } : Jvm.MethodName) ({ cls := "PremiumHours", name := "dearest", desc := "(III)I" } : Jvm.MethodName)) ∈ zbig := zt4 155 rfl rfl
theorem zwd_876 : (Jvm.Cond.code ({ cls := "PremiumHours", name := "dearest", desc := "(III)I" } : Jvm.MethodName) prog_1_method_24_code (9 : Nat) (Option.some Jvm.ClassFile.FieldType.int)) ∈ zbig := zt4 156 rfl rfl
theorem zwd_877 : (Jvm.Cond.methodLink "PremiumHoursLaw" (114 : Nat) ({ cls := "PremiumHours", name := "worth", desc := "(I)I" } : Jvm.MethodName)) ∈ zbig := zt4 157 rfl rfl
theorem zwd_878 : (Jvm.Cond.instanceMethod ({ cls := "PremiumHours", name := "worth", desc := "(I)I" } : Jvm.MethodName)) ∈ zbig := zt4 158 rfl rfl
theorem zwd_879 : (Jvm.Cond.selects "PremiumHours" ({ cls := "PremiumHours", name := "worth", desc := "(I)I" } : Jvm.MethodName) ({ cls := "PremiumHours", name := "worth", desc := "(I)I" } : Jvm.MethodName)) ∈ zbig := zt4 159 rfl rfl
theorem zwd_880 : (Jvm.Cond.code ({ cls := "PremiumHours", name := "worth", desc := "(I)I" } : Jvm.MethodName) prog_1_method_25_code (4 : Nat) (Option.some Jvm.ClassFile.FieldType.int)) ∈ zbig := zt4 160 rfl rfl
theorem zwd_881 : (Jvm.Cond.methodLink "PremiumHours" (278 : Nat) ({ cls := "PremiumHours", name := "total", desc := "()I" } : Jvm.MethodName)) ∈ zbig := zt4 161 rfl rfl
theorem zwd_882 : (Jvm.Cond.methodLink "PremiumHoursLaw" (118 : Nat) ({ cls := "PremiumHours", name := "together", desc := "(II)I" } : Jvm.MethodName)) ∈ zbig := zt4 162 rfl rfl
theorem zwd_883 : (Jvm.Cond.instanceMethod ({ cls := "PremiumHours", name := "together", desc := "(II)I" } : Jvm.MethodName)) ∈ zbig := zt4 163 rfl rfl
theorem zwd_884 : (Jvm.Cond.selects "PremiumHours" ({ cls := "PremiumHours", name := "together", desc := "(II)I" } : Jvm.MethodName) ({ cls := "PremiumHours", name := "together", desc := "(II)I" } : Jvm.MethodName)) ∈ zbig := zt4 164 rfl rfl
theorem zwd_885 : (Jvm.Cond.code ({ cls := "PremiumHours", name := "together", desc := "(II)I" } : Jvm.MethodName) prog_1_method_26_code (8 : Nat) (Option.some Jvm.ClassFile.FieldType.int)) ∈ zbig := zt4 165 rfl rfl
theorem zwd_886 : (Jvm.Cond.methodLink "PremiumHoursLaw" (37 : Nat) ({ cls := "PremiumHoursLaw", name := "premium", desc := "(LPremiumHours;II[J)I" } : Jvm.MethodName)) ∈ zbig := zt4 166 rfl rfl
theorem zwd_887 : (Jvm.Cond.static ({ cls := "PremiumHoursLaw", name := "premium", desc := "(LPremiumHours;II[J)I" } : Jvm.MethodName)) ∈ zbig := zt4 167 rfl rfl
theorem zwd_889 : (Jvm.Cond.classLink "PremiumHoursLaw" (13 : Nat) "java/util/NoSuchElementException") ∈ zbig := zt4 169 rfl rfl
theorem zwd_890 : (Jvm.Cond.methodLink "PremiumHoursLaw" (7 : Nat) ({ cls := "PremiumHours", name := "premium", desc := "(II)I" } : Jvm.MethodName)) ∈ zbig := zt4 170 rfl rfl
theorem zwd_891 : (Jvm.Cond.instanceMethod ({ cls := "PremiumHours", name := "premium", desc := "(II)I" } : Jvm.MethodName)) ∈ zbig := zt4 171 rfl rfl
theorem zwd_892 : (Jvm.Cond.selects "PremiumHours" ({ cls := "PremiumHours", name := "premium", desc := "(II)I" } : Jvm.MethodName) ({ cls := "PremiumHours", name := "premium", desc := "(II)I" } : Jvm.MethodName)) ∈ zbig := zt4 172 rfl rfl
theorem zwd_893 : (Jvm.Cond.code ({ cls := "PremiumHours", name := "premium", desc := "(II)I" } : Jvm.MethodName) prog_1_method_6_code (4 : Nat) (Option.some Jvm.ClassFile.FieldType.int)) ∈ zbig := zt4 173 rfl rfl
theorem zwd_894 : (Jvm.Cond.classLink "PremiumHours" (136 : Nat) "java/util/NoSuchElementException") ∈ zbig := zt4 174 rfl rfl
theorem zwd_895 : (Jvm.Cond.instantiable "java/util/NoSuchElementException" (6 : Nat)) ∈ zbig := zt4 175 rfl rfl
theorem zwd_903 : (Jvm.Cond.selects "java/util/NoSuchElementException" ({ cls := "java/lang/Throwable", name := "fillInStackTrace", desc := "(I)Ljava/lang/Throwable;" } : Jvm.MethodName) ({ cls := "java/lang/Throwable", name := "fillInStackTrace", desc := "(I)Ljava/lang/Throwable;" } : Jvm.MethodName)) ∈ zbig := zt4 183 rfl rfl
theorem zwd_904 : (Jvm.Cond.selects "java/util/NoSuchElementException" ({ cls := "java/lang/Throwable", name := "fillInStackTrace", desc := "()Ljava/lang/Throwable;" } : Jvm.MethodName) ({ cls := "java/lang/Throwable", name := "fillInStackTrace", desc := "()Ljava/lang/Throwable;" } : Jvm.MethodName)) ∈ zbig := zt4 184 rfl rfl
theorem zwd_905 : (Jvm.Cond.lays "java/util/NoSuchElementException" "java/lang/Throwable" "cause" "Ljava/lang/Throwable;") ∈ zbig := zt4 185 rfl rfl
theorem zwd_906 : (Jvm.Cond.lays "java/lang/Throwable" "java/lang/Throwable" "cause" "Ljava/lang/Throwable;") ∈ zbig := zt4 186 rfl rfl
theorem zwd_907 : (Jvm.Cond.lays "java/util/NoSuchElementException" "java/lang/Throwable" "stackTrace" "[Ljava/lang/StackTraceElement;") ∈ zbig := zt4 187 rfl rfl
theorem zwd_908 : (Jvm.Cond.lays "java/lang/Throwable" "java/lang/Throwable" "stackTrace" "[Ljava/lang/StackTraceElement;") ∈ zbig := zt4 188 rfl rfl
theorem zwd_909 : (Jvm.Cond.lays "java/util/NoSuchElementException" "java/lang/Throwable" "suppressedExceptions" "Ljava/util/List;") ∈ zbig := zt4 189 rfl rfl
theorem zwd_910 : (Jvm.Cond.lays "java/lang/Throwable" "java/lang/Throwable" "suppressedExceptions" "Ljava/util/List;") ∈ zbig := zt4 190 rfl rfl
theorem zwd_911 : (Jvm.Cond.lays "java/util/NoSuchElementException" "java/lang/Throwable" "detailMessage" "Ljava/lang/String;") ∈ zbig := zt4 191 rfl rfl
theorem zwd_912 : (Jvm.Cond.lays "java/lang/Throwable" "java/lang/Throwable" "detailMessage" "Ljava/lang/String;") ∈ zbig := zt4 192 rfl rfl
theorem zwd_913 : (Jvm.Cond.lays "java/util/NoSuchElementException" "java/lang/Throwable" "backtrace" "Ljava/lang/Object;") ∈ zbig := zt4 193 rfl rfl
theorem zwd_914 : (Jvm.Cond.lays "java/lang/Throwable" "java/lang/Throwable" "backtrace" "Ljava/lang/Object;") ∈ zbig := zt4 194 rfl rfl
theorem zwd_915 : (Jvm.Cond.fieldLink "java/lang/Throwable" (198 : Nat) "java/lang/Throwable" "backtrace" "Ljava/lang/Object;") ∈ zbig := zt4 195 rfl rfl
theorem zwd_917 : (Jvm.Cond.instanceMethod ({ cls := "java/lang/Throwable", name := "<init>", desc := "()V" } : Jvm.MethodName)) ∈ zbig := zt4 197 rfl rfl
theorem zwd_918 : (Jvm.Cond.code ({ cls := "java/lang/Throwable", name := "<init>", desc := "()V" } : Jvm.MethodName) prog_24_method_1_code (1 : Nat) (Option.none : Option Jvm.ClassFile.FieldType)) ∈ zbig := zt4 198 rfl rfl
theorem zwd_919 : (Jvm.Cond.methodLink "java/lang/Throwable" (1 : Nat) ({ cls := "java/lang/Object", name := "<init>", desc := "()V" } : Jvm.MethodName)) ∈ zbig := zt4 199 rfl rfl
theorem zwd_920 : (Jvm.Cond.fieldLink "java/lang/Throwable" (13 : Nat) "java/lang/Throwable" "UNASSIGNED_STACK" "[Ljava/lang/StackTraceElement;") ∈ zbig := zt4 200 rfl rfl
theorem zwd_922 : (Jvm.Cond.fieldLink "java/lang/Throwable" (20 : Nat) "java/lang/Throwable" "SUPPRESSED_SENTINEL" "Ljava/util/List;") ∈ zbig := zt4 202 rfl rfl
theorem zwd_924 : (Jvm.Cond.methodLink "java/lang/Throwable" (27 : Nat) ({ cls := "java/lang/Throwable", name := "fillInStackTrace", desc := "()Ljava/lang/Throwable;" } : Jvm.MethodName)) ∈ zbig := zt4 204 rfl rfl
theorem zwd_925 : (Jvm.Cond.instanceMethod ({ cls := "java/lang/Throwable", name := "fillInStackTrace", desc := "()Ljava/lang/Throwable;" } : Jvm.MethodName)) ∈ zbig := zt4 205 rfl rfl
theorem zwd_928 : (Jvm.Cond.methodLink "java/lang/Throwable" (202 : Nat) ({ cls := "java/lang/Throwable", name := "fillInStackTrace", desc := "(I)Ljava/lang/Throwable;" } : Jvm.MethodName)) ∈ zbig := zt4 208 rfl rfl
theorem zwd_930 : (Jvm.Cond.instanceMethod ({ cls := "java/lang/Throwable", name := "fillInStackTrace", desc := "(I)Ljava/lang/Throwable;" } : Jvm.MethodName)) ∈ zbig := zt4 210 rfl rfl
theorem zwd_931 : (Jvm.Cond.instantiable "java/lang/Throwable" (6 : Nat)) ∈ zbig := zt4 211 rfl rfl
theorem zwd_933 : (Jvm.Cond.methodLink "PremiumHours" (138 : Nat) ({ cls := "java/util/NoSuchElementException", name := "<init>", desc := "()V" } : Jvm.MethodName)) ∈ zbig := zt4 213 rfl rfl
theorem zwd_934 : (Jvm.Cond.instanceMethod ({ cls := "java/util/NoSuchElementException", name := "<init>", desc := "()V" } : Jvm.MethodName)) ∈ zbig := zt4 214 rfl rfl
theorem zwd_935 : (Jvm.Cond.code ({ cls := "java/util/NoSuchElementException", name := "<init>", desc := "()V" } : Jvm.MethodName) prog_27_method_1_code (1 : Nat) (Option.none : Option Jvm.ClassFile.FieldType)) ∈ zbig := zt4 215 rfl rfl
theorem zwd_936 : (Jvm.Cond.methodLink "java/util/NoSuchElementException" (1 : Nat) ({ cls := "java/lang/RuntimeException", name := "<init>", desc := "()V" } : Jvm.MethodName)) ∈ zbig := zt4 216 rfl rfl
theorem zwd_937 : (Jvm.Cond.instanceMethod ({ cls := "java/lang/RuntimeException", name := "<init>", desc := "()V" } : Jvm.MethodName)) ∈ zbig := zt4 217 rfl rfl
theorem zwd_938 : (Jvm.Cond.code ({ cls := "java/lang/RuntimeException", name := "<init>", desc := "()V" } : Jvm.MethodName) prog_20_method_1_code (1 : Nat) (Option.none : Option Jvm.ClassFile.FieldType)) ∈ zbig := zt4 218 rfl rfl
theorem zwd_939 : (Jvm.Cond.methodLink "java/lang/RuntimeException" (1 : Nat) ({ cls := "java/lang/Exception", name := "<init>", desc := "()V" } : Jvm.MethodName)) ∈ zbig := zt4 219 rfl rfl
theorem zwd_940 : (Jvm.Cond.instanceMethod ({ cls := "java/lang/Exception", name := "<init>", desc := "()V" } : Jvm.MethodName)) ∈ zbig := zt4 220 rfl rfl
theorem zwd_941 : (Jvm.Cond.code ({ cls := "java/lang/Exception", name := "<init>", desc := "()V" } : Jvm.MethodName) prog_18_method_1_code (1 : Nat) (Option.none : Option Jvm.ClassFile.FieldType)) ∈ zbig := zt4 221 rfl rfl
theorem zwd_942 : (Jvm.Cond.methodLink "java/lang/Exception" (1 : Nat) ({ cls := "java/lang/Throwable", name := "<init>", desc := "()V" } : Jvm.MethodName)) ∈ zbig := zt4 222 rfl rfl
theorem zwd_944 : (Jvm.Cond.fieldLink "java/lang/Throwable" (7 : Nat) "java/lang/Throwable" "cause" "Ljava/lang/Throwable;") ∈ zbig := zt4 224 rfl rfl
theorem zwd_945 : (Jvm.Cond.fieldLink "java/lang/Throwable" (17 : Nat) "java/lang/Throwable" "stackTrace" "[Ljava/lang/StackTraceElement;") ∈ zbig := zt4 225 rfl rfl
theorem zwd_946 : (Jvm.Cond.fieldLink "java/lang/Throwable" (24 : Nat) "java/lang/Throwable" "suppressedExceptions" "Ljava/util/List;") ∈ zbig := zt4 226 rfl rfl
theorem zwd_951 : (Jvm.Cond.lays "java/util/NoSuchElementException" "java/lang/Throwable" "depth" "I") ∈ zbig := zt4 231 rfl rfl
theorem zwd_955 : (Jvm.Cond.methodLink "PremiumHoursLaw" (78 : Nat) ({ cls := "PremiumHoursLaw", name := "quarter", desc := "(LPremiumHours;III[J)I" } : Jvm.MethodName)) ∈ zbig := zt4 235 rfl rfl
theorem zwd_956 : (Jvm.Cond.static ({ cls := "PremiumHoursLaw", name := "quarter", desc := "(LPremiumHours;III[J)I" } : Jvm.MethodName)) ∈ zbig := zt4 236 rfl rfl
theorem zwd_958 : (Jvm.Cond.methodLink "PremiumHoursLaw" (15 : Nat) ({ cls := "PremiumHours", name := "quarter", desc := "(III)I" } : Jvm.MethodName)) ∈ zbig := zt4 238 rfl rfl
theorem zwd_959 : (Jvm.Cond.instanceMethod ({ cls := "PremiumHours", name := "quarter", desc := "(III)I" } : Jvm.MethodName)) ∈ zbig := zt4 239 rfl rfl
theorem zwd_960 : (Jvm.Cond.selects "PremiumHours" ({ cls := "PremiumHours", name := "quarter", desc := "(III)I" } : Jvm.MethodName) ({ cls := "PremiumHours", name := "quarter", desc := "(III)I" } : Jvm.MethodName)) ∈ zbig := zt5 0 rfl rfl
theorem zwd_961 : (Jvm.Cond.code ({ cls := "PremiumHours", name := "quarter", desc := "(III)I" } : Jvm.MethodName) prog_1_method_14_code (5 : Nat) (Option.some Jvm.ClassFile.FieldType.int)) ∈ zbig := zt5 1 rfl rfl
theorem zwd_962 : (Jvm.Cond.methodLink "PremiumHours" (240 : Nat) ({ cls := "PremiumHours$Clock", name := "hourAt", desc := "(I)I" } : Jvm.MethodName)) ∈ zbig := zt5 2 rfl rfl
theorem zwd_963 : (Jvm.Cond.methodLink "PremiumHoursLaw" (43 : Nat) ({ cls := "PremiumHoursModel", name := "thrown", desc := "()I" } : Jvm.MethodName)) ∈ zbig := zt5 3 rfl rfl
theorem zwd_964 : (Jvm.Cond.instanceMethod ({ cls := "PremiumHoursModel", name := "thrown", desc := "()I" } : Jvm.MethodName)) ∈ zbig := zt5 4 rfl rfl
theorem zwd_965 : (Jvm.Cond.selects "PremiumHoursModel" ({ cls := "PremiumHoursModel", name := "thrown", desc := "()I" } : Jvm.MethodName) ({ cls := "PremiumHoursModel", name := "thrown", desc := "()I" } : Jvm.MethodName)) ∈ zbig := zt5 5 rfl rfl
theorem zwd_966 : (Jvm.Cond.code ({ cls := "PremiumHoursModel", name := "thrown", desc := "()I" } : Jvm.MethodName) prog_14_method_1_code (1 : Nat) (Option.some Jvm.ClassFile.FieldType.int)) ∈ zbig := zt5 6 rfl rfl
theorem zwd_967 : (Jvm.Cond.methodLink "PremiumHoursLaw" (27 : Nat) ({ cls := "PremiumHoursModel", name := "feed", desc := "(IIIII)I" } : Jvm.MethodName)) ∈ zbig := zt5 7 rfl rfl
theorem zwd_968 : (Jvm.Cond.instanceMethod ({ cls := "PremiumHoursModel", name := "feed", desc := "(IIIII)I" } : Jvm.MethodName)) ∈ zbig := zt5 8 rfl rfl
theorem zwd_969 : (Jvm.Cond.selects "PremiumHoursModel" ({ cls := "PremiumHoursModel", name := "feed", desc := "(IIIII)I" } : Jvm.MethodName) ({ cls := "PremiumHoursModel", name := "feed", desc := "(IIIII)I" } : Jvm.MethodName)) ∈ zbig := zt5 9 rfl rfl
theorem zwd_970 : (Jvm.Cond.code ({ cls := "PremiumHoursModel", name := "feed", desc := "(IIIII)I" } : Jvm.MethodName) prog_14_method_3_code (6 : Nat) (Option.some Jvm.ClassFile.FieldType.int)) ∈ zbig := zt5 10 rfl rfl
theorem zwd_971 : (Jvm.Cond.methodLink "PremiumHoursModel" (10 : Nat) ({ cls := "PremiumHoursModel", name := "puts", desc := "(I)V" } : Jvm.MethodName)) ∈ zbig := zt5 11 rfl rfl
theorem zwd_973 : (Jvm.Cond.instanceMethod ({ cls := "PremiumHoursModel", name := "puts", desc := "(I)V" } : Jvm.MethodName)) ∈ zbig := zt5 13 rfl rfl
theorem zwd_974 : (Jvm.Cond.instantiable "PremiumHoursModel" (38 : Nat)) ∈ zbig := zt5 14 rfl rfl
theorem zwd_975 : (Jvm.Cond.code ({ cls := "PremiumHoursModel", name := "puts", desc := "(I)V" } : Jvm.MethodName) prog_14_method_4_code (3 : Nat) (Option.none : Option Jvm.ClassFile.FieldType)) ∈ zbig := zt5 15 rfl rfl
theorem zwd_976 : (Jvm.Cond.classLink "PremiumHoursLaw" (20 : Nat) "PremiumHoursModel") ∈ zbig := zt5 16 rfl rfl
theorem zwd_977 : (Jvm.Cond.methodLink "PremiumHoursLaw" (22 : Nat) ({ cls := "PremiumHoursModel", name := "<init>", desc := "()V" } : Jvm.MethodName)) ∈ zbig := zt5 17 rfl rfl
theorem zwd_978 : (Jvm.Cond.instanceMethod ({ cls := "PremiumHoursModel", name := "<init>", desc := "()V" } : Jvm.MethodName)) ∈ zbig := zt5 18 rfl rfl
theorem zwd_979 : (Jvm.Cond.code ({ cls := "PremiumHoursModel", name := "<init>", desc := "()V" } : Jvm.MethodName) prog_14_method_10_code (1 : Nat) (Option.none : Option Jvm.ClassFile.FieldType)) ∈ zbig := zt5 19 rfl rfl
theorem zwd_980 : (Jvm.Cond.methodLink "PremiumHoursModel" (56 : Nat) ({ cls := "java/lang/Object", name := "<init>", desc := "()V" } : Jvm.MethodName)) ∈ zbig := zt5 20 rfl rfl
theorem zwd_981 : (Jvm.Cond.constant "PremiumHoursModel" (108 : Nat) (463000 : Int32)) ∈ zbig := zt5 21 rfl rfl
theorem zwd_982 : (Jvm.Cond.methodLink "PremiumHoursModel" (130 : Nat) ({ cls := "PremiumHoursModel", name := "clearsDraft", desc := "()V" } : Jvm.MethodName)) ∈ zbig := zt5 22 rfl rfl
theorem zwd_984 : (Jvm.Cond.instanceMethod ({ cls := "PremiumHoursModel", name := "clearsDraft", desc := "()V" } : Jvm.MethodName)) ∈ zbig := zt5 24 rfl rfl
theorem zwd_985 : (Jvm.Cond.code ({ cls := "PremiumHoursModel", name := "clearsDraft", desc := "()V" } : Jvm.MethodName) prog_14_method_11_code (2 : Nat) (Option.none : Option Jvm.ClassFile.FieldType)) ∈ zbig := zt5 25 rfl rfl
theorem zwd_986 : (Jvm.Cond.methodLink "PremiumHoursModel" (133 : Nat) ({ cls := "PremiumHoursModel", name := "takes", desc := "()V" } : Jvm.MethodName)) ∈ zbig := zt5 26 rfl rfl
theorem zwd_988 : (Jvm.Cond.instanceMethod ({ cls := "PremiumHoursModel", name := "takes", desc := "()V" } : Jvm.MethodName)) ∈ zbig := zt5 28 rfl rfl
theorem zwd_989 : (Jvm.Cond.code ({ cls := "PremiumHoursModel", name := "takes", desc := "()V" } : Jvm.MethodName) prog_14_method_12_code (2 : Nat) (Option.none : Option Jvm.ClassFile.FieldType)) ∈ zbig := zt5 29 rfl rfl
theorem zwd_990 : (Jvm.Cond.fieldLink "PremiumHoursModel" (1 : Nat) "PremiumHoursModel" "thrown" "I") ∈ zbig := zt5 30 rfl rfl
theorem zwd_991 : (Jvm.Cond.fieldLink "PremiumHoursModel" (14 : Nat) "PremiumHoursModel" "tape" "[B") ∈ zbig := zt5 31 rfl rfl
theorem zwd_992 : (Jvm.Cond.fieldLink "PremiumHoursModel" (7 : Nat) "PremiumHoursModel" "taped" "I") ∈ zbig := zt5 32 rfl rfl
theorem zwd_993 : (Jvm.Cond.fieldLink "PremiumHoursModel" (18 : Nat) "PremiumHoursModel" "size" "I") ∈ zbig := zt5 33 rfl rfl
theorem zwd_994 : (Jvm.Cond.fieldLink "PremiumHoursModel" (28 : Nat) "PremiumHoursModel" "from" "I") ∈ zbig := zt5 34 rfl rfl
theorem zwd_995 : (Jvm.Cond.fieldLink "PremiumHoursModel" (21 : Nat) "PremiumHoursModel" "next" "I") ∈ zbig := zt5 35 rfl rfl
theorem zwd_996 : (Jvm.Cond.fieldLink "PremiumHoursModel" (31 : Nat) "PremiumHoursModel" "token" "I") ∈ zbig := zt5 36 rfl rfl
theorem zwd_997 : (Jvm.Cond.fieldLink "PremiumHoursModel" (38 : Nat) "PremiumHoursModel" "value" "I") ∈ zbig := zt5 37 rfl rfl
theorem zwd_998 : (Jvm.Cond.fieldLink "PremiumHoursModel" (42 : Nat) "PremiumHoursModel" "fault" "I") ∈ zbig := zt5 38 rfl rfl
theorem zwd_999 : (Jvm.Cond.fieldLink "PremiumHoursModel" (49 : Nat) "PremiumHoursModel" "told" "I") ∈ zbig := zt5 39 rfl rfl
theorem zwd_1000 : (Jvm.Cond.fieldLink "PremiumHoursModel" (61 : Nat) "PremiumHoursModel" "rules" "[I") ∈ zbig := zt5 40 rfl rfl
theorem zwd_1001 : (Jvm.Cond.fieldLink "PremiumHoursModel" (65 : Nat) "PremiumHoursModel" "draft" "[I") ∈ zbig := zt5 41 rfl rfl
theorem zwd_1002 : (Jvm.Cond.fieldLink "PremiumHoursModel" (136 : Nat) "PremiumHoursModel" "lines" "I") ∈ zbig := zt5 42 rfl rfl
theorem zwd_1003 : (Jvm.Cond.fieldLink "PremiumHoursModel" (68 : Nat) "PremiumHoursModel" "punches" "[I") ∈ zbig := zt5 43 rfl rfl
theorem zwd_1004 : (Jvm.Cond.fieldLink "PremiumHoursModel" (71 : Nat) "PremiumHoursModel" "when" "[I") ∈ zbig := zt5 44 rfl rfl
theorem zwd_1005 : (Jvm.Cond.fieldLink "PremiumHoursModel" (74 : Nat) "PremiumHoursModel" "kinds" "[I") ∈ zbig := zt5 45 rfl rfl
theorem zwd_1006 : (Jvm.Cond.fieldLink "PremiumHoursModel" (174 : Nat) "PremiumHoursModel" "undos" "I") ∈ zbig := zt5 46 rfl rfl
theorem zwd_1007 : (Jvm.Cond.fieldLink "PremiumHoursModel" (77 : Nat) "PremiumHoursModel" "acts" "[I") ∈ zbig := zt5 47 rfl rfl
theorem zwd_1008 : (Jvm.Cond.fieldLink "PremiumHoursModel" (80 : Nat) "PremiumHoursModel" "paired" "[I") ∈ zbig := zt5 48 rfl rfl
theorem zwd_1009 : (Jvm.Cond.fieldLink "PremiumHoursModel" (217 : Nat) "PremiumHoursModel" "spans" "I") ∈ zbig := zt5 49 rfl rfl
theorem zwd_1010 : (Jvm.Cond.fieldLink "PremiumHoursModel" (83 : Nat) "PremiumHoursModel" "spanFrom" "[I") ∈ zbig := zt5 50 rfl rfl
theorem zwd_1011 : (Jvm.Cond.fieldLink "PremiumHoursModel" (86 : Nat) "PremiumHoursModel" "spanTo" "[I") ∈ zbig := zt5 51 rfl rfl
theorem zwd_1012 : (Jvm.Cond.fieldLink "PremiumHoursModel" (89 : Nat) "PremiumHoursModel" "worked" "[Z") ∈ zbig := zt5 52 rfl rfl
theorem zwd_1013 : (Jvm.Cond.fieldLink "PremiumHoursModel" (232 : Nat) "PremiumHoursModel" "inWeek" "I") ∈ zbig := zt5 53 rfl rfl
theorem zwd_1014 : (Jvm.Cond.fieldLink "PremiumHoursModel" (93 : Nat) "PremiumHoursModel" "quarters" "[I") ∈ zbig := zt5 54 rfl rfl
theorem zwd_1015 : (Jvm.Cond.fieldLink "PremiumHoursModel" (96 : Nat) "PremiumHoursModel" "may" "[I") ∈ zbig := zt5 55 rfl rfl
theorem zwd_1016 : (Jvm.Cond.fieldLink "PremiumHoursModel" (99 : Nat) "PremiumHoursModel" "best" "[I") ∈ zbig := zt5 56 rfl rfl
theorem zwd_1017 : (Jvm.Cond.fieldLink "PremiumHoursModel" (102 : Nat) "PremiumHoursModel" "comeAs" "[I") ∈ zbig := zt5 57 rfl rfl
theorem zwd_1018 : (Jvm.Cond.fieldLink "PremiumHoursModel" (105 : Nat) "PremiumHoursModel" "countAhead" "[I") ∈ zbig := zt5 58 rfl rfl
theorem zwd_1019 : (Jvm.Cond.fieldLink "PremiumHoursModel" (109 : Nat) "PremiumHoursModel" "most" "[I") ∈ zbig := zt5 59 rfl rfl
theorem zwd_1020 : (Jvm.Cond.fieldLink "PremiumHoursModel" (112 : Nat) "PremiumHoursModel" "weekCounts" "[I") ∈ zbig := zt5 60 rfl rfl
theorem zwd_1021 : (Jvm.Cond.fieldLink "PremiumHoursModel" (115 : Nat) "PremiumHoursModel" "weekPlain" "[I") ∈ zbig := zt5 61 rfl rfl
theorem zwd_1022 : (Jvm.Cond.fieldLink "PremiumHoursModel" (262 : Nat) "PremiumHoursModel" "counted" "I") ∈ zbig := zt5 62 rfl rfl
theorem zwd_1023 : (Jvm.Cond.fieldLink "PremiumHoursModel" (265 : Nat) "PremiumHoursModel" "countedComing" "I") ∈ zbig := zt5 63 rfl rfl
theorem zwd_1024 : (Jvm.Cond.fieldLink "PremiumHoursModel" (118 : Nat) "PremiumHoursModel" "keptWorked" "[Z") ∈ zbig := zt5 64 rfl rfl
theorem zwd_1025 : (Jvm.Cond.fieldLink "PremiumHoursModel" (121 : Nat) "PremiumHoursModel" "keptSum" "[I") ∈ zbig := zt5 65 rfl rfl
theorem zwd_1026 : (Jvm.Cond.fieldLink "PremiumHoursModel" (124 : Nat) "PremiumHoursModel" "isKept" "[Z") ∈ zbig := zt5 66 rfl rfl
theorem zwd_1027 : (Jvm.Cond.fieldLink "PremiumHoursModel" (127 : Nat) "PremiumHoursModel" "first" "[Z") ∈ zbig := zt5 67 rfl rfl
theorem zwd_1028 : (Jvm.Cond.lays "PremiumHoursModel" "PremiumHoursModel" "thrown" "I") ∈ zbig := zt5 68 rfl rfl
theorem zwd_1030 : (Jvm.Cond.laysFinal "PremiumHoursModel" "PremiumHoursModel" "tape" "[B") ∈ zbig := zt5 70 rfl rfl
theorem zwd_1032 : (Jvm.Cond.lays "PremiumHoursModel" "PremiumHoursModel" "taped" "I") ∈ zbig := zt5 72 rfl rfl
theorem zwd_1034 : (Jvm.Cond.lays "PremiumHoursModel" "PremiumHoursModel" "size" "I") ∈ zbig := zt5 74 rfl rfl
theorem zwd_1036 : (Jvm.Cond.lays "PremiumHoursModel" "PremiumHoursModel" "from" "I") ∈ zbig := zt5 76 rfl rfl
theorem zwd_1038 : (Jvm.Cond.lays "PremiumHoursModel" "PremiumHoursModel" "next" "I") ∈ zbig := zt5 78 rfl rfl
theorem zwd_1040 : (Jvm.Cond.lays "PremiumHoursModel" "PremiumHoursModel" "token" "I") ∈ zbig := zt5 80 rfl rfl
theorem zwd_1042 : (Jvm.Cond.lays "PremiumHoursModel" "PremiumHoursModel" "value" "I") ∈ zbig := zt5 82 rfl rfl
theorem zwd_1044 : (Jvm.Cond.lays "PremiumHoursModel" "PremiumHoursModel" "fault" "I") ∈ zbig := zt5 84 rfl rfl
theorem zwd_1046 : (Jvm.Cond.lays "PremiumHoursModel" "PremiumHoursModel" "told" "I") ∈ zbig := zt5 86 rfl rfl
theorem zwd_1048 : (Jvm.Cond.laysFinal "PremiumHoursModel" "PremiumHoursModel" "rules" "[I") ∈ zbig := zt5 88 rfl rfl
theorem zwd_1050 : (Jvm.Cond.laysFinal "PremiumHoursModel" "PremiumHoursModel" "draft" "[I") ∈ zbig := zt5 90 rfl rfl
theorem zwd_1052 : (Jvm.Cond.lays "PremiumHoursModel" "PremiumHoursModel" "lines" "I") ∈ zbig := zt5 92 rfl rfl
theorem zwd_1054 : (Jvm.Cond.laysFinal "PremiumHoursModel" "PremiumHoursModel" "punches" "[I") ∈ zbig := zt5 94 rfl rfl
theorem zwd_1056 : (Jvm.Cond.laysFinal "PremiumHoursModel" "PremiumHoursModel" "when" "[I") ∈ zbig := zt5 96 rfl rfl
theorem zwd_1058 : (Jvm.Cond.laysFinal "PremiumHoursModel" "PremiumHoursModel" "kinds" "[I") ∈ zbig := zt5 98 rfl rfl
theorem zwd_1060 : (Jvm.Cond.lays "PremiumHoursModel" "PremiumHoursModel" "undos" "I") ∈ zbig := zt5 100 rfl rfl
theorem zwd_1062 : (Jvm.Cond.laysFinal "PremiumHoursModel" "PremiumHoursModel" "acts" "[I") ∈ zbig := zt5 102 rfl rfl
theorem zwd_1064 : (Jvm.Cond.laysFinal "PremiumHoursModel" "PremiumHoursModel" "paired" "[I") ∈ zbig := zt5 104 rfl rfl
theorem zwd_1066 : (Jvm.Cond.lays "PremiumHoursModel" "PremiumHoursModel" "spans" "I") ∈ zbig := zt5 106 rfl rfl
theorem zwd_1068 : (Jvm.Cond.laysFinal "PremiumHoursModel" "PremiumHoursModel" "spanFrom" "[I") ∈ zbig := zt5 108 rfl rfl
theorem zwd_1070 : (Jvm.Cond.laysFinal "PremiumHoursModel" "PremiumHoursModel" "spanTo" "[I") ∈ zbig := zt5 110 rfl rfl
theorem zwd_1072 : (Jvm.Cond.laysFinal "PremiumHoursModel" "PremiumHoursModel" "worked" "[Z") ∈ zbig := zt5 112 rfl rfl
theorem zwd_1074 : (Jvm.Cond.lays "PremiumHoursModel" "PremiumHoursModel" "inWeek" "I") ∈ zbig := zt5 114 rfl rfl
theorem zwd_1076 : (Jvm.Cond.laysFinal "PremiumHoursModel" "PremiumHoursModel" "quarters" "[I") ∈ zbig := zt5 116 rfl rfl
theorem zwd_1078 : (Jvm.Cond.laysFinal "PremiumHoursModel" "PremiumHoursModel" "may" "[I") ∈ zbig := zt5 118 rfl rfl
theorem zwd_1080 : (Jvm.Cond.laysFinal "PremiumHoursModel" "PremiumHoursModel" "best" "[I") ∈ zbig := zt5 120 rfl rfl
theorem zwd_1082 : (Jvm.Cond.laysFinal "PremiumHoursModel" "PremiumHoursModel" "comeAs" "[I") ∈ zbig := zt5 122 rfl rfl
theorem zwd_1084 : (Jvm.Cond.laysFinal "PremiumHoursModel" "PremiumHoursModel" "countAhead" "[I") ∈ zbig := zt5 124 rfl rfl
theorem zwd_1086 : (Jvm.Cond.laysFinal "PremiumHoursModel" "PremiumHoursModel" "most" "[I") ∈ zbig := zt5 126 rfl rfl
theorem zwd_1088 : (Jvm.Cond.laysFinal "PremiumHoursModel" "PremiumHoursModel" "weekCounts" "[I") ∈ zbig := zt5 128 rfl rfl
theorem zwd_1090 : (Jvm.Cond.laysFinal "PremiumHoursModel" "PremiumHoursModel" "weekPlain" "[I") ∈ zbig := zt5 130 rfl rfl
theorem zwd_1092 : (Jvm.Cond.lays "PremiumHoursModel" "PremiumHoursModel" "counted" "I") ∈ zbig := zt5 132 rfl rfl
theorem zwd_1094 : (Jvm.Cond.lays "PremiumHoursModel" "PremiumHoursModel" "countedComing" "I") ∈ zbig := zt5 134 rfl rfl
theorem zwd_1096 : (Jvm.Cond.laysFinal "PremiumHoursModel" "PremiumHoursModel" "keptWorked" "[Z") ∈ zbig := zt5 136 rfl rfl
theorem zwd_1098 : (Jvm.Cond.laysFinal "PremiumHoursModel" "PremiumHoursModel" "keptSum" "[I") ∈ zbig := zt5 138 rfl rfl
theorem zwd_1100 : (Jvm.Cond.laysFinal "PremiumHoursModel" "PremiumHoursModel" "isKept" "[Z") ∈ zbig := zt5 140 rfl rfl
theorem zwd_1102 : (Jvm.Cond.laysFinal "PremiumHoursModel" "PremiumHoursModel" "first" "[Z") ∈ zbig := zt5 142 rfl rfl
theorem zwd_1105 : (Jvm.Cond.methodLink "PremiumHoursLaw" (32 : Nat) ({ cls := "PremiumHoursModel", name := "rules", desc := "(I)I" } : Jvm.MethodName)) ∈ zbig := zt5 145 rfl rfl
theorem zwd_1106 : (Jvm.Cond.instanceMethod ({ cls := "PremiumHoursModel", name := "rules", desc := "(I)I" } : Jvm.MethodName)) ∈ zbig := zt5 146 rfl rfl
theorem zwd_1107 : (Jvm.Cond.selects "PremiumHoursModel" ({ cls := "PremiumHoursModel", name := "rules", desc := "(I)I" } : Jvm.MethodName) ({ cls := "PremiumHoursModel", name := "rules", desc := "(I)I" } : Jvm.MethodName)) ∈ zbig := zt5 147 rfl rfl
theorem zwd_1108 : (Jvm.Cond.code ({ cls := "PremiumHoursModel", name := "rules", desc := "(I)I" } : Jvm.MethodName) prog_14_method_21_code (5 : Nat) (Option.some Jvm.ClassFile.FieldType.int)) ∈ zbig := zt5 148 rfl rfl
theorem zwd_1109 : (Jvm.Cond.methodLink "PremiumHoursModel" (34 : Nat) ({ cls := "PremiumHoursModel", name := "within", desc := "(III)Z" } : Jvm.MethodName)) ∈ zbig := zt5 149 rfl rfl
theorem zwd_1110 : (Jvm.Cond.static ({ cls := "PremiumHoursModel", name := "within", desc := "(III)Z" } : Jvm.MethodName)) ∈ zbig := zt5 150 rfl rfl
theorem zwd_1111 : (Jvm.Cond.code ({ cls := "PremiumHoursModel", name := "within", desc := "(III)Z" } : Jvm.MethodName) prog_14_method_2_code (3 : Nat) (Option.some Jvm.ClassFile.FieldType.boolean)) ∈ zbig := zt5 151 rfl rfl
theorem zwd_1112 : (Jvm.Cond.methodLink "PremiumHoursModel" (52 : Nat) ({ cls := "PremiumHoursModel", name := "go", desc := "()V" } : Jvm.MethodName)) ∈ zbig := zt5 152 rfl rfl
theorem zwd_1114 : (Jvm.Cond.instanceMethod ({ cls := "PremiumHoursModel", name := "go", desc := "()V" } : Jvm.MethodName)) ∈ zbig := zt5 154 rfl rfl
theorem zwd_1115 : (Jvm.Cond.code ({ cls := "PremiumHoursModel", name := "go", desc := "()V" } : Jvm.MethodName) prog_14_method_6_code (2 : Nat) (Option.none : Option Jvm.ClassFile.FieldType)) ∈ zbig := zt5 155 rfl rfl
theorem zwd_1116 : (Jvm.Cond.methodLink "PremiumHoursModel" (24 : Nat) ({ cls := "PremiumHoursModel", name := "byteAt", desc := "(I)I" } : Jvm.MethodName)) ∈ zbig := zt5 156 rfl rfl
theorem zwd_1118 : (Jvm.Cond.instanceMethod ({ cls := "PremiumHoursModel", name := "byteAt", desc := "(I)I" } : Jvm.MethodName)) ∈ zbig := zt5 158 rfl rfl
theorem zwd_1119 : (Jvm.Cond.code ({ cls := "PremiumHoursModel", name := "byteAt", desc := "(I)I" } : Jvm.MethodName) prog_14_method_5_code (2 : Nat) (Option.some Jvm.ClassFile.FieldType.int)) ∈ zbig := zt5 159 rfl rfl
theorem zwd_1120 : (Jvm.Cond.constant "PremiumHoursModel" (41 : Nat) (99999 : Int32)) ∈ zbig := zt5 160 rfl rfl
theorem zwd_1121 : (Jvm.Cond.methodLink "PremiumHoursModel" (171 : Nat) ({ cls := "PremiumHoursModel", name := "line", desc := "()Z" } : Jvm.MethodName)) ∈ zbig := zt5 161 rfl rfl
theorem zwd_1123 : (Jvm.Cond.instanceMethod ({ cls := "PremiumHoursModel", name := "line", desc := "()Z" } : Jvm.MethodName)) ∈ zbig := zt5 163 rfl rfl
theorem zwd_1124 : (Jvm.Cond.code ({ cls := "PremiumHoursModel", name := "line", desc := "()Z" } : Jvm.MethodName) prog_14_method_20_code (1 : Nat) (Option.some Jvm.ClassFile.FieldType.boolean)) ∈ zbig := zt5 164 rfl rfl
theorem zwd_1125 : (Jvm.Cond.methodLink "PremiumHoursModel" (146 : Nat) ({ cls := "PremiumHoursModel", name := "isWord", desc := "(IIIIIIII)Z" } : Jvm.MethodName)) ∈ zbig := zt5 165 rfl rfl
theorem zwd_1127 : (Jvm.Cond.instanceMethod ({ cls := "PremiumHoursModel", name := "isWord", desc := "(IIIIIIII)Z" } : Jvm.MethodName)) ∈ zbig := zt5 167 rfl rfl
theorem zwd_1128 : (Jvm.Cond.code ({ cls := "PremiumHoursModel", name := "isWord", desc := "(IIIIIIII)Z" } : Jvm.MethodName) prog_14_method_8_code (12 : Nat) (Option.some Jvm.ClassFile.FieldType.boolean)) ∈ zbig := zt5 168 rfl rfl
theorem zwd_1129 : (Jvm.Cond.methodLink "PremiumHoursModel" (154 : Nat) ({ cls := "PremiumHoursModel", name := "clockLine", desc := "()Z" } : Jvm.MethodName)) ∈ zbig := zt5 169 rfl rfl
theorem zwd_1131 : (Jvm.Cond.instanceMethod ({ cls := "PremiumHoursModel", name := "clockLine", desc := "()Z" } : Jvm.MethodName)) ∈ zbig := zt5 171 rfl rfl
theorem zwd_1132 : (Jvm.Cond.code ({ cls := "PremiumHoursModel", name := "clockLine", desc := "()Z" } : Jvm.MethodName) prog_14_method_14_code (2 : Nat) (Option.some Jvm.ClassFile.FieldType.boolean)) ∈ zbig := zt5 172 rfl rfl
theorem zwd_1133 : (Jvm.Cond.methodLink "PremiumHoursModel" (139 : Nat) ({ cls := "PremiumHoursModel", name := "once", desc := "(I)Z" } : Jvm.MethodName)) ∈ zbig := zt5 173 rfl rfl
theorem zwd_1135 : (Jvm.Cond.instanceMethod ({ cls := "PremiumHoursModel", name := "once", desc := "(I)Z" } : Jvm.MethodName)) ∈ zbig := zt5 175 rfl rfl
theorem zwd_1136 : (Jvm.Cond.code ({ cls := "PremiumHoursModel", name := "once", desc := "(I)Z" } : Jvm.MethodName) prog_14_method_13_code (2 : Nat) (Option.some Jvm.ClassFile.FieldType.boolean)) ∈ zbig := zt5 176 rfl rfl
theorem zwd_1137 : (Jvm.Cond.methodLink "PremiumHoursModel" (45 : Nat) ({ cls := "PremiumHoursModel", name := "bad", desc := "(I)Z" } : Jvm.MethodName)) ∈ zbig := zt5 177 rfl rfl
theorem zwd_1139 : (Jvm.Cond.instanceMethod ({ cls := "PremiumHoursModel", name := "bad", desc := "(I)Z" } : Jvm.MethodName)) ∈ zbig := zt5 179 rfl rfl
theorem zwd_1140 : (Jvm.Cond.code ({ cls := "PremiumHoursModel", name := "bad", desc := "(I)Z" } : Jvm.MethodName) prog_14_method_7_code (2 : Nat) (Option.some Jvm.ClassFile.FieldType.boolean)) ∈ zbig := zt5 180 rfl rfl
theorem zwd_1141 : (Jvm.Cond.methodLink "PremiumHoursModel" (142 : Nat) ({ cls := "PremiumHoursModel", name := "number", desc := "(II)Z" } : Jvm.MethodName)) ∈ zbig := zt5 181 rfl rfl
theorem zwd_1143 : (Jvm.Cond.instanceMethod ({ cls := "PremiumHoursModel", name := "number", desc := "(II)Z" } : Jvm.MethodName)) ∈ zbig := zt5 183 rfl rfl
theorem zwd_1144 : (Jvm.Cond.code ({ cls := "PremiumHoursModel", name := "number", desc := "(II)Z" } : Jvm.MethodName) prog_14_method_9_code (3 : Nat) (Option.some Jvm.ClassFile.FieldType.boolean)) ∈ zbig := zt5 184 rfl rfl
theorem zwd_1145 : (Jvm.Cond.methodLink "PremiumHoursModel" (158 : Nat) ({ cls := "PremiumHoursModel", name := "feastLine", desc := "()Z" } : Jvm.MethodName)) ∈ zbig := zt5 185 rfl rfl
theorem zwd_1147 : (Jvm.Cond.instanceMethod ({ cls := "PremiumHoursModel", name := "feastLine", desc := "()Z" } : Jvm.MethodName)) ∈ zbig := zt5 187 rfl rfl
theorem zwd_1148 : (Jvm.Cond.code ({ cls := "PremiumHoursModel", name := "feastLine", desc := "()Z" } : Jvm.MethodName) prog_14_method_15_code (1 : Nat) (Option.some Jvm.ClassFile.FieldType.boolean)) ∈ zbig := zt5 188 rfl rfl
theorem zwd_1149 : (Jvm.Cond.methodLink "PremiumHoursModel" (161 : Nat) ({ cls := "PremiumHoursModel", name := "oneLine", desc := "(IIII)Z" } : Jvm.MethodName)) ∈ zbig := zt5 189 rfl rfl
theorem zwd_1151 : (Jvm.Cond.instanceMethod ({ cls := "PremiumHoursModel", name := "oneLine", desc := "(IIII)Z" } : Jvm.MethodName)) ∈ zbig := zt5 191 rfl rfl
theorem zwd_1152 : (Jvm.Cond.code ({ cls := "PremiumHoursModel", name := "oneLine", desc := "(IIII)Z" } : Jvm.MethodName) prog_14_method_17_code (5 : Nat) (Option.some Jvm.ClassFile.FieldType.boolean)) ∈ zbig := zt5 192 rfl rfl
theorem zwd_1153 : (Jvm.Cond.methodLink "PremiumHoursModel" (165 : Nat) ({ cls := "PremiumHoursModel", name := "mealLine", desc := "()Z" } : Jvm.MethodName)) ∈ zbig := zt5 193 rfl rfl
theorem zwd_1155 : (Jvm.Cond.instanceMethod ({ cls := "PremiumHoursModel", name := "mealLine", desc := "()Z" } : Jvm.MethodName)) ∈ zbig := zt5 195 rfl rfl
theorem zwd_1156 : (Jvm.Cond.code ({ cls := "PremiumHoursModel", name := "mealLine", desc := "()Z" } : Jvm.MethodName) prog_14_method_16_code (1 : Nat) (Option.some Jvm.ClassFile.FieldType.boolean)) ∈ zbig := zt5 196 rfl rfl
theorem zwd_1157 : (Jvm.Cond.methodLink "PremiumHoursModel" (168 : Nat) ({ cls := "PremiumHoursModel", name := "premiumLine", desc := "()Z" } : Jvm.MethodName)) ∈ zbig := zt5 197 rfl rfl
theorem zwd_1159 : (Jvm.Cond.instanceMethod ({ cls := "PremiumHoursModel", name := "premiumLine", desc := "()Z" } : Jvm.MethodName)) ∈ zbig := zt5 199 rfl rfl
theorem zwd_1160 : (Jvm.Cond.code ({ cls := "PremiumHoursModel", name := "premiumLine", desc := "()Z" } : Jvm.MethodName) prog_14_method_19_code (4 : Nat) (Option.some Jvm.ClassFile.FieldType.boolean)) ∈ zbig := zt5 200 rfl rfl
theorem zwd_1161 : (Jvm.Cond.methodLink "PremiumHoursModel" (150 : Nat) ({ cls := "PremiumHoursModel", name := "kindOf", desc := "()I" } : Jvm.MethodName)) ∈ zbig := zt5 201 rfl rfl
theorem zwd_1163 : (Jvm.Cond.instanceMethod ({ cls := "PremiumHoursModel", name := "kindOf", desc := "()I" } : Jvm.MethodName)) ∈ zbig := zt5 203 rfl rfl
theorem zwd_1164 : (Jvm.Cond.code ({ cls := "PremiumHoursModel", name := "kindOf", desc := "()I" } : Jvm.MethodName) prog_14_method_18_code (1 : Nat) (Option.some Jvm.ClassFile.FieldType.int)) ∈ zbig := zt5 204 rfl rfl
theorem zwd_1165 : (Jvm.Cond.methodLink "PremiumHoursLaw" (36 : Nat) ({ cls := "PremiumHoursModel", name := "count", desc := "(I)I" } : Jvm.MethodName)) ∈ zbig := zt5 205 rfl rfl
theorem zwd_1166 : (Jvm.Cond.instanceMethod ({ cls := "PremiumHoursModel", name := "count", desc := "(I)I" } : Jvm.MethodName)) ∈ zbig := zt5 206 rfl rfl
theorem zwd_1167 : (Jvm.Cond.selects "PremiumHoursModel" ({ cls := "PremiumHoursModel", name := "count", desc := "(I)I" } : Jvm.MethodName) ({ cls := "PremiumHoursModel", name := "count", desc := "(I)I" } : Jvm.MethodName)) ∈ zbig := zt5 207 rfl rfl
theorem zwd_1168 : (Jvm.Cond.code ({ cls := "PremiumHoursModel", name := "count", desc := "(I)I" } : Jvm.MethodName) prog_14_method_22_code (2 : Nat) (Option.some Jvm.ClassFile.FieldType.int)) ∈ zbig := zt5 208 rfl rfl
theorem zwd_1169 : (Jvm.Cond.methodLink "PremiumHoursLaw" (42 : Nat) ({ cls := "PremiumHoursModel", name := "premium", desc := "(II)I" } : Jvm.MethodName)) ∈ zbig := zt5 209 rfl rfl
theorem zwd_1170 : (Jvm.Cond.instanceMethod ({ cls := "PremiumHoursModel", name := "premium", desc := "(II)I" } : Jvm.MethodName)) ∈ zbig := zt5 210 rfl rfl
theorem zwd_1171 : (Jvm.Cond.selects "PremiumHoursModel" ({ cls := "PremiumHoursModel", name := "premium", desc := "(II)I" } : Jvm.MethodName) ({ cls := "PremiumHoursModel", name := "premium", desc := "(II)I" } : Jvm.MethodName)) ∈ zbig := zt5 211 rfl rfl
theorem zwd_1172 : (Jvm.Cond.code ({ cls := "PremiumHoursModel", name := "premium", desc := "(II)I" } : Jvm.MethodName) prog_14_method_25_code (3 : Nat) (Option.some Jvm.ClassFile.FieldType.int)) ∈ zbig := zt5 212 rfl rfl
theorem zwd_1173 : (Jvm.Cond.methodLink "PremiumHoursModel" (177 : Nat) ({ cls := "PremiumHoursModel", name := "premiums", desc := "()I" } : Jvm.MethodName)) ∈ zbig := zt5 213 rfl rfl
theorem zwd_1175 : (Jvm.Cond.instanceMethod ({ cls := "PremiumHoursModel", name := "premiums", desc := "()I" } : Jvm.MethodName)) ∈ zbig := zt5 215 rfl rfl
theorem zwd_1176 : (Jvm.Cond.code ({ cls := "PremiumHoursModel", name := "premiums", desc := "()I" } : Jvm.MethodName) prog_14_method_23_code (1 : Nat) (Option.some Jvm.ClassFile.FieldType.int)) ∈ zbig := zt5 216 rfl rfl
theorem zwd_1177 : (Jvm.Cond.methodLink "PremiumHoursModel" (180 : Nat) ({ cls := "PremiumHoursModel", name := "premiumIs", desc := "(II)I" } : Jvm.MethodName)) ∈ zbig := zt5 217 rfl rfl
theorem zwd_1179 : (Jvm.Cond.instanceMethod ({ cls := "PremiumHoursModel", name := "premiumIs", desc := "(II)I" } : Jvm.MethodName)) ∈ zbig := zt5 219 rfl rfl
theorem zwd_1180 : (Jvm.Cond.code ({ cls := "PremiumHoursModel", name := "premiumIs", desc := "(II)I" } : Jvm.MethodName) prog_14_method_24_code (3 : Nat) (Option.some Jvm.ClassFile.FieldType.int)) ∈ zbig := zt5 220 rfl rfl
theorem zwd_1181 : (Jvm.Cond.methodLink "PremiumHoursLaw" (51 : Nat) ({ cls := "PremiumHoursModel", name := "moment", desc := "(IIZ)I" } : Jvm.MethodName)) ∈ zbig := zt5 221 rfl rfl
theorem zwd_1182 : (Jvm.Cond.instanceMethod ({ cls := "PremiumHoursModel", name := "moment", desc := "(IIZ)I" } : Jvm.MethodName)) ∈ zbig := zt5 222 rfl rfl
theorem zwd_1183 : (Jvm.Cond.selects "PremiumHoursModel" ({ cls := "PremiumHoursModel", name := "moment", desc := "(IIZ)I" } : Jvm.MethodName) ({ cls := "PremiumHoursModel", name := "moment", desc := "(IIZ)I" } : Jvm.MethodName)) ∈ zbig := zt5 223 rfl rfl
theorem zwd_1184 : (Jvm.Cond.code ({ cls := "PremiumHoursModel", name := "moment", desc := "(IIZ)I" } : Jvm.MethodName) prog_14_method_29_code (4 : Nat) (Option.some Jvm.ClassFile.FieldType.int)) ∈ zbig := zt5 224 rfl rfl
theorem zwd_1185 : (Jvm.Cond.methodLink "PremiumHoursModel" (188 : Nat) ({ cls := "PremiumHoursModel", name := "momentOf", desc := "(IIZ)I" } : Jvm.MethodName)) ∈ zbig := zt5 225 rfl rfl
theorem zwd_1187 : (Jvm.Cond.instanceMethod ({ cls := "PremiumHoursModel", name := "momentOf", desc := "(IIZ)I" } : Jvm.MethodName)) ∈ zbig := zt5 227 rfl rfl
theorem zwd_1188 : (Jvm.Cond.code ({ cls := "PremiumHoursModel", name := "momentOf", desc := "(IIZ)I" } : Jvm.MethodName) prog_14_method_27_code (7 : Nat) (Option.some Jvm.ClassFile.FieldType.int)) ∈ zbig := zt5 228 rfl rfl
theorem zwd_1189 : (Jvm.Cond.methodLink "PremiumHoursModel" (184 : Nat) ({ cls := "PremiumHoursModel", name := "turned", desc := "()I" } : Jvm.MethodName)) ∈ zbig := zt5 229 rfl rfl
theorem zwd_1191 : (Jvm.Cond.instanceMethod ({ cls := "PremiumHoursModel", name := "turned", desc := "()I" } : Jvm.MethodName)) ∈ zbig := zt5 231 rfl rfl
theorem zwd_1192 : (Jvm.Cond.code ({ cls := "PremiumHoursModel", name := "turned", desc := "()I" } : Jvm.MethodName) prog_14_method_26_code (1 : Nat) (Option.some Jvm.ClassFile.FieldType.int)) ∈ zbig := zt5 232 rfl rfl
theorem zwd_1193 : (Jvm.Cond.methodLink "PremiumHoursLaw" (55 : Nat) ({ cls := "PremiumHoursModel", name := "clock", desc := "(II)I" } : Jvm.MethodName)) ∈ zbig := zt5 233 rfl rfl
theorem zwd_1194 : (Jvm.Cond.instanceMethod ({ cls := "PremiumHoursModel", name := "clock", desc := "(II)I" } : Jvm.MethodName)) ∈ zbig := zt5 234 rfl rfl
theorem zwd_1195 : (Jvm.Cond.selects "PremiumHoursModel" ({ cls := "PremiumHoursModel", name := "clock", desc := "(II)I" } : Jvm.MethodName) ({ cls := "PremiumHoursModel", name := "clock", desc := "(II)I" } : Jvm.MethodName)) ∈ zbig := zt5 235 rfl rfl
theorem zwd_1196 : (Jvm.Cond.code ({ cls := "PremiumHoursModel", name := "clock", desc := "(II)I" } : Jvm.MethodName) prog_14_method_30_code (5 : Nat) (Option.some Jvm.ClassFile.FieldType.int)) ∈ zbig := zt5 236 rfl rfl
theorem zwd_1197 : (Jvm.Cond.constant "PremiumHoursModel" (192 : Nat) (50000 : Int32)) ∈ zbig := zt5 237 rfl rfl
theorem zwd_1198 : (Jvm.Cond.methodLink "PremiumHoursModel" (193 : Nat) ({ cls := "PremiumHoursModel", name := "toldAt", desc := "(I)I" } : Jvm.MethodName)) ∈ zbig := zt5 238 rfl rfl
theorem zwd_1200 : (Jvm.Cond.instanceMethod ({ cls := "PremiumHoursModel", name := "toldAt", desc := "(I)I" } : Jvm.MethodName)) ∈ zbig := zt6 0 rfl rfl
theorem zwd_1201 : (Jvm.Cond.code ({ cls := "PremiumHoursModel", name := "toldAt", desc := "(I)I" } : Jvm.MethodName) prog_14_method_28_code (3 : Nat) (Option.some Jvm.ClassFile.FieldType.int)) ∈ zbig := zt6 1 rfl rfl
theorem zwd_1202 : (Jvm.Cond.constant "PremiumHoursModel" (187 : Nat) (40319 : Int32)) ∈ zbig := zt6 2 rfl rfl
theorem zwd_1203 : (Jvm.Cond.methodLink "PremiumHoursLaw" (60 : Nat) ({ cls := "PremiumHoursModel", name := "punch", desc := "(IIIIZ)I" } : Jvm.MethodName)) ∈ zbig := zt6 3 rfl rfl
theorem zwd_1204 : (Jvm.Cond.instanceMethod ({ cls := "PremiumHoursModel", name := "punch", desc := "(IIIIZ)I" } : Jvm.MethodName)) ∈ zbig := zt6 4 rfl rfl
theorem zwd_1205 : (Jvm.Cond.selects "PremiumHoursModel" ({ cls := "PremiumHoursModel", name := "punch", desc := "(IIIIZ)I" } : Jvm.MethodName) ({ cls := "PremiumHoursModel", name := "punch", desc := "(IIIIZ)I" } : Jvm.MethodName)) ∈ zbig := zt6 5 rfl rfl
theorem zwd_1206 : (Jvm.Cond.code ({ cls := "PremiumHoursModel", name := "punch", desc := "(IIIIZ)I" } : Jvm.MethodName) prog_14_method_37_code (7 : Nat) (Option.some Jvm.ClassFile.FieldType.int)) ∈ zbig := zt6 6 rfl rfl
theorem zwd_1207 : (Jvm.Cond.methodLink "PremiumHoursModel" (202 : Nat) ({ cls := "PremiumHoursModel", name := "canCome", desc := "(III)Z" } : Jvm.MethodName)) ∈ zbig := zt6 7 rfl rfl
theorem zwd_1209 : (Jvm.Cond.instanceMethod ({ cls := "PremiumHoursModel", name := "canCome", desc := "(III)Z" } : Jvm.MethodName)) ∈ zbig := zt6 9 rfl rfl
theorem zwd_1210 : (Jvm.Cond.code ({ cls := "PremiumHoursModel", name := "canCome", desc := "(III)Z" } : Jvm.MethodName) prog_14_method_36_code (4 : Nat) (Option.some Jvm.ClassFile.FieldType.boolean)) ∈ zbig := zt6 10 rfl rfl
theorem zwd_1211 : (Jvm.Cond.methodLink "PremiumHoursModel" (196 : Nat) ({ cls := "PremiumHoursModel", name := "isWorker", desc := "(I)Z" } : Jvm.MethodName)) ∈ zbig := zt6 11 rfl rfl
theorem zwd_1213 : (Jvm.Cond.instanceMethod ({ cls := "PremiumHoursModel", name := "isWorker", desc := "(I)Z" } : Jvm.MethodName)) ∈ zbig := zt6 13 rfl rfl
theorem zwd_1214 : (Jvm.Cond.code ({ cls := "PremiumHoursModel", name := "isWorker", desc := "(I)Z" } : Jvm.MethodName) prog_14_method_31_code (2 : Nat) (Option.some Jvm.ClassFile.FieldType.boolean)) ∈ zbig := zt6 14 rfl rfl
theorem zwd_1215 : (Jvm.Cond.methodLink "PremiumHoursModel" (199 : Nat) ({ cls := "PremiumHoursModel", name := "placeOf", desc := "(II)I" } : Jvm.MethodName)) ∈ zbig := zt6 15 rfl rfl
theorem zwd_1217 : (Jvm.Cond.instanceMethod ({ cls := "PremiumHoursModel", name := "placeOf", desc := "(II)I" } : Jvm.MethodName)) ∈ zbig := zt6 17 rfl rfl
theorem zwd_1218 : (Jvm.Cond.code ({ cls := "PremiumHoursModel", name := "placeOf", desc := "(II)I" } : Jvm.MethodName) prog_14_method_32_code (4 : Nat) (Option.some Jvm.ClassFile.FieldType.int)) ∈ zbig := zt6 18 rfl rfl
theorem zwd_1219 : (Jvm.Cond.methodLink "PremiumHoursModel" (205 : Nat) ({ cls := "PremiumHoursModel", name := "comes", desc := "(III)V" } : Jvm.MethodName)) ∈ zbig := zt6 19 rfl rfl
theorem zwd_1221 : (Jvm.Cond.instanceMethod ({ cls := "PremiumHoursModel", name := "comes", desc := "(III)V" } : Jvm.MethodName)) ∈ zbig := zt6 21 rfl rfl
theorem zwd_1222 : (Jvm.Cond.code ({ cls := "PremiumHoursModel", name := "comes", desc := "(III)V" } : Jvm.MethodName) prog_14_method_33_code (5 : Nat) (Option.none : Option Jvm.ClassFile.FieldType)) ∈ zbig := zt6 22 rfl rfl
theorem zwd_1223 : (Jvm.Cond.methodLink "PremiumHoursModel" (209 : Nat) ({ cls := "PremiumHoursModel", name := "notes", desc := "(IIII)V" } : Jvm.MethodName)) ∈ zbig := zt6 23 rfl rfl
theorem zwd_1225 : (Jvm.Cond.instanceMethod ({ cls := "PremiumHoursModel", name := "notes", desc := "(IIII)V" } : Jvm.MethodName)) ∈ zbig := zt6 25 rfl rfl
theorem zwd_1226 : (Jvm.Cond.code ({ cls := "PremiumHoursModel", name := "notes", desc := "(IIII)V" } : Jvm.MethodName) prog_14_method_35_code (6 : Nat) (Option.none : Option Jvm.ClassFile.FieldType)) ∈ zbig := zt6 26 rfl rfl
theorem zwd_1227 : (Jvm.Cond.methodLink "PremiumHoursLaw" (65 : Nat) ({ cls := "PremiumHoursModel", name := "strike", desc := "(IIIZ)I" } : Jvm.MethodName)) ∈ zbig := zt6 27 rfl rfl
theorem zwd_1228 : (Jvm.Cond.instanceMethod ({ cls := "PremiumHoursModel", name := "strike", desc := "(IIIZ)I" } : Jvm.MethodName)) ∈ zbig := zt6 28 rfl rfl
theorem zwd_1229 : (Jvm.Cond.selects "PremiumHoursModel" ({ cls := "PremiumHoursModel", name := "strike", desc := "(IIIZ)I" } : Jvm.MethodName) ({ cls := "PremiumHoursModel", name := "strike", desc := "(IIIZ)I" } : Jvm.MethodName)) ∈ zbig := zt6 29 rfl rfl
theorem zwd_1230 : (Jvm.Cond.code ({ cls := "PremiumHoursModel", name := "strike", desc := "(IIIZ)I" } : Jvm.MethodName) prog_14_method_38_code (6 : Nat) (Option.some Jvm.ClassFile.FieldType.int)) ∈ zbig := zt6 30 rfl rfl
theorem zwd_1231 : (Jvm.Cond.methodLink "PremiumHoursModel" (213 : Nat) ({ cls := "PremiumHoursModel", name := "leaves", desc := "(II)V" } : Jvm.MethodName)) ∈ zbig := zt6 31 rfl rfl
theorem zwd_1233 : (Jvm.Cond.instanceMethod ({ cls := "PremiumHoursModel", name := "leaves", desc := "(II)V" } : Jvm.MethodName)) ∈ zbig := zt6 33 rfl rfl
theorem zwd_1234 : (Jvm.Cond.code ({ cls := "PremiumHoursModel", name := "leaves", desc := "(II)V" } : Jvm.MethodName) prog_14_method_34_code (4 : Nat) (Option.none : Option Jvm.ClassFile.FieldType)) ∈ zbig := zt6 34 rfl rfl
theorem zwd_1235 : (Jvm.Cond.methodLink "PremiumHoursLaw" (69 : Nat) ({ cls := "PremiumHoursModel", name := "undo", desc := "()I" } : Jvm.MethodName)) ∈ zbig := zt6 35 rfl rfl
theorem zwd_1236 : (Jvm.Cond.instanceMethod ({ cls := "PremiumHoursModel", name := "undo", desc := "()I" } : Jvm.MethodName)) ∈ zbig := zt6 36 rfl rfl
theorem zwd_1237 : (Jvm.Cond.selects "PremiumHoursModel" ({ cls := "PremiumHoursModel", name := "undo", desc := "()I" } : Jvm.MethodName) ({ cls := "PremiumHoursModel", name := "undo", desc := "()I" } : Jvm.MethodName)) ∈ zbig := zt6 37 rfl rfl
theorem zwd_1238 : (Jvm.Cond.code ({ cls := "PremiumHoursModel", name := "undo", desc := "()I" } : Jvm.MethodName) prog_14_method_39_code (2 : Nat) (Option.some Jvm.ClassFile.FieldType.int)) ∈ zbig := zt6 38 rfl rfl
theorem zwd_1239 : (Jvm.Cond.methodLink "PremiumHoursLaw" (73 : Nat) ({ cls := "PremiumHoursModel", name := "punched", desc := "(III)I" } : Jvm.MethodName)) ∈ zbig := zt6 39 rfl rfl
theorem zwd_1240 : (Jvm.Cond.instanceMethod ({ cls := "PremiumHoursModel", name := "punched", desc := "(III)I" } : Jvm.MethodName)) ∈ zbig := zt6 40 rfl rfl
theorem zwd_1241 : (Jvm.Cond.selects "PremiumHoursModel" ({ cls := "PremiumHoursModel", name := "punched", desc := "(III)I" } : Jvm.MethodName) ({ cls := "PremiumHoursModel", name := "punched", desc := "(III)I" } : Jvm.MethodName)) ∈ zbig := zt6 41 rfl rfl
theorem zwd_1242 : (Jvm.Cond.code ({ cls := "PremiumHoursModel", name := "punched", desc := "(III)I" } : Jvm.MethodName) prog_14_method_42_code (4 : Nat) (Option.some Jvm.ClassFile.FieldType.int)) ∈ zbig := zt6 42 rfl rfl
theorem zwd_1243 : (Jvm.Cond.methodLink "PremiumHoursModel" (223 : Nat) ({ cls := "PremiumHoursModel", name := "laysPairs", desc := "(I)V" } : Jvm.MethodName)) ∈ zbig := zt6 43 rfl rfl
theorem zwd_1245 : (Jvm.Cond.instanceMethod ({ cls := "PremiumHoursModel", name := "laysPairs", desc := "(I)V" } : Jvm.MethodName)) ∈ zbig := zt6 45 rfl rfl
theorem zwd_1246 : (Jvm.Cond.code ({ cls := "PremiumHoursModel", name := "laysPairs", desc := "(I)V" } : Jvm.MethodName) prog_14_method_41_code (5 : Nat) (Option.none : Option Jvm.ClassFile.FieldType)) ∈ zbig := zt6 46 rfl rfl
theorem zwd_1247 : (Jvm.Cond.methodLink "PremiumHoursModel" (220 : Nat) ({ cls := "PremiumHoursModel", name := "quarterAt", desc := "(I)I" } : Jvm.MethodName)) ∈ zbig := zt6 47 rfl rfl
theorem zwd_1249 : (Jvm.Cond.instanceMethod ({ cls := "PremiumHoursModel", name := "quarterAt", desc := "(I)I" } : Jvm.MethodName)) ∈ zbig := zt6 49 rfl rfl
theorem zwd_1250 : (Jvm.Cond.code ({ cls := "PremiumHoursModel", name := "quarterAt", desc := "(I)I" } : Jvm.MethodName) prog_14_method_40_code (2 : Nat) (Option.some Jvm.ClassFile.FieldType.int)) ∈ zbig := zt6 50 rfl rfl
theorem zwd_1251 : (Jvm.Cond.methodLink "PremiumHoursLaw" (77 : Nat) ({ cls := "PremiumHoursModel", name := "span", desc := "(III)I" } : Jvm.MethodName)) ∈ zbig := zt6 51 rfl rfl
theorem zwd_1252 : (Jvm.Cond.instanceMethod ({ cls := "PremiumHoursModel", name := "span", desc := "(III)I" } : Jvm.MethodName)) ∈ zbig := zt6 52 rfl rfl
theorem zwd_1253 : (Jvm.Cond.selects "PremiumHoursModel" ({ cls := "PremiumHoursModel", name := "span", desc := "(III)I" } : Jvm.MethodName) ({ cls := "PremiumHoursModel", name := "span", desc := "(III)I" } : Jvm.MethodName)) ∈ zbig := zt6 53 rfl rfl
theorem zwd_1254 : (Jvm.Cond.code ({ cls := "PremiumHoursModel", name := "span", desc := "(III)I" } : Jvm.MethodName) prog_14_method_45_code (6 : Nat) (Option.some Jvm.ClassFile.FieldType.int)) ∈ zbig := zt6 54 rfl rfl
theorem zwd_1255 : (Jvm.Cond.methodLink "PremiumHoursModel" (229 : Nat) ({ cls := "PremiumHoursModel", name := "isOfSpan", desc := "(II)Z" } : Jvm.MethodName)) ∈ zbig := zt6 55 rfl rfl
theorem zwd_1257 : (Jvm.Cond.instanceMethod ({ cls := "PremiumHoursModel", name := "isOfSpan", desc := "(II)Z" } : Jvm.MethodName)) ∈ zbig := zt6 57 rfl rfl
theorem zwd_1258 : (Jvm.Cond.code ({ cls := "PremiumHoursModel", name := "isOfSpan", desc := "(II)Z" } : Jvm.MethodName) prog_14_method_44_code (6 : Nat) (Option.some Jvm.ClassFile.FieldType.boolean)) ∈ zbig := zt6 58 rfl rfl
theorem zwd_1259 : (Jvm.Cond.methodLink "PremiumHoursModel" (226 : Nat) ({ cls := "PremiumHoursModel", name := "isOfDays", desc := "(I)Z" } : Jvm.MethodName)) ∈ zbig := zt6 59 rfl rfl
theorem zwd_1261 : (Jvm.Cond.instanceMethod ({ cls := "PremiumHoursModel", name := "isOfDays", desc := "(I)Z" } : Jvm.MethodName)) ∈ zbig := zt6 61 rfl rfl
theorem zwd_1262 : (Jvm.Cond.code ({ cls := "PremiumHoursModel", name := "isOfDays", desc := "(I)Z" } : Jvm.MethodName) prog_14_method_43_code (2 : Nat) (Option.some Jvm.ClassFile.FieldType.boolean)) ∈ zbig := zt6 62 rfl rfl
theorem zwd_1263 : (Jvm.Cond.methodLink "PremiumHoursLaw" (81 : Nat) ({ cls := "PremiumHoursModel", name := "quarter", desc := "(III)I" } : Jvm.MethodName)) ∈ zbig := zt6 63 rfl rfl
theorem zwd_1264 : (Jvm.Cond.instanceMethod ({ cls := "PremiumHoursModel", name := "quarter", desc := "(III)I" } : Jvm.MethodName)) ∈ zbig := zt6 64 rfl rfl
theorem zwd_1265 : (Jvm.Cond.selects "PremiumHoursModel" ({ cls := "PremiumHoursModel", name := "quarter", desc := "(III)I" } : Jvm.MethodName) ({ cls := "PremiumHoursModel", name := "quarter", desc := "(III)I" } : Jvm.MethodName)) ∈ zbig := zt6 65 rfl rfl
theorem zwd_1266 : (Jvm.Cond.code ({ cls := "PremiumHoursModel", name := "quarter", desc := "(III)I" } : Jvm.MethodName) prog_14_method_61_code (7 : Nat) (Option.some Jvm.ClassFile.FieldType.int)) ∈ zbig := zt6 66 rfl rfl
theorem zwd_1267 : (Jvm.Cond.methodLink "PremiumHoursModel" (268 : Nat) ({ cls := "PremiumHoursModel", name := "laysWorked", desc := "(I)V" } : Jvm.MethodName)) ∈ zbig := zt6 67 rfl rfl
theorem zwd_1269 : (Jvm.Cond.instanceMethod ({ cls := "PremiumHoursModel", name := "laysWorked", desc := "(I)V" } : Jvm.MethodName)) ∈ zbig := zt6 69 rfl rfl
theorem zwd_1270 : (Jvm.Cond.code ({ cls := "PremiumHoursModel", name := "laysWorked", desc := "(I)V" } : Jvm.MethodName) prog_14_method_46_code (4 : Nat) (Option.none : Option Jvm.ClassFile.FieldType)) ∈ zbig := zt6 70 rfl rfl
theorem zwd_1271 : (Jvm.Cond.methodLink "PremiumHoursModel" (235 : Nat) ({ cls := "PremiumHoursModel", name := "dayOf", desc := "(I)I" } : Jvm.MethodName)) ∈ zbig := zt6 71 rfl rfl
theorem zwd_1273 : (Jvm.Cond.instanceMethod ({ cls := "PremiumHoursModel", name := "dayOf", desc := "(I)I" } : Jvm.MethodName)) ∈ zbig := zt6 73 rfl rfl
theorem zwd_1274 : (Jvm.Cond.code ({ cls := "PremiumHoursModel", name := "dayOf", desc := "(I)I" } : Jvm.MethodName) prog_14_method_47_code (2 : Nat) (Option.some Jvm.ClassFile.FieldType.int)) ∈ zbig := zt6 74 rfl rfl
theorem zwd_1275 : (Jvm.Cond.methodLink "PremiumHoursModel" (283 : Nat) ({ cls := "PremiumHoursModel", name := "laysWeek", desc := "(II)V" } : Jvm.MethodName)) ∈ zbig := zt6 75 rfl rfl
theorem zwd_1277 : (Jvm.Cond.instanceMethod ({ cls := "PremiumHoursModel", name := "laysWeek", desc := "(II)V" } : Jvm.MethodName)) ∈ zbig := zt6 77 rfl rfl
theorem zwd_1278 : (Jvm.Cond.code ({ cls := "PremiumHoursModel", name := "laysWeek", desc := "(II)V" } : Jvm.MethodName) prog_14_method_59_code (3 : Nat) (Option.none : Option Jvm.ClassFile.FieldType)) ∈ zbig := zt6 78 rfl rfl
theorem zwd_1279 : (Jvm.Cond.methodLink "PremiumHoursModel" (271 : Nat) ({ cls := "PremiumHoursModel", name := "laysQuarters", desc := "(I)V" } : Jvm.MethodName)) ∈ zbig := zt6 79 rfl rfl
theorem zwd_1281 : (Jvm.Cond.instanceMethod ({ cls := "PremiumHoursModel", name := "laysQuarters", desc := "(I)V" } : Jvm.MethodName)) ∈ zbig := zt6 81 rfl rfl
theorem zwd_1282 : (Jvm.Cond.code ({ cls := "PremiumHoursModel", name := "laysQuarters", desc := "(I)V" } : Jvm.MethodName) prog_14_method_50_code (8 : Nat) (Option.none : Option Jvm.ClassFile.FieldType)) ∈ zbig := zt6 82 rfl rfl
theorem zwd_1283 : (Jvm.Cond.methodLink "PremiumHoursModel" (238 : Nat) ({ cls := "PremiumHoursModel", name := "isMay", desc := "(IIIII)Z" } : Jvm.MethodName)) ∈ zbig := zt6 83 rfl rfl
theorem zwd_1285 : (Jvm.Cond.instanceMethod ({ cls := "PremiumHoursModel", name := "isMay", desc := "(IIIII)Z" } : Jvm.MethodName)) ∈ zbig := zt6 85 rfl rfl
theorem zwd_1286 : (Jvm.Cond.code ({ cls := "PremiumHoursModel", name := "isMay", desc := "(IIIII)Z" } : Jvm.MethodName) prog_14_method_51_code (6 : Nat) (Option.some Jvm.ClassFile.FieldType.boolean)) ∈ zbig := zt6 86 rfl rfl
theorem zwd_1287 : (Jvm.Cond.methodLink "PremiumHoursModel" (242 : Nat) ({ cls := "PremiumHoursModel", name := "hourOf", desc := "(I)I" } : Jvm.MethodName)) ∈ zbig := zt6 87 rfl rfl
theorem zwd_1289 : (Jvm.Cond.instanceMethod ({ cls := "PremiumHoursModel", name := "hourOf", desc := "(I)I" } : Jvm.MethodName)) ∈ zbig := zt6 89 rfl rfl
theorem zwd_1290 : (Jvm.Cond.code ({ cls := "PremiumHoursModel", name := "hourOf", desc := "(I)I" } : Jvm.MethodName) prog_14_method_48_code (2 : Nat) (Option.some Jvm.ClassFile.FieldType.int)) ∈ zbig := zt6 90 rfl rfl
theorem zwd_1291 : (Jvm.Cond.methodLink "PremiumHoursModel" (245 : Nat) ({ cls := "PremiumHoursModel", name := "isNight", desc := "(II)Z" } : Jvm.MethodName)) ∈ zbig := zt6 91 rfl rfl
theorem zwd_1293 : (Jvm.Cond.instanceMethod ({ cls := "PremiumHoursModel", name := "isNight", desc := "(II)Z" } : Jvm.MethodName)) ∈ zbig := zt6 93 rfl rfl
theorem zwd_1294 : (Jvm.Cond.code ({ cls := "PremiumHoursModel", name := "isNight", desc := "(II)Z" } : Jvm.MethodName) prog_14_method_49_code (5 : Nat) (Option.some Jvm.ClassFile.FieldType.boolean)) ∈ zbig := zt6 94 rfl rfl
theorem zwd_1295 : (Jvm.Cond.methodLink "PremiumHoursModel" (274 : Nat) ({ cls := "PremiumHoursModel", name := "laysBest", desc := "()V" } : Jvm.MethodName)) ∈ zbig := zt6 95 rfl rfl
theorem zwd_1297 : (Jvm.Cond.instanceMethod ({ cls := "PremiumHoursModel", name := "laysBest", desc := "()V" } : Jvm.MethodName)) ∈ zbig := zt6 97 rfl rfl
theorem zwd_1298 : (Jvm.Cond.code ({ cls := "PremiumHoursModel", name := "laysBest", desc := "()V" } : Jvm.MethodName) prog_14_method_56_code (9 : Nat) (Option.none : Option Jvm.ClassFile.FieldType)) ∈ zbig := zt6 98 rfl rfl
theorem zwd_1299 : (Jvm.Cond.methodLink "PremiumHoursModel" (252 : Nat) ({ cls := "PremiumHoursModel", name := "laysWeekPremiums", desc := "()V" } : Jvm.MethodName)) ∈ zbig := zt6 99 rfl rfl
theorem zwd_1301 : (Jvm.Cond.instanceMethod ({ cls := "PremiumHoursModel", name := "laysWeekPremiums", desc := "()V" } : Jvm.MethodName)) ∈ zbig := zt6 101 rfl rfl
theorem zwd_1302 : (Jvm.Cond.code ({ cls := "PremiumHoursModel", name := "laysWeekPremiums", desc := "()V" } : Jvm.MethodName) prog_14_method_53_code (3 : Nat) (Option.none : Option Jvm.ClassFile.FieldType)) ∈ zbig := zt6 102 rfl rfl
theorem zwd_1303 : (Jvm.Cond.methodLink "PremiumHoursModel" (248 : Nat) ({ cls := "PremiumHoursModel", name := "adds", desc := "(IIZ)V" } : Jvm.MethodName)) ∈ zbig := zt6 103 rfl rfl
theorem zwd_1305 : (Jvm.Cond.instanceMethod ({ cls := "PremiumHoursModel", name := "adds", desc := "(IIZ)V" } : Jvm.MethodName)) ∈ zbig := zt6 105 rfl rfl
theorem zwd_1306 : (Jvm.Cond.code ({ cls := "PremiumHoursModel", name := "adds", desc := "(IIZ)V" } : Jvm.MethodName) prog_14_method_54_code (4 : Nat) (Option.none : Option Jvm.ClassFile.FieldType)) ∈ zbig := zt6 106 rfl rfl
theorem zwd_1307 : (Jvm.Cond.methodLink "PremiumHoursModel" (255 : Nat) ({ cls := "PremiumHoursModel", name := "mostOf", desc := "(IZI)I" } : Jvm.MethodName)) ∈ zbig := zt6 107 rfl rfl
theorem zwd_1309 : (Jvm.Cond.instanceMethod ({ cls := "PremiumHoursModel", name := "mostOf", desc := "(IZI)I" } : Jvm.MethodName)) ∈ zbig := zt6 109 rfl rfl
theorem zwd_1310 : (Jvm.Cond.code ({ cls := "PremiumHoursModel", name := "mostOf", desc := "(IZI)I" } : Jvm.MethodName) prog_14_method_55_code (7 : Nat) (Option.some Jvm.ClassFile.FieldType.int)) ∈ zbig := zt6 110 rfl rfl
theorem zwd_1311 : (Jvm.Cond.methodLink "PremiumHoursModel" (277 : Nat) ({ cls := "PremiumHoursModel", name := "readsBest", desc := "()V" } : Jvm.MethodName)) ∈ zbig := zt6 111 rfl rfl
theorem zwd_1313 : (Jvm.Cond.instanceMethod ({ cls := "PremiumHoursModel", name := "readsBest", desc := "()V" } : Jvm.MethodName)) ∈ zbig := zt6 113 rfl rfl
theorem zwd_1314 : (Jvm.Cond.code ({ cls := "PremiumHoursModel", name := "readsBest", desc := "()V" } : Jvm.MethodName) prog_14_method_57_code (6 : Nat) (Option.none : Option Jvm.ClassFile.FieldType)) ∈ zbig := zt6 114 rfl rfl
theorem zwd_1315 : (Jvm.Cond.methodLink "PremiumHoursModel" (259 : Nat) ({ cls := "PremiumHoursModel", name := "canBe", desc := "(III)Z" } : Jvm.MethodName)) ∈ zbig := zt6 115 rfl rfl
theorem zwd_1317 : (Jvm.Cond.instanceMethod ({ cls := "PremiumHoursModel", name := "canBe", desc := "(III)Z" } : Jvm.MethodName)) ∈ zbig := zt6 117 rfl rfl
theorem zwd_1318 : (Jvm.Cond.code ({ cls := "PremiumHoursModel", name := "canBe", desc := "(III)Z" } : Jvm.MethodName) prog_14_method_52_code (4 : Nat) (Option.some Jvm.ClassFile.FieldType.boolean)) ∈ zbig := zt6 118 rfl rfl
theorem zwd_1319 : (Jvm.Cond.methodLink "PremiumHoursModel" (280 : Nat) ({ cls := "PremiumHoursModel", name := "laysComing", desc := "()V" } : Jvm.MethodName)) ∈ zbig := zt6 119 rfl rfl
theorem zwd_1321 : (Jvm.Cond.instanceMethod ({ cls := "PremiumHoursModel", name := "laysComing", desc := "()V" } : Jvm.MethodName)) ∈ zbig := zt6 121 rfl rfl
theorem zwd_1322 : (Jvm.Cond.code ({ cls := "PremiumHoursModel", name := "laysComing", desc := "()V" } : Jvm.MethodName) prog_14_method_58_code (5 : Nat) (Option.none : Option Jvm.ClassFile.FieldType)) ∈ zbig := zt6 122 rfl rfl
theorem zwd_1323 : (Jvm.Cond.methodLink "PremiumHoursLaw" (85 : Nat) ({ cls := "PremiumHoursModel", name := "day", desc := "(III)I" } : Jvm.MethodName)) ∈ zbig := zt6 123 rfl rfl
theorem zwd_1324 : (Jvm.Cond.instanceMethod ({ cls := "PremiumHoursModel", name := "day", desc := "(III)I" } : Jvm.MethodName)) ∈ zbig := zt6 124 rfl rfl
theorem zwd_1325 : (Jvm.Cond.selects "PremiumHoursModel" ({ cls := "PremiumHoursModel", name := "day", desc := "(III)I" } : Jvm.MethodName) ({ cls := "PremiumHoursModel", name := "day", desc := "(III)I" } : Jvm.MethodName)) ∈ zbig := zt6 125 rfl rfl
theorem zwd_1326 : (Jvm.Cond.code ({ cls := "PremiumHoursModel", name := "day", desc := "(III)I" } : Jvm.MethodName) prog_14_method_64_code (6 : Nat) (Option.some Jvm.ClassFile.FieldType.int)) ∈ zbig := zt6 126 rfl rfl
theorem zwd_1327 : (Jvm.Cond.methodLink "PremiumHoursModel" (286 : Nat) ({ cls := "PremiumHoursModel", name := "isAsked", desc := "(I)Z" } : Jvm.MethodName)) ∈ zbig := zt6 127 rfl rfl
theorem zwd_1329 : (Jvm.Cond.instanceMethod ({ cls := "PremiumHoursModel", name := "isAsked", desc := "(I)Z" } : Jvm.MethodName)) ∈ zbig := zt6 129 rfl rfl
theorem zwd_1330 : (Jvm.Cond.code ({ cls := "PremiumHoursModel", name := "isAsked", desc := "(I)Z" } : Jvm.MethodName) prog_14_method_62_code (2 : Nat) (Option.some Jvm.ClassFile.FieldType.boolean)) ∈ zbig := zt6 130 rfl rfl
theorem zwd_1331 : (Jvm.Cond.methodLink "PremiumHoursModel" (289 : Nat) ({ cls := "PremiumHoursModel", name := "isOf", desc := "(II)Z" } : Jvm.MethodName)) ∈ zbig := zt6 131 rfl rfl
theorem zwd_1333 : (Jvm.Cond.instanceMethod ({ cls := "PremiumHoursModel", name := "isOf", desc := "(II)Z" } : Jvm.MethodName)) ∈ zbig := zt6 133 rfl rfl
theorem zwd_1334 : (Jvm.Cond.code ({ cls := "PremiumHoursModel", name := "isOf", desc := "(II)Z" } : Jvm.MethodName) prog_14_method_63_code (3 : Nat) (Option.some Jvm.ClassFile.FieldType.boolean)) ∈ zbig := zt6 134 rfl rfl
theorem zwd_1335 : (Jvm.Cond.methodLink "PremiumHoursLaw" (89 : Nat) ({ cls := "PremiumHoursModel", name := "week", desc := "(III)I" } : Jvm.MethodName)) ∈ zbig := zt6 135 rfl rfl
theorem zwd_1336 : (Jvm.Cond.instanceMethod ({ cls := "PremiumHoursModel", name := "week", desc := "(III)I" } : Jvm.MethodName)) ∈ zbig := zt6 136 rfl rfl
theorem zwd_1337 : (Jvm.Cond.selects "PremiumHoursModel" ({ cls := "PremiumHoursModel", name := "week", desc := "(III)I" } : Jvm.MethodName) ({ cls := "PremiumHoursModel", name := "week", desc := "(III)I" } : Jvm.MethodName)) ∈ zbig := zt6 137 rfl rfl
theorem zwd_1338 : (Jvm.Cond.code ({ cls := "PremiumHoursModel", name := "week", desc := "(III)I" } : Jvm.MethodName) prog_14_method_66_code (6 : Nat) (Option.some Jvm.ClassFile.FieldType.int)) ∈ zbig := zt6 138 rfl rfl
theorem zwd_1339 : (Jvm.Cond.methodLink "PremiumHoursModel" (292 : Nat) ({ cls := "PremiumHoursModel", name := "isWeek", desc := "(I)Z" } : Jvm.MethodName)) ∈ zbig := zt6 139 rfl rfl
theorem zwd_1341 : (Jvm.Cond.instanceMethod ({ cls := "PremiumHoursModel", name := "isWeek", desc := "(I)Z" } : Jvm.MethodName)) ∈ zbig := zt6 141 rfl rfl
theorem zwd_1342 : (Jvm.Cond.code ({ cls := "PremiumHoursModel", name := "isWeek", desc := "(I)Z" } : Jvm.MethodName) prog_14_method_65_code (2 : Nat) (Option.some Jvm.ClassFile.FieldType.boolean)) ∈ zbig := zt6 142 rfl rfl
theorem zwd_1343 : (Jvm.Cond.methodLink "PremiumHoursLaw" (93 : Nat) ({ cls := "PremiumHoursModel", name := "counted", desc := "(IIZ)I" } : Jvm.MethodName)) ∈ zbig := zt6 143 rfl rfl
theorem zwd_1344 : (Jvm.Cond.instanceMethod ({ cls := "PremiumHoursModel", name := "counted", desc := "(IIZ)I" } : Jvm.MethodName)) ∈ zbig := zt6 144 rfl rfl
theorem zwd_1345 : (Jvm.Cond.selects "PremiumHoursModel" ({ cls := "PremiumHoursModel", name := "counted", desc := "(IIZ)I" } : Jvm.MethodName) ({ cls := "PremiumHoursModel", name := "counted", desc := "(IIZ)I" } : Jvm.MethodName)) ∈ zbig := zt6 145 rfl rfl
theorem zwd_1346 : (Jvm.Cond.code ({ cls := "PremiumHoursModel", name := "counted", desc := "(IIZ)I" } : Jvm.MethodName) prog_14_method_67_code (4 : Nat) (Option.some Jvm.ClassFile.FieldType.int)) ∈ zbig := zt6 146 rfl rfl
theorem zwd_1347 : (Jvm.Cond.methodLink "PremiumHoursLaw" (97 : Nat) ({ cls := "PremiumHoursModel", name := "pay", desc := "(IIZ)I" } : Jvm.MethodName)) ∈ zbig := zt6 147 rfl rfl
theorem zwd_1348 : (Jvm.Cond.instanceMethod ({ cls := "PremiumHoursModel", name := "pay", desc := "(IIZ)I" } : Jvm.MethodName)) ∈ zbig := zt6 148 rfl rfl
theorem zwd_1349 : (Jvm.Cond.selects "PremiumHoursModel" ({ cls := "PremiumHoursModel", name := "pay", desc := "(IIZ)I" } : Jvm.MethodName) ({ cls := "PremiumHoursModel", name := "pay", desc := "(IIZ)I" } : Jvm.MethodName)) ∈ zbig := zt6 149 rfl rfl
theorem zwd_1350 : (Jvm.Cond.code ({ cls := "PremiumHoursModel", name := "pay", desc := "(IIZ)I" } : Jvm.MethodName) prog_14_method_68_code (6 : Nat) (Option.some Jvm.ClassFile.FieldType.int)) ∈ zbig := zt6 150 rfl rfl
theorem zwd_1351 : (Jvm.Cond.methodLink "PremiumHoursModel" (295 : Nat) ({ cls := "PremiumHoursModel", name := "hundredths", desc := "([II)I" } : Jvm.MethodName)) ∈ zbig := zt6 151 rfl rfl
theorem zwd_1353 : (Jvm.Cond.instanceMethod ({ cls := "PremiumHoursModel", name := "hundredths", desc := "([II)I" } : Jvm.MethodName)) ∈ zbig := zt6 153 rfl rfl
theorem zwd_1354 : (Jvm.Cond.code ({ cls := "PremiumHoursModel", name := "hundredths", desc := "([II)I" } : Jvm.MethodName) prog_14_method_60_code (3 : Nat) (Option.some Jvm.ClassFile.FieldType.int)) ∈ zbig := zt6 154 rfl rfl
theorem zwd_1355 : (Jvm.Cond.methodLink "PremiumHoursLaw" (101 : Nat) ({ cls := "PremiumHoursModel", name := "dayPay", desc := "(II)I" } : Jvm.MethodName)) ∈ zbig := zt6 155 rfl rfl
theorem zwd_1356 : (Jvm.Cond.instanceMethod ({ cls := "PremiumHoursModel", name := "dayPay", desc := "(II)I" } : Jvm.MethodName)) ∈ zbig := zt6 156 rfl rfl
theorem zwd_1357 : (Jvm.Cond.selects "PremiumHoursModel" ({ cls := "PremiumHoursModel", name := "dayPay", desc := "(II)I" } : Jvm.MethodName) ({ cls := "PremiumHoursModel", name := "dayPay", desc := "(II)I" } : Jvm.MethodName)) ∈ zbig := zt6 157 rfl rfl
theorem zwd_1358 : (Jvm.Cond.code ({ cls := "PremiumHoursModel", name := "dayPay", desc := "(II)I" } : Jvm.MethodName) prog_14_method_69_code (5 : Nat) (Option.some Jvm.ClassFile.FieldType.int)) ∈ zbig := zt6 158 rfl rfl
theorem zwd_1359 : (Jvm.Cond.methodLink "PremiumHoursLaw" (105 : Nat) ({ cls := "PremiumHoursModel", name := "total", desc := "()I" } : Jvm.MethodName)) ∈ zbig := zt6 159 rfl rfl
theorem zwd_1360 : (Jvm.Cond.instanceMethod ({ cls := "PremiumHoursModel", name := "total", desc := "()I" } : Jvm.MethodName)) ∈ zbig := zt6 160 rfl rfl
theorem zwd_1361 : (Jvm.Cond.selects "PremiumHoursModel" ({ cls := "PremiumHoursModel", name := "total", desc := "()I" } : Jvm.MethodName) ({ cls := "PremiumHoursModel", name := "total", desc := "()I" } : Jvm.MethodName)) ∈ zbig := zt6 161 rfl rfl
theorem zwd_1362 : (Jvm.Cond.code ({ cls := "PremiumHoursModel", name := "total", desc := "()I" } : Jvm.MethodName) prog_14_method_76_code (1 : Nat) (Option.some Jvm.ClassFile.FieldType.int)) ∈ zbig := zt6 162 rfl rfl
theorem zwd_1363 : (Jvm.Cond.methodLink "PremiumHoursModel" (311 : Nat) ({ cls := "PremiumHoursModel", name := "allPay", desc := "()I" } : Jvm.MethodName)) ∈ zbig := zt6 163 rfl rfl
theorem zwd_1365 : (Jvm.Cond.instanceMethod ({ cls := "PremiumHoursModel", name := "allPay", desc := "()I" } : Jvm.MethodName)) ∈ zbig := zt6 165 rfl rfl
theorem zwd_1366 : (Jvm.Cond.code ({ cls := "PremiumHoursModel", name := "allPay", desc := "()I" } : Jvm.MethodName) prog_14_method_75_code (3 : Nat) (Option.some Jvm.ClassFile.FieldType.int)) ∈ zbig := zt6 166 rfl rfl
theorem zwd_1367 : (Jvm.Cond.methodLink "PremiumHoursModel" (308 : Nat) ({ cls := "PremiumHoursModel", name := "payOf", desc := "(I)I" } : Jvm.MethodName)) ∈ zbig := zt6 167 rfl rfl
theorem zwd_1369 : (Jvm.Cond.instanceMethod ({ cls := "PremiumHoursModel", name := "payOf", desc := "(I)I" } : Jvm.MethodName)) ∈ zbig := zt6 169 rfl rfl
theorem zwd_1370 : (Jvm.Cond.code ({ cls := "PremiumHoursModel", name := "payOf", desc := "(I)I" } : Jvm.MethodName) prog_14_method_70_code (4 : Nat) (Option.some Jvm.ClassFile.FieldType.int)) ∈ zbig := zt6 170 rfl rfl
theorem zwd_1371 : (Jvm.Cond.methodLink "PremiumHoursLaw" (109 : Nat) ({ cls := "PremiumHoursModel", name := "would", desc := "(IIIIZ)I" } : Jvm.MethodName)) ∈ zbig := zt6 171 rfl rfl
theorem zwd_1372 : (Jvm.Cond.instanceMethod ({ cls := "PremiumHoursModel", name := "would", desc := "(IIIIZ)I" } : Jvm.MethodName)) ∈ zbig := zt6 172 rfl rfl
theorem zwd_1373 : (Jvm.Cond.selects "PremiumHoursModel" ({ cls := "PremiumHoursModel", name := "would", desc := "(IIIIZ)I" } : Jvm.MethodName) ({ cls := "PremiumHoursModel", name := "would", desc := "(IIIIZ)I" } : Jvm.MethodName)) ∈ zbig := zt6 173 rfl rfl
theorem zwd_1374 : (Jvm.Cond.code ({ cls := "PremiumHoursModel", name := "would", desc := "(IIIIZ)I" } : Jvm.MethodName) prog_14_method_77_code (9 : Nat) (Option.some Jvm.ClassFile.FieldType.int)) ∈ zbig := zt6 174 rfl rfl
theorem zwd_1375 : (Jvm.Cond.constant "PremiumHoursModel" (316 : Nat) (-2147483648 : Int32)) ∈ zbig := zt6 175 rfl rfl
theorem zwd_1376 : (Jvm.Cond.methodLink "PremiumHoursLaw" (113 : Nat) ({ cls := "PremiumHoursModel", name := "dearest", desc := "(III)I" } : Jvm.MethodName)) ∈ zbig := zt6 176 rfl rfl
theorem zwd_1377 : (Jvm.Cond.instanceMethod ({ cls := "PremiumHoursModel", name := "dearest", desc := "(III)I" } : Jvm.MethodName)) ∈ zbig := zt6 177 rfl rfl
theorem zwd_1378 : (Jvm.Cond.selects "PremiumHoursModel" ({ cls := "PremiumHoursModel", name := "dearest", desc := "(III)I" } : Jvm.MethodName) ({ cls := "PremiumHoursModel", name := "dearest", desc := "(III)I" } : Jvm.MethodName)) ∈ zbig := zt6 178 rfl rfl
theorem zwd_1379 : (Jvm.Cond.code ({ cls := "PremiumHoursModel", name := "dearest", desc := "(III)I" } : Jvm.MethodName) prog_14_method_78_code (9 : Nat) (Option.some Jvm.ClassFile.FieldType.int)) ∈ zbig := zt6 179 rfl rfl
theorem zwd_1380 : (Jvm.Cond.methodLink "PremiumHoursModel" (317 : Nat) ({ cls := "PremiumHoursModel", name := "payKept", desc := "(I)I" } : Jvm.MethodName)) ∈ zbig := zt6 180 rfl rfl
theorem zwd_1382 : (Jvm.Cond.instanceMethod ({ cls := "PremiumHoursModel", name := "payKept", desc := "(I)I" } : Jvm.MethodName)) ∈ zbig := zt6 182 rfl rfl
theorem zwd_1383 : (Jvm.Cond.code ({ cls := "PremiumHoursModel", name := "payKept", desc := "(I)I" } : Jvm.MethodName) prog_14_method_74_code (4 : Nat) (Option.some Jvm.ClassFile.FieldType.int)) ∈ zbig := zt6 183 rfl rfl
theorem zwd_1384 : (Jvm.Cond.methodLink "PremiumHoursModel" (305 : Nat) ({ cls := "PremiumHoursModel", name := "weekSum", desc := "(I)I" } : Jvm.MethodName)) ∈ zbig := zt6 184 rfl rfl
theorem zwd_1386 : (Jvm.Cond.instanceMethod ({ cls := "PremiumHoursModel", name := "weekSum", desc := "(I)I" } : Jvm.MethodName)) ∈ zbig := zt6 186 rfl rfl
theorem zwd_1387 : (Jvm.Cond.code ({ cls := "PremiumHoursModel", name := "weekSum", desc := "(I)I" } : Jvm.MethodName) prog_14_method_73_code (4 : Nat) (Option.some Jvm.ClassFile.FieldType.int)) ∈ zbig := zt6 187 rfl rfl
theorem zwd_1388 : (Jvm.Cond.methodLink "PremiumHoursModel" (302 : Nat) ({ cls := "PremiumHoursModel", name := "isAsKept", desc := "(II)Z" } : Jvm.MethodName)) ∈ zbig := zt6 188 rfl rfl
theorem zwd_1390 : (Jvm.Cond.instanceMethod ({ cls := "PremiumHoursModel", name := "isAsKept", desc := "(II)Z" } : Jvm.MethodName)) ∈ zbig := zt6 190 rfl rfl
theorem zwd_1391 : (Jvm.Cond.code ({ cls := "PremiumHoursModel", name := "isAsKept", desc := "(II)Z" } : Jvm.MethodName) prog_14_method_72_code (5 : Nat) (Option.some Jvm.ClassFile.FieldType.boolean)) ∈ zbig := zt6 191 rfl rfl
theorem zwd_1392 : (Jvm.Cond.methodLink "PremiumHoursModel" (299 : Nat) ({ cls := "PremiumHoursModel", name := "about", desc := "(I)I" } : Jvm.MethodName)) ∈ zbig := zt6 192 rfl rfl
theorem zwd_1393 : (Jvm.Cond.static ({ cls := "PremiumHoursModel", name := "about", desc := "(I)I" } : Jvm.MethodName)) ∈ zbig := zt6 193 rfl rfl
theorem zwd_1394 : (Jvm.Cond.code ({ cls := "PremiumHoursModel", name := "about", desc := "(I)I" } : Jvm.MethodName) prog_14_method_71_code (1 : Nat) (Option.some Jvm.ClassFile.FieldType.int)) ∈ zbig := zt6 194 rfl rfl
theorem zwd_1395 : (Jvm.Cond.methodLink "PremiumHoursLaw" (117 : Nat) ({ cls := "PremiumHoursModel", name := "worth", desc := "(I)I" } : Jvm.MethodName)) ∈ zbig := zt6 195 rfl rfl
theorem zwd_1396 : (Jvm.Cond.instanceMethod ({ cls := "PremiumHoursModel", name := "worth", desc := "(I)I" } : Jvm.MethodName)) ∈ zbig := zt6 196 rfl rfl
theorem zwd_1397 : (Jvm.Cond.selects "PremiumHoursModel" ({ cls := "PremiumHoursModel", name := "worth", desc := "(I)I" } : Jvm.MethodName) ({ cls := "PremiumHoursModel", name := "worth", desc := "(I)I" } : Jvm.MethodName)) ∈ zbig := zt6 197 rfl rfl
theorem zwd_1398 : (Jvm.Cond.code ({ cls := "PremiumHoursModel", name := "worth", desc := "(I)I" } : Jvm.MethodName) prog_14_method_79_code (4 : Nat) (Option.some Jvm.ClassFile.FieldType.int)) ∈ zbig := zt6 198 rfl rfl
theorem zwd_1399 : (Jvm.Cond.methodLink "PremiumHoursLaw" (121 : Nat) ({ cls := "PremiumHoursModel", name := "together", desc := "(II)I" } : Jvm.MethodName)) ∈ zbig := zt6 199 rfl rfl
theorem zwd_1400 : (Jvm.Cond.instanceMethod ({ cls := "PremiumHoursModel", name := "together", desc := "(II)I" } : Jvm.MethodName)) ∈ zbig := zt6 200 rfl rfl
theorem zwd_1401 : (Jvm.Cond.selects "PremiumHoursModel" ({ cls := "PremiumHoursModel", name := "together", desc := "(II)I" } : Jvm.MethodName) ({ cls := "PremiumHoursModel", name := "together", desc := "(II)I" } : Jvm.MethodName)) ∈ zbig := zt6 201 rfl rfl
theorem zwd_1402 : (Jvm.Cond.code ({ cls := "PremiumHoursModel", name := "together", desc := "(II)I" } : Jvm.MethodName) prog_14_method_80_code (5 : Nat) (Option.some Jvm.ClassFile.FieldType.int)) ∈ zbig := zt6 202 rfl rfl
theorem zwd_1403 : (Jvm.Cond.arrayClass Jvm.ClassFile.FieldType.long) ∈ zbig := zt6 203 rfl rfl
theorem zwd_1421 : (Jvm.Cond.fieldLink "java/lang/String" (9 : Nat) "java/lang/String" "value" "[B") ∈ zbig := zt6 221 rfl rfl
theorem zwd_1422 : (Jvm.Cond.fieldLink "java/lang/String" (15 : Nat) "java/lang/String" "coder" "B") ∈ zbig := zt6 222 rfl rfl
theorem zws_0 : Cond.selects "PremiumHours$RuleReader" ⟨"PremiumHours$RuleReader", "readLine", "(LPremiumHours$Tape;LPremiumHours$Rules;)V"⟩ ⟨"PremiumHours$RuleReader", "readLine", "(LPremiumHours$Tape;LPremiumHours$Rules;)V"⟩ ∈ zbig := zts 0 rfl
theorem zws_1 : Cond.selects "PremiumHours$RuleReader" ⟨"PremiumHours$RuleReader", "readClock", "(LPremiumHours$Tape;LPremiumHours$Rules;)V"⟩ ⟨"PremiumHours$RuleReader", "readClock", "(LPremiumHours$Tape;LPremiumHours$Rules;)V"⟩ ∈ zbig := zts 1 rfl
theorem zws_2 : Cond.selects "PremiumHours$RuleReader" ⟨"PremiumHours$RuleReader", "passOnce", "(LPremiumHours$Tape;I)V"⟩ ⟨"PremiumHours$RuleReader", "passOnce", "(LPremiumHours$Tape;I)V"⟩ ∈ zbig := zts 2 rfl
theorem zws_3 : Cond.selects "PremiumHours$RuleReader" ⟨"PremiumHours$RuleReader", "refuse", "(II)V"⟩ ⟨"PremiumHours$RuleReader", "refuse", "(II)V"⟩ ∈ zbig := zts 3 rfl
theorem zws_4 : Cond.selects "PremiumHours$RuleReader" ⟨"PremiumHours$RuleReader", "passIf", "(LPremiumHours$Tape;Z)V"⟩ ⟨"PremiumHours$RuleReader", "passIf", "(LPremiumHours$Tape;Z)V"⟩ ∈ zbig := zts 4 rfl
theorem zws_5 : Cond.selects "PremiumHours$RuleReader" ⟨"PremiumHours$RuleReader", "readNumber", "(LPremiumHours$Tape;II)I"⟩ ⟨"PremiumHours$RuleReader", "readNumber", "(LPremiumHours$Tape;II)I"⟩ ∈ zbig := zts 5 rfl
theorem zws_6 : Cond.selects "PremiumHours$RuleReader" ⟨"PremiumHours$RuleReader", "readHoliday", "(LPremiumHours$Tape;LPremiumHours$Rules;)V"⟩ ⟨"PremiumHours$RuleReader", "readHoliday", "(LPremiumHours$Tape;LPremiumHours$Rules;)V"⟩ ∈ zbig := zts 6 rfl
theorem zws_7 : Cond.selects "PremiumHours$RuleReader" ⟨"PremiumHours$RuleReader", "readPremium", "(LPremiumHours$Tape;LPremiumHours$Rules;)V"⟩ ⟨"PremiumHours$RuleReader", "readPremium", "(LPremiumHours$Tape;LPremiumHours$Rules;)V"⟩ ∈ zbig := zts 7 rfl
theorem zws_8 : Cond.selects "PremiumHours$RuleReader" ⟨"PremiumHours$RuleReader", "readKind", "(LPremiumHours$Tape;LPremiumHours$Premium;)V"⟩ ⟨"PremiumHours$RuleReader", "readKind", "(LPremiumHours$Tape;LPremiumHours$Premium;)V"⟩ ∈ zbig := zts 8 rfl
theorem zws_9 : Cond.selects "PremiumHours" ⟨"PremiumHours", "replaceRules", "()V"⟩ ⟨"PremiumHours", "replaceRules", "()V"⟩ ∈ zbig := zts 9 rfl
theorem zws_10 : Cond.selects "PremiumHours" ⟨"PremiumHours", "freeMoment", "(IIIIZ)I"⟩ ⟨"PremiumHours", "freeMoment", "(IIIIZ)I"⟩ ∈ zbig := zts 10 rfl
theorem zws_11 : Cond.selects "PremiumHours$History" ⟨"PremiumHours$History", "dropOldest", "()V"⟩ ⟨"PremiumHours$History", "dropOldest", "()V"⟩ ∈ zbig := zts 11 rfl
theorem zws_12 : Cond.selects "PremiumHours" ⟨"PremiumHours", "sheetOf", "(I)LPremiumHours$Sheet;"⟩ ⟨"PremiumHours", "sheetOf", "(I)LPremiumHours$Sheet;"⟩ ∈ zbig := zts 12 rfl
theorem zws_13 : Cond.selects "PremiumHours$Sheet" ⟨"PremiumHours$Sheet", "pairUp", "(LPremiumHours$Card;LPremiumHours$Rules;)V"⟩ ⟨"PremiumHours$Sheet", "pairUp", "(LPremiumHours$Card;LPremiumHours$Rules;)V"⟩ ∈ zbig := zts 13 rfl
theorem zws_14 : Cond.selects "PremiumHours$Sheet" ⟨"PremiumHours$Sheet", "addSpan", "(IILPremiumHours$Rules;)V"⟩ ⟨"PremiumHours$Sheet", "addSpan", "(IILPremiumHours$Rules;)V"⟩ ∈ zbig := zts 14 rfl
theorem zws_15 : Cond.selects "PremiumHours$Pieces" ⟨"PremiumHours$Pieces", "firstBehind", "(I)I"⟩ ⟨"PremiumHours$Pieces", "firstBehind", "(I)I"⟩ ∈ zbig := zts 15 rfl
theorem zws_16 : Cond.selects "PremiumHours$Sheet" ⟨"PremiumHours$Sheet", "clearQuarters", "(II)V"⟩ ⟨"PremiumHours$Sheet", "clearQuarters", "(II)V"⟩ ∈ zbig := zts 16 rfl
theorem zws_17 : Cond.selects "PremiumHours$Sheet" ⟨"PremiumHours$Sheet", "payWeek", "(ILPremiumHours$Rules;ILPremiumHours$BestWay;)V"⟩ ⟨"PremiumHours$Sheet", "payWeek", "(ILPremiumHours$Rules;ILPremiumHours$BestWay;)V"⟩ ∈ zbig := zts 17 rfl
theorem zws_18 : Cond.selects "PremiumHours$Week" ⟨"PremiumHours$Week", "gatherDay", "(ILPremiumHours$Pieces;LPremiumHours$Rules;I)V"⟩ ⟨"PremiumHours$Week", "gatherDay", "(ILPremiumHours$Pieces;LPremiumHours$Rules;I)V"⟩ ∈ zbig := zts 18 rfl
theorem zws_19 : Cond.selects "PremiumHours$BestWay" ⟨"PremiumHours$BestWay", "measureQuarters", "(LPremiumHours$Rules;)V"⟩ ⟨"PremiumHours$BestWay", "measureQuarters", "(LPremiumHours$Rules;)V"⟩ ∈ zbig := zts 19 rfl
theorem zws_20 : Cond.selects "PremiumHours$BestWay" ⟨"PremiumHours$BestWay", "markQuarter", "(I)V"⟩ ⟨"PremiumHours$BestWay", "markQuarter", "(I)V"⟩ ∈ zbig := zts 20 rfl
theorem zws_21 : Cond.selects "PremiumHours$BestWay" ⟨"PremiumHours$BestWay", "setMark", "(III)V"⟩ ⟨"PremiumHours$BestWay", "setMark", "(III)V"⟩ ∈ zbig := zts 21 rfl
theorem zws_22 : Cond.selects "PremiumHours$BestWay" ⟨"PremiumHours$BestWay", "followMarks", "(LPremiumHours$Rules;I)I"⟩ ⟨"PremiumHours$BestWay", "followMarks", "(LPremiumHours$Rules;I)I"⟩ ∈ zbig := zts 22 rfl
theorem zws_23 : Cond.selects "PremiumHours$BestWay" ⟨"PremiumHours$BestWay", "markAt", "(II)I"⟩ ⟨"PremiumHours$BestWay", "markAt", "(II)I"⟩ ∈ zbig := zts 23 rfl
theorem zws_24 : Cond.selects "PremiumHours$BestWay" ⟨"PremiumHours$BestWay", "firstBest", "(IIILPremiumHours$Rules;)I"⟩ ⟨"PremiumHours$BestWay", "firstBest", "(IIILPremiumHours$Rules;)I"⟩ ∈ zbig := zts 24 rfl
theorem zws_25 : Cond.selects "PremiumHours" ⟨"PremiumHours", "countDays", "(IIII)I"⟩ ⟨"PremiumHours", "countDays", "(IIII)I"⟩ ∈ zbig := zts 25 rfl
theorem zws_26 : Cond.selects "PremiumHours" ⟨"PremiumHours", "isPremium", "(I)Z"⟩ ⟨"PremiumHours", "isPremium", "(I)Z"⟩ ∈ zbig := zts 26 rfl
theorem zws_27 : Cond.selects "PremiumHours" ⟨"PremiumHours", "payOfDays", "([III)I"⟩ ⟨"PremiumHours", "payOfDays", "([III)I"⟩ ∈ zbig := zts 27 rfl
theorem zws_28 : Cond.selects "PremiumHours" ⟨"PremiumHours", "payWith", "(III)I"⟩ ⟨"PremiumHours", "payWith", "(III)I"⟩ ∈ zbig := zts 28 rfl
theorem zws_29 : Cond.selects "java/lang/Throwable" ⟨"java/lang/Throwable", "fillInStackTrace", "(I)Ljava/lang/Throwable;"⟩ ⟨"java/lang/Throwable", "fillInStackTrace", "(I)Ljava/lang/Throwable;"⟩ ∈ zbig := zts 29 rfl
theorem zws_30 : Cond.selects "PremiumHoursModel" ⟨"PremiumHoursModel", "puts", "(I)V"⟩ ⟨"PremiumHoursModel", "puts", "(I)V"⟩ ∈ zbig := zts 30 rfl
theorem zws_31 : Cond.selects "PremiumHoursModel" ⟨"PremiumHoursModel", "clearsDraft", "()V"⟩ ⟨"PremiumHoursModel", "clearsDraft", "()V"⟩ ∈ zbig := zts 31 rfl
theorem zws_32 : Cond.selects "PremiumHoursModel" ⟨"PremiumHoursModel", "takes", "()V"⟩ ⟨"PremiumHoursModel", "takes", "()V"⟩ ∈ zbig := zts 32 rfl
theorem zws_33 : Cond.selects "PremiumHoursModel" ⟨"PremiumHoursModel", "go", "()V"⟩ ⟨"PremiumHoursModel", "go", "()V"⟩ ∈ zbig := zts 33 rfl
theorem zws_34 : Cond.selects "PremiumHoursModel" ⟨"PremiumHoursModel", "byteAt", "(I)I"⟩ ⟨"PremiumHoursModel", "byteAt", "(I)I"⟩ ∈ zbig := zts 34 rfl
theorem zws_35 : Cond.selects "PremiumHoursModel" ⟨"PremiumHoursModel", "line", "()Z"⟩ ⟨"PremiumHoursModel", "line", "()Z"⟩ ∈ zbig := zts 35 rfl
theorem zws_36 : Cond.selects "PremiumHoursModel" ⟨"PremiumHoursModel", "isWord", "(IIIIIIII)Z"⟩ ⟨"PremiumHoursModel", "isWord", "(IIIIIIII)Z"⟩ ∈ zbig := zts 36 rfl
theorem zws_37 : Cond.selects "PremiumHoursModel" ⟨"PremiumHoursModel", "clockLine", "()Z"⟩ ⟨"PremiumHoursModel", "clockLine", "()Z"⟩ ∈ zbig := zts 37 rfl
theorem zws_38 : Cond.selects "PremiumHoursModel" ⟨"PremiumHoursModel", "once", "(I)Z"⟩ ⟨"PremiumHoursModel", "once", "(I)Z"⟩ ∈ zbig := zts 38 rfl
theorem zws_39 : Cond.selects "PremiumHoursModel" ⟨"PremiumHoursModel", "bad", "(I)Z"⟩ ⟨"PremiumHoursModel", "bad", "(I)Z"⟩ ∈ zbig := zts 39 rfl
theorem zws_40 : Cond.selects "PremiumHoursModel" ⟨"PremiumHoursModel", "number", "(II)Z"⟩ ⟨"PremiumHoursModel", "number", "(II)Z"⟩ ∈ zbig := zts 40 rfl
theorem zws_41 : Cond.selects "PremiumHoursModel" ⟨"PremiumHoursModel", "feastLine", "()Z"⟩ ⟨"PremiumHoursModel", "feastLine", "()Z"⟩ ∈ zbig := zts 41 rfl
theorem zws_42 : Cond.selects "PremiumHoursModel" ⟨"PremiumHoursModel", "oneLine", "(IIII)Z"⟩ ⟨"PremiumHoursModel", "oneLine", "(IIII)Z"⟩ ∈ zbig := zts 42 rfl
theorem zws_43 : Cond.selects "PremiumHoursModel" ⟨"PremiumHoursModel", "mealLine", "()Z"⟩ ⟨"PremiumHoursModel", "mealLine", "()Z"⟩ ∈ zbig := zts 43 rfl
theorem zws_44 : Cond.selects "PremiumHoursModel" ⟨"PremiumHoursModel", "premiumLine", "()Z"⟩ ⟨"PremiumHoursModel", "premiumLine", "()Z"⟩ ∈ zbig := zts 44 rfl
theorem zws_45 : Cond.selects "PremiumHoursModel" ⟨"PremiumHoursModel", "kindOf", "()I"⟩ ⟨"PremiumHoursModel", "kindOf", "()I"⟩ ∈ zbig := zts 45 rfl
theorem zws_46 : Cond.selects "PremiumHoursModel" ⟨"PremiumHoursModel", "premiums", "()I"⟩ ⟨"PremiumHoursModel", "premiums", "()I"⟩ ∈ zbig := zts 46 rfl
theorem zws_47 : Cond.selects "PremiumHoursModel" ⟨"PremiumHoursModel", "premiumIs", "(II)I"⟩ ⟨"PremiumHoursModel", "premiumIs", "(II)I"⟩ ∈ zbig := zts 47 rfl
theorem zws_48 : Cond.selects "PremiumHoursModel" ⟨"PremiumHoursModel", "momentOf", "(IIZ)I"⟩ ⟨"PremiumHoursModel", "momentOf", "(IIZ)I"⟩ ∈ zbig := zts 48 rfl
theorem zws_49 : Cond.selects "PremiumHoursModel" ⟨"PremiumHoursModel", "turned", "()I"⟩ ⟨"PremiumHoursModel", "turned", "()I"⟩ ∈ zbig := zts 49 rfl
theorem zws_50 : Cond.selects "PremiumHoursModel" ⟨"PremiumHoursModel", "toldAt", "(I)I"⟩ ⟨"PremiumHoursModel", "toldAt", "(I)I"⟩ ∈ zbig := zts 50 rfl
theorem zws_51 : Cond.selects "PremiumHoursModel" ⟨"PremiumHoursModel", "canCome", "(III)Z"⟩ ⟨"PremiumHoursModel", "canCome", "(III)Z"⟩ ∈ zbig := zts 51 rfl
theorem zws_52 : Cond.selects "PremiumHoursModel" ⟨"PremiumHoursModel", "isWorker", "(I)Z"⟩ ⟨"PremiumHoursModel", "isWorker", "(I)Z"⟩ ∈ zbig := zts 52 rfl
theorem zws_53 : Cond.selects "PremiumHoursModel" ⟨"PremiumHoursModel", "placeOf", "(II)I"⟩ ⟨"PremiumHoursModel", "placeOf", "(II)I"⟩ ∈ zbig := zts 53 rfl
theorem zws_54 : Cond.selects "PremiumHoursModel" ⟨"PremiumHoursModel", "comes", "(III)V"⟩ ⟨"PremiumHoursModel", "comes", "(III)V"⟩ ∈ zbig := zts 54 rfl
theorem zws_55 : Cond.selects "PremiumHoursModel" ⟨"PremiumHoursModel", "notes", "(IIII)V"⟩ ⟨"PremiumHoursModel", "notes", "(IIII)V"⟩ ∈ zbig := zts 55 rfl
theorem zws_56 : Cond.selects "PremiumHoursModel" ⟨"PremiumHoursModel", "leaves", "(II)V"⟩ ⟨"PremiumHoursModel", "leaves", "(II)V"⟩ ∈ zbig := zts 56 rfl
theorem zws_57 : Cond.selects "PremiumHoursModel" ⟨"PremiumHoursModel", "laysPairs", "(I)V"⟩ ⟨"PremiumHoursModel", "laysPairs", "(I)V"⟩ ∈ zbig := zts 57 rfl
theorem zws_58 : Cond.selects "PremiumHoursModel" ⟨"PremiumHoursModel", "quarterAt", "(I)I"⟩ ⟨"PremiumHoursModel", "quarterAt", "(I)I"⟩ ∈ zbig := zts 58 rfl
theorem zws_59 : Cond.selects "PremiumHoursModel" ⟨"PremiumHoursModel", "isOfSpan", "(II)Z"⟩ ⟨"PremiumHoursModel", "isOfSpan", "(II)Z"⟩ ∈ zbig := zts 59 rfl
theorem zws_60 : Cond.selects "PremiumHoursModel" ⟨"PremiumHoursModel", "isOfDays", "(I)Z"⟩ ⟨"PremiumHoursModel", "isOfDays", "(I)Z"⟩ ∈ zbig := zts 60 rfl
theorem zws_61 : Cond.selects "PremiumHoursModel" ⟨"PremiumHoursModel", "laysWorked", "(I)V"⟩ ⟨"PremiumHoursModel", "laysWorked", "(I)V"⟩ ∈ zbig := zts 61 rfl
theorem zws_62 : Cond.selects "PremiumHoursModel" ⟨"PremiumHoursModel", "dayOf", "(I)I"⟩ ⟨"PremiumHoursModel", "dayOf", "(I)I"⟩ ∈ zbig := zts 62 rfl
theorem zws_63 : Cond.selects "PremiumHoursModel" ⟨"PremiumHoursModel", "laysWeek", "(II)V"⟩ ⟨"PremiumHoursModel", "laysWeek", "(II)V"⟩ ∈ zbig := zts 63 rfl
theorem zws_64 : Cond.selects "PremiumHoursModel" ⟨"PremiumHoursModel", "laysQuarters", "(I)V"⟩ ⟨"PremiumHoursModel", "laysQuarters", "(I)V"⟩ ∈ zbig := zts 64 rfl
theorem zws_65 : Cond.selects "PremiumHoursModel" ⟨"PremiumHoursModel", "isMay", "(IIIII)Z"⟩ ⟨"PremiumHoursModel", "isMay", "(IIIII)Z"⟩ ∈ zbig := zts 65 rfl
theorem zws_66 : Cond.selects "PremiumHoursModel" ⟨"PremiumHoursModel", "hourOf", "(I)I"⟩ ⟨"PremiumHoursModel", "hourOf", "(I)I"⟩ ∈ zbig := zts 66 rfl
theorem zws_67 : Cond.selects "PremiumHoursModel" ⟨"PremiumHoursModel", "isNight", "(II)Z"⟩ ⟨"PremiumHoursModel", "isNight", "(II)Z"⟩ ∈ zbig := zts 67 rfl
theorem zws_68 : Cond.selects "PremiumHoursModel" ⟨"PremiumHoursModel", "laysBest", "()V"⟩ ⟨"PremiumHoursModel", "laysBest", "()V"⟩ ∈ zbig := zts 68 rfl
theorem zws_69 : Cond.selects "PremiumHoursModel" ⟨"PremiumHoursModel", "laysWeekPremiums", "()V"⟩ ⟨"PremiumHoursModel", "laysWeekPremiums", "()V"⟩ ∈ zbig := zts 69 rfl
theorem zws_70 : Cond.selects "PremiumHoursModel" ⟨"PremiumHoursModel", "adds", "(IIZ)V"⟩ ⟨"PremiumHoursModel", "adds", "(IIZ)V"⟩ ∈ zbig := zts 70 rfl
theorem zws_71 : Cond.selects "PremiumHoursModel" ⟨"PremiumHoursModel", "mostOf", "(IZI)I"⟩ ⟨"PremiumHoursModel", "mostOf", "(IZI)I"⟩ ∈ zbig := zts 71 rfl
theorem zws_72 : Cond.selects "PremiumHoursModel" ⟨"PremiumHoursModel", "readsBest", "()V"⟩ ⟨"PremiumHoursModel", "readsBest", "()V"⟩ ∈ zbig := zts 72 rfl
theorem zws_73 : Cond.selects "PremiumHoursModel" ⟨"PremiumHoursModel", "canBe", "(III)Z"⟩ ⟨"PremiumHoursModel", "canBe", "(III)Z"⟩ ∈ zbig := zts 73 rfl
theorem zws_74 : Cond.selects "PremiumHoursModel" ⟨"PremiumHoursModel", "laysComing", "()V"⟩ ⟨"PremiumHoursModel", "laysComing", "()V"⟩ ∈ zbig := zts 74 rfl
theorem zws_75 : Cond.selects "PremiumHoursModel" ⟨"PremiumHoursModel", "isAsked", "(I)Z"⟩ ⟨"PremiumHoursModel", "isAsked", "(I)Z"⟩ ∈ zbig := zts 75 rfl
theorem zws_76 : Cond.selects "PremiumHoursModel" ⟨"PremiumHoursModel", "isOf", "(II)Z"⟩ ⟨"PremiumHoursModel", "isOf", "(II)Z"⟩ ∈ zbig := zts 76 rfl
theorem zws_77 : Cond.selects "PremiumHoursModel" ⟨"PremiumHoursModel", "isWeek", "(I)Z"⟩ ⟨"PremiumHoursModel", "isWeek", "(I)Z"⟩ ∈ zbig := zts 77 rfl
theorem zws_78 : Cond.selects "PremiumHoursModel" ⟨"PremiumHoursModel", "hundredths", "([II)I"⟩ ⟨"PremiumHoursModel", "hundredths", "([II)I"⟩ ∈ zbig := zts 78 rfl
theorem zws_79 : Cond.selects "PremiumHoursModel" ⟨"PremiumHoursModel", "allPay", "()I"⟩ ⟨"PremiumHoursModel", "allPay", "()I"⟩ ∈ zbig := zts 79 rfl
theorem zws_80 : Cond.selects "PremiumHoursModel" ⟨"PremiumHoursModel", "payOf", "(I)I"⟩ ⟨"PremiumHoursModel", "payOf", "(I)I"⟩ ∈ zbig := zts 80 rfl
theorem zws_81 : Cond.selects "PremiumHoursModel" ⟨"PremiumHoursModel", "payKept", "(I)I"⟩ ⟨"PremiumHoursModel", "payKept", "(I)I"⟩ ∈ zbig := zts 81 rfl
theorem zws_82 : Cond.selects "PremiumHoursModel" ⟨"PremiumHoursModel", "weekSum", "(I)I"⟩ ⟨"PremiumHoursModel", "weekSum", "(I)I"⟩ ∈ zbig := zts 82 rfl
theorem zws_83 : Cond.selects "PremiumHoursModel" ⟨"PremiumHoursModel", "isAsKept", "(II)Z"⟩ ⟨"PremiumHoursModel", "isAsKept", "(II)Z"⟩ ∈ zbig := zts 83 rfl
theorem zin_0 : ∀ w ∈ u_ws RX0 TX0 9, w ∈ zbig := (List.forall_mem_cons.mpr ⟨zwd_381, (List.forall_mem_cons.mpr ⟨zwd_383, (List.forall_mem_cons.mpr ⟨zwd_385, (List.forall_mem_cons.mpr ⟨zwd_387, (List.forall_mem_cons.mpr ⟨zwd_389, (List.forall_mem_cons.mpr ⟨zwd_391, (List.forall_mem_cons.mpr ⟨zwd_393, (List.forall_mem_cons.mpr ⟨zwd_395, (List.forall_mem_cons.mpr ⟨zwd_397, (fun _ h => absurd h List.not_mem_nil)⟩)⟩)⟩)⟩)⟩)⟩)⟩)⟩)⟩)
theorem zic_0 {c : Cond} : ∀ w ∈ u_ws RX0 TX0 9, w ∈ c :: zbig := fun w h => List.mem_cons_of_mem _ (zin_0 w h)
theorem zin_1 : ∀ w ∈ u_ws RX1 TX1 3, w ∈ zbig := (List.forall_mem_cons.mpr ⟨zwd_224, (List.forall_mem_cons.mpr ⟨zwd_226, (List.forall_mem_cons.mpr ⟨zwd_228, (fun _ h => absurd h List.not_mem_nil)⟩)⟩)⟩)
theorem zic_1 {c : Cond} : ∀ w ∈ u_ws RX1 TX1 3, w ∈ c :: zbig := fun w h => List.mem_cons_of_mem _ (zin_1 w h)
theorem zin_2 : ∀ w ∈ u_ws RX2 TX2 5, w ∈ zbig := (List.forall_mem_cons.mpr ⟨zwd_93, (List.forall_mem_cons.mpr ⟨zwd_95, (List.forall_mem_cons.mpr ⟨zwd_97, (List.forall_mem_cons.mpr ⟨zwd_99, (List.forall_mem_cons.mpr ⟨zwd_101, (fun _ h => absurd h List.not_mem_nil)⟩)⟩)⟩)⟩)⟩)
theorem zic_2 {c : Cond} : ∀ w ∈ u_ws RX2 TX2 5, w ∈ c :: zbig := fun w h => List.mem_cons_of_mem _ (zin_2 w h)
theorem zin_3 : ∀ w ∈ u_ws RX3 TX3 5, w ∈ zbig := (List.forall_mem_cons.mpr ⟨zwd_324, (List.forall_mem_cons.mpr ⟨zwd_326, (List.forall_mem_cons.mpr ⟨zwd_328, (List.forall_mem_cons.mpr ⟨zwd_330, (List.forall_mem_cons.mpr ⟨zwd_332, (fun _ h => absurd h List.not_mem_nil)⟩)⟩)⟩)⟩)⟩)
theorem zic_3 {c : Cond} : ∀ w ∈ u_ws RX3 TX3 5, w ∈ c :: zbig := fun w h => List.mem_cons_of_mem _ (zin_3 w h)
theorem zin_4 : ∀ w ∈ u_ws RX4 TX4 3, w ∈ zbig := (List.forall_mem_cons.mpr ⟨zwd_249, (List.forall_mem_cons.mpr ⟨zwd_251, (List.forall_mem_cons.mpr ⟨zwd_253, (fun _ h => absurd h List.not_mem_nil)⟩)⟩)⟩)
theorem zic_4 {c : Cond} : ∀ w ∈ u_ws RX4 TX4 3, w ∈ c :: zbig := fun w h => List.mem_cons_of_mem _ (zin_4 w h)
theorem zin_5 : ∀ w ∈ u_ws RX5 TX5 5, w ∈ zbig := (List.forall_mem_cons.mpr ⟨zwd_129, (List.forall_mem_cons.mpr ⟨zwd_131, (List.forall_mem_cons.mpr ⟨zwd_133, (List.forall_mem_cons.mpr ⟨zwd_135, (List.forall_mem_cons.mpr ⟨zwd_137, (fun _ h => absurd h List.not_mem_nil)⟩)⟩)⟩)⟩)⟩)
theorem zic_5 {c : Cond} : ∀ w ∈ u_ws RX5 TX5 5, w ∈ c :: zbig := fun w h => List.mem_cons_of_mem _ (zin_5 w h)
theorem zin_6 : ∀ w ∈ u_ws RX6 TX6 2, w ∈ zbig := (List.forall_mem_cons.mpr ⟨zwd_68, (List.forall_mem_cons.mpr ⟨zwd_70, (fun _ h => absurd h List.not_mem_nil)⟩)⟩)
theorem zic_6 {c : Cond} : ∀ w ∈ u_ws RX6 TX6 2, w ∈ c :: zbig := fun w h => List.mem_cons_of_mem _ (zin_6 w h)
theorem zin_7 : ∀ w ∈ u_ws RX7 TX7 10, w ∈ zbig := (List.forall_mem_cons.mpr ⟨zwd_185, (List.forall_mem_cons.mpr ⟨zwd_187, (List.forall_mem_cons.mpr ⟨zwd_189, (List.forall_mem_cons.mpr ⟨zwd_191, (List.forall_mem_cons.mpr ⟨zwd_193, (List.forall_mem_cons.mpr ⟨zwd_195, (List.forall_mem_cons.mpr ⟨zwd_197, (List.forall_mem_cons.mpr ⟨zwd_199, (List.forall_mem_cons.mpr ⟨zwd_201, (List.forall_mem_cons.mpr ⟨zwd_203, (fun _ h => absurd h List.not_mem_nil)⟩)⟩)⟩)⟩)⟩)⟩)⟩)⟩)⟩)⟩)
theorem zic_7 {c : Cond} : ∀ w ∈ u_ws RX7 TX7 10, w ∈ c :: zbig := fun w h => List.mem_cons_of_mem _ (zin_7 w h)
theorem zin_8 : ∀ w ∈ u_ws RX8 TX8 14, w ∈ zbig := (List.forall_mem_cons.mpr ⟨zwd_279, (List.forall_mem_cons.mpr ⟨zwd_281, (List.forall_mem_cons.mpr ⟨zwd_283, (List.forall_mem_cons.mpr ⟨zwd_285, (List.forall_mem_cons.mpr ⟨zwd_287, (List.forall_mem_cons.mpr ⟨zwd_289, (List.forall_mem_cons.mpr ⟨zwd_291, (List.forall_mem_cons.mpr ⟨zwd_293, (List.forall_mem_cons.mpr ⟨zwd_295, (List.forall_mem_cons.mpr ⟨zwd_297, (List.forall_mem_cons.mpr ⟨zwd_299, (List.forall_mem_cons.mpr ⟨zwd_301, (List.forall_mem_cons.mpr ⟨zwd_303, (List.forall_mem_cons.mpr ⟨zwd_305, (fun _ h => absurd h List.not_mem_nil)⟩)⟩)⟩)⟩)⟩)⟩)⟩)⟩)⟩)⟩)⟩)⟩)⟩)⟩)
theorem zic_8 {c : Cond} : ∀ w ∈ u_ws RX8 TX8 14, w ∈ c :: zbig := fun w h => List.mem_cons_of_mem _ (zin_8 w h)
theorem zin_9 : ∀ w ∈ u_ws RX9 TX9 6, w ∈ zbig := (List.forall_mem_cons.mpr ⟨zwd_46, (List.forall_mem_cons.mpr ⟨zwd_48, (List.forall_mem_cons.mpr ⟨zwd_50, (List.forall_mem_cons.mpr ⟨zwd_52, (List.forall_mem_cons.mpr ⟨zwd_54, (List.forall_mem_cons.mpr ⟨zwd_56, (fun _ h => absurd h List.not_mem_nil)⟩)⟩)⟩)⟩)⟩)⟩)
theorem zic_9 {c : Cond} : ∀ w ∈ u_ws RX9 TX9 6, w ∈ c :: zbig := fun w h => List.mem_cons_of_mem _ (zin_9 w h)
theorem zin_10 : ∀ w ∈ u_ws RX10 TX10 5, w ∈ zbig := (List.forall_mem_cons.mpr ⟨zwd_360, (List.forall_mem_cons.mpr ⟨zwd_362, (List.forall_mem_cons.mpr ⟨zwd_364, (List.forall_mem_cons.mpr ⟨zwd_366, (List.forall_mem_cons.mpr ⟨zwd_368, (fun _ h => absurd h List.not_mem_nil)⟩)⟩)⟩)⟩)⟩)
theorem zic_10 {c : Cond} : ∀ w ∈ u_ws RX10 TX10 5, w ∈ c :: zbig := fun w h => List.mem_cons_of_mem _ (zin_10 w h)
theorem zin_11 : ∀ w ∈ u_ws RX11 TX11 10, w ∈ zbig := (List.forall_mem_cons.mpr ⟨zwd_410, (List.forall_mem_cons.mpr ⟨zwd_412, (List.forall_mem_cons.mpr ⟨zwd_414, (List.forall_mem_cons.mpr ⟨zwd_416, (List.forall_mem_cons.mpr ⟨zwd_418, (List.forall_mem_cons.mpr ⟨zwd_420, (List.forall_mem_cons.mpr ⟨zwd_422, (List.forall_mem_cons.mpr ⟨zwd_424, (List.forall_mem_cons.mpr ⟨zwd_426, (List.forall_mem_cons.mpr ⟨zwd_428, (fun _ h => absurd h List.not_mem_nil)⟩)⟩)⟩)⟩)⟩)⟩)⟩)⟩)⟩)⟩)
theorem zic_11 {c : Cond} : ∀ w ∈ u_ws RX11 TX11 10, w ∈ c :: zbig := fun w h => List.mem_cons_of_mem _ (zin_11 w h)
theorem zin_12 : ∀ w ∈ u_ws RX12 TX12 38, w ∈ zbig := (List.forall_mem_cons.mpr ⟨zwd_1028, (List.forall_mem_cons.mpr ⟨zwd_1030, (List.forall_mem_cons.mpr ⟨zwd_1032, (List.forall_mem_cons.mpr ⟨zwd_1034, (List.forall_mem_cons.mpr ⟨zwd_1036, (List.forall_mem_cons.mpr ⟨zwd_1038, (List.forall_mem_cons.mpr ⟨zwd_1040, (List.forall_mem_cons.mpr ⟨zwd_1042, (List.forall_mem_cons.mpr ⟨zwd_1044, (List.forall_mem_cons.mpr ⟨zwd_1046, (List.forall_mem_cons.mpr ⟨zwd_1048, (List.forall_mem_cons.mpr ⟨zwd_1050, (List.forall_mem_cons.mpr ⟨zwd_1052, (List.forall_mem_cons.mpr ⟨zwd_1054, (List.forall_mem_cons.mpr ⟨zwd_1056, (List.forall_mem_cons.mpr ⟨zwd_1058, (List.forall_mem_cons.mpr ⟨zwd_1060, (List.forall_mem_cons.mpr ⟨zwd_1062, (List.forall_mem_cons.mpr ⟨zwd_1064, (List.forall_mem_cons.mpr ⟨zwd_1066, (List.forall_mem_cons.mpr ⟨zwd_1068, (List.forall_mem_cons.mpr ⟨zwd_1070, (List.forall_mem_cons.mpr ⟨zwd_1072, (List.forall_mem_cons.mpr ⟨zwd_1074, (List.forall_mem_cons.mpr ⟨zwd_1076, (List.forall_mem_cons.mpr ⟨zwd_1078, (List.forall_mem_cons.mpr ⟨zwd_1080, (List.forall_mem_cons.mpr ⟨zwd_1082, (List.forall_mem_cons.mpr ⟨zwd_1084, (List.forall_mem_cons.mpr ⟨zwd_1086, (List.forall_mem_cons.mpr ⟨zwd_1088, (List.forall_mem_cons.mpr ⟨zwd_1090, (List.forall_mem_cons.mpr ⟨zwd_1092, (List.forall_mem_cons.mpr ⟨zwd_1094, (List.forall_mem_cons.mpr ⟨zwd_1096, (List.forall_mem_cons.mpr ⟨zwd_1098, (List.forall_mem_cons.mpr ⟨zwd_1100, (List.forall_mem_cons.mpr ⟨zwd_1102, (fun _ h => absurd h List.not_mem_nil)⟩)⟩)⟩)⟩)⟩)⟩)⟩)⟩)⟩)⟩)⟩)⟩)⟩)⟩)⟩)⟩)⟩)⟩)⟩)⟩)⟩)⟩)⟩)⟩)⟩)⟩)⟩)⟩)⟩)⟩)⟩)⟩)⟩)⟩)⟩)⟩)⟩)⟩)
theorem zic_12 {c : Cond} : ∀ w ∈ u_ws RX12 TX12 38, w ∈ c :: zbig := fun w h => List.mem_cons_of_mem _ (zin_12 w h)
theorem zgoodw {w : Cond} (h : w ∈ zbig) : (w.onTables && w.keeps) = true ∨ ∃ ty, w = .arrayClass ty := good_of_word (List.all_eq_true.mp zbig_good w h)
/-- a call's words: what links it, and the callee's code -/
theorem zgV {x : Cond} {own C : String} {idx mL : Nat} {y : MethodName} {c : ByteArray} {r : Option FieldType} (h1 : Cond.methodLink own idx y ∈ zbig) (h2 : Cond.instanceMethod y ∈ zbig) (h3 : Cond.selects C y y ∈ zbig) (h4 : Cond.initialized C ∈ zbig) (h5 : Cond.code y c mL r ∈ zbig) : GoodIn (x :: zbig) (wsV own idx C y (.code y c mL r :: zbig)) := by
  intro w hw
  have hb : w ∈ zbig := by
    simp only [wsV, List.cons_append, List.nil_append, List.mem_cons] at hw
    rcases hw with rfl | rfl | rfl | rfl | rfl | h
    · exact h1
    · exact h2
    · exact h3
    · exact h4
    · exact h5
    · exact h
  exact ⟨List.mem_cons_of_mem _ hb, zgoodw hb⟩
theorem zgS {x : Cond} {own : String} {idx mL : Nat} {y : MethodName} {c : ByteArray} {r : Option FieldType} (h1 : Cond.methodLink own idx y ∈ zbig) (h2 : Cond.static y ∈ zbig) (h4 : Cond.initialized y.cls ∈ zbig) (h5 : Cond.code y c mL r ∈ zbig) : GoodIn (x :: zbig) (va_wsS own idx y (.code y c mL r :: zbig)) := by
  intro w hw
  have hb : w ∈ zbig := by
    simp only [va_wsS, List.cons_append, List.nil_append, List.mem_cons] at hw
    rcases hw with rfl | rfl | rfl | rfl | h
    · exact h1
    · exact h2
    · exact h4
    · exact h5
    · exact h
  exact ⟨List.mem_cons_of_mem _ hb, zgoodw hb⟩
theorem zgI {x : Cond} {mL : Nat} {y : MethodName} {c : ByteArray} {r : Option FieldType} (h5 : Cond.code y c mL r ∈ zbig) : GoodIn (x :: zbig) (.code y c mL r :: zbig) := by
  intro w hw
  have hb : w ∈ zbig := (List.mem_cons.mp hw).elim (fun e => e ▸ h5) id
  exact ⟨List.mem_cons_of_mem _ hb, zgoodw hb⟩
