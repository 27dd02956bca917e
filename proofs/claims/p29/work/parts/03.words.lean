/-- the words of the tables that stay true as the machine warms -/
def BIG : List Cond := lw_tbl.filter goodWord
theorem big_good : ∀ w ∈ BIG, w ∈ lw_tbl ∧ goodWord w = true := fun w h => List.mem_filter.mp h
theorem big_in1 (i : Nat) (w : Cond) (h : tables_1_1[i]? = some w) (g : goodWord w = true) : w ∈ BIG := List.mem_filter.mpr ⟨List.mem_append_right _ (show w ∈ tables_1 from List.mem_append_left _ (List.mem_of_getElem? h)), g⟩
theorem big_in2 (i : Nat) (w : Cond) (h : tables_1_2[i]? = some w) (g : goodWord w = true) : w ∈ BIG := List.mem_filter.mpr ⟨List.mem_append_right _ (show w ∈ tables_1 from List.mem_append_right _ (List.mem_append_left _ (List.mem_of_getElem? h))), g⟩
theorem big_in3 (i : Nat) (w : Cond) (h : tables_1_3[i]? = some w) (g : goodWord w = true) : w ∈ BIG := List.mem_filter.mpr ⟨List.mem_append_right _ (show w ∈ tables_1 from List.mem_append_right _ (List.mem_append_right _ (List.mem_of_getElem? h))), g⟩
theorem big_sel (i : Nat) (q : MethodName × Nat) (h : lw_privs[i]? = some q) : Cond.selects q.1.cls q.1 q.1 ∈ BIG := List.mem_filter.mpr ⟨List.mem_append_left _ (List.mem_map.mpr ⟨q, List.mem_of_getElem? h, rfl⟩), rfl⟩
theorem big_GoodIn : GoodIn BIG BIG := fun w h => ⟨h, good_of_word (big_good w h).2⟩
theorem bw_0 : (Cond.initialized "SweetWrapsLaw") ∈ BIG := big_in1 0 _ rfl rfl
theorem bw_1 : (Cond.initialized "SweetWraps") ∈ BIG := big_in1 1 _ rfl rfl
theorem bw_2 : (Cond.initialized "SweetWraps$Machine") ∈ BIG := big_in1 2 _ rfl rfl
theorem bw_3 : (Cond.initialized "SweetWraps$Lane") ∈ BIG := big_in1 3 _ rfl rfl
theorem bw_4 : (Cond.initialized "SweetWraps$Tin") ∈ BIG := big_in1 4 _ rfl rfl
theorem bw_5 : (Cond.initialized "SweetWraps$History") ∈ BIG := big_in1 5 _ rfl rfl
theorem bw_6 : (Cond.initialized "SweetWraps$Pad") ∈ BIG := big_in1 6 _ rfl rfl
theorem bw_7 : (Cond.initialized "java/lang/Math") ∈ BIG := big_in1 7 _ rfl rfl
theorem bw_8 : (Cond.initialized "java/lang/System") ∈ BIG := big_in1 8 _ rfl rfl
theorem bw_9 : (Cond.classLink "SweetWrapsLaw" (8 : Nat) "SweetWraps") ∈ BIG := big_in1 9 _ rfl rfl
theorem bw_10 : (Cond.instantiable "SweetWraps" (6 : Nat)) ∈ BIG := big_in1 10 _ rfl rfl
theorem bw_11 : (Cond.methodLink "SweetWrapsLaw" (82 : Nat) ({ cls := "SweetWraps", name := "<init>", desc := "()V" } : MethodName)) ∈ BIG := big_in1 11 _ rfl rfl
theorem bw_12 : (Cond.instanceMethod ({ cls := "SweetWraps", name := "<init>", desc := "()V" } : MethodName)) ∈ BIG := big_in1 12 _ rfl rfl
theorem bw_13 : (Cond.code ({ cls := "SweetWraps", name := "<init>", desc := "()V" } : MethodName) prog_1_method_1_code (2 : Nat) (Option.none : Option ClassFile.FieldType)) ∈ BIG := big_in1 13 _ rfl rfl
theorem bw_14 : (Cond.methodLink "SweetWraps" (1 : Nat) ({ cls := "java/lang/Object", name := "<init>", desc := "()V" } : MethodName)) ∈ BIG := big_in1 14 _ rfl rfl
theorem bw_15 : (Cond.instanceMethod ({ cls := "java/lang/Object", name := "<init>", desc := "()V" } : MethodName)) ∈ BIG := big_in1 15 _ rfl rfl
theorem bw_16 : (Cond.code ({ cls := "java/lang/Object", name := "<init>", desc := "()V" } : MethodName) object_method_1_code (1 : Nat) (Option.none : Option ClassFile.FieldType)) ∈ BIG := big_in1 16 _ rfl rfl
theorem bw_17 : (Cond.classLink "SweetWraps" (7 : Nat) "SweetWraps$Machine") ∈ BIG := big_in1 17 _ rfl rfl
theorem bw_18 : (Cond.instantiable "SweetWraps$Machine" (8 : Nat)) ∈ BIG := big_in1 18 _ rfl rfl
theorem bw_19 : (Cond.methodLink "SweetWraps" (9 : Nat) ({ cls := "SweetWraps$Machine", name := "<init>", desc := "()V" } : MethodName)) ∈ BIG := big_in1 19 _ rfl rfl
theorem bw_20 : (Cond.instanceMethod ({ cls := "SweetWraps$Machine", name := "<init>", desc := "()V" } : MethodName)) ∈ BIG := big_in1 20 _ rfl rfl
theorem bw_21 : (Cond.code ({ cls := "SweetWraps$Machine", name := "<init>", desc := "()V" } : MethodName) prog_4_method_1_code (2 : Nat) (Option.none : Option ClassFile.FieldType)) ∈ BIG := big_in1 21 _ rfl rfl
theorem bw_22 : (Cond.methodLink "SweetWraps$Machine" (3 : Nat) ({ cls := "java/lang/Object", name := "<init>", desc := "()V" } : MethodName)) ∈ BIG := big_in1 22 _ rfl rfl
theorem bw_23 : (Cond.classLink "SweetWraps$Machine" (15 : Nat) "SweetWraps$Lane") ∈ BIG := big_in1 23 _ rfl rfl
theorem bw_25 : (Cond.classLink "SweetWraps$Machine" (21 : Nat) "SweetWraps$Tin") ∈ BIG := big_in1 25 _ rfl rfl
theorem bw_27 : (Cond.instantiable "SweetWraps$Lane" (8 : Nat)) ∈ BIG := big_in1 27 _ rfl rfl
theorem bw_29 : (Cond.instanceMethod ({ cls := "SweetWraps$Lane", name := "<init>", desc := "()V" } : MethodName)) ∈ BIG := big_in1 29 _ rfl rfl
theorem bw_30 : (Cond.code ({ cls := "SweetWraps$Lane", name := "<init>", desc := "()V" } : MethodName) prog_3_method_1_code (1 : Nat) (Option.none : Option ClassFile.FieldType)) ∈ BIG := big_in1 30 _ rfl rfl
theorem bw_31 : (Cond.methodLink "SweetWraps$Lane" (3 : Nat) ({ cls := "java/lang/Object", name := "<init>", desc := "()V" } : MethodName)) ∈ BIG := big_in1 31 _ rfl rfl
theorem bw_32 : (Cond.fieldLink "SweetWraps$Lane" (9 : Nat) "SweetWraps$Lane" "flavours" "[I") ∈ BIG := big_in1 32 _ rfl rfl
theorem bw_33 : (Cond.fieldLink "SweetWraps$Machine" (162 : Nat) "SweetWraps$Lane" "flavours" "[I") ∈ BIG := big_in1 33 _ rfl rfl
theorem bw_34 : (Cond.fieldLink "SweetWraps$Lane" (15 : Nat) "SweetWraps$Lane" "sweets" "[I") ∈ BIG := big_in1 34 _ rfl rfl
theorem bw_35 : (Cond.fieldLink "SweetWraps$Machine" (165 : Nat) "SweetWraps$Lane" "sweets" "[I") ∈ BIG := big_in1 35 _ rfl rfl
theorem bw_36 : (Cond.fieldLink "SweetWraps$Lane" (22 : Nat) "SweetWraps$Lane" "heaps" "I") ∈ BIG := big_in1 36 _ rfl rfl
theorem bw_37 : (Cond.fieldLink "SweetWraps$Machine" (138 : Nat) "SweetWraps$Lane" "heaps" "I") ∈ BIG := big_in1 37 _ rfl rfl
theorem bw_38 : (Cond.fieldLink "SweetWraps$Lane" (26 : Nat) "SweetWraps$Lane" "foilLeft" "I") ∈ BIG := big_in1 38 _ rfl rfl
theorem bw_39 : (Cond.fieldLink "SweetWraps$Machine" (74 : Nat) "SweetWraps$Lane" "foilLeft" "I") ∈ BIG := big_in1 39 _ rfl rfl
theorem bw_40 : (Cond.fieldLink "SweetWraps$Lane" (29 : Nat) "SweetWraps$Lane" "pulls" "I") ∈ BIG := big_in1 40 _ rfl rfl
theorem bw_41 : (Cond.fieldLink "SweetWraps$Machine" (147 : Nat) "SweetWraps$Lane" "pulls" "I") ∈ BIG := big_in1 41 _ rfl rfl
theorem bw_42 : (Cond.fieldLink "SweetWraps$Lane" (32 : Nat) "SweetWraps$Lane" "torn" "I") ∈ BIG := big_in1 42 _ rfl rfl
theorem bw_43 : (Cond.fieldLink "SweetWraps$Machine" (150 : Nat) "SweetWraps$Lane" "torn" "I") ∈ BIG := big_in1 43 _ rfl rfl
theorem bw_44 : (Cond.fieldLink "SweetWraps$Lane" (35 : Nat) "SweetWraps$Lane" "wrapped" "I") ∈ BIG := big_in1 44 _ rfl rfl
theorem bw_45 : (Cond.fieldLink "SweetWraps$Machine" (153 : Nat) "SweetWraps$Lane" "wrapped" "I") ∈ BIG := big_in1 45 _ rfl rfl
theorem bw_46 : (Cond.fieldLink "SweetWraps$Machine" (110 : Nat) "SweetWraps$Lane" "lastReason" "I") ∈ BIG := big_in1 46 _ rfl rfl
theorem bw_47 : (Cond.fieldLink "SweetWraps" (118 : Nat) "SweetWraps$Lane" "lastReason" "I") ∈ BIG := big_in1 47 _ rfl rfl
theorem bw_48 : (Cond.laysFinal "SweetWraps$Lane" "SweetWraps$Lane" "flavours" "[I") ∈ BIG := big_in1 48 _ rfl rfl
theorem bw_50 : (Cond.laysFinal "SweetWraps$Lane" "SweetWraps$Lane" "sweets" "[I") ∈ BIG := big_in1 50 _ rfl rfl
theorem bw_52 : (Cond.lays "SweetWraps$Lane" "SweetWraps$Lane" "heaps" "I") ∈ BIG := big_in1 52 _ rfl rfl
theorem bw_54 : (Cond.lays "SweetWraps$Lane" "SweetWraps$Lane" "foilLeft" "I") ∈ BIG := big_in1 54 _ rfl rfl
theorem bw_56 : (Cond.lays "SweetWraps$Lane" "SweetWraps$Lane" "pulls" "I") ∈ BIG := big_in1 56 _ rfl rfl
theorem bw_58 : (Cond.lays "SweetWraps$Lane" "SweetWraps$Lane" "torn" "I") ∈ BIG := big_in1 58 _ rfl rfl
theorem bw_60 : (Cond.lays "SweetWraps$Lane" "SweetWraps$Lane" "wrapped" "I") ∈ BIG := big_in1 60 _ rfl rfl
theorem bw_62 : (Cond.lays "SweetWraps$Lane" "SweetWraps$Lane" "lastReason" "I") ∈ BIG := big_in1 62 _ rfl rfl
theorem bw_65 : (Cond.arrayClass ClassFile.FieldType.int) ∈ BIG := big_in1 65 _ rfl rfl
theorem bw_66 : (Cond.instantiable "SweetWraps$Tin" (4 : Nat)) ∈ BIG := big_in1 66 _ rfl rfl
theorem bw_68 : (Cond.instanceMethod ({ cls := "SweetWraps$Tin", name := "<init>", desc := "()V" } : MethodName)) ∈ BIG := big_in1 68 _ rfl rfl
theorem bw_69 : (Cond.code ({ cls := "SweetWraps$Tin", name := "<init>", desc := "()V" } : MethodName) prog_6_method_1_code (1 : Nat) (Option.none : Option ClassFile.FieldType)) ∈ BIG := big_in1 69 _ rfl rfl
theorem bw_70 : (Cond.methodLink "SweetWraps$Tin" (3 : Nat) ({ cls := "java/lang/Object", name := "<init>", desc := "()V" } : MethodName)) ∈ BIG := big_in1 70 _ rfl rfl
theorem bw_71 : (Cond.fieldLink "SweetWraps$Tin" (9 : Nat) "SweetWraps$Tin" "sweets" "[I") ∈ BIG := big_in1 71 _ rfl rfl
theorem bw_72 : (Cond.fieldLink "SweetWraps$Machine" (180 : Nat) "SweetWraps$Tin" "sweets" "[I") ∈ BIG := big_in1 72 _ rfl rfl
theorem bw_73 : (Cond.fieldLink "SweetWraps$Tin" (19 : Nat) "SweetWraps$Tin" "flavours" "I") ∈ BIG := big_in1 73 _ rfl rfl
theorem bw_74 : (Cond.fieldLink "SweetWraps$Machine" (174 : Nat) "SweetWraps$Tin" "flavours" "I") ∈ BIG := big_in1 74 _ rfl rfl
theorem bw_75 : (Cond.fieldLink "SweetWraps$Tin" (23 : Nat) "SweetWraps$Tin" "total" "I") ∈ BIG := big_in1 75 _ rfl rfl
theorem bw_76 : (Cond.fieldLink "SweetWraps$Machine" (85 : Nat) "SweetWraps$Tin" "total" "I") ∈ BIG := big_in1 76 _ rfl rfl
theorem bw_77 : (Cond.fieldLink "SweetWraps$Tin" (26 : Nat) "SweetWraps$Tin" "shipped" "Z") ∈ BIG := big_in1 77 _ rfl rfl
theorem bw_78 : (Cond.fieldLink "SweetWraps$Machine" (81 : Nat) "SweetWraps$Tin" "shipped" "Z") ∈ BIG := big_in1 78 _ rfl rfl
theorem bw_79 : (Cond.laysFinal "SweetWraps$Tin" "SweetWraps$Tin" "sweets" "[I") ∈ BIG := big_in1 79 _ rfl rfl
theorem bw_81 : (Cond.lays "SweetWraps$Tin" "SweetWraps$Tin" "flavours" "I") ∈ BIG := big_in1 81 _ rfl rfl
theorem bw_83 : (Cond.lays "SweetWraps$Tin" "SweetWraps$Tin" "total" "I") ∈ BIG := big_in1 83 _ rfl rfl
theorem bw_85 : (Cond.lays "SweetWraps$Tin" "SweetWraps$Tin" "shipped" "Z") ∈ BIG := big_in1 85 _ rfl rfl
theorem bw_88 : (Cond.fieldLink "SweetWraps$Machine" (9 : Nat) "SweetWraps$Machine" "settings" "[I") ∈ BIG := big_in1 88 _ rfl rfl
theorem bw_89 : (Cond.fieldLink "SweetWraps" (134 : Nat) "SweetWraps$Machine" "settings" "[I") ∈ BIG := big_in1 89 _ rfl rfl
theorem bw_90 : (Cond.fieldLink "SweetWraps$Machine" (17 : Nat) "SweetWraps$Machine" "lanes" "[LSweetWraps$Lane;") ∈ BIG := big_in1 90 _ rfl rfl
theorem bw_91 : (Cond.fieldLink "SweetWraps" (114 : Nat) "SweetWraps$Machine" "lanes" "[LSweetWraps$Lane;") ∈ BIG := big_in1 91 _ rfl rfl
theorem bw_92 : (Cond.fieldLink "SweetWraps$Machine" (23 : Nat) "SweetWraps$Machine" "tins" "[LSweetWraps$Tin;") ∈ BIG := big_in1 92 _ rfl rfl
theorem bw_93 : (Cond.fieldLink "SweetWraps$Machine" (27 : Nat) "SweetWraps$Machine" "apartFrom" "[I") ∈ BIG := big_in1 93 _ rfl rfl
theorem bw_94 : (Cond.fieldLink "SweetWraps$Machine" (43 : Nat) "SweetWraps$Machine" "tinCount" "I") ∈ BIG := big_in1 94 _ rfl rfl
theorem bw_95 : (Cond.fieldLink "SweetWraps$Machine" (47 : Nat) "SweetWraps$Machine" "ticks" "I") ∈ BIG := big_in1 95 _ rfl rfl
theorem bw_96 : (Cond.fieldLink "SweetWraps$Machine" (50 : Nat) "SweetWraps$Machine" "foilPulled" "I") ∈ BIG := big_in1 96 _ rfl rfl
theorem bw_97 : (Cond.fieldLink "SweetWraps$Machine" (53 : Nat) "SweetWraps$Machine" "foilWasted" "I") ∈ BIG := big_in1 97 _ rfl rfl
theorem bw_98 : (Cond.laysFinal "SweetWraps$Machine" "SweetWraps$Machine" "settings" "[I") ∈ BIG := big_in1 98 _ rfl rfl
theorem bw_100 : (Cond.laysFinal "SweetWraps$Machine" "SweetWraps$Machine" "lanes" "[LSweetWraps$Lane;") ∈ BIG := big_in1 100 _ rfl rfl
theorem bw_102 : (Cond.laysFinal "SweetWraps$Machine" "SweetWraps$Machine" "tins" "[LSweetWraps$Tin;") ∈ BIG := big_in1 102 _ rfl rfl
theorem bw_104 : (Cond.laysFinal "SweetWraps$Machine" "SweetWraps$Machine" "apartFrom" "[I") ∈ BIG := big_in1 104 _ rfl rfl
theorem bw_106 : (Cond.lays "SweetWraps$Machine" "SweetWraps$Machine" "tinCount" "I") ∈ BIG := big_in1 106 _ rfl rfl
theorem bw_108 : (Cond.lays "SweetWraps$Machine" "SweetWraps$Machine" "ticks" "I") ∈ BIG := big_in1 108 _ rfl rfl
theorem bw_110 : (Cond.lays "SweetWraps$Machine" "SweetWraps$Machine" "foilPulled" "I") ∈ BIG := big_in1 110 _ rfl rfl
theorem bw_112 : (Cond.lays "SweetWraps$Machine" "SweetWraps$Machine" "foilWasted" "I") ∈ BIG := big_in1 112 _ rfl rfl
theorem bw_115 : (Cond.classLink "SweetWraps" (19 : Nat) "SweetWraps$History") ∈ BIG := big_in1 115 _ rfl rfl
theorem bw_116 : (Cond.instantiable "SweetWraps$History" (3 : Nat)) ∈ BIG := big_in1 116 _ rfl rfl
theorem bw_117 : (Cond.methodLink "SweetWraps" (21 : Nat) ({ cls := "SweetWraps$History", name := "<init>", desc := "()V" } : MethodName)) ∈ BIG := big_in1 117 _ rfl rfl
theorem bw_118 : (Cond.instanceMethod ({ cls := "SweetWraps$History", name := "<init>", desc := "()V" } : MethodName)) ∈ BIG := big_in1 118 _ rfl rfl
theorem bw_119 : (Cond.code ({ cls := "SweetWraps$History", name := "<init>", desc := "()V" } : MethodName) prog_2_method_1_code (2 : Nat) (Option.none : Option ClassFile.FieldType)) ∈ BIG := big_in1 119 _ rfl rfl
theorem bw_120 : (Cond.methodLink "SweetWraps$History" (3 : Nat) ({ cls := "java/lang/Object", name := "<init>", desc := "()V" } : MethodName)) ∈ BIG := big_in1 120 _ rfl rfl
theorem bw_121 : (Cond.classLink "SweetWraps$History" (9 : Nat) "SweetWraps$Machine") ∈ BIG := big_in1 121 _ rfl rfl
theorem bw_123 : (Cond.methodLink "SweetWraps$History" (17 : Nat) ({ cls := "SweetWraps$Machine", name := "<init>", desc := "()V" } : MethodName)) ∈ BIG := big_in1 123 _ rfl rfl
theorem bw_124 : (Cond.fieldLink "SweetWraps$History" (11 : Nat) "SweetWraps$History" "states" "[LSweetWraps$Machine;") ∈ BIG := big_in1 124 _ rfl rfl
theorem bw_125 : (Cond.fieldLink "SweetWraps$History" (18 : Nat) "SweetWraps$History" "prepared" "LSweetWraps$Machine;") ∈ BIG := big_in1 125 _ rfl rfl
theorem bw_126 : (Cond.fieldLink "SweetWraps$History" (26 : Nat) "SweetWraps$History" "depth" "I") ∈ BIG := big_in1 126 _ rfl rfl
theorem bw_127 : (Cond.fieldLink "SweetWraps" (98 : Nat) "SweetWraps$History" "depth" "I") ∈ BIG := big_in1 127 _ rfl rfl
theorem bw_128 : (Cond.laysFinal "SweetWraps$History" "SweetWraps$History" "states" "[LSweetWraps$Machine;") ∈ BIG := big_in1 128 _ rfl rfl
theorem bw_130 : (Cond.lays "SweetWraps$History" "SweetWraps$History" "prepared" "LSweetWraps$Machine;") ∈ BIG := big_in1 130 _ rfl rfl
theorem bw_132 : (Cond.lays "SweetWraps$History" "SweetWraps$History" "depth" "I") ∈ BIG := big_in1 132 _ rfl rfl
theorem bw_135 : (Cond.classLink "SweetWraps" (34 : Nat) "SweetWraps$Pad") ∈ BIG := big_in1 135 _ rfl rfl
theorem bw_136 : (Cond.instantiable "SweetWraps$Pad" (6 : Nat)) ∈ BIG := big_in1 136 _ rfl rfl
theorem bw_138 : (Cond.instanceMethod ({ cls := "SweetWraps$Pad", name := "<init>", desc := "()V" } : MethodName)) ∈ BIG := big_in1 138 _ rfl rfl
theorem bw_139 : (Cond.code ({ cls := "SweetWraps$Pad", name := "<init>", desc := "()V" } : MethodName) prog_5_method_1_code (1 : Nat) (Option.none : Option ClassFile.FieldType)) ∈ BIG := big_in1 139 _ rfl rfl
theorem bw_140 : (Cond.methodLink "SweetWraps$Pad" (3 : Nat) ({ cls := "java/lang/Object", name := "<init>", desc := "()V" } : MethodName)) ∈ BIG := big_in1 140 _ rfl rfl
theorem bw_141 : (Cond.fieldLink "SweetWraps$Pad" (9 : Nat) "SweetWraps$Pad" "signs" "[C") ∈ BIG := big_in1 141 _ rfl rfl
theorem bw_142 : (Cond.fieldLink "SweetWraps$Pad" (15 : Nat) "SweetWraps$Pad" "values" "[I") ∈ BIG := big_in1 142 _ rfl rfl
theorem bw_143 : (Cond.fieldLink "SweetWraps" (94 : Nat) "SweetWraps$Pad" "length" "I") ∈ BIG := big_in1 143 _ rfl rfl
theorem bw_144 : (Cond.laysFinal "SweetWraps$Pad" "SweetWraps$Pad" "signs" "[C") ∈ BIG := big_in1 144 _ rfl rfl
theorem bw_146 : (Cond.laysFinal "SweetWraps$Pad" "SweetWraps$Pad" "values" "[I") ∈ BIG := big_in1 146 _ rfl rfl
theorem bw_148 : (Cond.lays "SweetWraps$Pad" "SweetWraps$Pad" "length" "I") ∈ BIG := big_in1 148 _ rfl rfl
theorem bw_150 : (Cond.lays "SweetWraps$Pad" "SweetWraps$Pad" "place" "I") ∈ BIG := big_in1 150 _ rfl rfl
theorem bw_152 : (Cond.lays "SweetWraps$Pad" "SweetWraps$Pad" "kind" "I") ∈ BIG := big_in1 152 _ rfl rfl
theorem bw_154 : (Cond.lays "SweetWraps$Pad" "SweetWraps$Pad" "valueCount" "I") ∈ BIG := big_in1 154 _ rfl rfl
theorem bw_157 : (Cond.arrayClass ClassFile.FieldType.boolean) ∈ BIG := big_in1 157 _ rfl rfl
theorem bw_158 : (Cond.arrayClass ClassFile.FieldType.char) ∈ BIG := big_in1 158 _ rfl rfl
theorem bw_159 : (Cond.fieldLink "SweetWraps" (10 : Nat) "SweetWraps" "now" "LSweetWraps$Machine;") ∈ BIG := big_in1 159 _ rfl rfl
theorem bw_160 : (Cond.fieldLink "SweetWraps" (16 : Nat) "SweetWraps" "trial" "LSweetWraps$Machine;") ∈ BIG := big_in1 160 _ rfl rfl
theorem bw_161 : (Cond.fieldLink "SweetWraps" (22 : Nat) "SweetWraps" "history" "LSweetWraps$History;") ∈ BIG := big_in1 161 _ rfl rfl
theorem bw_162 : (Cond.fieldLink "SweetWraps" (26 : Nat) "SweetWraps" "slots" "[LSweetWraps$Machine;") ∈ BIG := big_in1 162 _ rfl rfl
theorem bw_163 : (Cond.fieldLink "SweetWraps" (30 : Nat) "SweetWraps" "saved" "[Z") ∈ BIG := big_in1 163 _ rfl rfl
theorem bw_164 : (Cond.fieldLink "SweetWraps" (37 : Nat) "SweetWraps" "pad" "LSweetWraps$Pad;") ∈ BIG := big_in1 164 _ rfl rfl
theorem bw_165 : (Cond.laysFinal "SweetWraps" "SweetWraps" "now" "LSweetWraps$Machine;") ∈ BIG := big_in1 165 _ rfl rfl
theorem bw_167 : (Cond.laysFinal "SweetWraps" "SweetWraps" "trial" "LSweetWraps$Machine;") ∈ BIG := big_in1 167 _ rfl rfl
theorem bw_169 : (Cond.laysFinal "SweetWraps" "SweetWraps" "history" "LSweetWraps$History;") ∈ BIG := big_in1 169 _ rfl rfl
theorem bw_171 : (Cond.laysFinal "SweetWraps" "SweetWraps" "slots" "[LSweetWraps$Machine;") ∈ BIG := big_in1 171 _ rfl rfl
theorem bw_173 : (Cond.laysFinal "SweetWraps" "SweetWraps" "saved" "[Z") ∈ BIG := big_in1 173 _ rfl rfl
theorem bw_175 : (Cond.laysFinal "SweetWraps" "SweetWraps" "pad" "LSweetWraps$Pad;") ∈ BIG := big_in1 175 _ rfl rfl
theorem bw_178 : (Cond.methodLink "SweetWrapsLaw" (83 : Nat) ({ cls := "SweetWrapsLaw", name := "cell", desc := "([II)I" } : MethodName)) ∈ BIG := big_in1 178 _ rfl rfl
theorem bw_179 : (Cond.static ({ cls := "SweetWrapsLaw", name := "cell", desc := "([II)I" } : MethodName)) ∈ BIG := big_in1 179 _ rfl rfl
theorem bw_180 : (Cond.code ({ cls := "SweetWrapsLaw", name := "cell", desc := "([II)I" } : MethodName) method_2_code (2 : Nat) (Option.some ClassFile.FieldType.int)) ∈ BIG := big_in1 180 _ rfl rfl
theorem bw_181 : (Cond.methodLink "SweetWrapsLaw" (10 : Nat) ({ cls := "SweetWrapsLaw", name := "low", desc := "(II)I" } : MethodName)) ∈ BIG := big_in1 181 _ rfl rfl
theorem bw_182 : (Cond.static ({ cls := "SweetWrapsLaw", name := "low", desc := "(II)I" } : MethodName)) ∈ BIG := big_in1 182 _ rfl rfl
theorem bw_183 : (Cond.code ({ cls := "SweetWrapsLaw", name := "low", desc := "(II)I" } : MethodName) method_3_code (2 : Nat) (Option.some ClassFile.FieldType.int)) ∈ BIG := big_in1 183 _ rfl rfl
theorem bw_184 : (Cond.constant "SweetWrapsLaw" (7 : Nat) (2147483647 : Int32)) ∈ BIG := big_in1 184 _ rfl rfl
theorem bw_185 : (Cond.methodLink "SweetWrapsLaw" (87 : Nat) ({ cls := "SweetWrapsLaw", name := "does", desc := "(LSweetWraps;I)I" } : MethodName)) ∈ BIG := big_in1 185 _ rfl rfl
theorem bw_186 : (Cond.static ({ cls := "SweetWrapsLaw", name := "does", desc := "(LSweetWraps;I)I" } : MethodName)) ∈ BIG := big_in1 186 _ rfl rfl
theorem bw_187 : (Cond.code ({ cls := "SweetWrapsLaw", name := "does", desc := "(LSweetWraps;I)I" } : MethodName) method_5_code (5 : Nat) (Option.some ClassFile.FieldType.int)) ∈ BIG := big_in1 187 _ rfl rfl
theorem bw_188 : (Cond.methodLink "SweetWrapsLaw" (16 : Nat) ({ cls := "SweetWraps", name := "heap", desc := "(III)I" } : MethodName)) ∈ BIG := big_in1 188 _ rfl rfl
theorem bw_189 : (Cond.instanceMethod ({ cls := "SweetWraps", name := "heap", desc := "(III)I" } : MethodName)) ∈ BIG := big_in1 189 _ rfl rfl
theorem bw_190 : (Cond.selects "SweetWraps" ({ cls := "SweetWraps", name := "heap", desc := "(III)I" } : MethodName) ({ cls := "SweetWraps", name := "heap", desc := "(III)I" } : MethodName)) ∈ BIG := big_in1 190 _ rfl rfl
theorem bw_191 : (Cond.code ({ cls := "SweetWraps", name := "heap", desc := "(III)I" } : MethodName) prog_1_method_3_code (4 : Nat) (Option.some ClassFile.FieldType.int)) ∈ BIG := big_in1 191 _ rfl rfl
theorem bw_192 : (Cond.methodLink "SweetWraps" (41 : Nat) ({ cls := "SweetWraps$History", name := "prepare", desc := "(LSweetWraps$Machine;)V" } : MethodName)) ∈ BIG := big_in1 192 _ rfl rfl
theorem bw_193 : (Cond.instanceMethod ({ cls := "SweetWraps$History", name := "prepare", desc := "(LSweetWraps$Machine;)V" } : MethodName)) ∈ BIG := big_in1 193 _ rfl rfl
theorem bw_194 : (Cond.selects "SweetWraps$History" ({ cls := "SweetWraps$History", name := "prepare", desc := "(LSweetWraps$Machine;)V" } : MethodName) ({ cls := "SweetWraps$History", name := "prepare", desc := "(LSweetWraps$Machine;)V" } : MethodName)) ∈ BIG := big_in1 194 _ rfl rfl
theorem bw_195 : (Cond.code ({ cls := "SweetWraps$History", name := "prepare", desc := "(LSweetWraps$Machine;)V" } : MethodName) prog_2_method_2_code (2 : Nat) (Option.none : Option ClassFile.FieldType)) ∈ BIG := big_in1 195 _ rfl rfl
theorem bw_196 : (Cond.methodLink "SweetWraps$History" (22 : Nat) ({ cls := "SweetWraps$Machine", name := "copyFrom", desc := "(LSweetWraps$Machine;)V" } : MethodName)) ∈ BIG := big_in1 196 _ rfl rfl
theorem bw_197 : (Cond.instanceMethod ({ cls := "SweetWraps$Machine", name := "copyFrom", desc := "(LSweetWraps$Machine;)V" } : MethodName)) ∈ BIG := big_in1 197 _ rfl rfl
theorem bw_198 : (Cond.selects "SweetWraps$Machine" ({ cls := "SweetWraps$Machine", name := "copyFrom", desc := "(LSweetWraps$Machine;)V" } : MethodName) ({ cls := "SweetWraps$Machine", name := "copyFrom", desc := "(LSweetWraps$Machine;)V" } : MethodName)) ∈ BIG := big_in1 198 _ rfl rfl
theorem bw_199 : (Cond.code ({ cls := "SweetWraps$Machine", name := "copyFrom", desc := "(LSweetWraps$Machine;)V" } : MethodName) prog_4_method_2_code (3 : Nat) (Option.none : Option ClassFile.FieldType)) ∈ BIG := big_in1 199 _ rfl rfl
theorem bw_201 : (Cond.static ({ cls := "SweetWraps", name := "copyNumbers", desc := "([I[I)V" } : MethodName)) ∈ BIG := big_in1 201 _ rfl rfl
theorem bw_202 : (Cond.code ({ cls := "SweetWraps", name := "copyNumbers", desc := "([I[I)V" } : MethodName) prog_1_method_31_code (2 : Nat) (Option.none : Option ClassFile.FieldType)) ∈ BIG := big_in1 202 _ rfl rfl
theorem bw_203 : (Cond.methodLink "SweetWraps" (181 : Nat) ({ cls := "java/lang/Math", name := "min", desc := "(II)I" } : MethodName)) ∈ BIG := big_in1 203 _ rfl rfl
theorem bw_204 : (Cond.static ({ cls := "java/lang/Math", name := "min", desc := "(II)I" } : MethodName)) ∈ BIG := big_in1 204 _ rfl rfl
theorem bw_205 : (Cond.code ({ cls := "java/lang/Math", name := "min", desc := "(II)I" } : MethodName) prog_9_method_69_code (2 : Nat) (Option.some ClassFile.FieldType.int)) ∈ BIG := big_in1 205 _ rfl rfl
theorem bw_206 : (Cond.methodLink "SweetWraps" (186 : Nat) ({ cls := "java/lang/System", name := "arraycopy", desc := "(Ljava/lang/Object;ILjava/lang/Object;II)V" } : MethodName)) ∈ BIG := big_in1 206 _ rfl rfl
theorem bw_207 : (Cond.static ({ cls := "java/lang/System", name := "arraycopy", desc := "(Ljava/lang/Object;ILjava/lang/Object;II)V" } : MethodName)) ∈ BIG := big_in1 207 _ rfl rfl
theorem bw_208 : (Cond.native ({ cls := "java/lang/System", name := "arraycopy", desc := "(Ljava/lang/Object;ILjava/lang/Object;II)V" } : MethodName)) ∈ BIG := big_in1 208 _ rfl rfl
theorem bw_209 : (Cond.methodLink "SweetWraps$Machine" (36 : Nat) ({ cls := "SweetWraps$Lane", name := "copyFrom", desc := "(LSweetWraps$Lane;)V" } : MethodName)) ∈ BIG := big_in1 209 _ rfl rfl
theorem bw_210 : (Cond.instanceMethod ({ cls := "SweetWraps$Lane", name := "copyFrom", desc := "(LSweetWraps$Lane;)V" } : MethodName)) ∈ BIG := big_in1 210 _ rfl rfl
theorem bw_211 : (Cond.selects "SweetWraps$Lane" ({ cls := "SweetWraps$Lane", name := "copyFrom", desc := "(LSweetWraps$Lane;)V" } : MethodName) ({ cls := "SweetWraps$Lane", name := "copyFrom", desc := "(LSweetWraps$Lane;)V" } : MethodName)) ∈ BIG := big_in1 211 _ rfl rfl
theorem bw_212 : (Cond.code ({ cls := "SweetWraps$Lane", name := "copyFrom", desc := "(LSweetWraps$Lane;)V" } : MethodName) prog_3_method_2_code (2 : Nat) (Option.none : Option ClassFile.FieldType)) ∈ BIG := big_in1 212 _ rfl rfl
theorem bw_214 : (Cond.methodLink "SweetWraps$Machine" (40 : Nat) ({ cls := "SweetWraps$Tin", name := "copyFrom", desc := "(LSweetWraps$Tin;)V" } : MethodName)) ∈ BIG := big_in1 214 _ rfl rfl
theorem bw_215 : (Cond.instanceMethod ({ cls := "SweetWraps$Tin", name := "copyFrom", desc := "(LSweetWraps$Tin;)V" } : MethodName)) ∈ BIG := big_in1 215 _ rfl rfl
theorem bw_216 : (Cond.selects "SweetWraps$Tin" ({ cls := "SweetWraps$Tin", name := "copyFrom", desc := "(LSweetWraps$Tin;)V" } : MethodName) ({ cls := "SweetWraps$Tin", name := "copyFrom", desc := "(LSweetWraps$Tin;)V" } : MethodName)) ∈ BIG := big_in1 216 _ rfl rfl
theorem bw_217 : (Cond.code ({ cls := "SweetWraps$Tin", name := "copyFrom", desc := "(LSweetWraps$Tin;)V" } : MethodName) prog_6_method_2_code (2 : Nat) (Option.none : Option ClassFile.FieldType)) ∈ BIG := big_in1 217 _ rfl rfl
theorem bw_219 : (Cond.methodLink "SweetWraps" (53 : Nat) ({ cls := "SweetWraps$Machine", name := "addSweets", desc := "(III)I" } : MethodName)) ∈ BIG := big_in1 219 _ rfl rfl
theorem bw_220 : (Cond.instanceMethod ({ cls := "SweetWraps$Machine", name := "addSweets", desc := "(III)I" } : MethodName)) ∈ BIG := big_in1 220 _ rfl rfl
theorem bw_221 : (Cond.selects "SweetWraps$Machine" ({ cls := "SweetWraps$Machine", name := "addSweets", desc := "(III)I" } : MethodName) ({ cls := "SweetWraps$Machine", name := "addSweets", desc := "(III)I" } : MethodName)) ∈ BIG := big_in1 221 _ rfl rfl
theorem bw_222 : (Cond.code ({ cls := "SweetWraps$Machine", name := "addSweets", desc := "(III)I" } : MethodName) prog_4_method_4_code (4 : Nat) (Option.some ClassFile.FieldType.int)) ∈ BIG := big_in1 222 _ rfl rfl
theorem bw_224 : (Cond.static ({ cls := "SweetWraps", name := "isIndex", desc := "(II)Z" } : MethodName)) ∈ BIG := big_in1 224 _ rfl rfl
theorem bw_225 : (Cond.code ({ cls := "SweetWraps", name := "isIndex", desc := "(II)Z" } : MethodName) prog_1_method_29_code (2 : Nat) (Option.some ClassFile.FieldType.boolean)) ∈ BIG := big_in1 225 _ rfl rfl
theorem bw_227 : (Cond.static ({ cls := "SweetWraps", name := "isBetween", desc := "(III)Z" } : MethodName)) ∈ BIG := big_in1 227 _ rfl rfl
theorem bw_228 : (Cond.code ({ cls := "SweetWraps", name := "isBetween", desc := "(III)Z" } : MethodName) prog_1_method_30_code (3 : Nat) (Option.some ClassFile.FieldType.boolean)) ∈ BIG := big_in1 228 _ rfl rfl
theorem bw_229 : (Cond.methodLink "SweetWraps$Machine" (70 : Nat) ({ cls := "SweetWraps$Lane", name := "addSweets", desc := "(II)I" } : MethodName)) ∈ BIG := big_in1 229 _ rfl rfl
theorem bw_230 : (Cond.instanceMethod ({ cls := "SweetWraps$Lane", name := "addSweets", desc := "(II)I" } : MethodName)) ∈ BIG := big_in1 230 _ rfl rfl
theorem bw_231 : (Cond.selects "SweetWraps$Lane" ({ cls := "SweetWraps$Lane", name := "addSweets", desc := "(II)I" } : MethodName) ({ cls := "SweetWraps$Lane", name := "addSweets", desc := "(II)I" } : MethodName)) ∈ BIG := big_in1 231 _ rfl rfl
theorem bw_232 : (Cond.code ({ cls := "SweetWraps$Lane", name := "addSweets", desc := "(II)I" } : MethodName) prog_3_method_7_code (5 : Nat) (Option.some ClassFile.FieldType.int)) ∈ BIG := big_in1 232 _ rfl rfl
theorem bw_233 : (Cond.methodLink "SweetWraps$Lane" (42 : Nat) ({ cls := "SweetWraps$Lane", name := "isHeap", desc := "(I)Z" } : MethodName)) ∈ BIG := big_in1 233 _ rfl rfl
theorem bw_234 : (Cond.instanceMethod ({ cls := "SweetWraps$Lane", name := "isHeap", desc := "(I)Z" } : MethodName)) ∈ BIG := big_in1 234 _ rfl rfl
theorem bw_235 : (Cond.selects "SweetWraps$Lane" ({ cls := "SweetWraps$Lane", name := "isHeap", desc := "(I)Z" } : MethodName) ({ cls := "SweetWraps$Lane", name := "isHeap", desc := "(I)Z" } : MethodName)) ∈ BIG := big_in1 235 _ rfl rfl
theorem bw_236 : (Cond.code ({ cls := "SweetWraps$Lane", name := "isHeap", desc := "(I)Z" } : MethodName) prog_3_method_3_code (2 : Nat) (Option.some ClassFile.FieldType.boolean)) ∈ BIG := big_in1 236 _ rfl rfl
theorem bw_238 : (Cond.methodLink "SweetWraps$Lane" (46 : Nat) ({ cls := "SweetWraps$Lane", name := "sweetsInHopper", desc := "()I" } : MethodName)) ∈ BIG := big_in1 238 _ rfl rfl
theorem bw_239 : (Cond.instanceMethod ({ cls := "SweetWraps$Lane", name := "sweetsInHopper", desc := "()I" } : MethodName)) ∈ BIG := big_in1 239 _ rfl rfl
theorem bw_240 : (Cond.selects "SweetWraps$Lane" ({ cls := "SweetWraps$Lane", name := "sweetsInHopper", desc := "()I" } : MethodName) ({ cls := "SweetWraps$Lane", name := "sweetsInHopper", desc := "()I" } : MethodName)) ∈ BIG := big_in2 0 _ rfl rfl
theorem bw_241 : (Cond.code ({ cls := "SweetWraps$Lane", name := "sweetsInHopper", desc := "()I" } : MethodName) prog_3_method_5_code (3 : Nat) (Option.some ClassFile.FieldType.int)) ∈ BIG := big_in2 1 _ rfl rfl
theorem bw_242 : (Cond.methodLink "SweetWraps" (49 : Nat) ({ cls := "SweetWraps$History", name := "record", desc := "(I)I" } : MethodName)) ∈ BIG := big_in2 2 _ rfl rfl
theorem bw_243 : (Cond.instanceMethod ({ cls := "SweetWraps$History", name := "record", desc := "(I)I" } : MethodName)) ∈ BIG := big_in2 3 _ rfl rfl
theorem bw_244 : (Cond.selects "SweetWraps$History" ({ cls := "SweetWraps$History", name := "record", desc := "(I)I" } : MethodName) ({ cls := "SweetWraps$History", name := "record", desc := "(I)I" } : MethodName)) ∈ BIG := big_in2 4 _ rfl rfl
theorem bw_245 : (Cond.code ({ cls := "SweetWraps$History", name := "record", desc := "(I)I" } : MethodName) prog_2_method_3_code (3 : Nat) (Option.some ClassFile.FieldType.int)) ∈ BIG := big_in2 5 _ rfl rfl
theorem bw_246 : (Cond.methodLink "SweetWraps$History" (30 : Nat) ({ cls := "SweetWraps$History", name := "dropOldest", desc := "()V" } : MethodName)) ∈ BIG := big_in2 6 _ rfl rfl
theorem bw_248 : (Cond.instanceMethod ({ cls := "SweetWraps$History", name := "dropOldest", desc := "()V" } : MethodName)) ∈ BIG := big_in2 8 _ rfl rfl
theorem bw_249 : (Cond.code ({ cls := "SweetWraps$History", name := "dropOldest", desc := "()V" } : MethodName) prog_2_method_4_code (3 : Nat) (Option.none : Option ClassFile.FieldType)) ∈ BIG := big_in2 9 _ rfl rfl
theorem bw_251 : (Cond.methodLink "SweetWrapsLaw" (20 : Nat) ({ cls := "SweetWrapsLaw", name := "mild", desc := "(I)I" } : MethodName)) ∈ BIG := big_in2 11 _ rfl rfl
theorem bw_252 : (Cond.static ({ cls := "SweetWrapsLaw", name := "mild", desc := "(I)I" } : MethodName)) ∈ BIG := big_in2 12 _ rfl rfl
theorem bw_253 : (Cond.code ({ cls := "SweetWrapsLaw", name := "mild", desc := "(I)I" } : MethodName) method_4_code (1 : Nat) (Option.some ClassFile.FieldType.int)) ∈ BIG := big_in2 13 _ rfl rfl
theorem bw_254 : (Cond.methodLink "SweetWrapsLaw" (24 : Nat) ({ cls := "SweetWraps", name := "foil", desc := "(II)I" } : MethodName)) ∈ BIG := big_in2 14 _ rfl rfl
theorem bw_255 : (Cond.instanceMethod ({ cls := "SweetWraps", name := "foil", desc := "(II)I" } : MethodName)) ∈ BIG := big_in2 15 _ rfl rfl
theorem bw_256 : (Cond.selects "SweetWraps" ({ cls := "SweetWraps", name := "foil", desc := "(II)I" } : MethodName) ({ cls := "SweetWraps", name := "foil", desc := "(II)I" } : MethodName)) ∈ BIG := big_in2 16 _ rfl rfl
theorem bw_257 : (Cond.code ({ cls := "SweetWraps", name := "foil", desc := "(II)I" } : MethodName) prog_1_method_4_code (3 : Nat) (Option.some ClassFile.FieldType.int)) ∈ BIG := big_in2 17 _ rfl rfl
theorem bw_258 : (Cond.methodLink "SweetWraps" (57 : Nat) ({ cls := "SweetWraps$Machine", name := "addFoil", desc := "(II)I" } : MethodName)) ∈ BIG := big_in2 18 _ rfl rfl
theorem bw_259 : (Cond.instanceMethod ({ cls := "SweetWraps$Machine", name := "addFoil", desc := "(II)I" } : MethodName)) ∈ BIG := big_in2 19 _ rfl rfl
theorem bw_260 : (Cond.selects "SweetWraps$Machine" ({ cls := "SweetWraps$Machine", name := "addFoil", desc := "(II)I" } : MethodName) ({ cls := "SweetWraps$Machine", name := "addFoil", desc := "(II)I" } : MethodName)) ∈ BIG := big_in2 20 _ rfl rfl
theorem bw_261 : (Cond.code ({ cls := "SweetWraps$Machine", name := "addFoil", desc := "(II)I" } : MethodName) prog_4_method_5_code (3 : Nat) (Option.some ClassFile.FieldType.int)) ∈ BIG := big_in2 21 _ rfl rfl
theorem bw_262 : (Cond.methodLink "SweetWrapsLaw" (27 : Nat) ({ cls := "SweetWraps", name := "tin", desc := "()I" } : MethodName)) ∈ BIG := big_in2 22 _ rfl rfl
theorem bw_263 : (Cond.instanceMethod ({ cls := "SweetWraps", name := "tin", desc := "()I" } : MethodName)) ∈ BIG := big_in2 23 _ rfl rfl
theorem bw_264 : (Cond.selects "SweetWraps" ({ cls := "SweetWraps", name := "tin", desc := "()I" } : MethodName) ({ cls := "SweetWraps", name := "tin", desc := "()I" } : MethodName)) ∈ BIG := big_in2 24 _ rfl rfl
theorem bw_265 : (Cond.code ({ cls := "SweetWraps", name := "tin", desc := "()I" } : MethodName) prog_1_method_5_code (1 : Nat) (Option.some ClassFile.FieldType.int)) ∈ BIG := big_in2 25 _ rfl rfl
theorem bw_266 : (Cond.methodLink "SweetWraps" (60 : Nat) ({ cls := "SweetWraps$Machine", name := "addTin", desc := "()I" } : MethodName)) ∈ BIG := big_in2 26 _ rfl rfl
theorem bw_267 : (Cond.instanceMethod ({ cls := "SweetWraps$Machine", name := "addTin", desc := "()I" } : MethodName)) ∈ BIG := big_in2 27 _ rfl rfl
theorem bw_268 : (Cond.selects "SweetWraps$Machine" ({ cls := "SweetWraps$Machine", name := "addTin", desc := "()I" } : MethodName) ({ cls := "SweetWraps$Machine", name := "addTin", desc := "()I" } : MethodName)) ∈ BIG := big_in2 28 _ rfl rfl
theorem bw_269 : (Cond.code ({ cls := "SweetWraps$Machine", name := "addTin", desc := "()I" } : MethodName) prog_4_method_6_code (1 : Nat) (Option.some ClassFile.FieldType.int)) ∈ BIG := big_in2 29 _ rfl rfl
theorem bw_270 : (Cond.methodLink "SweetWrapsLaw" (31 : Nat) ({ cls := "SweetWraps", name := "count", desc := "(I)I" } : MethodName)) ∈ BIG := big_in2 30 _ rfl rfl
theorem bw_271 : (Cond.instanceMethod ({ cls := "SweetWraps", name := "count", desc := "(I)I" } : MethodName)) ∈ BIG := big_in2 31 _ rfl rfl
theorem bw_272 : (Cond.selects "SweetWraps" ({ cls := "SweetWraps", name := "count", desc := "(I)I" } : MethodName) ({ cls := "SweetWraps", name := "count", desc := "(I)I" } : MethodName)) ∈ BIG := big_in2 32 _ rfl rfl
theorem bw_273 : (Cond.code ({ cls := "SweetWraps", name := "count", desc := "(I)I" } : MethodName) prog_1_method_16_code (2 : Nat) (Option.some ClassFile.FieldType.int)) ∈ BIG := big_in2 33 _ rfl rfl
theorem bw_274 : (Cond.methodLink "SweetWraps" (101 : Nat) ({ cls := "SweetWraps$Machine", name := "number", desc := "(I)I" } : MethodName)) ∈ BIG := big_in2 34 _ rfl rfl
theorem bw_275 : (Cond.instanceMethod ({ cls := "SweetWraps$Machine", name := "number", desc := "(I)I" } : MethodName)) ∈ BIG := big_in2 35 _ rfl rfl
theorem bw_276 : (Cond.selects "SweetWraps$Machine" ({ cls := "SweetWraps$Machine", name := "number", desc := "(I)I" } : MethodName) ({ cls := "SweetWraps$Machine", name := "number", desc := "(I)I" } : MethodName)) ∈ BIG := big_in2 36 _ rfl rfl
theorem bw_277 : (Cond.code ({ cls := "SweetWraps$Machine", name := "number", desc := "(I)I" } : MethodName) prog_4_method_39_code (2 : Nat) (Option.some ClassFile.FieldType.int)) ∈ BIG := big_in2 37 _ rfl rfl
theorem bw_278 : (Cond.methodLink "SweetWraps$Machine" (200 : Nat) ({ cls := "SweetWraps$Machine", name := "tinsThatAre", desc := "(Z)I" } : MethodName)) ∈ BIG := big_in2 38 _ rfl rfl
theorem bw_280 : (Cond.instanceMethod ({ cls := "SweetWraps$Machine", name := "tinsThatAre", desc := "(Z)I" } : MethodName)) ∈ BIG := big_in2 40 _ rfl rfl
theorem bw_281 : (Cond.code ({ cls := "SweetWraps$Machine", name := "tinsThatAre", desc := "(Z)I" } : MethodName) prog_4_method_28_code (4 : Nat) (Option.some ClassFile.FieldType.int)) ∈ BIG := big_in2 41 _ rfl rfl
theorem bw_282 : (Cond.methodLink "SweetWraps$Machine" (77 : Nat) ({ cls := "SweetWraps$Machine", name := "isTin", desc := "(I)Z" } : MethodName)) ∈ BIG := big_in2 42 _ rfl rfl
theorem bw_284 : (Cond.instanceMethod ({ cls := "SweetWraps$Machine", name := "isTin", desc := "(I)Z" } : MethodName)) ∈ BIG := big_in2 44 _ rfl rfl
theorem bw_285 : (Cond.code ({ cls := "SweetWraps$Machine", name := "isTin", desc := "(I)Z" } : MethodName) prog_4_method_22_code (2 : Nat) (Option.some ClassFile.FieldType.boolean)) ∈ BIG := big_in2 45 _ rfl rfl
theorem bw_286 : (Cond.methodLink "SweetWraps$Machine" (204 : Nat) ({ cls := "SweetWraps$Machine", name := "overLanes", desc := "(I)I" } : MethodName)) ∈ BIG := big_in2 46 _ rfl rfl
theorem bw_288 : (Cond.instanceMethod ({ cls := "SweetWraps$Machine", name := "overLanes", desc := "(I)I" } : MethodName)) ∈ BIG := big_in2 48 _ rfl rfl
theorem bw_289 : (Cond.code ({ cls := "SweetWraps$Machine", name := "overLanes", desc := "(I)I" } : MethodName) prog_4_method_20_code (4 : Nat) (Option.some ClassFile.FieldType.int)) ∈ BIG := big_in2 49 _ rfl rfl
theorem bw_290 : (Cond.methodLink "SweetWraps$Machine" (168 : Nat) ({ cls := "SweetWraps$Machine", name := "laneFact", desc := "(II)I" } : MethodName)) ∈ BIG := big_in2 50 _ rfl rfl
theorem bw_291 : (Cond.instanceMethod ({ cls := "SweetWraps$Machine", name := "laneFact", desc := "(II)I" } : MethodName)) ∈ BIG := big_in2 51 _ rfl rfl
theorem bw_292 : (Cond.selects "SweetWraps$Machine" ({ cls := "SweetWraps$Machine", name := "laneFact", desc := "(II)I" } : MethodName) ({ cls := "SweetWraps$Machine", name := "laneFact", desc := "(II)I" } : MethodName)) ∈ BIG := big_in2 52 _ rfl rfl
theorem bw_293 : (Cond.code ({ cls := "SweetWraps$Machine", name := "laneFact", desc := "(II)I" } : MethodName) prog_4_method_18_code (4 : Nat) (Option.some ClassFile.FieldType.int)) ∈ BIG := big_in2 53 _ rfl rfl
theorem bw_294 : (Cond.methodLink "SweetWraps$Machine" (144 : Nat) ({ cls := "SweetWraps$Lane", name := "sweetsInHopper", desc := "()I" } : MethodName)) ∈ BIG := big_in2 54 _ rfl rfl
theorem bw_295 : (Cond.methodLink "SweetWraps$Machine" (113 : Nat) ({ cls := "SweetWraps$Lane", name := "nextFlavour", desc := "()I" } : MethodName)) ∈ BIG := big_in2 55 _ rfl rfl
theorem bw_296 : (Cond.instanceMethod ({ cls := "SweetWraps$Lane", name := "nextFlavour", desc := "()I" } : MethodName)) ∈ BIG := big_in2 56 _ rfl rfl
theorem bw_297 : (Cond.selects "SweetWraps$Lane" ({ cls := "SweetWraps$Lane", name := "nextFlavour", desc := "()I" } : MethodName) ({ cls := "SweetWraps$Lane", name := "nextFlavour", desc := "()I" } : MethodName)) ∈ BIG := big_in2 57 _ rfl rfl
theorem bw_298 : (Cond.code ({ cls := "SweetWraps$Lane", name := "nextFlavour", desc := "()I" } : MethodName) prog_3_method_4_code (1 : Nat) (Option.some ClassFile.FieldType.int)) ∈ BIG := big_in2 58 _ rfl rfl
theorem bw_299 : (Cond.methodLink "SweetWraps$Machine" (156 : Nat) ({ cls := "SweetWraps$Machine", name := "reasonNow", desc := "(LSweetWraps$Lane;)I" } : MethodName)) ∈ BIG := big_in2 59 _ rfl rfl
theorem bw_301 : (Cond.instanceMethod ({ cls := "SweetWraps$Machine", name := "reasonNow", desc := "(LSweetWraps$Lane;)I" } : MethodName)) ∈ BIG := big_in2 61 _ rfl rfl
theorem bw_302 : (Cond.code ({ cls := "SweetWraps$Machine", name := "reasonNow", desc := "(LSweetWraps$Lane;)I" } : MethodName) prog_4_method_16_code (2 : Nat) (Option.some ClassFile.FieldType.int)) ∈ BIG := big_in2 62 _ rfl rfl
theorem bw_303 : (Cond.methodLink "SweetWraps$Machine" (116 : Nat) ({ cls := "SweetWraps$Machine", name := "tinFor", desc := "(I)I" } : MethodName)) ∈ BIG := big_in2 63 _ rfl rfl
theorem bw_305 : (Cond.instanceMethod ({ cls := "SweetWraps$Machine", name := "tinFor", desc := "(I)I" } : MethodName)) ∈ BIG := big_in2 65 _ rfl rfl
theorem bw_306 : (Cond.code ({ cls := "SweetWraps$Machine", name := "tinFor", desc := "(I)I" } : MethodName) prog_4_method_17_code (3 : Nat) (Option.some ClassFile.FieldType.int)) ∈ BIG := big_in2 66 _ rfl rfl
theorem bw_307 : (Cond.methodLink "SweetWraps$Machine" (141 : Nat) ({ cls := "SweetWraps$Tin", name := "hasRoomFor", desc := "(II)Z" } : MethodName)) ∈ BIG := big_in2 67 _ rfl rfl
theorem bw_308 : (Cond.instanceMethod ({ cls := "SweetWraps$Tin", name := "hasRoomFor", desc := "(II)Z" } : MethodName)) ∈ BIG := big_in2 68 _ rfl rfl
theorem bw_309 : (Cond.selects "SweetWraps$Tin" ({ cls := "SweetWraps$Tin", name := "hasRoomFor", desc := "(II)Z" } : MethodName) ({ cls := "SweetWraps$Tin", name := "hasRoomFor", desc := "(II)Z" } : MethodName)) ∈ BIG := big_in2 69 _ rfl rfl
theorem bw_310 : (Cond.code ({ cls := "SweetWraps$Tin", name := "hasRoomFor", desc := "(II)Z" } : MethodName) prog_6_method_3_code (3 : Nat) (Option.some ClassFile.FieldType.boolean)) ∈ BIG := big_in2 70 _ rfl rfl
theorem bw_311 : (Cond.methodLink "SweetWraps$Machine" (119 : Nat) ({ cls := "SweetWraps$Machine", name := "reasonOf", desc := "(LSweetWraps$Lane;I)I" } : MethodName)) ∈ BIG := big_in2 71 _ rfl rfl
theorem bw_313 : (Cond.instanceMethod ({ cls := "SweetWraps$Machine", name := "reasonOf", desc := "(LSweetWraps$Lane;I)I" } : MethodName)) ∈ BIG := big_in2 73 _ rfl rfl
theorem bw_314 : (Cond.code ({ cls := "SweetWraps$Machine", name := "reasonOf", desc := "(LSweetWraps$Lane;I)I" } : MethodName) prog_4_method_15_code (3 : Nat) (Option.some ClassFile.FieldType.int)) ∈ BIG := big_in2 74 _ rfl rfl
theorem bw_315 : (Cond.methodLink "SweetWraps$Machine" (103 : Nat) ({ cls := "SweetWraps$Machine", name := "foilOfPull", desc := "()I" } : MethodName)) ∈ BIG := big_in2 75 _ rfl rfl
theorem bw_317 : (Cond.instanceMethod ({ cls := "SweetWraps$Machine", name := "foilOfPull", desc := "()I" } : MethodName)) ∈ BIG := big_in2 77 _ rfl rfl
theorem bw_318 : (Cond.code ({ cls := "SweetWraps$Machine", name := "foilOfPull", desc := "()I" } : MethodName) prog_4_method_13_code (1 : Nat) (Option.some ClassFile.FieldType.int)) ∈ BIG := big_in2 78 _ rfl rfl
theorem bw_319 : (Cond.methodLink "SweetWraps$Machine" (207 : Nat) ({ cls := "SweetWraps$Machine", name := "sweetsShipped", desc := "()I" } : MethodName)) ∈ BIG := big_in2 79 _ rfl rfl
theorem bw_321 : (Cond.instanceMethod ({ cls := "SweetWraps$Machine", name := "sweetsShipped", desc := "()I" } : MethodName)) ∈ BIG := big_in2 81 _ rfl rfl
theorem bw_322 : (Cond.code ({ cls := "SweetWraps$Machine", name := "sweetsShipped", desc := "()I" } : MethodName) prog_4_method_29_code (3 : Nat) (Option.some ClassFile.FieldType.int)) ∈ BIG := big_in2 82 _ rfl rfl
theorem bw_323 : (Cond.methodLink "SweetWraps$Machine" (181 : Nat) ({ cls := "SweetWraps$Machine", name := "sweetsInTins", desc := "(IZ)I" } : MethodName)) ∈ BIG := big_in2 83 _ rfl rfl
theorem bw_325 : (Cond.instanceMethod ({ cls := "SweetWraps$Machine", name := "sweetsInTins", desc := "(IZ)I" } : MethodName)) ∈ BIG := big_in2 85 _ rfl rfl
theorem bw_326 : (Cond.code ({ cls := "SweetWraps$Machine", name := "sweetsInTins", desc := "(IZ)I" } : MethodName) prog_4_method_34_code (5 : Nat) (Option.some ClassFile.FieldType.int)) ∈ BIG := big_in2 86 _ rfl rfl
theorem bw_327 : (Cond.methodLink "SweetWraps$Machine" (210 : Nat) ({ cls := "SweetWraps$Machine", name := "standingLanes", desc := "()I" } : MethodName)) ∈ BIG := big_in2 87 _ rfl rfl
theorem bw_329 : (Cond.instanceMethod ({ cls := "SweetWraps$Machine", name := "standingLanes", desc := "()I" } : MethodName)) ∈ BIG := big_in2 89 _ rfl rfl
theorem bw_330 : (Cond.code ({ cls := "SweetWraps$Machine", name := "standingLanes", desc := "()I" } : MethodName) prog_4_method_21_code (3 : Nat) (Option.some ClassFile.FieldType.int)) ∈ BIG := big_in2 90 _ rfl rfl
theorem bw_331 : (Cond.methodLink "SweetWrapsLaw" (34 : Nat) ({ cls := "SweetWraps", name := "ship", desc := "(I)I" } : MethodName)) ∈ BIG := big_in2 91 _ rfl rfl
theorem bw_332 : (Cond.instanceMethod ({ cls := "SweetWraps", name := "ship", desc := "(I)I" } : MethodName)) ∈ BIG := big_in2 92 _ rfl rfl
theorem bw_333 : (Cond.selects "SweetWraps" ({ cls := "SweetWraps", name := "ship", desc := "(I)I" } : MethodName) ({ cls := "SweetWraps", name := "ship", desc := "(I)I" } : MethodName)) ∈ BIG := big_in2 93 _ rfl rfl
theorem bw_334 : (Cond.code ({ cls := "SweetWraps", name := "ship", desc := "(I)I" } : MethodName) prog_1_method_6_code (2 : Nat) (Option.some ClassFile.FieldType.int)) ∈ BIG := big_in2 94 _ rfl rfl
theorem bw_335 : (Cond.methodLink "SweetWraps" (64 : Nat) ({ cls := "SweetWraps$Machine", name := "shipTin", desc := "(I)I" } : MethodName)) ∈ BIG := big_in2 95 _ rfl rfl
theorem bw_336 : (Cond.instanceMethod ({ cls := "SweetWraps$Machine", name := "shipTin", desc := "(I)I" } : MethodName)) ∈ BIG := big_in2 96 _ rfl rfl
theorem bw_337 : (Cond.selects "SweetWraps$Machine" ({ cls := "SweetWraps$Machine", name := "shipTin", desc := "(I)I" } : MethodName) ({ cls := "SweetWraps$Machine", name := "shipTin", desc := "(I)I" } : MethodName)) ∈ BIG := big_in2 97 _ rfl rfl
theorem bw_338 : (Cond.code ({ cls := "SweetWraps$Machine", name := "shipTin", desc := "(I)I" } : MethodName) prog_4_method_7_code (2 : Nat) (Option.some ClassFile.FieldType.int)) ∈ BIG := big_in2 98 _ rfl rfl
theorem bw_339 : (Cond.methodLink "SweetWrapsLaw" (37 : Nat) ({ cls := "SweetWraps", name := "apart", desc := "(II)I" } : MethodName)) ∈ BIG := big_in2 99 _ rfl rfl
theorem bw_340 : (Cond.instanceMethod ({ cls := "SweetWraps", name := "apart", desc := "(II)I" } : MethodName)) ∈ BIG := big_in2 100 _ rfl rfl
theorem bw_341 : (Cond.selects "SweetWraps" ({ cls := "SweetWraps", name := "apart", desc := "(II)I" } : MethodName) ({ cls := "SweetWraps", name := "apart", desc := "(II)I" } : MethodName)) ∈ BIG := big_in2 101 _ rfl rfl
theorem bw_342 : (Cond.code ({ cls := "SweetWraps", name := "apart", desc := "(II)I" } : MethodName) prog_1_method_7_code (3 : Nat) (Option.some ClassFile.FieldType.int)) ∈ BIG := big_in2 102 _ rfl rfl
theorem bw_343 : (Cond.methodLink "SweetWraps" (67 : Nat) ({ cls := "SweetWraps$Machine", name := "changeApart", desc := "(II)I" } : MethodName)) ∈ BIG := big_in2 103 _ rfl rfl
theorem bw_344 : (Cond.instanceMethod ({ cls := "SweetWraps$Machine", name := "changeApart", desc := "(II)I" } : MethodName)) ∈ BIG := big_in2 104 _ rfl rfl
theorem bw_345 : (Cond.selects "SweetWraps$Machine" ({ cls := "SweetWraps$Machine", name := "changeApart", desc := "(II)I" } : MethodName) ({ cls := "SweetWraps$Machine", name := "changeApart", desc := "(II)I" } : MethodName)) ∈ BIG := big_in2 105 _ rfl rfl
theorem bw_346 : (Cond.code ({ cls := "SweetWraps$Machine", name := "changeApart", desc := "(II)I" } : MethodName) prog_4_method_8_code (4 : Nat) (Option.some ClassFile.FieldType.int)) ∈ BIG := big_in2 106 _ rfl rfl
theorem bw_347 : (Cond.methodLink "SweetWraps$Machine" (88 : Nat) ({ cls := "SweetWraps$Machine", name := "isOpenTinWithBoth", desc := "(II)Z" } : MethodName)) ∈ BIG := big_in2 107 _ rfl rfl
theorem bw_349 : (Cond.instanceMethod ({ cls := "SweetWraps$Machine", name := "isOpenTinWithBoth", desc := "(II)Z" } : MethodName)) ∈ BIG := big_in2 109 _ rfl rfl
theorem bw_350 : (Cond.code ({ cls := "SweetWraps$Machine", name := "isOpenTinWithBoth", desc := "(II)Z" } : MethodName) prog_4_method_24_code (5 : Nat) (Option.some ClassFile.FieldType.boolean)) ∈ BIG := big_in2 110 _ rfl rfl
theorem bw_351 : (Cond.methodLink "SweetWraps$Machine" (171 : Nat) ({ cls := "SweetWraps$Machine", name := "isOpen", desc := "(I)Z" } : MethodName)) ∈ BIG := big_in2 111 _ rfl rfl
theorem bw_353 : (Cond.instanceMethod ({ cls := "SweetWraps$Machine", name := "isOpen", desc := "(I)Z" } : MethodName)) ∈ BIG := big_in2 113 _ rfl rfl
theorem bw_354 : (Cond.code ({ cls := "SweetWraps$Machine", name := "isOpen", desc := "(I)Z" } : MethodName) prog_4_method_23_code (2 : Nat) (Option.some ClassFile.FieldType.boolean)) ∈ BIG := big_in2 114 _ rfl rfl
theorem bw_355 : (Cond.methodLink "SweetWraps$Machine" (91 : Nat) ({ cls := "SweetWraps$Machine", name := "switchApart", desc := "(II)V" } : MethodName)) ∈ BIG := big_in2 115 _ rfl rfl
theorem bw_356 : (Cond.instanceMethod ({ cls := "SweetWraps$Machine", name := "switchApart", desc := "(II)V" } : MethodName)) ∈ BIG := big_in2 116 _ rfl rfl
theorem bw_357 : (Cond.selects "SweetWraps$Machine" ({ cls := "SweetWraps$Machine", name := "switchApart", desc := "(II)V" } : MethodName) ({ cls := "SweetWraps$Machine", name := "switchApart", desc := "(II)V" } : MethodName)) ∈ BIG := big_in2 117 _ rfl rfl
theorem bw_358 : (Cond.code ({ cls := "SweetWraps$Machine", name := "switchApart", desc := "(II)V" } : MethodName) prog_4_method_9_code (3 : Nat) (Option.none : Option ClassFile.FieldType)) ∈ BIG := big_in2 118 _ rfl rfl
theorem bw_359 : (Cond.methodLink "SweetWrapsLaw" (40 : Nat) ({ cls := "SweetWraps", name := "set", desc := "(II)I" } : MethodName)) ∈ BIG := big_in2 119 _ rfl rfl
theorem bw_360 : (Cond.instanceMethod ({ cls := "SweetWraps", name := "set", desc := "(II)I" } : MethodName)) ∈ BIG := big_in2 120 _ rfl rfl
theorem bw_361 : (Cond.selects "SweetWraps" ({ cls := "SweetWraps", name := "set", desc := "(II)I" } : MethodName) ({ cls := "SweetWraps", name := "set", desc := "(II)I" } : MethodName)) ∈ BIG := big_in2 121 _ rfl rfl
theorem bw_362 : (Cond.code ({ cls := "SweetWraps", name := "set", desc := "(II)I" } : MethodName) prog_1_method_2_code (3 : Nat) (Option.some ClassFile.FieldType.int)) ∈ BIG := big_in2 122 _ rfl rfl
theorem bw_363 : (Cond.methodLink "SweetWraps" (45 : Nat) ({ cls := "SweetWraps$Machine", name := "changeSetting", desc := "(II)I" } : MethodName)) ∈ BIG := big_in2 123 _ rfl rfl
theorem bw_364 : (Cond.instanceMethod ({ cls := "SweetWraps$Machine", name := "changeSetting", desc := "(II)I" } : MethodName)) ∈ BIG := big_in2 124 _ rfl rfl
theorem bw_365 : (Cond.selects "SweetWraps$Machine" ({ cls := "SweetWraps$Machine", name := "changeSetting", desc := "(II)I" } : MethodName) ({ cls := "SweetWraps$Machine", name := "changeSetting", desc := "(II)I" } : MethodName)) ∈ BIG := big_in2 125 _ rfl rfl
theorem bw_366 : (Cond.code ({ cls := "SweetWraps$Machine", name := "changeSetting", desc := "(II)I" } : MethodName) prog_4_method_3_code (4 : Nat) (Option.some ClassFile.FieldType.int)) ∈ BIG := big_in2 126 _ rfl rfl
theorem bw_371 : (Cond.methodLink "SweetWrapsLaw" (43 : Nat) ({ cls := "SweetWraps", name := "run", desc := "(I)I" } : MethodName)) ∈ BIG := big_in2 131 _ rfl rfl
theorem bw_372 : (Cond.instanceMethod ({ cls := "SweetWraps", name := "run", desc := "(I)I" } : MethodName)) ∈ BIG := big_in2 132 _ rfl rfl
theorem bw_373 : (Cond.selects "SweetWraps" ({ cls := "SweetWraps", name := "run", desc := "(I)I" } : MethodName) ({ cls := "SweetWraps", name := "run", desc := "(I)I" } : MethodName)) ∈ BIG := big_in2 133 _ rfl rfl
theorem bw_374 : (Cond.code ({ cls := "SweetWraps", name := "run", desc := "(I)I" } : MethodName) prog_1_method_8_code (2 : Nat) (Option.some ClassFile.FieldType.int)) ∈ BIG := big_in2 134 _ rfl rfl
theorem bw_375 : (Cond.methodLink "SweetWraps" (70 : Nat) ({ cls := "SweetWraps$Machine", name := "runTicks", desc := "(I)I" } : MethodName)) ∈ BIG := big_in2 135 _ rfl rfl
theorem bw_376 : (Cond.instanceMethod ({ cls := "SweetWraps$Machine", name := "runTicks", desc := "(I)I" } : MethodName)) ∈ BIG := big_in2 136 _ rfl rfl
theorem bw_377 : (Cond.selects "SweetWraps$Machine" ({ cls := "SweetWraps$Machine", name := "runTicks", desc := "(I)I" } : MethodName) ({ cls := "SweetWraps$Machine", name := "runTicks", desc := "(I)I" } : MethodName)) ∈ BIG := big_in2 137 _ rfl rfl
theorem bw_378 : (Cond.code ({ cls := "SweetWraps$Machine", name := "runTicks", desc := "(I)I" } : MethodName) prog_4_method_10_code (2 : Nat) (Option.some ClassFile.FieldType.int)) ∈ BIG := big_in2 138 _ rfl rfl
theorem bw_379 : (Cond.methodLink "SweetWraps$Machine" (95 : Nat) ({ cls := "SweetWraps$Machine", name := "work", desc := "(I)I" } : MethodName)) ∈ BIG := big_in2 139 _ rfl rfl
theorem bw_380 : (Cond.instanceMethod ({ cls := "SweetWraps$Machine", name := "work", desc := "(I)I" } : MethodName)) ∈ BIG := big_in2 140 _ rfl rfl
theorem bw_381 : (Cond.selects "SweetWraps$Machine" ({ cls := "SweetWraps$Machine", name := "work", desc := "(I)I" } : MethodName) ({ cls := "SweetWraps$Machine", name := "work", desc := "(I)I" } : MethodName)) ∈ BIG := big_in2 141 _ rfl rfl
theorem bw_382 : (Cond.code ({ cls := "SweetWraps$Machine", name := "work", desc := "(I)I" } : MethodName) prog_4_method_11_code (5 : Nat) (Option.some ClassFile.FieldType.int)) ∈ BIG := big_in2 142 _ rfl rfl
theorem bw_383 : (Cond.methodLink "SweetWraps$Machine" (99 : Nat) ({ cls := "SweetWraps$Machine", name := "workLane", desc := "(LSweetWraps$Lane;)I" } : MethodName)) ∈ BIG := big_in2 143 _ rfl rfl
theorem bw_385 : (Cond.instanceMethod ({ cls := "SweetWraps$Machine", name := "workLane", desc := "(LSweetWraps$Lane;)I" } : MethodName)) ∈ BIG := big_in2 145 _ rfl rfl
theorem bw_386 : (Cond.code ({ cls := "SweetWraps$Machine", name := "workLane", desc := "(LSweetWraps$Lane;)I" } : MethodName) prog_4_method_12_code (8 : Nat) (Option.some ClassFile.FieldType.int)) ∈ BIG := big_in2 146 _ rfl rfl
theorem bw_387 : (Cond.methodLink "SweetWraps$Machine" (107 : Nat) ({ cls := "SweetWraps$Machine", name := "pullsUntilTear", desc := "()I" } : MethodName)) ∈ BIG := big_in2 147 _ rfl rfl
theorem bw_389 : (Cond.instanceMethod ({ cls := "SweetWraps$Machine", name := "pullsUntilTear", desc := "()I" } : MethodName)) ∈ BIG := big_in2 149 _ rfl rfl
theorem bw_390 : (Cond.code ({ cls := "SweetWraps$Machine", name := "pullsUntilTear", desc := "()I" } : MethodName) prog_4_method_14_code (2 : Nat) (Option.some ClassFile.FieldType.int)) ∈ BIG := big_in2 150 _ rfl rfl
theorem bw_391 : (Cond.methodLink "SweetWraps$Machine" (133 : Nat) ({ cls := "java/lang/Math", name := "max", desc := "(II)I" } : MethodName)) ∈ BIG := big_in2 151 _ rfl rfl
theorem bw_392 : (Cond.static ({ cls := "java/lang/Math", name := "max", desc := "(II)I" } : MethodName)) ∈ BIG := big_in2 152 _ rfl rfl
theorem bw_393 : (Cond.code ({ cls := "java/lang/Math", name := "max", desc := "(II)I" } : MethodName) prog_9_method_65_code (2 : Nat) (Option.some ClassFile.FieldType.int)) ∈ BIG := big_in2 153 _ rfl rfl
theorem bw_394 : (Cond.methodLink "SweetWraps$Machine" (123 : Nat) ({ cls := "SweetWraps$Lane", name := "pullTears", desc := "(II)Z" } : MethodName)) ∈ BIG := big_in2 154 _ rfl rfl
theorem bw_395 : (Cond.instanceMethod ({ cls := "SweetWraps$Lane", name := "pullTears", desc := "(II)Z" } : MethodName)) ∈ BIG := big_in2 155 _ rfl rfl
theorem bw_396 : (Cond.selects "SweetWraps$Lane" ({ cls := "SweetWraps$Lane", name := "pullTears", desc := "(II)Z" } : MethodName) ({ cls := "SweetWraps$Lane", name := "pullTears", desc := "(II)Z" } : MethodName)) ∈ BIG := big_in2 156 _ rfl rfl
theorem bw_397 : (Cond.code ({ cls := "SweetWraps$Lane", name := "pullTears", desc := "(II)Z" } : MethodName) prog_3_method_8_code (3 : Nat) (Option.some ClassFile.FieldType.boolean)) ∈ BIG := big_in2 157 _ rfl rfl
theorem bw_398 : (Cond.methodLink "SweetWraps$Machine" (126 : Nat) ({ cls := "SweetWraps$Tin", name := "add", desc := "(I)V" } : MethodName)) ∈ BIG := big_in2 158 _ rfl rfl
theorem bw_399 : (Cond.instanceMethod ({ cls := "SweetWraps$Tin", name := "add", desc := "(I)V" } : MethodName)) ∈ BIG := big_in2 159 _ rfl rfl
theorem bw_400 : (Cond.selects "SweetWraps$Tin" ({ cls := "SweetWraps$Tin", name := "add", desc := "(I)V" } : MethodName) ({ cls := "SweetWraps$Tin", name := "add", desc := "(I)V" } : MethodName)) ∈ BIG := big_in2 160 _ rfl rfl
theorem bw_401 : (Cond.code ({ cls := "SweetWraps$Tin", name := "add", desc := "(I)V" } : MethodName) prog_6_method_4_code (2 : Nat) (Option.none : Option ClassFile.FieldType)) ∈ BIG := big_in2 161 _ rfl rfl
theorem bw_403 : (Cond.methodLink "SweetWraps$Machine" (130 : Nat) ({ cls := "SweetWraps$Lane", name := "wrapNext", desc := "()V" } : MethodName)) ∈ BIG := big_in2 163 _ rfl rfl
theorem bw_404 : (Cond.instanceMethod ({ cls := "SweetWraps$Lane", name := "wrapNext", desc := "()V" } : MethodName)) ∈ BIG := big_in2 164 _ rfl rfl
theorem bw_405 : (Cond.selects "SweetWraps$Lane" ({ cls := "SweetWraps$Lane", name := "wrapNext", desc := "()V" } : MethodName) ({ cls := "SweetWraps$Lane", name := "wrapNext", desc := "()V" } : MethodName)) ∈ BIG := big_in2 165 _ rfl rfl
theorem bw_406 : (Cond.code ({ cls := "SweetWraps$Lane", name := "wrapNext", desc := "()V" } : MethodName) prog_3_method_9_code (2 : Nat) (Option.none : Option ClassFile.FieldType)) ∈ BIG := big_in2 166 _ rfl rfl
theorem bw_407 : (Cond.methodLink "SweetWrapsLaw" (91 : Nat) ({ cls := "SweetWrapsLaw", name := "areTinsSo", desc := "(LSweetWraps;)Z" } : MethodName)) ∈ BIG := big_in2 167 _ rfl rfl
theorem bw_408 : (Cond.static ({ cls := "SweetWrapsLaw", name := "areTinsSo", desc := "(LSweetWraps;)Z" } : MethodName)) ∈ BIG := big_in2 168 _ rfl rfl
theorem bw_409 : (Cond.code ({ cls := "SweetWrapsLaw", name := "areTinsSo", desc := "(LSweetWraps;)Z" } : MethodName) method_6_code (12 : Nat) (Option.some ClassFile.FieldType.boolean)) ∈ BIG := big_in2 169 _ rfl rfl
theorem bw_410 : (Cond.methodLink "SweetWrapsLaw" (46 : Nat) ({ cls := "SweetWraps", name := "ofTin", desc := "(II)I" } : MethodName)) ∈ BIG := big_in2 170 _ rfl rfl
theorem bw_411 : (Cond.instanceMethod ({ cls := "SweetWraps", name := "ofTin", desc := "(II)I" } : MethodName)) ∈ BIG := big_in2 171 _ rfl rfl
theorem bw_412 : (Cond.selects "SweetWraps" ({ cls := "SweetWraps", name := "ofTin", desc := "(II)I" } : MethodName) ({ cls := "SweetWraps", name := "ofTin", desc := "(II)I" } : MethodName)) ∈ BIG := big_in2 172 _ rfl rfl
theorem bw_413 : (Cond.code ({ cls := "SweetWraps", name := "ofTin", desc := "(II)I" } : MethodName) prog_1_method_11_code (3 : Nat) (Option.some ClassFile.FieldType.int)) ∈ BIG := big_in2 173 _ rfl rfl
theorem bw_414 : (Cond.methodLink "SweetWraps" (79 : Nat) ({ cls := "SweetWraps$Machine", name := "tinFact", desc := "(II)I" } : MethodName)) ∈ BIG := big_in2 174 _ rfl rfl
theorem bw_415 : (Cond.instanceMethod ({ cls := "SweetWraps$Machine", name := "tinFact", desc := "(II)I" } : MethodName)) ∈ BIG := big_in2 175 _ rfl rfl
theorem bw_416 : (Cond.selects "SweetWraps$Machine" ({ cls := "SweetWraps$Machine", name := "tinFact", desc := "(II)I" } : MethodName) ({ cls := "SweetWraps$Machine", name := "tinFact", desc := "(II)I" } : MethodName)) ∈ BIG := big_in2 176 _ rfl rfl
theorem bw_417 : (Cond.code ({ cls := "SweetWraps$Machine", name := "tinFact", desc := "(II)I" } : MethodName) prog_4_method_25_code (3 : Nat) (Option.some ClassFile.FieldType.int)) ∈ BIG := big_in2 177 _ rfl rfl
theorem bw_418 : (Cond.methodLink "SweetWraps$Machine" (176 : Nat) ({ cls := "SweetWraps$Machine", name := "flavoursTakenBy", desc := "(LSweetWraps$Tin;)I" } : MethodName)) ∈ BIG := big_in2 178 _ rfl rfl
theorem bw_420 : (Cond.instanceMethod ({ cls := "SweetWraps$Machine", name := "flavoursTakenBy", desc := "(LSweetWraps$Tin;)I" } : MethodName)) ∈ BIG := big_in2 180 _ rfl rfl
theorem bw_421 : (Cond.code ({ cls := "SweetWraps$Machine", name := "flavoursTakenBy", desc := "(LSweetWraps$Tin;)I" } : MethodName) prog_4_method_26_code (4 : Nat) (Option.some ClassFile.FieldType.int)) ∈ BIG := big_in2 181 _ rfl rfl
theorem bw_422 : (Cond.methodLink "SweetWrapsLaw" (49 : Nat) ({ cls := "SweetWraps", name := "inTin", desc := "(II)I" } : MethodName)) ∈ BIG := big_in2 182 _ rfl rfl
theorem bw_423 : (Cond.instanceMethod ({ cls := "SweetWraps", name := "inTin", desc := "(II)I" } : MethodName)) ∈ BIG := big_in2 183 _ rfl rfl
theorem bw_424 : (Cond.selects "SweetWraps" ({ cls := "SweetWraps", name := "inTin", desc := "(II)I" } : MethodName) ({ cls := "SweetWraps", name := "inTin", desc := "(II)I" } : MethodName)) ∈ BIG := big_in2 184 _ rfl rfl
theorem bw_425 : (Cond.code ({ cls := "SweetWraps", name := "inTin", desc := "(II)I" } : MethodName) prog_1_method_12_code (3 : Nat) (Option.some ClassFile.FieldType.int)) ∈ BIG := big_in2 185 _ rfl rfl
theorem bw_426 : (Cond.methodLink "SweetWraps" (82 : Nat) ({ cls := "SweetWraps$Machine", name := "sweetsInTin", desc := "(II)I" } : MethodName)) ∈ BIG := big_in2 186 _ rfl rfl
theorem bw_427 : (Cond.instanceMethod ({ cls := "SweetWraps$Machine", name := "sweetsInTin", desc := "(II)I" } : MethodName)) ∈ BIG := big_in2 187 _ rfl rfl
theorem bw_428 : (Cond.selects "SweetWraps$Machine" ({ cls := "SweetWraps$Machine", name := "sweetsInTin", desc := "(II)I" } : MethodName) ({ cls := "SweetWraps$Machine", name := "sweetsInTin", desc := "(II)I" } : MethodName)) ∈ BIG := big_in2 188 _ rfl rfl
theorem bw_429 : (Cond.code ({ cls := "SweetWraps$Machine", name := "sweetsInTin", desc := "(II)I" } : MethodName) prog_4_method_27_code (3 : Nat) (Option.some ClassFile.FieldType.int)) ∈ BIG := big_in2 189 _ rfl rfl
theorem bw_430 : (Cond.methodLink "SweetWrapsLaw" (52 : Nat) ({ cls := "SweetWraps", name := "flavour", desc := "(II)I" } : MethodName)) ∈ BIG := big_in2 190 _ rfl rfl
theorem bw_431 : (Cond.instanceMethod ({ cls := "SweetWraps", name := "flavour", desc := "(II)I" } : MethodName)) ∈ BIG := big_in2 191 _ rfl rfl
theorem bw_432 : (Cond.selects "SweetWraps" ({ cls := "SweetWraps", name := "flavour", desc := "(II)I" } : MethodName) ({ cls := "SweetWraps", name := "flavour", desc := "(II)I" } : MethodName)) ∈ BIG := big_in2 192 _ rfl rfl
theorem bw_433 : (Cond.code ({ cls := "SweetWraps", name := "flavour", desc := "(II)I" } : MethodName) prog_1_method_13_code (3 : Nat) (Option.some ClassFile.FieldType.int)) ∈ BIG := big_in2 193 _ rfl rfl
theorem bw_434 : (Cond.methodLink "SweetWraps" (85 : Nat) ({ cls := "SweetWraps$Machine", name := "flavourFact", desc := "(II)I" } : MethodName)) ∈ BIG := big_in2 194 _ rfl rfl
theorem bw_435 : (Cond.instanceMethod ({ cls := "SweetWraps$Machine", name := "flavourFact", desc := "(II)I" } : MethodName)) ∈ BIG := big_in2 195 _ rfl rfl
theorem bw_436 : (Cond.selects "SweetWraps$Machine" ({ cls := "SweetWraps$Machine", name := "flavourFact", desc := "(II)I" } : MethodName) ({ cls := "SweetWraps$Machine", name := "flavourFact", desc := "(II)I" } : MethodName)) ∈ BIG := big_in2 196 _ rfl rfl
theorem bw_437 : (Cond.code ({ cls := "SweetWraps$Machine", name := "flavourFact", desc := "(II)I" } : MethodName) prog_4_method_32_code (3 : Nat) (Option.some ClassFile.FieldType.int)) ∈ BIG := big_in2 197 _ rfl rfl
theorem bw_438 : (Cond.methodLink "SweetWraps$Machine" (188 : Nat) ({ cls := "SweetWraps$Machine", name := "sweetsInHoppers", desc := "(I)I" } : MethodName)) ∈ BIG := big_in2 198 _ rfl rfl
theorem bw_440 : (Cond.instanceMethod ({ cls := "SweetWraps$Machine", name := "sweetsInHoppers", desc := "(I)I" } : MethodName)) ∈ BIG := big_in2 200 _ rfl rfl
theorem bw_441 : (Cond.code ({ cls := "SweetWraps$Machine", name := "sweetsInHoppers", desc := "(I)I" } : MethodName) prog_4_method_33_code (4 : Nat) (Option.some ClassFile.FieldType.int)) ∈ BIG := big_in2 201 _ rfl rfl
theorem bw_442 : (Cond.methodLink "SweetWraps$Machine" (191 : Nat) ({ cls := "SweetWraps$Lane", name := "sweetsOf", desc := "(I)I" } : MethodName)) ∈ BIG := big_in2 202 _ rfl rfl
theorem bw_443 : (Cond.instanceMethod ({ cls := "SweetWraps$Lane", name := "sweetsOf", desc := "(I)I" } : MethodName)) ∈ BIG := big_in2 203 _ rfl rfl
theorem bw_444 : (Cond.selects "SweetWraps$Lane" ({ cls := "SweetWraps$Lane", name := "sweetsOf", desc := "(I)I" } : MethodName) ({ cls := "SweetWraps$Lane", name := "sweetsOf", desc := "(I)I" } : MethodName)) ∈ BIG := big_in2 204 _ rfl rfl
theorem bw_445 : (Cond.code ({ cls := "SweetWraps$Lane", name := "sweetsOf", desc := "(I)I" } : MethodName) prog_3_method_6_code (4 : Nat) (Option.some ClassFile.FieldType.int)) ∈ BIG := big_in2 205 _ rfl rfl
theorem bw_446 : (Cond.methodLink "SweetWrapsLaw" (95 : Nat) ({ cls := "SweetWrapsLaw", name := "areLanesSo", desc := "(LSweetWraps;)Z" } : MethodName)) ∈ BIG := big_in2 206 _ rfl rfl
theorem bw_447 : (Cond.static ({ cls := "SweetWrapsLaw", name := "areLanesSo", desc := "(LSweetWraps;)Z" } : MethodName)) ∈ BIG := big_in2 207 _ rfl rfl
theorem bw_448 : (Cond.code ({ cls := "SweetWrapsLaw", name := "areLanesSo", desc := "(LSweetWraps;)Z" } : MethodName) method_7_code (11 : Nat) (Option.some ClassFile.FieldType.boolean)) ∈ BIG := big_in2 208 _ rfl rfl
theorem bw_449 : (Cond.methodLink "SweetWrapsLaw" (55 : Nat) ({ cls := "SweetWraps", name := "of", desc := "(II)I" } : MethodName)) ∈ BIG := big_in2 209 _ rfl rfl
theorem bw_450 : (Cond.instanceMethod ({ cls := "SweetWraps", name := "of", desc := "(II)I" } : MethodName)) ∈ BIG := big_in2 210 _ rfl rfl
theorem bw_451 : (Cond.selects "SweetWraps" ({ cls := "SweetWraps", name := "of", desc := "(II)I" } : MethodName) ({ cls := "SweetWraps", name := "of", desc := "(II)I" } : MethodName)) ∈ BIG := big_in2 211 _ rfl rfl
theorem bw_452 : (Cond.code ({ cls := "SweetWraps", name := "of", desc := "(II)I" } : MethodName) prog_1_method_9_code (3 : Nat) (Option.some ClassFile.FieldType.int)) ∈ BIG := big_in2 212 _ rfl rfl
theorem bw_453 : (Cond.methodLink "SweetWraps" (73 : Nat) ({ cls := "SweetWraps$Machine", name := "laneFact", desc := "(II)I" } : MethodName)) ∈ BIG := big_in2 213 _ rfl rfl
theorem bw_454 : (Cond.methodLink "SweetWrapsLaw" (58 : Nat) ({ cls := "SweetWraps", name := "ofHeap", desc := "(III)I" } : MethodName)) ∈ BIG := big_in2 214 _ rfl rfl
theorem bw_455 : (Cond.instanceMethod ({ cls := "SweetWraps", name := "ofHeap", desc := "(III)I" } : MethodName)) ∈ BIG := big_in2 215 _ rfl rfl
theorem bw_456 : (Cond.selects "SweetWraps" ({ cls := "SweetWraps", name := "ofHeap", desc := "(III)I" } : MethodName) ({ cls := "SweetWraps", name := "ofHeap", desc := "(III)I" } : MethodName)) ∈ BIG := big_in2 216 _ rfl rfl
theorem bw_457 : (Cond.code ({ cls := "SweetWraps", name := "ofHeap", desc := "(III)I" } : MethodName) prog_1_method_10_code (4 : Nat) (Option.some ClassFile.FieldType.int)) ∈ BIG := big_in2 217 _ rfl rfl
theorem bw_458 : (Cond.methodLink "SweetWraps" (76 : Nat) ({ cls := "SweetWraps$Machine", name := "heapFact", desc := "(III)I" } : MethodName)) ∈ BIG := big_in2 218 _ rfl rfl
theorem bw_459 : (Cond.instanceMethod ({ cls := "SweetWraps$Machine", name := "heapFact", desc := "(III)I" } : MethodName)) ∈ BIG := big_in2 219 _ rfl rfl
theorem bw_460 : (Cond.selects "SweetWraps$Machine" ({ cls := "SweetWraps$Machine", name := "heapFact", desc := "(III)I" } : MethodName) ({ cls := "SweetWraps$Machine", name := "heapFact", desc := "(III)I" } : MethodName)) ∈ BIG := big_in2 220 _ rfl rfl
theorem bw_461 : (Cond.code ({ cls := "SweetWraps$Machine", name := "heapFact", desc := "(III)I" } : MethodName) prog_4_method_19_code (4 : Nat) (Option.some ClassFile.FieldType.int)) ∈ BIG := big_in2 221 _ rfl rfl
theorem bw_462 : (Cond.methodLink "SweetWraps$Machine" (159 : Nat) ({ cls := "SweetWraps$Lane", name := "isHeap", desc := "(I)Z" } : MethodName)) ∈ BIG := big_in2 222 _ rfl rfl
theorem bw_463 : (Cond.methodLink "SweetWrapsLaw" (61 : Nat) ({ cls := "SweetWraps", name := "tinsFor", desc := "()I" } : MethodName)) ∈ BIG := big_in2 223 _ rfl rfl
theorem bw_464 : (Cond.instanceMethod ({ cls := "SweetWraps", name := "tinsFor", desc := "()I" } : MethodName)) ∈ BIG := big_in2 224 _ rfl rfl
theorem bw_465 : (Cond.selects "SweetWraps" ({ cls := "SweetWraps", name := "tinsFor", desc := "()I" } : MethodName) ({ cls := "SweetWraps", name := "tinsFor", desc := "()I" } : MethodName)) ∈ BIG := big_in2 225 _ rfl rfl
theorem bw_466 : (Cond.code ({ cls := "SweetWraps", name := "tinsFor", desc := "()I" } : MethodName) prog_1_method_20_code (1 : Nat) (Option.some ClassFile.FieldType.int)) ∈ BIG := big_in2 226 _ rfl rfl
theorem bw_467 : (Cond.methodLink "SweetWraps" (141 : Nat) ({ cls := "SweetWraps$Machine", name := "tinsForHoppers", desc := "()I" } : MethodName)) ∈ BIG := big_in2 227 _ rfl rfl
theorem bw_468 : (Cond.instanceMethod ({ cls := "SweetWraps$Machine", name := "tinsForHoppers", desc := "()I" } : MethodName)) ∈ BIG := big_in2 228 _ rfl rfl
theorem bw_469 : (Cond.selects "SweetWraps$Machine" ({ cls := "SweetWraps$Machine", name := "tinsForHoppers", desc := "()I" } : MethodName) ({ cls := "SweetWraps$Machine", name := "tinsForHoppers", desc := "()I" } : MethodName)) ∈ BIG := big_in2 229 _ rfl rfl
theorem bw_470 : (Cond.code ({ cls := "SweetWraps$Machine", name := "tinsForHoppers", desc := "()I" } : MethodName) prog_4_method_38_code (4 : Nat) (Option.some ClassFile.FieldType.int)) ∈ BIG := big_in2 230 _ rfl rfl
theorem bw_471 : (Cond.methodLink "SweetWrapsLaw" (98 : Nat) ({ cls := "SweetWrapsLaw", name := "areRanksSo", desc := "(LSweetWraps;)Z" } : MethodName)) ∈ BIG := big_in2 231 _ rfl rfl
theorem bw_472 : (Cond.static ({ cls := "SweetWrapsLaw", name := "areRanksSo", desc := "(LSweetWraps;)Z" } : MethodName)) ∈ BIG := big_in2 232 _ rfl rfl
theorem bw_473 : (Cond.code ({ cls := "SweetWrapsLaw", name := "areRanksSo", desc := "(LSweetWraps;)Z" } : MethodName) method_8_code (9 : Nat) (Option.some ClassFile.FieldType.boolean)) ∈ BIG := big_in2 233 _ rfl rfl
theorem bw_474 : (Cond.methodLink "SweetWrapsLaw" (64 : Nat) ({ cls := "SweetWraps", name := "byRoom", desc := "(I)I" } : MethodName)) ∈ BIG := big_in2 234 _ rfl rfl
theorem bw_475 : (Cond.instanceMethod ({ cls := "SweetWraps", name := "byRoom", desc := "(I)I" } : MethodName)) ∈ BIG := big_in2 235 _ rfl rfl
theorem bw_476 : (Cond.selects "SweetWraps" ({ cls := "SweetWraps", name := "byRoom", desc := "(I)I" } : MethodName) ({ cls := "SweetWraps", name := "byRoom", desc := "(I)I" } : MethodName)) ∈ BIG := big_in2 236 _ rfl rfl
theorem bw_477 : (Cond.code ({ cls := "SweetWraps", name := "byRoom", desc := "(I)I" } : MethodName) prog_1_method_14_code (2 : Nat) (Option.some ClassFile.FieldType.int)) ∈ BIG := big_in2 237 _ rfl rfl
theorem bw_478 : (Cond.methodLink "SweetWraps" (88 : Nat) ({ cls := "SweetWraps$Machine", name := "tinOfRank", desc := "(I)I" } : MethodName)) ∈ BIG := big_in2 238 _ rfl rfl
theorem bw_479 : (Cond.instanceMethod ({ cls := "SweetWraps$Machine", name := "tinOfRank", desc := "(I)I" } : MethodName)) ∈ BIG := big_in2 239 _ rfl rfl
theorem bw_480 : (Cond.selects "SweetWraps$Machine" ({ cls := "SweetWraps$Machine", name := "tinOfRank", desc := "(I)I" } : MethodName) ({ cls := "SweetWraps$Machine", name := "tinOfRank", desc := "(I)I" } : MethodName)) ∈ BIG := big_in3 0 _ rfl rfl
theorem bw_481 : (Cond.code ({ cls := "SweetWraps$Machine", name := "tinOfRank", desc := "(I)I" } : MethodName) prog_4_method_30_code (3 : Nat) (Option.some ClassFile.FieldType.int)) ∈ BIG := big_in3 1 _ rfl rfl
theorem bw_482 : (Cond.methodLink "SweetWraps$Machine" (185 : Nat) ({ cls := "SweetWraps$Machine", name := "openTinsAhead", desc := "(I)I" } : MethodName)) ∈ BIG := big_in3 2 _ rfl rfl
theorem bw_484 : (Cond.instanceMethod ({ cls := "SweetWraps$Machine", name := "openTinsAhead", desc := "(I)I" } : MethodName)) ∈ BIG := big_in3 4 _ rfl rfl
theorem bw_485 : (Cond.code ({ cls := "SweetWraps$Machine", name := "openTinsAhead", desc := "(I)I" } : MethodName) prog_4_method_31_code (5 : Nat) (Option.some ClassFile.FieldType.int)) ∈ BIG := big_in3 5 _ rfl rfl
theorem bw_486 : (Cond.methodLink "SweetWrapsLaw" (67 : Nat) ({ cls := "SweetWraps", name := "byCount", desc := "(I)I" } : MethodName)) ∈ BIG := big_in3 6 _ rfl rfl
theorem bw_487 : (Cond.instanceMethod ({ cls := "SweetWraps", name := "byCount", desc := "(I)I" } : MethodName)) ∈ BIG := big_in3 7 _ rfl rfl
theorem bw_488 : (Cond.selects "SweetWraps" ({ cls := "SweetWraps", name := "byCount", desc := "(I)I" } : MethodName) ({ cls := "SweetWraps", name := "byCount", desc := "(I)I" } : MethodName)) ∈ BIG := big_in3 8 _ rfl rfl
theorem bw_489 : (Cond.code ({ cls := "SweetWraps", name := "byCount", desc := "(I)I" } : MethodName) prog_1_method_15_code (2 : Nat) (Option.some ClassFile.FieldType.int)) ∈ BIG := big_in3 9 _ rfl rfl
theorem bw_490 : (Cond.methodLink "SweetWraps" (91 : Nat) ({ cls := "SweetWraps$Machine", name := "flavourOfRank", desc := "(I)I" } : MethodName)) ∈ BIG := big_in3 10 _ rfl rfl
theorem bw_491 : (Cond.instanceMethod ({ cls := "SweetWraps$Machine", name := "flavourOfRank", desc := "(I)I" } : MethodName)) ∈ BIG := big_in3 11 _ rfl rfl
theorem bw_492 : (Cond.selects "SweetWraps$Machine" ({ cls := "SweetWraps$Machine", name := "flavourOfRank", desc := "(I)I" } : MethodName) ({ cls := "SweetWraps$Machine", name := "flavourOfRank", desc := "(I)I" } : MethodName)) ∈ BIG := big_in3 12 _ rfl rfl
theorem bw_493 : (Cond.code ({ cls := "SweetWraps$Machine", name := "flavourOfRank", desc := "(I)I" } : MethodName) prog_4_method_36_code (3 : Nat) (Option.some ClassFile.FieldType.int)) ∈ BIG := big_in3 13 _ rfl rfl
theorem bw_494 : (Cond.methodLink "SweetWraps$Machine" (194 : Nat) ({ cls := "SweetWraps$Machine", name := "sweetsInAllTins", desc := "(I)I" } : MethodName)) ∈ BIG := big_in3 14 _ rfl rfl
theorem bw_496 : (Cond.instanceMethod ({ cls := "SweetWraps$Machine", name := "sweetsInAllTins", desc := "(I)I" } : MethodName)) ∈ BIG := big_in3 16 _ rfl rfl
theorem bw_497 : (Cond.code ({ cls := "SweetWraps$Machine", name := "sweetsInAllTins", desc := "(I)I" } : MethodName) prog_4_method_35_code (2 : Nat) (Option.some ClassFile.FieldType.int)) ∈ BIG := big_in3 17 _ rfl rfl
theorem bw_498 : (Cond.methodLink "SweetWraps$Machine" (197 : Nat) ({ cls := "SweetWraps$Machine", name := "flavoursAhead", desc := "(I)I" } : MethodName)) ∈ BIG := big_in3 18 _ rfl rfl
theorem bw_500 : (Cond.instanceMethod ({ cls := "SweetWraps$Machine", name := "flavoursAhead", desc := "(I)I" } : MethodName)) ∈ BIG := big_in3 20 _ rfl rfl
theorem bw_501 : (Cond.code ({ cls := "SweetWraps$Machine", name := "flavoursAhead", desc := "(I)I" } : MethodName) prog_4_method_37_code (6 : Nat) (Option.some ClassFile.FieldType.int)) ∈ BIG := big_in3 21 _ rfl rfl
theorem bw_502 : (Cond.methodLink "SweetWrapsLaw" (101 : Nat) ({ cls := "SweetWrapsLaw", name := "areTalesSo", desc := "(LSweetWraps;IIII)Z" } : MethodName)) ∈ BIG := big_in3 22 _ rfl rfl
theorem bw_503 : (Cond.static ({ cls := "SweetWrapsLaw", name := "areTalesSo", desc := "(LSweetWraps;IIII)Z" } : MethodName)) ∈ BIG := big_in3 23 _ rfl rfl
theorem bw_504 : (Cond.code ({ cls := "SweetWrapsLaw", name := "areTalesSo", desc := "(LSweetWraps;IIII)Z" } : MethodName) method_9_code (17 : Nat) (Option.some ClassFile.FieldType.boolean)) ∈ BIG := big_in3 24 _ rfl rfl
theorem bw_505 : (Cond.methodLink "SweetWrapsLaw" (70 : Nat) ({ cls := "SweetWraps", name := "stands", desc := "(II)I" } : MethodName)) ∈ BIG := big_in3 25 _ rfl rfl
theorem bw_506 : (Cond.instanceMethod ({ cls := "SweetWraps", name := "stands", desc := "(II)I" } : MethodName)) ∈ BIG := big_in3 26 _ rfl rfl
theorem bw_507 : (Cond.selects "SweetWraps" ({ cls := "SweetWraps", name := "stands", desc := "(II)I" } : MethodName) ({ cls := "SweetWraps", name := "stands", desc := "(II)I" } : MethodName)) ∈ BIG := big_in3 27 _ rfl rfl
theorem bw_508 : (Cond.code ({ cls := "SweetWraps", name := "stands", desc := "(II)I" } : MethodName) prog_1_method_17_code (5 : Nat) (Option.some ClassFile.FieldType.int)) ∈ BIG := big_in3 28 _ rfl rfl
theorem bw_509 : (Cond.methodLink "SweetWraps" (104 : Nat) ({ cls := "SweetWraps", name := "isIndex", desc := "(II)Z" } : MethodName)) ∈ BIG := big_in3 29 _ rfl rfl
theorem bw_510 : (Cond.methodLink "SweetWraps" (108 : Nat) ({ cls := "SweetWraps$Machine", name := "copyFrom", desc := "(LSweetWraps$Machine;)V" } : MethodName)) ∈ BIG := big_in3 30 _ rfl rfl
theorem bw_511 : (Cond.methodLink "SweetWraps" (111 : Nat) ({ cls := "SweetWraps$Machine", name := "work", desc := "(I)I" } : MethodName)) ∈ BIG := big_in3 31 _ rfl rfl
theorem bw_512 : (Cond.methodLink "SweetWrapsLaw" (73 : Nat) ({ cls := "SweetWraps", name := "bestSpeed", desc := "(II)I" } : MethodName)) ∈ BIG := big_in3 32 _ rfl rfl
theorem bw_513 : (Cond.instanceMethod ({ cls := "SweetWraps", name := "bestSpeed", desc := "(II)I" } : MethodName)) ∈ BIG := big_in3 33 _ rfl rfl
theorem bw_514 : (Cond.selects "SweetWraps" ({ cls := "SweetWraps", name := "bestSpeed", desc := "(II)I" } : MethodName) ({ cls := "SweetWraps", name := "bestSpeed", desc := "(II)I" } : MethodName)) ∈ BIG := big_in3 34 _ rfl rfl
theorem bw_515 : (Cond.code ({ cls := "SweetWraps", name := "bestSpeed", desc := "(II)I" } : MethodName) prog_1_method_18_code (7 : Nat) (Option.some ClassFile.FieldType.int)) ∈ BIG := big_in3 35 _ rfl rfl
theorem bw_516 : (Cond.methodLink "SweetWraps" (123 : Nat) ({ cls := "SweetWraps", name := "isBetween", desc := "(III)Z" } : MethodName)) ∈ BIG := big_in3 36 _ rfl rfl
theorem bw_517 : (Cond.fieldLink "SweetWraps" (127 : Nat) "SweetWraps" "LEAST_OF_SETTING" "[I") ∈ BIG := big_in3 37 _ rfl rfl
theorem bw_518 : (Cond.fieldLink "SweetWraps" (131 : Nat) "SweetWraps" "MOST_OF_SETTING" "[I") ∈ BIG := big_in3 38 _ rfl rfl
theorem bw_519 : (Cond.methodLink "SweetWrapsLaw" (76 : Nat) ({ cls := "SweetWraps", name := "ifApart", desc := "(III)I" } : MethodName)) ∈ BIG := big_in3 39 _ rfl rfl
theorem bw_520 : (Cond.instanceMethod ({ cls := "SweetWraps", name := "ifApart", desc := "(III)I" } : MethodName)) ∈ BIG := big_in3 40 _ rfl rfl
theorem bw_521 : (Cond.selects "SweetWraps" ({ cls := "SweetWraps", name := "ifApart", desc := "(III)I" } : MethodName) ({ cls := "SweetWraps", name := "ifApart", desc := "(III)I" } : MethodName)) ∈ BIG := big_in3 41 _ rfl rfl
theorem bw_522 : (Cond.code ({ cls := "SweetWraps", name := "ifApart", desc := "(III)I" } : MethodName) prog_1_method_19_code (4 : Nat) (Option.some ClassFile.FieldType.int)) ∈ BIG := big_in3 42 _ rfl rfl
theorem bw_523 : (Cond.methodLink "SweetWraps" (137 : Nat) ({ cls := "SweetWraps$Machine", name := "switchApart", desc := "(II)V" } : MethodName)) ∈ BIG := big_in3 43 _ rfl rfl
theorem bw_524 : (Cond.methodLink "SweetWrapsLaw" (79 : Nat) ({ cls := "SweetWraps", name := "undo", desc := "()I" } : MethodName)) ∈ BIG := big_in3 44 _ rfl rfl
theorem bw_525 : (Cond.instanceMethod ({ cls := "SweetWraps", name := "undo", desc := "()I" } : MethodName)) ∈ BIG := big_in3 45 _ rfl rfl
theorem bw_526 : (Cond.selects "SweetWraps" ({ cls := "SweetWraps", name := "undo", desc := "()I" } : MethodName) ({ cls := "SweetWraps", name := "undo", desc := "()I" } : MethodName)) ∈ BIG := big_in3 46 _ rfl rfl
theorem bw_527 : (Cond.code ({ cls := "SweetWraps", name := "undo", desc := "()I" } : MethodName) prog_1_method_26_code (1 : Nat) (Option.some ClassFile.FieldType.int)) ∈ BIG := big_in3 47 _ rfl rfl
theorem bw_528 : (Cond.methodLink "SweetWraps" (174 : Nat) ({ cls := "SweetWraps$History", name := "stepBack", desc := "(LSweetWraps$Machine;)I" } : MethodName)) ∈ BIG := big_in3 48 _ rfl rfl
theorem bw_529 : (Cond.instanceMethod ({ cls := "SweetWraps$History", name := "stepBack", desc := "(LSweetWraps$Machine;)I" } : MethodName)) ∈ BIG := big_in3 49 _ rfl rfl
theorem bw_530 : (Cond.selects "SweetWraps$History" ({ cls := "SweetWraps$History", name := "stepBack", desc := "(LSweetWraps$Machine;)I" } : MethodName) ({ cls := "SweetWraps$History", name := "stepBack", desc := "(LSweetWraps$Machine;)I" } : MethodName)) ∈ BIG := big_in3 50 _ rfl rfl
theorem bw_531 : (Cond.code ({ cls := "SweetWraps$History", name := "stepBack", desc := "(LSweetWraps$Machine;)I" } : MethodName) prog_2_method_5_code (2 : Nat) (Option.some ClassFile.FieldType.int)) ∈ BIG := big_in3 51 _ rfl rfl
theorem bs_0 : Cond.selects "SweetWraps$History" ({ cls := "SweetWraps$History", name := "dropOldest", desc := "()V" } : MethodName) ({ cls := "SweetWraps$History", name := "dropOldest", desc := "()V" } : MethodName) ∈ BIG := big_sel 0 _ rfl
theorem bs_1 : Cond.selects "SweetWraps$Machine" ({ cls := "SweetWraps$Machine", name := "tinsThatAre", desc := "(Z)I" } : MethodName) ({ cls := "SweetWraps$Machine", name := "tinsThatAre", desc := "(Z)I" } : MethodName) ∈ BIG := big_sel 1 _ rfl
theorem bs_2 : Cond.selects "SweetWraps$Machine" ({ cls := "SweetWraps$Machine", name := "isTin", desc := "(I)Z" } : MethodName) ({ cls := "SweetWraps$Machine", name := "isTin", desc := "(I)Z" } : MethodName) ∈ BIG := big_sel 2 _ rfl
theorem bs_3 : Cond.selects "SweetWraps$Machine" ({ cls := "SweetWraps$Machine", name := "overLanes", desc := "(I)I" } : MethodName) ({ cls := "SweetWraps$Machine", name := "overLanes", desc := "(I)I" } : MethodName) ∈ BIG := big_sel 3 _ rfl
theorem bs_4 : Cond.selects "SweetWraps$Machine" ({ cls := "SweetWraps$Machine", name := "reasonNow", desc := "(LSweetWraps$Lane;)I" } : MethodName) ({ cls := "SweetWraps$Machine", name := "reasonNow", desc := "(LSweetWraps$Lane;)I" } : MethodName) ∈ BIG := big_sel 4 _ rfl
theorem bs_5 : Cond.selects "SweetWraps$Machine" ({ cls := "SweetWraps$Machine", name := "tinFor", desc := "(I)I" } : MethodName) ({ cls := "SweetWraps$Machine", name := "tinFor", desc := "(I)I" } : MethodName) ∈ BIG := big_sel 5 _ rfl
theorem bs_6 : Cond.selects "SweetWraps$Machine" ({ cls := "SweetWraps$Machine", name := "reasonOf", desc := "(LSweetWraps$Lane;I)I" } : MethodName) ({ cls := "SweetWraps$Machine", name := "reasonOf", desc := "(LSweetWraps$Lane;I)I" } : MethodName) ∈ BIG := big_sel 6 _ rfl
theorem bs_7 : Cond.selects "SweetWraps$Machine" ({ cls := "SweetWraps$Machine", name := "foilOfPull", desc := "()I" } : MethodName) ({ cls := "SweetWraps$Machine", name := "foilOfPull", desc := "()I" } : MethodName) ∈ BIG := big_sel 7 _ rfl
theorem bs_8 : Cond.selects "SweetWraps$Machine" ({ cls := "SweetWraps$Machine", name := "sweetsShipped", desc := "()I" } : MethodName) ({ cls := "SweetWraps$Machine", name := "sweetsShipped", desc := "()I" } : MethodName) ∈ BIG := big_sel 8 _ rfl
theorem bs_9 : Cond.selects "SweetWraps$Machine" ({ cls := "SweetWraps$Machine", name := "sweetsInTins", desc := "(IZ)I" } : MethodName) ({ cls := "SweetWraps$Machine", name := "sweetsInTins", desc := "(IZ)I" } : MethodName) ∈ BIG := big_sel 9 _ rfl
theorem bs_10 : Cond.selects "SweetWraps$Machine" ({ cls := "SweetWraps$Machine", name := "standingLanes", desc := "()I" } : MethodName) ({ cls := "SweetWraps$Machine", name := "standingLanes", desc := "()I" } : MethodName) ∈ BIG := big_sel 10 _ rfl
theorem bs_11 : Cond.selects "SweetWraps$Machine" ({ cls := "SweetWraps$Machine", name := "isOpenTinWithBoth", desc := "(II)Z" } : MethodName) ({ cls := "SweetWraps$Machine", name := "isOpenTinWithBoth", desc := "(II)Z" } : MethodName) ∈ BIG := big_sel 11 _ rfl
theorem bs_12 : Cond.selects "SweetWraps$Machine" ({ cls := "SweetWraps$Machine", name := "isOpen", desc := "(I)Z" } : MethodName) ({ cls := "SweetWraps$Machine", name := "isOpen", desc := "(I)Z" } : MethodName) ∈ BIG := big_sel 12 _ rfl
theorem bs_13 : Cond.selects "SweetWraps$Machine" ({ cls := "SweetWraps$Machine", name := "workLane", desc := "(LSweetWraps$Lane;)I" } : MethodName) ({ cls := "SweetWraps$Machine", name := "workLane", desc := "(LSweetWraps$Lane;)I" } : MethodName) ∈ BIG := big_sel 13 _ rfl
theorem bs_14 : Cond.selects "SweetWraps$Machine" ({ cls := "SweetWraps$Machine", name := "pullsUntilTear", desc := "()I" } : MethodName) ({ cls := "SweetWraps$Machine", name := "pullsUntilTear", desc := "()I" } : MethodName) ∈ BIG := big_sel 14 _ rfl
theorem bs_15 : Cond.selects "SweetWraps$Machine" ({ cls := "SweetWraps$Machine", name := "flavoursTakenBy", desc := "(LSweetWraps$Tin;)I" } : MethodName) ({ cls := "SweetWraps$Machine", name := "flavoursTakenBy", desc := "(LSweetWraps$Tin;)I" } : MethodName) ∈ BIG := big_sel 15 _ rfl
theorem bs_16 : Cond.selects "SweetWraps$Machine" ({ cls := "SweetWraps$Machine", name := "sweetsInHoppers", desc := "(I)I" } : MethodName) ({ cls := "SweetWraps$Machine", name := "sweetsInHoppers", desc := "(I)I" } : MethodName) ∈ BIG := big_sel 16 _ rfl
theorem bs_17 : Cond.selects "SweetWraps$Machine" ({ cls := "SweetWraps$Machine", name := "openTinsAhead", desc := "(I)I" } : MethodName) ({ cls := "SweetWraps$Machine", name := "openTinsAhead", desc := "(I)I" } : MethodName) ∈ BIG := big_sel 17 _ rfl
theorem bs_18 : Cond.selects "SweetWraps$Machine" ({ cls := "SweetWraps$Machine", name := "sweetsInAllTins", desc := "(I)I" } : MethodName) ({ cls := "SweetWraps$Machine", name := "sweetsInAllTins", desc := "(I)I" } : MethodName) ∈ BIG := big_sel 18 _ rfl
theorem bs_19 : Cond.selects "SweetWraps$Machine" ({ cls := "SweetWraps$Machine", name := "flavoursAhead", desc := "(I)I" } : MethodName) ({ cls := "SweetWraps$Machine", name := "flavoursAhead", desc := "(I)I" } : MethodName) ∈ BIG := big_sel 19 _ rfl
