theorem ms_k15 : (Jvm.Cond.initialized "MarkupStore$MarkupReader") ∈ ms_tb := ms_i1 15 (by decide +kernel) (by decide +kernel)
theorem ms_k25 : (Jvm.Cond.initialized "MarkupStore$Step") ∈ ms_tb := ms_i1 25 (by decide +kernel) (by decide +kernel)
theorem ms_k29 : (Jvm.Cond.initialized "java/lang/Long") ∈ ms_tb := ms_i1 29 (by decide +kernel) (by decide +kernel)
theorem ms_k78 : (Jvm.Cond.classLink "MarkupStore$Tree" (9 : Nat) "MarkupStore$Node") ∈ ms_tb := ms_i1 78 (by decide +kernel) (by decide +kernel)
theorem ms_k90 : (Jvm.Cond.fieldLink "MarkupStore$Tree" (20 : Nat) "MarkupStore$Tree" "kept" "[LMarkupStore$Node;") ∈ ms_tb := ms_i1 90 (by decide +kernel) (by decide +kernel)
theorem ms_k91 : (Jvm.Cond.fieldLink "MarkupStore$Tree" (66 : Nat) "MarkupStore$Tree" "keptSize" "I") ∈ ms_tb := ms_i1 91 (by decide +kernel) (by decide +kernel)
theorem ms_k110 : (Jvm.Cond.fieldLink "MarkupStore" (34 : Nat) "MarkupStore" "changes" "I") ∈ ms_tb := ms_i1 110 (by decide +kernel) (by decide +kernel)
theorem ms_k321 : (Jvm.Cond.methodLink "MarkupStore$TextReader" (3 : Nat) ({ cls := "java/lang/Object", name := "<init>", desc := "()V" } : Jvm.MethodName)) ∈ ms_tb := ms_i2 81 (by decide +kernel) (by decide +kernel)
theorem ms_k349 : (Jvm.Cond.fieldLink "MarkupStore" (64 : Nat) "MarkupStore$MarkupReader" "read" "Ljava/util/ArrayList;") ∈ ms_tb := ms_i2 109 (by decide +kernel) (by decide +kernel)
theorem ms_k460 : (Jvm.Cond.fieldLink "MarkupStore$Tree" (49 : Nat) "MarkupStore$Node" "number" "I") ∈ ms_tb := ms_i2 220 (by decide +kernel) (by decide +kernel)
theorem ms_k472 : (Jvm.Cond.fieldLink "MarkupStore$Tree" (59 : Nat) "MarkupStore$Node" "text" "Ljava/lang/String;") ∈ ms_tb := ms_i2 232 (by decide +kernel) (by decide +kernel)
theorem ms_k474 : (Jvm.Cond.fieldLink "MarkupStore$Tree" (63 : Nat) "MarkupStore$Node" "keptText" "Ljava/lang/String;") ∈ ms_tb := ms_i2 234 (by decide +kernel) (by decide +kernel)
theorem ms_k706 : (Jvm.Cond.methodLink "MarkupStore" (73 : Nat) ({ cls := "MarkupStore$MarkupReader", name := "passesLimits", desc := "()Z" } : Jvm.MethodName)) ∈ ms_tb := ms_i3 226 (by decide +kernel) (by decide +kernel)
theorem ms_k707 : (Jvm.Cond.instanceMethod ({ cls := "MarkupStore$MarkupReader", name := "passesLimits", desc := "()Z" } : Jvm.MethodName)) ∈ ms_tb := ms_i3 227 (by decide +kernel) (by decide +kernel)
theorem ms_k708 : (Jvm.Cond.selects "MarkupStore$MarkupReader" ({ cls := "MarkupStore$MarkupReader", name := "passesLimits", desc := "()Z" } : Jvm.MethodName) ({ cls := "MarkupStore$MarkupReader", name := "passesLimits", desc := "()Z" } : Jvm.MethodName)) ∈ ms_tb := ms_i3 228 (by decide +kernel) (by decide +kernel)
theorem ms_k709 : (Jvm.Cond.code ({ cls := "MarkupStore$MarkupReader", name := "passesLimits", desc := "()Z" } : Jvm.MethodName) prog_3_method_2_code (2 : Nat) (Option.some Jvm.ClassFile.FieldType.boolean)) ∈ ms_tb := ms_i3 229 (by decide +kernel) (by decide +kernel)
theorem ms_k711 : (Jvm.Cond.methodLink "MarkupStore" (76 : Nat) ({ cls := "MarkupStore$Tree", name := "mayMake", desc := "(I)Z" } : Jvm.MethodName)) ∈ ms_tb := ms_i3 231 (by decide +kernel) (by decide +kernel)
theorem ms_k712 : (Jvm.Cond.instanceMethod ({ cls := "MarkupStore$Tree", name := "mayMake", desc := "(I)Z" } : Jvm.MethodName)) ∈ ms_tb := ms_i3 232 (by decide +kernel) (by decide +kernel)
theorem ms_k713 : (Jvm.Cond.selects "MarkupStore$Tree" ({ cls := "MarkupStore$Tree", name := "mayMake", desc := "(I)Z" } : Jvm.MethodName) ({ cls := "MarkupStore$Tree", name := "mayMake", desc := "(I)Z" } : Jvm.MethodName)) ∈ ms_tb := ms_i3 233 (by decide +kernel) (by decide +kernel)
theorem ms_k714 : (Jvm.Cond.code ({ cls := "MarkupStore$Tree", name := "mayMake", desc := "(I)Z" } : Jvm.MethodName) prog_11_method_3_code (2 : Nat) (Option.some Jvm.ClassFile.FieldType.boolean)) ∈ ms_tb := ms_i3 234 (by decide +kernel) (by decide +kernel)
theorem ms_k716 : (Jvm.Cond.instanceMethod ({ cls := "MarkupStore$Tree", name := "clear", desc := "()V" } : Jvm.MethodName)) ∈ ms_tb := ms_i3 236 (by decide +kernel) (by decide +kernel)
theorem ms_k717 : (Jvm.Cond.selects "MarkupStore$Tree" ({ cls := "MarkupStore$Tree", name := "clear", desc := "()V" } : Jvm.MethodName) ({ cls := "MarkupStore$Tree", name := "clear", desc := "()V" } : Jvm.MethodName)) ∈ ms_tb := ms_i3 237 (by decide +kernel) (by decide +kernel)
theorem ms_k718 : (Jvm.Cond.code ({ cls := "MarkupStore$Tree", name := "clear", desc := "()V" } : Jvm.MethodName) prog_11_method_10_code (1 : Nat) (Option.none : Option Jvm.ClassFile.FieldType)) ∈ ms_tb := ms_i3 238 (by decide +kernel) (by decide +kernel)
theorem ms_k719 : (Jvm.Cond.methodLink "MarkupStore$Tree" (55 : Nat) ({ cls := "MarkupStore$Tree", name := "takeOut", desc := "(II)V" } : Jvm.MethodName)) ∈ ms_tb := ms_i3 239 (by decide +kernel) (by decide +kernel)
theorem ms_k720 : (Jvm.Cond.instanceMethod ({ cls := "MarkupStore$Tree", name := "takeOut", desc := "(II)V" } : Jvm.MethodName)) ∈ ms_tb := ms_i4 0 (by decide +kernel) (by decide +kernel)
theorem ms_k721 : (Jvm.Cond.selects "MarkupStore$Tree" ({ cls := "MarkupStore$Tree", name := "takeOut", desc := "(II)V" } : Jvm.MethodName) ({ cls := "MarkupStore$Tree", name := "takeOut", desc := "(II)V" } : Jvm.MethodName)) ∈ ms_tb := ms_i4 1 (by decide +kernel) (by decide +kernel)
theorem ms_k722 : (Jvm.Cond.code ({ cls := "MarkupStore$Tree", name := "takeOut", desc := "(II)V" } : Jvm.MethodName) prog_11_method_9_code (4 : Nat) (Option.none : Option Jvm.ClassFile.FieldType)) ∈ ms_tb := ms_i4 2 (by decide +kernel) (by decide +kernel)
theorem ms_k723 : (Jvm.Cond.methodLink "MarkupStore$Tree" (52 : Nat) ({ cls := "MarkupStore$Tree", name := "setPlaces", desc := "()V" } : Jvm.MethodName)) ∈ ms_tb := ms_i4 3 (by decide +kernel) (by decide +kernel)
theorem ms_k725 : (Jvm.Cond.instanceMethod ({ cls := "MarkupStore$Tree", name := "setPlaces", desc := "()V" } : Jvm.MethodName)) ∈ ms_tb := ms_i4 5 (by decide +kernel) (by decide +kernel)
theorem ms_k726 : (Jvm.Cond.code ({ cls := "MarkupStore$Tree", name := "setPlaces", desc := "()V" } : Jvm.MethodName) prog_11_method_13_code (2 : Nat) (Option.none : Option Jvm.ClassFile.FieldType)) ∈ ms_tb := ms_i4 6 (by decide +kernel) (by decide +kernel)
theorem ms_k727 : (Jvm.Cond.methodLink "MarkupStore" (83 : Nat) ({ cls := "MarkupStore$Tree", name := "put", desc := "(Ljava/util/ArrayList;I)V" } : Jvm.MethodName)) ∈ ms_tb := ms_i4 7 (by decide +kernel) (by decide +kernel)
theorem ms_k728 : (Jvm.Cond.instanceMethod ({ cls := "MarkupStore$Tree", name := "put", desc := "(Ljava/util/ArrayList;I)V" } : Jvm.MethodName)) ∈ ms_tb := ms_i4 8 (by decide +kernel) (by decide +kernel)
theorem ms_k729 : (Jvm.Cond.selects "MarkupStore$Tree" ({ cls := "MarkupStore$Tree", name := "put", desc := "(Ljava/util/ArrayList;I)V" } : Jvm.MethodName) ({ cls := "MarkupStore$Tree", name := "put", desc := "(Ljava/util/ArrayList;I)V" } : Jvm.MethodName)) ∈ ms_tb := ms_i4 9 (by decide +kernel) (by decide +kernel)
theorem ms_k730 : (Jvm.Cond.code ({ cls := "MarkupStore$Tree", name := "put", desc := "(Ljava/util/ArrayList;I)V" } : Jvm.MethodName) prog_11_method_8_code (6 : Nat) (Option.none : Option Jvm.ClassFile.FieldType)) ∈ ms_tb := ms_i4 10 (by decide +kernel) (by decide +kernel)
theorem ms_k731 : (Jvm.Cond.methodLink "MarkupStore$Tree" (40 : Nat) ({ cls := "java/util/ArrayList", name := "size", desc := "()I" } : Jvm.MethodName)) ∈ ms_tb := ms_i4 11 (by decide +kernel) (by decide +kernel)
theorem ms_k732 : (Jvm.Cond.methodLink "MarkupStore$Tree" (45 : Nat) ({ cls := "java/util/ArrayList", name := "get", desc := "(I)Ljava/lang/Object;" } : Jvm.MethodName)) ∈ ms_tb := ms_i4 12 (by decide +kernel) (by decide +kernel)
theorem ms_k733 : (Jvm.Cond.methodLink "MarkupStore" (87 : Nat) ({ cls := "MarkupStore", name := "beginBatch", desc := "()V" } : Jvm.MethodName)) ∈ ms_tb := ms_i4 13 (by decide +kernel) (by decide +kernel)
theorem ms_k735 : (Jvm.Cond.instanceMethod ({ cls := "MarkupStore", name := "beginBatch", desc := "()V" } : Jvm.MethodName)) ∈ ms_tb := ms_i4 15 (by decide +kernel) (by decide +kernel)
theorem ms_k736 : (Jvm.Cond.code ({ cls := "MarkupStore", name := "beginBatch", desc := "()V" } : Jvm.MethodName) prog_1_method_20_code (1 : Nat) (Option.none : Option Jvm.ClassFile.FieldType)) ∈ ms_tb := ms_i4 16 (by decide +kernel) (by decide +kernel)
theorem ms_k737 : (Jvm.Cond.methodLink "MarkupStore" (236 : Nat) ({ cls := "MarkupStore$Tree", name := "keep", desc := "()V" } : Jvm.MethodName)) ∈ ms_tb := ms_i4 17 (by decide +kernel) (by decide +kernel)
theorem ms_k738 : (Jvm.Cond.instanceMethod ({ cls := "MarkupStore$Tree", name := "keep", desc := "()V" } : Jvm.MethodName)) ∈ ms_tb := ms_i4 18 (by decide +kernel) (by decide +kernel)
theorem ms_k739 : (Jvm.Cond.selects "MarkupStore$Tree" ({ cls := "MarkupStore$Tree", name := "keep", desc := "()V" } : Jvm.MethodName) ({ cls := "MarkupStore$Tree", name := "keep", desc := "()V" } : Jvm.MethodName)) ∈ ms_tb := ms_i4 19 (by decide +kernel) (by decide +kernel)
theorem ms_k740 : (Jvm.Cond.code ({ cls := "MarkupStore$Tree", name := "keep", desc := "()V" } : Jvm.MethodName) prog_11_method_11_code (2 : Nat) (Option.none : Option Jvm.ClassFile.FieldType)) ∈ ms_tb := ms_i4 20 (by decide +kernel) (by decide +kernel)
theorem ms_k901 : (Jvm.Cond.fieldLink "MarkupStore$Walker" (33 : Nat) "MarkupStore$Path" "fromDocument" "Z") ∈ ms_tb := ms_i4 181 (by decide +kernel) (by decide +kernel)
theorem ms_k903 : (Jvm.Cond.fieldLink "MarkupStore$Walker" (15 : Nat) "MarkupStore$Path" "steps" "Ljava/util/ArrayList;") ∈ ms_tb := ms_i4 183 (by decide +kernel) (by decide +kernel)
theorem ms_k925 : (Jvm.Cond.fieldLink "MarkupStore$Walker" (160 : Nat) "MarkupStore$Step" "axis" "C") ∈ ms_tb := ms_i4 205 (by decide +kernel) (by decide +kernel)
theorem ms_k931 : (Jvm.Cond.fieldLink "MarkupStore$Walker" (62 : Nat) "MarkupStore$Step" "predicates" "Ljava/util/ArrayList;") ∈ ms_tb := ms_i4 211 (by decide +kernel) (by decide +kernel)
theorem ms_k934 : (Jvm.Cond.fieldLink "MarkupStore$Walker" (50 : Nat) "MarkupStore$Step" "ofKind" "J") ∈ ms_tb := ms_i4 214 (by decide +kernel) (by decide +kernel)
theorem ms_k1018 : (Jvm.Cond.methodLink "MarkupStore$Predicate" (1 : Nat) ({ cls := "java/lang/Object", name := "<init>", desc := "()V" } : Jvm.MethodName)) ∈ ms_tb := ms_i5 58 (by decide +kernel) (by decide +kernel)
theorem ms_k1020 : (Jvm.Cond.fieldLink "MarkupStore$Predicate" (9 : Nat) "MarkupStore$Predicate" "sort" "C") ∈ ms_tb := ms_i5 60 (by decide +kernel) (by decide +kernel)
theorem ms_k1021 : (Jvm.Cond.fieldLink "MarkupStore$Walker" (71 : Nat) "MarkupStore$Predicate" "sort" "C") ∈ ms_tb := ms_i5 61 (by decide +kernel) (by decide +kernel)
theorem ms_k1023 : (Jvm.Cond.fieldLink "MarkupStore$Predicate" (13 : Nat) "MarkupStore$Predicate" "negated" "Z") ∈ ms_tb := ms_i5 63 (by decide +kernel) (by decide +kernel)
theorem ms_k1025 : (Jvm.Cond.fieldLink "MarkupStore$Walker" (191 : Nat) "MarkupStore$Predicate" "negated" "Z") ∈ ms_tb := ms_i5 65 (by decide +kernel) (by decide +kernel)
theorem ms_k1026 : (Jvm.Cond.fieldLink "MarkupStore$Predicate" (17 : Nat) "MarkupStore$Predicate" "position" "I") ∈ ms_tb := ms_i5 66 (by decide +kernel) (by decide +kernel)
theorem ms_k1028 : (Jvm.Cond.fieldLink "MarkupStore$Walker" (178 : Nat) "MarkupStore$Predicate" "position" "I") ∈ ms_tb := ms_i5 68 (by decide +kernel) (by decide +kernel)
theorem ms_k1029 : (Jvm.Cond.fieldLink "MarkupStore$Predicate" (23 : Nat) "MarkupStore$Predicate" "name" "Ljava/lang/String;") ∈ ms_tb := ms_i5 69 (by decide +kernel) (by decide +kernel)
theorem ms_k1032 : (Jvm.Cond.fieldLink "MarkupStore$Predicate" (27 : Nat) "MarkupStore$Predicate" "path" "LMarkupStore$Path;") ∈ ms_tb := ms_i5 72 (by decide +kernel) (by decide +kernel)
theorem ms_k1035 : (Jvm.Cond.fieldLink "MarkupStore$Predicate" (31 : Nat) "MarkupStore$Predicate" "comparison" "C") ∈ ms_tb := ms_i5 75 (by decide +kernel) (by decide +kernel)
theorem ms_k1038 : (Jvm.Cond.fieldLink "MarkupStore$Predicate" (34 : Nat) "MarkupStore$Predicate" "string" "Ljava/lang/String;") ∈ ms_tb := ms_i5 78 (by decide +kernel) (by decide +kernel)
theorem ms_k1041 : (Jvm.Cond.fieldLink "MarkupStore$Predicate" (37 : Nat) "MarkupStore$Predicate" "holds" "J") ∈ ms_tb := ms_i5 81 (by decide +kernel) (by decide +kernel)
theorem ms_k1042 : (Jvm.Cond.fieldLink "MarkupStore$Walker" (79 : Nat) "MarkupStore$Predicate" "holds" "J") ∈ ms_tb := ms_i5 82 (by decide +kernel) (by decide +kernel)
theorem ms_k1087 : (Jvm.Cond.methodLink "MarkupStore$Walker" (3 : Nat) ({ cls := "java/lang/Object", name := "<init>", desc := "()V" } : Jvm.MethodName)) ∈ ms_tb := ms_i5 127 (by decide +kernel) (by decide +kernel)
theorem ms_k1096 : (Jvm.Cond.methodLink "MarkupStore$Walker" (21 : Nat) ({ cls := "java/util/ArrayList", name := "size", desc := "()I" } : Jvm.MethodName)) ∈ ms_tb := ms_i5 136 (by decide +kernel) (by decide +kernel)
theorem ms_k1097 : (Jvm.Cond.methodLink "MarkupStore$Walker" (27 : Nat) ({ cls := "java/util/ArrayList", name := "get", desc := "(I)Ljava/lang/Object;" } : Jvm.MethodName)) ∈ ms_tb := ms_i5 137 (by decide +kernel) (by decide +kernel)
theorem ms_k1098 : (Jvm.Cond.classLink "MarkupStore$Walker" (31 : Nat) "MarkupStore$Step") ∈ ms_tb := ms_i5 138 (by decide +kernel) (by decide +kernel)
theorem ms_k1104 : (Jvm.Cond.classLink "MarkupStore$Walker" (65 : Nat) "MarkupStore$Predicate") ∈ ms_tb := ms_i5 144 (by decide +kernel) (by decide +kernel)
theorem ms_k1138 : (Jvm.Cond.methodLink "MarkupStore$Walker" (37 : Nat) ({ cls := "MarkupStore$Walker", name := "lead", desc := "(LMarkupStore$Step;I)J" } : Jvm.MethodName)) ∈ ms_tb := ms_i5 178 (by decide +kernel) (by decide +kernel)
theorem ms_k1140 : (Jvm.Cond.instanceMethod ({ cls := "MarkupStore$Walker", name := "lead", desc := "(LMarkupStore$Step;I)J" } : Jvm.MethodName)) ∈ ms_tb := ms_i5 180 (by decide +kernel) (by decide +kernel)
theorem ms_k1141 : (Jvm.Cond.code ({ cls := "MarkupStore$Walker", name := "lead", desc := "(LMarkupStore$Step;I)J" } : Jvm.MethodName) prog_12_method_12_code (8 : Nat) (Option.some Jvm.ClassFile.FieldType.long)) ∈ ms_tb := ms_i5 181 (by decide +kernel) (by decide +kernel)
theorem ms_k1142 : (Jvm.Cond.methodLink "MarkupStore$Walker" (163 : Nat) ({ cls := "MarkupStore$Walker", name := "documentAxis", desc := "(C)J" } : Jvm.MethodName)) ∈ ms_tb := ms_i5 182 (by decide +kernel) (by decide +kernel)
theorem ms_k1144 : (Jvm.Cond.instanceMethod ({ cls := "MarkupStore$Walker", name := "documentAxis", desc := "(C)J" } : Jvm.MethodName)) ∈ ms_tb := ms_i5 184 (by decide +kernel) (by decide +kernel)
theorem ms_k1145 : (Jvm.Cond.code ({ cls := "MarkupStore$Walker", name := "documentAxis", desc := "(C)J" } : Jvm.MethodName) prog_12_method_15_code (2 : Nat) (Option.some Jvm.ClassFile.FieldType.long)) ∈ ms_tb := ms_i5 185 (by decide +kernel) (by decide +kernel)
theorem ms_k1146 : (Jvm.Cond.methodLink "MarkupStore$Walker" (167 : Nat) ({ cls := "MarkupStore$Walker", name := "axis", desc := "(CLMarkupStore$Node;)J" } : Jvm.MethodName)) ∈ ms_tb := ms_i5 186 (by decide +kernel) (by decide +kernel)
theorem ms_k1148 : (Jvm.Cond.instanceMethod ({ cls := "MarkupStore$Walker", name := "axis", desc := "(CLMarkupStore$Node;)J" } : Jvm.MethodName)) ∈ ms_tb := ms_i5 188 (by decide +kernel) (by decide +kernel)
theorem ms_k1149 : (Jvm.Cond.code ({ cls := "MarkupStore$Walker", name := "axis", desc := "(CLMarkupStore$Node;)J" } : Jvm.MethodName) prog_12_method_16_code (3 : Nat) (Option.some Jvm.ClassFile.FieldType.long)) ∈ ms_tb := ms_i5 189 (by decide +kernel) (by decide +kernel)
theorem ms_k1159 : (Jvm.Cond.methodLink "MarkupStore$Walker" (170 : Nat) ({ cls := "MarkupStore$Step", name := "goesBackwards", desc := "()Z" } : Jvm.MethodName)) ∈ ms_tb := ms_i5 199 (by decide +kernel) (by decide +kernel)
theorem ms_k1160 : (Jvm.Cond.instanceMethod ({ cls := "MarkupStore$Step", name := "goesBackwards", desc := "()Z" } : Jvm.MethodName)) ∈ ms_tb := ms_i5 200 (by decide +kernel) (by decide +kernel)
theorem ms_k1161 : (Jvm.Cond.selects "MarkupStore$Step" ({ cls := "MarkupStore$Step", name := "goesBackwards", desc := "()Z" } : Jvm.MethodName) ({ cls := "MarkupStore$Step", name := "goesBackwards", desc := "()Z" } : Jvm.MethodName)) ∈ ms_tb := ms_i5 201 (by decide +kernel) (by decide +kernel)
theorem ms_k1162 : (Jvm.Cond.code ({ cls := "MarkupStore$Step", name := "goesBackwards", desc := "()Z" } : Jvm.MethodName) prog_9_method_2_code (1 : Nat) (Option.some Jvm.ClassFile.FieldType.boolean)) ∈ ms_tb := ms_i5 202 (by decide +kernel) (by decide +kernel)
theorem ms_k1163 : (Jvm.Cond.methodLink "MarkupStore$Walker" (174 : Nat) ({ cls := "MarkupStore$Walker", name := "sift", desc := "(LMarkupStore$Predicate;JZ)J" } : Jvm.MethodName)) ∈ ms_tb := ms_i5 203 (by decide +kernel) (by decide +kernel)
theorem ms_k1165 : (Jvm.Cond.instanceMethod ({ cls := "MarkupStore$Walker", name := "sift", desc := "(LMarkupStore$Predicate;JZ)J" } : Jvm.MethodName)) ∈ ms_tb := ms_i5 205 (by decide +kernel) (by decide +kernel)
theorem ms_k1166 : (Jvm.Cond.code ({ cls := "MarkupStore$Walker", name := "sift", desc := "(LMarkupStore$Predicate;JZ)J" } : Jvm.MethodName) prog_12_method_13_code (7 : Nat) (Option.some Jvm.ClassFile.FieldType.long)) ∈ ms_tb := ms_i5 206 (by decide +kernel) (by decide +kernel)
theorem ms_k1167 : (Jvm.Cond.methodLink "MarkupStore$Walker" (181 : Nat) ({ cls := "MarkupStore$Walker", name := "atPosition", desc := "(IJZ)J" } : Jvm.MethodName)) ∈ ms_tb := ms_i5 207 (by decide +kernel) (by decide +kernel)
theorem ms_k1169 : (Jvm.Cond.instanceMethod ({ cls := "MarkupStore$Walker", name := "atPosition", desc := "(IJZ)J" } : Jvm.MethodName)) ∈ ms_tb := ms_i5 209 (by decide +kernel) (by decide +kernel)
theorem ms_k1170 : (Jvm.Cond.code ({ cls := "MarkupStore$Walker", name := "atPosition", desc := "(IJZ)J" } : Jvm.MethodName) prog_12_method_14_code (10 : Nat) (Option.some Jvm.ClassFile.FieldType.long)) ∈ ms_tb := ms_i5 210 (by decide +kernel) (by decide +kernel)
theorem ms_k1171 : (Jvm.Cond.methodLink "MarkupStore$Walker" (185 : Nat) ({ cls := "java/lang/Long", name := "bitCount", desc := "(J)I" } : Jvm.MethodName)) ∈ ms_tb := ms_i5 211 (by decide +kernel) (by decide +kernel)
theorem ms_k1172 : (Jvm.Cond.static ({ cls := "java/lang/Long", name := "bitCount", desc := "(J)I" } : Jvm.MethodName)) ∈ ms_tb := ms_i5 212 (by decide +kernel) (by decide +kernel)
theorem ms_k1173 : (Jvm.Cond.code ({ cls := "java/lang/Long", name := "bitCount", desc := "(J)I" } : Jvm.MethodName) prog_20_method_50_code (2 : Nat) (Option.some Jvm.ClassFile.FieldType.int)) ∈ ms_tb := ms_i5 213 (by decide +kernel) (by decide +kernel)
theorem ms_k1174 : (Jvm.Cond.constantLong "java/lang/Long" (314 : Nat) (6148914691236517205 : Int64)) ∈ ms_tb := ms_i5 214 (by decide +kernel) (by decide +kernel)
theorem ms_k1175 : (Jvm.Cond.constantLong "java/lang/Long" (316 : Nat) (3689348814741910323 : Int64)) ∈ ms_tb := ms_i5 215 (by decide +kernel) (by decide +kernel)
theorem ms_k1176 : (Jvm.Cond.constantLong "java/lang/Long" (318 : Nat) (1085102592571150095 : Int64)) ∈ ms_tb := ms_i5 216 (by decide +kernel) (by decide +kernel)
theorem ms_k1177 : (Jvm.Cond.methodLink "MarkupStore$Walker" (153 : Nat) ({ cls := "MarkupStore$Walker", name := "whence", desc := "(LMarkupStore$Step;J)J" } : Jvm.MethodName)) ∈ ms_tb := ms_i5 217 (by decide +kernel) (by decide +kernel)
theorem ms_k1179 : (Jvm.Cond.instanceMethod ({ cls := "MarkupStore$Walker", name := "whence", desc := "(LMarkupStore$Step;J)J" } : Jvm.MethodName)) ∈ ms_tb := ms_i5 219 (by decide +kernel) (by decide +kernel)
theorem ms_k1180 : (Jvm.Cond.code ({ cls := "MarkupStore$Walker", name := "whence", desc := "(LMarkupStore$Step;J)J" } : Jvm.MethodName) prog_12_method_10_code (7 : Nat) (Option.some Jvm.ClassFile.FieldType.long)) ∈ ms_tb := ms_i5 220 (by decide +kernel) (by decide +kernel)
theorem ms_k1185 : (Jvm.Cond.methodLink "MarkupStore$Walker" (41 : Nat) ({ cls := "MarkupStore$Walker", name := "leadAll", desc := "(LMarkupStore$Step;J)J" } : Jvm.MethodName)) ∈ ms_tb := ms_i5 225 (by decide +kernel) (by decide +kernel)
theorem ms_k1187 : (Jvm.Cond.instanceMethod ({ cls := "MarkupStore$Walker", name := "leadAll", desc := "(LMarkupStore$Step;J)J" } : Jvm.MethodName)) ∈ ms_tb := ms_i5 227 (by decide +kernel) (by decide +kernel)
theorem ms_k1188 : (Jvm.Cond.code ({ cls := "MarkupStore$Walker", name := "leadAll", desc := "(LMarkupStore$Step;J)J" } : Jvm.MethodName) prog_12_method_11_code (7 : Nat) (Option.some Jvm.ClassFile.FieldType.long)) ∈ ms_tb := ms_i5 228 (by decide +kernel) (by decide +kernel)
theorem ms_k1189 : (Jvm.Cond.methodLink "MarkupStore$Walker" (156 : Nat) ({ cls := "MarkupStore$Walker", name := "has", desc := "(JI)Z" } : Jvm.MethodName)) ∈ ms_tb := ms_i5 229 (by decide +kernel) (by decide +kernel)
theorem ms_k1190 : (Jvm.Cond.static ({ cls := "MarkupStore$Walker", name := "has", desc := "(JI)Z" } : Jvm.MethodName)) ∈ ms_tb := ms_i5 230 (by decide +kernel) (by decide +kernel)
theorem ms_k1191 : (Jvm.Cond.code ({ cls := "MarkupStore$Walker", name := "has", desc := "(JI)Z" } : Jvm.MethodName) prog_12_method_2_code (3 : Nat) (Option.some Jvm.ClassFile.FieldType.boolean)) ∈ ms_tb := ms_i5 231 (by decide +kernel) (by decide +kernel)
theorem ms_k1196 : (Jvm.Cond.methodLink "MarkupStore" (239 : Nat) ({ cls := "MarkupStore$Walker", name := "has", desc := "(JI)Z" } : Jvm.MethodName)) ∈ ms_tb := ms_i5 236 (by decide +kernel) (by decide +kernel)
theorem ms_k1213 : (Jvm.Cond.methodLink "MarkupStore$Tree" (69 : Nat) ({ cls := "MarkupStore$Tree", name := "clear", desc := "()V" } : Jvm.MethodName)) ∈ ms_tb := ms_i6 13 (by decide +kernel) (by decide +kernel)
theorem ms_k1251 : (Jvm.Cond.methodLink "MarkupStore$Scribe" (3 : Nat) ({ cls := "java/lang/Object", name := "<init>", desc := "()V" } : Jvm.MethodName)) ∈ ms_tb := ms_i6 51 (by decide +kernel) (by decide +kernel)
theorem ms_p14 : Cond.selects "MarkupStore$Tree" (⟨"MarkupStore$Tree", "setPlaces", "()V"⟩ : MethodName) (⟨"MarkupStore$Tree", "setPlaces", "()V"⟩ : MethodName) ∈ ms_tb := ms_inP 14 (by decide +kernel) (by decide +kernel)
theorem ms_p15 : Cond.selects "MarkupStore" (⟨"MarkupStore", "beginBatch", "()V"⟩ : MethodName) (⟨"MarkupStore", "beginBatch", "()V"⟩ : MethodName) ∈ ms_tb := ms_inP 15 (by decide +kernel) (by decide +kernel)
theorem ms_p29 : Cond.selects "MarkupStore$Walker" (⟨"MarkupStore$Walker", "lead", "(LMarkupStore$Step;I)J"⟩ : MethodName) (⟨"MarkupStore$Walker", "lead", "(LMarkupStore$Step;I)J"⟩ : MethodName) ∈ ms_tb := ms_inP 29 (by decide +kernel) (by decide +kernel)
theorem ms_p30 : Cond.selects "MarkupStore$Walker" (⟨"MarkupStore$Walker", "documentAxis", "(C)J"⟩ : MethodName) (⟨"MarkupStore$Walker", "documentAxis", "(C)J"⟩ : MethodName) ∈ ms_tb := ms_inP 30 (by decide +kernel) (by decide +kernel)
theorem ms_p31 : Cond.selects "MarkupStore$Walker" (⟨"MarkupStore$Walker", "axis", "(CLMarkupStore$Node;)J"⟩ : MethodName) (⟨"MarkupStore$Walker", "axis", "(CLMarkupStore$Node;)J"⟩ : MethodName) ∈ ms_tb := ms_inP 31 (by decide +kernel) (by decide +kernel)
theorem ms_p34 : Cond.selects "MarkupStore$Walker" (⟨"MarkupStore$Walker", "sift", "(LMarkupStore$Predicate;JZ)J"⟩ : MethodName) (⟨"MarkupStore$Walker", "sift", "(LMarkupStore$Predicate;JZ)J"⟩ : MethodName) ∈ ms_tb := ms_inP 34 (by decide +kernel) (by decide +kernel)
theorem ms_p35 : Cond.selects "MarkupStore$Walker" (⟨"MarkupStore$Walker", "atPosition", "(IJZ)J"⟩ : MethodName) (⟨"MarkupStore$Walker", "atPosition", "(IJZ)J"⟩ : MethodName) ∈ ms_tb := ms_inP 35 (by decide +kernel) (by decide +kernel)
theorem ms_p36 : Cond.selects "MarkupStore$Walker" (⟨"MarkupStore$Walker", "whence", "(LMarkupStore$Step;J)J"⟩ : MethodName) (⟨"MarkupStore$Walker", "whence", "(LMarkupStore$Step;J)J"⟩ : MethodName) ∈ ms_tb := ms_inP 36 (by decide +kernel) (by decide +kernel)
theorem ms_p37 : Cond.selects "MarkupStore$Walker" (⟨"MarkupStore$Walker", "leadAll", "(LMarkupStore$Step;J)J"⟩ : MethodName) (⟨"MarkupStore$Walker", "leadAll", "(LMarkupStore$Step;J)J"⟩ : MethodName) ∈ ms_tb := ms_inP 37 (by decide +kernel) (by decide +kernel)
abbrev bM188 : ByteArray := prog_20_method_50_code
def yM188 : MethodName := ⟨"java/lang/Long", "bitCount", "(J)I"⟩
abbrev bM189 : ByteArray := prog_1_method_23_code
def yM189 : MethodName := ⟨"MarkupStore", "keepFound", "(J)V"⟩
abbrev bM190 : ByteArray := prog_7_method_1_code
def yM190 : MethodName := ⟨"MarkupStore$Predicate", "<init>", "()V"⟩
abbrev bM191 : ByteArray := prog_8_method_1_code
def yM191 : MethodName := ⟨"MarkupStore$Scribe", "<init>", "(I)V"⟩
abbrev bM192 : ByteArray := prog_10_method_1_code
def yM192 : MethodName := ⟨"MarkupStore$TextReader", "<init>", "(Ljava/lang/String;)V"⟩
abbrev bM193 : ByteArray := prog_11_method_8_code
def yM193 : MethodName := ⟨"MarkupStore$Tree", "put", "(Ljava/util/ArrayList;I)V"⟩
abbrev bM194 : ByteArray := prog_11_method_9_code
def yM194 : MethodName := ⟨"MarkupStore$Tree", "takeOut", "(II)V"⟩
abbrev bM195 : ByteArray := prog_11_method_10_code
def yM195 : MethodName := ⟨"MarkupStore$Tree", "clear", "()V"⟩
abbrev bM196 : ByteArray := prog_11_method_11_code
def yM196 : MethodName := ⟨"MarkupStore$Tree", "keep", "()V"⟩
abbrev bM197 : ByteArray := prog_11_method_12_code
def yM197 : MethodName := ⟨"MarkupStore$Tree", "giveBack", "()V"⟩
abbrev bM198 : ByteArray := prog_12_method_1_code
def yM198 : MethodName := ⟨"MarkupStore$Walker", "<init>", "(LMarkupStore$Tree;)V"⟩
abbrev bM199 : ByteArray := prog_12_method_13_code
def yM199 : MethodName := ⟨"MarkupStore$Walker", "sift", "(LMarkupStore$Predicate;JZ)J"⟩
abbrev bM200 : ByteArray := prog_1_method_20_code
def yM200 : MethodName := ⟨"MarkupStore", "beginBatch", "()V"⟩
abbrev bM201 : ByteArray := prog_1_method_22_code
def yM201 : MethodName := ⟨"MarkupStore", "putNew", "(LMarkupStore$MarkupReader;I)I"⟩
abbrev bM202 : ByteArray := prog_12_method_12_code
def yM202 : MethodName := ⟨"MarkupStore$Walker", "lead", "(LMarkupStore$Step;I)J"⟩
abbrev bM203 : ByteArray := prog_1_method_9_code
def yM203 : MethodName := ⟨"MarkupStore", "commit", "()I"⟩
abbrev bM204 : ByteArray := prog_12_method_10_code
def yM204 : MethodName := ⟨"MarkupStore$Walker", "whence", "(LMarkupStore$Step;J)J"⟩
abbrev bM205 : ByteArray := prog_12_method_11_code
def yM205 : MethodName := ⟨"MarkupStore$Walker", "leadAll", "(LMarkupStore$Step;J)J"⟩
abbrev bM206 : ByteArray := prog_12_method_3_code
def yM206 : MethodName := ⟨"MarkupStore$Walker", "goFrom", "(ILMarkupStore$Path;)J"⟩
abbrev bM207 : ByteArray := prog_12_method_9_code
def yM207 : MethodName := ⟨"MarkupStore$Walker", "origins", "(LMarkupStore$Path;J)J"⟩
theorem d188_0 : decode bM188 0 = .ok (.lload_n 0, 1) := by decide +kernel
theorem d188_1 : decode bM188 1 = .ok (.lload_n 0, 1) := by decide +kernel
theorem d188_2 : decode bM188 2 = .ok (.iconst 1, 1) := by decide +kernel
theorem d188_3 : decode bM188 3 = .ok (.lushr, 1) := by decide +kernel
theorem d188_4 : decode bM188 4 = .ok (.ldc2_w 314, 3) := by decide +kernel
theorem d188_7 : decode bM188 7 = .ok (.land, 1) := by decide +kernel
theorem d188_8 : decode bM188 8 = .ok (.lsub, 1) := by decide +kernel
theorem d188_9 : decode bM188 9 = .ok (.lstore_n 0, 1) := by decide +kernel
theorem d188_10 : decode bM188 10 = .ok (.lload_n 0, 1) := by decide +kernel
theorem d188_11 : decode bM188 11 = .ok (.ldc2_w 316, 3) := by decide +kernel
theorem d188_14 : decode bM188 14 = .ok (.land, 1) := by decide +kernel
theorem d188_15 : decode bM188 15 = .ok (.lload_n 0, 1) := by decide +kernel
theorem d188_16 : decode bM188 16 = .ok (.iconst 2, 1) := by decide +kernel
theorem d188_17 : decode bM188 17 = .ok (.lushr, 1) := by decide +kernel
theorem d188_18 : decode bM188 18 = .ok (.ldc2_w 316, 3) := by decide +kernel
theorem d188_21 : decode bM188 21 = .ok (.land, 1) := by decide +kernel
theorem d188_22 : decode bM188 22 = .ok (.ladd, 1) := by decide +kernel
theorem d188_23 : decode bM188 23 = .ok (.lstore_n 0, 1) := by decide +kernel
theorem d188_24 : decode bM188 24 = .ok (.lload_n 0, 1) := by decide +kernel
theorem d188_25 : decode bM188 25 = .ok (.lload_n 0, 1) := by decide +kernel
theorem d188_26 : decode bM188 26 = .ok (.iconst 4, 1) := by decide +kernel
theorem d188_27 : decode bM188 27 = .ok (.lushr, 1) := by decide +kernel
theorem d188_28 : decode bM188 28 = .ok (.ladd, 1) := by decide +kernel
theorem d188_29 : decode bM188 29 = .ok (.ldc2_w 318, 3) := by decide +kernel
theorem d188_32 : decode bM188 32 = .ok (.land, 1) := by decide +kernel
theorem d188_33 : decode bM188 33 = .ok (.lstore_n 0, 1) := by decide +kernel
theorem d188_34 : decode bM188 34 = .ok (.lload_n 0, 1) := by decide +kernel
theorem d188_35 : decode bM188 35 = .ok (.lload_n 0, 1) := by decide +kernel
theorem d188_36 : decode bM188 36 = .ok (.bipush 8, 2) := by decide +kernel
theorem d188_38 : decode bM188 38 = .ok (.lushr, 1) := by decide +kernel
theorem d188_39 : decode bM188 39 = .ok (.ladd, 1) := by decide +kernel
theorem d188_40 : decode bM188 40 = .ok (.lstore_n 0, 1) := by decide +kernel
theorem d188_41 : decode bM188 41 = .ok (.lload_n 0, 1) := by decide +kernel
theorem d188_42 : decode bM188 42 = .ok (.lload_n 0, 1) := by decide +kernel
theorem d188_43 : decode bM188 43 = .ok (.bipush 16, 2) := by decide +kernel
theorem d188_45 : decode bM188 45 = .ok (.lushr, 1) := by decide +kernel
theorem d188_46 : decode bM188 46 = .ok (.ladd, 1) := by decide +kernel
theorem d188_47 : decode bM188 47 = .ok (.lstore_n 0, 1) := by decide +kernel
theorem d188_48 : decode bM188 48 = .ok (.lload_n 0, 1) := by decide +kernel
theorem d188_49 : decode bM188 49 = .ok (.lload_n 0, 1) := by decide +kernel
theorem d188_50 : decode bM188 50 = .ok (.bipush 32, 2) := by decide +kernel
theorem d188_52 : decode bM188 52 = .ok (.lushr, 1) := by decide +kernel
theorem d188_53 : decode bM188 53 = .ok (.ladd, 1) := by decide +kernel
theorem d188_54 : decode bM188 54 = .ok (.lstore_n 0, 1) := by decide +kernel
theorem d188_55 : decode bM188 55 = .ok (.lload_n 0, 1) := by decide +kernel
theorem d188_56 : decode bM188 56 = .ok (.l2i, 1) := by decide +kernel
theorem d188_57 : decode bM188 57 = .ok (.bipush 127, 2) := by decide +kernel
theorem d188_59 : decode bM188 59 = .ok (.iand, 1) := by decide +kernel
theorem d188_60 : decode bM188 60 = .ok (.ireturn, 1) := by decide +kernel
theorem d189_0 : decode bM189 0 = .ok (.aload_n 0, 1) := by decide +kernel
theorem d189_1 : decode bM189 1 = .ok (.iconst 0, 1) := by decide +kernel
theorem d189_2 : decode bM189 2 = .ok (.putfield 30, 3) := by decide +kernel
theorem d189_5 : decode bM189 5 = .ok (.iconst 0, 1) := by decide +kernel
theorem d189_6 : decode bM189 6 = .ok (.istore_n 3, 1) := by decide +kernel
theorem d189_7 : decode bM189 7 = .ok (.iload_n 3, 1) := by decide +kernel
theorem d189_8 : decode bM189 8 = .ok (.aload_n 0, 1) := by decide +kernel
theorem d189_9 : decode bM189 9 = .ok (.getfield 22, 3) := by decide +kernel
theorem d189_12 : decode bM189 12 = .ok (.getfield 200, 3) := by decide +kernel
theorem d189_15 : decode bM189 15 = .ok (.if_icmp .ge 48, 3) := by decide +kernel
theorem d189_18 : decode bM189 18 = .ok (.lload_n 1, 1) := by decide +kernel
theorem d189_19 : decode bM189 19 = .ok (.iload_n 3, 1) := by decide +kernel
theorem d189_20 : decode bM189 20 = .ok (.invokestatic 239, 3) := by decide +kernel
theorem d189_23 : decode bM189 23 = .ok (.ifCond .eq 34, 3) := by decide +kernel
theorem d189_26 : decode bM189 26 = .ok (.aload_n 0, 1) := by decide +kernel
theorem d189_27 : decode bM189 27 = .ok (.getfield 26, 3) := by decide +kernel
theorem d189_30 : decode bM189 30 = .ok (.aload_n 0, 1) := by decide +kernel
theorem d189_31 : decode bM189 31 = .ok (.getfield 30, 3) := by decide +kernel
theorem d189_34 : decode bM189 34 = .ok (.aload_n 0, 1) := by decide +kernel
theorem d189_35 : decode bM189 35 = .ok (.getfield 22, 3) := by decide +kernel
theorem d189_38 : decode bM189 38 = .ok (.getfield 216, 3) := by decide +kernel
theorem d189_41 : decode bM189 41 = .ok (.iload_n 3, 1) := by decide +kernel
theorem d189_42 : decode bM189 42 = .ok (.aaload, 1) := by decide +kernel
theorem d189_43 : decode bM189 43 = .ok (.getfield 197, 3) := by decide +kernel
theorem d189_46 : decode bM189 46 = .ok (.iastore, 1) := by decide +kernel
theorem d189_47 : decode bM189 47 = .ok (.aload_n 0, 1) := by decide +kernel
theorem d189_48 : decode bM189 48 = .ok (.dup, 1) := by decide +kernel
theorem d189_49 : decode bM189 49 = .ok (.getfield 30, 3) := by decide +kernel
theorem d189_52 : decode bM189 52 = .ok (.iconst 1, 1) := by decide +kernel
theorem d189_53 : decode bM189 53 = .ok (.iadd, 1) := by decide +kernel
theorem d189_54 : decode bM189 54 = .ok (.putfield 30, 3) := by decide +kernel
theorem d189_57 : decode bM189 57 = .ok (.iinc 3 1, 3) := by decide +kernel
theorem d189_60 : decode bM189 60 = .ok (.goto (-53), 3) := by decide +kernel
theorem d189_63 : decode bM189 63 = .ok (.return_, 1) := by decide +kernel
theorem d190_0 : decode bM190 0 = .ok (.aload_n 0, 1) := by decide +kernel
theorem d190_1 : decode bM190 1 = .ok (.invokespecial 1, 3) := by decide +kernel
theorem d190_4 : decode bM190 4 = .ok (.aload_n 0, 1) := by decide +kernel
theorem d190_5 : decode bM190 5 = .ok (.bipush 47, 2) := by decide +kernel
theorem d190_7 : decode bM190 7 = .ok (.putfield 9, 3) := by decide +kernel
theorem d190_10 : decode bM190 10 = .ok (.aload_n 0, 1) := by decide +kernel
theorem d190_11 : decode bM190 11 = .ok (.iconst 0, 1) := by decide +kernel
theorem d190_12 : decode bM190 12 = .ok (.putfield 13, 3) := by decide +kernel
theorem d190_15 : decode bM190 15 = .ok (.aload_n 0, 1) := by decide +kernel
theorem d190_16 : decode bM190 16 = .ok (.iconst 0, 1) := by decide +kernel
theorem d190_17 : decode bM190 17 = .ok (.putfield 17, 3) := by decide +kernel
theorem d190_20 : decode bM190 20 = .ok (.aload_n 0, 1) := by decide +kernel
theorem d190_21 : decode bM190 21 = .ok (.ldc 21, 2) := by decide +kernel
theorem d190_23 : decode bM190 23 = .ok (.putfield 23, 3) := by decide +kernel
theorem d190_26 : decode bM190 26 = .ok (.aload_n 0, 1) := by decide +kernel
theorem d190_27 : decode bM190 27 = .ok (.aconst_null, 1) := by decide +kernel
theorem d190_28 : decode bM190 28 = .ok (.putfield 27, 3) := by decide +kernel
theorem d190_31 : decode bM190 31 = .ok (.aload_n 0, 1) := by decide +kernel
theorem d190_32 : decode bM190 32 = .ok (.bipush 32, 2) := by decide +kernel
theorem d190_34 : decode bM190 34 = .ok (.putfield 31, 3) := by decide +kernel
theorem d190_37 : decode bM190 37 = .ok (.aload_n 0, 1) := by decide +kernel
theorem d190_38 : decode bM190 38 = .ok (.ldc 21, 2) := by decide +kernel
theorem d190_40 : decode bM190 40 = .ok (.putfield 34, 3) := by decide +kernel
theorem d190_43 : decode bM190 43 = .ok (.aload_n 0, 1) := by decide +kernel
theorem d190_44 : decode bM190 44 = .ok (.lconst 0, 1) := by decide +kernel
theorem d190_45 : decode bM190 45 = .ok (.putfield 37, 3) := by decide +kernel
theorem d190_48 : decode bM190 48 = .ok (.return_, 1) := by decide +kernel
theorem d191_0 : decode bM191 0 = .ok (.aload_n 0, 1) := by decide +kernel
theorem d191_1 : decode bM191 1 = .ok (.invokespecial 3, 3) := by decide +kernel
theorem d191_4 : decode bM191 4 = .ok (.aload_n 0, 1) := by decide +kernel
theorem d191_5 : decode bM191 5 = .ok (.iload_n 1, 1) := by decide +kernel
theorem d191_6 : decode bM191 6 = .ok (.putfield 9, 3) := by decide +kernel
theorem d191_9 : decode bM191 9 = .ok (.aload_n 0, 1) := by decide +kernel
theorem d191_10 : decode bM191 10 = .ok (.iconst 0, 1) := by decide +kernel
theorem d191_11 : decode bM191 11 = .ok (.putfield 15, 3) := by decide +kernel
theorem d191_14 : decode bM191 14 = .ok (.aload_n 0, 1) := by decide +kernel
theorem d191_15 : decode bM191 15 = .ok (.iconst 0, 1) := by decide +kernel
theorem d191_16 : decode bM191 16 = .ok (.putfield 18, 3) := by decide +kernel
theorem d191_19 : decode bM191 19 = .ok (.return_, 1) := by decide +kernel
theorem d192_0 : decode bM192 0 = .ok (.aload_n 0, 1) := by decide +kernel
theorem d192_1 : decode bM192 1 = .ok (.invokespecial 3, 3) := by decide +kernel
theorem d192_4 : decode bM192 4 = .ok (.aload_n 0, 1) := by decide +kernel
theorem d192_5 : decode bM192 5 = .ok (.aload_n 1, 1) := by decide +kernel
theorem d192_6 : decode bM192 6 = .ok (.putfield 9, 3) := by decide +kernel
theorem d192_9 : decode bM192 9 = .ok (.aload_n 0, 1) := by decide +kernel
theorem d192_10 : decode bM192 10 = .ok (.iconst 0, 1) := by decide +kernel
theorem d192_11 : decode bM192 11 = .ok (.putfield 15, 3) := by decide +kernel
theorem d192_14 : decode bM192 14 = .ok (.aload_n 0, 1) := by decide +kernel
theorem d192_15 : decode bM192 15 = .ok (.iconst (-1), 1) := by decide +kernel
theorem d192_16 : decode bM192 16 = .ok (.putfield 19, 3) := by decide +kernel
theorem d192_19 : decode bM192 19 = .ok (.return_, 1) := by decide +kernel
theorem d193_0 : decode bM193 0 = .ok (.aload_n 1, 1) := by decide +kernel
theorem d193_1 : decode bM193 1 = .ok (.invokevirtual 40, 3) := by decide +kernel
theorem d193_4 : decode bM193 4 = .ok (.istore_n 3, 1) := by decide +kernel
theorem d193_5 : decode bM193 5 = .ok (.aload_n 0, 1) := by decide +kernel
theorem d193_6 : decode bM193 6 = .ok (.getfield 30, 3) := by decide +kernel
theorem d193_9 : decode bM193 9 = .ok (.iconst 1, 1) := by decide +kernel
theorem d193_10 : decode bM193 10 = .ok (.isub, 1) := by decide +kernel
theorem d193_11 : decode bM193 11 = .ok (.istore 4, 2) := by decide +kernel
theorem d193_13 : decode bM193 13 = .ok (.iload 4, 2) := by decide +kernel
theorem d193_15 : decode bM193 15 = .ok (.iload_n 2, 1) := by decide +kernel
theorem d193_16 : decode bM193 16 = .ok (.if_icmp .lt 25, 3) := by decide +kernel
theorem d193_19 : decode bM193 19 = .ok (.aload_n 0, 1) := by decide +kernel
theorem d193_20 : decode bM193 20 = .ok (.getfield 17, 3) := by decide +kernel
theorem d193_23 : decode bM193 23 = .ok (.iload 4, 2) := by decide +kernel
theorem d193_25 : decode bM193 25 = .ok (.iload_n 3, 1) := by decide +kernel
theorem d193_26 : decode bM193 26 = .ok (.iadd, 1) := by decide +kernel
theorem d193_27 : decode bM193 27 = .ok (.aload_n 0, 1) := by decide +kernel
theorem d193_28 : decode bM193 28 = .ok (.getfield 17, 3) := by decide +kernel
theorem d193_31 : decode bM193 31 = .ok (.iload 4, 2) := by decide +kernel
theorem d193_33 : decode bM193 33 = .ok (.aaload, 1) := by decide +kernel
theorem d193_34 : decode bM193 34 = .ok (.aastore, 1) := by decide +kernel
theorem d193_35 : decode bM193 35 = .ok (.iinc 4 (-1), 3) := by decide +kernel
theorem d193_38 : decode bM193 38 = .ok (.goto (-25), 3) := by decide +kernel
theorem d193_41 : decode bM193 41 = .ok (.iconst 0, 1) := by decide +kernel
theorem d193_42 : decode bM193 42 = .ok (.istore 4, 2) := by decide +kernel
theorem d193_44 : decode bM193 44 = .ok (.iload 4, 2) := by decide +kernel
theorem d193_46 : decode bM193 46 = .ok (.iload_n 3, 1) := by decide +kernel
theorem d193_47 : decode bM193 47 = .ok (.if_icmp .ge 61, 3) := by decide +kernel
theorem d193_50 : decode bM193 50 = .ok (.aload_n 1, 1) := by decide +kernel
theorem d193_51 : decode bM193 51 = .ok (.iload 4, 2) := by decide +kernel
theorem d193_53 : decode bM193 53 = .ok (.invokevirtual 45, 3) := by decide +kernel
theorem d193_56 : decode bM193 56 = .ok (.checkcast 9, 3) := by decide +kernel
theorem d193_59 : decode bM193 59 = .ok (.astore 5, 2) := by decide +kernel
theorem d193_61 : decode bM193 61 = .ok (.aload 5, 2) := by decide +kernel
theorem d193_63 : decode bM193 63 = .ok (.aload_n 0, 1) := by decide +kernel
theorem d193_64 : decode bM193 64 = .ok (.getfield 23, 3) := by decide +kernel
theorem d193_67 : decode bM193 67 = .ok (.putfield 49, 3) := by decide +kernel
theorem d193_70 : decode bM193 70 = .ok (.aload_n 0, 1) := by decide +kernel
theorem d193_71 : decode bM193 71 = .ok (.getfield 11, 3) := by decide +kernel
theorem d193_74 : decode bM193 74 = .ok (.aload_n 0, 1) := by decide +kernel
theorem d193_75 : decode bM193 75 = .ok (.getfield 23, 3) := by decide +kernel
theorem d193_78 : decode bM193 78 = .ok (.aload 5, 2) := by decide +kernel
theorem d193_80 : decode bM193 80 = .ok (.aastore, 1) := by decide +kernel
theorem d193_81 : decode bM193 81 = .ok (.aload_n 0, 1) := by decide +kernel
theorem d193_82 : decode bM193 82 = .ok (.dup, 1) := by decide +kernel
theorem d193_83 : decode bM193 83 = .ok (.getfield 23, 3) := by decide +kernel
theorem d193_86 : decode bM193 86 = .ok (.iconst 1, 1) := by decide +kernel
theorem d193_87 : decode bM193 87 = .ok (.iadd, 1) := by decide +kernel
theorem d193_88 : decode bM193 88 = .ok (.putfield 23, 3) := by decide +kernel
theorem d193_91 : decode bM193 91 = .ok (.aload_n 0, 1) := by decide +kernel
theorem d193_92 : decode bM193 92 = .ok (.getfield 17, 3) := by decide +kernel
theorem d193_95 : decode bM193 95 = .ok (.iload_n 2, 1) := by decide +kernel
theorem d193_96 : decode bM193 96 = .ok (.iload 4, 2) := by decide +kernel
theorem d193_98 : decode bM193 98 = .ok (.iadd, 1) := by decide +kernel
theorem d193_99 : decode bM193 99 = .ok (.aload 5, 2) := by decide +kernel
theorem d193_101 : decode bM193 101 = .ok (.aastore, 1) := by decide +kernel
theorem d193_102 : decode bM193 102 = .ok (.iinc 4 1, 3) := by decide +kernel
theorem d193_105 : decode bM193 105 = .ok (.goto (-61), 3) := by decide +kernel
theorem d193_108 : decode bM193 108 = .ok (.aload_n 0, 1) := by decide +kernel
theorem d193_109 : decode bM193 109 = .ok (.dup, 1) := by decide +kernel
theorem d193_110 : decode bM193 110 = .ok (.getfield 30, 3) := by decide +kernel
theorem d193_113 : decode bM193 113 = .ok (.iload_n 3, 1) := by decide +kernel
theorem d193_114 : decode bM193 114 = .ok (.iadd, 1) := by decide +kernel
theorem d193_115 : decode bM193 115 = .ok (.putfield 30, 3) := by decide +kernel
theorem d193_118 : decode bM193 118 = .ok (.aload_n 0, 1) := by decide +kernel
theorem d193_119 : decode bM193 119 = .ok (.invokevirtual 52, 3) := by decide +kernel
theorem d193_122 : decode bM193 122 = .ok (.return_, 1) := by decide +kernel
theorem d194_0 : decode bM194 0 = .ok (.iload_n 1, 1) := by decide +kernel
theorem d194_1 : decode bM194 1 = .ok (.istore_n 3, 1) := by decide +kernel
theorem d194_2 : decode bM194 2 = .ok (.iload_n 3, 1) := by decide +kernel
theorem d194_3 : decode bM194 3 = .ok (.iload_n 2, 1) := by decide +kernel
theorem d194_4 : decode bM194 4 = .ok (.if_icmp .ge 19, 3) := by decide +kernel
theorem d194_7 : decode bM194 7 = .ok (.aload_n 0, 1) := by decide +kernel
theorem d194_8 : decode bM194 8 = .ok (.getfield 17, 3) := by decide +kernel
theorem d194_11 : decode bM194 11 = .ok (.iload_n 3, 1) := by decide +kernel
theorem d194_12 : decode bM194 12 = .ok (.aaload, 1) := by decide +kernel
theorem d194_13 : decode bM194 13 = .ok (.iconst (-1), 1) := by decide +kernel
theorem d194_14 : decode bM194 14 = .ok (.putfield 27, 3) := by decide +kernel
theorem d194_17 : decode bM194 17 = .ok (.iinc 3 1, 3) := by decide +kernel
theorem d194_20 : decode bM194 20 = .ok (.goto (-18), 3) := by decide +kernel
theorem d194_23 : decode bM194 23 = .ok (.iload_n 2, 1) := by decide +kernel
theorem d194_24 : decode bM194 24 = .ok (.istore_n 3, 1) := by decide +kernel
theorem d194_25 : decode bM194 25 = .ok (.iload_n 3, 1) := by decide +kernel
theorem d194_26 : decode bM194 26 = .ok (.aload_n 0, 1) := by decide +kernel
theorem d194_27 : decode bM194 27 = .ok (.getfield 30, 3) := by decide +kernel
theorem d194_30 : decode bM194 30 = .ok (.if_icmp .ge 25, 3) := by decide +kernel
theorem d194_33 : decode bM194 33 = .ok (.aload_n 0, 1) := by decide +kernel
theorem d194_34 : decode bM194 34 = .ok (.getfield 17, 3) := by decide +kernel
theorem d194_37 : decode bM194 37 = .ok (.iload_n 3, 1) := by decide +kernel
theorem d194_38 : decode bM194 38 = .ok (.iload_n 2, 1) := by decide +kernel
theorem d194_39 : decode bM194 39 = .ok (.isub, 1) := by decide +kernel
theorem d194_40 : decode bM194 40 = .ok (.iload_n 1, 1) := by decide +kernel
theorem d194_41 : decode bM194 41 = .ok (.iadd, 1) := by decide +kernel
theorem d194_42 : decode bM194 42 = .ok (.aload_n 0, 1) := by decide +kernel
theorem d194_43 : decode bM194 43 = .ok (.getfield 17, 3) := by decide +kernel
theorem d194_46 : decode bM194 46 = .ok (.iload_n 3, 1) := by decide +kernel
theorem d194_47 : decode bM194 47 = .ok (.aaload, 1) := by decide +kernel
theorem d194_48 : decode bM194 48 = .ok (.aastore, 1) := by decide +kernel
theorem d194_49 : decode bM194 49 = .ok (.iinc 3 1, 3) := by decide +kernel
theorem d194_52 : decode bM194 52 = .ok (.goto (-27), 3) := by decide +kernel
theorem d194_55 : decode bM194 55 = .ok (.aload_n 0, 1) := by decide +kernel
theorem d194_56 : decode bM194 56 = .ok (.dup, 1) := by decide +kernel
theorem d194_57 : decode bM194 57 = .ok (.getfield 30, 3) := by decide +kernel
theorem d194_60 : decode bM194 60 = .ok (.iload_n 2, 1) := by decide +kernel
theorem d194_61 : decode bM194 61 = .ok (.iload_n 1, 1) := by decide +kernel
theorem d194_62 : decode bM194 62 = .ok (.isub, 1) := by decide +kernel
theorem d194_63 : decode bM194 63 = .ok (.isub, 1) := by decide +kernel
theorem d194_64 : decode bM194 64 = .ok (.putfield 30, 3) := by decide +kernel
theorem d194_67 : decode bM194 67 = .ok (.aload_n 0, 1) := by decide +kernel
theorem d194_68 : decode bM194 68 = .ok (.invokevirtual 52, 3) := by decide +kernel
theorem d194_71 : decode bM194 71 = .ok (.return_, 1) := by decide +kernel
theorem d195_0 : decode bM195 0 = .ok (.aload_n 0, 1) := by decide +kernel
theorem d195_1 : decode bM195 1 = .ok (.iconst 0, 1) := by decide +kernel
theorem d195_2 : decode bM195 2 = .ok (.aload_n 0, 1) := by decide +kernel
theorem d195_3 : decode bM195 3 = .ok (.getfield 30, 3) := by decide +kernel
theorem d195_6 : decode bM195 6 = .ok (.invokevirtual 55, 3) := by decide +kernel
theorem d195_9 : decode bM195 9 = .ok (.return_, 1) := by decide +kernel
theorem d196_0 : decode bM196 0 = .ok (.iconst 0, 1) := by decide +kernel
theorem d196_1 : decode bM196 1 = .ok (.istore_n 1, 1) := by decide +kernel
theorem d196_2 : decode bM196 2 = .ok (.iload_n 1, 1) := by decide +kernel
theorem d196_3 : decode bM196 3 = .ok (.aload_n 0, 1) := by decide +kernel
theorem d196_4 : decode bM196 4 = .ok (.getfield 30, 3) := by decide +kernel
theorem d196_7 : decode bM196 7 = .ok (.if_icmp .ge 39, 3) := by decide +kernel
theorem d196_10 : decode bM196 10 = .ok (.aload_n 0, 1) := by decide +kernel
theorem d196_11 : decode bM196 11 = .ok (.getfield 20, 3) := by decide +kernel
theorem d196_14 : decode bM196 14 = .ok (.iload_n 1, 1) := by decide +kernel
theorem d196_15 : decode bM196 15 = .ok (.aload_n 0, 1) := by decide +kernel
theorem d196_16 : decode bM196 16 = .ok (.getfield 17, 3) := by decide +kernel
theorem d196_19 : decode bM196 19 = .ok (.iload_n 1, 1) := by decide +kernel
theorem d196_20 : decode bM196 20 = .ok (.aaload, 1) := by decide +kernel
theorem d196_21 : decode bM196 21 = .ok (.aastore, 1) := by decide +kernel
theorem d196_22 : decode bM196 22 = .ok (.aload_n 0, 1) := by decide +kernel
theorem d196_23 : decode bM196 23 = .ok (.getfield 20, 3) := by decide +kernel
theorem d196_26 : decode bM196 26 = .ok (.iload_n 1, 1) := by decide +kernel
theorem d196_27 : decode bM196 27 = .ok (.aaload, 1) := by decide +kernel
theorem d196_28 : decode bM196 28 = .ok (.aload_n 0, 1) := by decide +kernel
theorem d196_29 : decode bM196 29 = .ok (.getfield 20, 3) := by decide +kernel
theorem d196_32 : decode bM196 32 = .ok (.iload_n 1, 1) := by decide +kernel
theorem d196_33 : decode bM196 33 = .ok (.aaload, 1) := by decide +kernel
theorem d196_34 : decode bM196 34 = .ok (.getfield 59, 3) := by decide +kernel
theorem d196_37 : decode bM196 37 = .ok (.putfield 63, 3) := by decide +kernel
theorem d196_40 : decode bM196 40 = .ok (.iinc 1 1, 3) := by decide +kernel
theorem d196_43 : decode bM196 43 = .ok (.goto (-41), 3) := by decide +kernel
theorem d196_46 : decode bM196 46 = .ok (.aload_n 0, 1) := by decide +kernel
theorem d196_47 : decode bM196 47 = .ok (.aload_n 0, 1) := by decide +kernel
theorem d196_48 : decode bM196 48 = .ok (.getfield 30, 3) := by decide +kernel
theorem d196_51 : decode bM196 51 = .ok (.putfield 66, 3) := by decide +kernel
theorem d196_54 : decode bM196 54 = .ok (.return_, 1) := by decide +kernel
theorem d197_0 : decode bM197 0 = .ok (.aload_n 0, 1) := by decide +kernel
theorem d197_1 : decode bM197 1 = .ok (.invokevirtual 69, 3) := by decide +kernel
theorem d197_4 : decode bM197 4 = .ok (.iconst 0, 1) := by decide +kernel
theorem d197_5 : decode bM197 5 = .ok (.istore_n 1, 1) := by decide +kernel
theorem d197_6 : decode bM197 6 = .ok (.iload_n 1, 1) := by decide +kernel
theorem d197_7 : decode bM197 7 = .ok (.aload_n 0, 1) := by decide +kernel
theorem d197_8 : decode bM197 8 = .ok (.getfield 66, 3) := by decide +kernel
theorem d197_11 : decode bM197 11 = .ok (.if_icmp .ge 39, 3) := by decide +kernel
theorem d197_14 : decode bM197 14 = .ok (.aload_n 0, 1) := by decide +kernel
theorem d197_15 : decode bM197 15 = .ok (.getfield 17, 3) := by decide +kernel
theorem d197_18 : decode bM197 18 = .ok (.iload_n 1, 1) := by decide +kernel
theorem d197_19 : decode bM197 19 = .ok (.aload_n 0, 1) := by decide +kernel
theorem d197_20 : decode bM197 20 = .ok (.getfield 20, 3) := by decide +kernel
theorem d197_23 : decode bM197 23 = .ok (.iload_n 1, 1) := by decide +kernel
theorem d197_24 : decode bM197 24 = .ok (.aaload, 1) := by decide +kernel
theorem d197_25 : decode bM197 25 = .ok (.aastore, 1) := by decide +kernel
theorem d197_26 : decode bM197 26 = .ok (.aload_n 0, 1) := by decide +kernel
theorem d197_27 : decode bM197 27 = .ok (.getfield 17, 3) := by decide +kernel
theorem d197_30 : decode bM197 30 = .ok (.iload_n 1, 1) := by decide +kernel
theorem d197_31 : decode bM197 31 = .ok (.aaload, 1) := by decide +kernel
theorem d197_32 : decode bM197 32 = .ok (.aload_n 0, 1) := by decide +kernel
theorem d197_33 : decode bM197 33 = .ok (.getfield 17, 3) := by decide +kernel
theorem d197_36 : decode bM197 36 = .ok (.iload_n 1, 1) := by decide +kernel
theorem d197_37 : decode bM197 37 = .ok (.aaload, 1) := by decide +kernel
theorem d197_38 : decode bM197 38 = .ok (.getfield 63, 3) := by decide +kernel
theorem d197_41 : decode bM197 41 = .ok (.putfield 59, 3) := by decide +kernel
theorem d197_44 : decode bM197 44 = .ok (.iinc 1 1, 3) := by decide +kernel
theorem d197_47 : decode bM197 47 = .ok (.goto (-41), 3) := by decide +kernel
theorem d197_50 : decode bM197 50 = .ok (.aload_n 0, 1) := by decide +kernel
theorem d197_51 : decode bM197 51 = .ok (.aload_n 0, 1) := by decide +kernel
theorem d197_52 : decode bM197 52 = .ok (.getfield 66, 3) := by decide +kernel
theorem d197_55 : decode bM197 55 = .ok (.putfield 30, 3) := by decide +kernel
theorem d197_58 : decode bM197 58 = .ok (.aload_n 0, 1) := by decide +kernel
theorem d197_59 : decode bM197 59 = .ok (.invokevirtual 52, 3) := by decide +kernel
theorem d197_62 : decode bM197 62 = .ok (.return_, 1) := by decide +kernel
theorem d198_0 : decode bM198 0 = .ok (.aload_n 0, 1) := by decide +kernel
theorem d198_1 : decode bM198 1 = .ok (.invokespecial 3, 3) := by decide +kernel
theorem d198_4 : decode bM198 4 = .ok (.aload_n 0, 1) := by decide +kernel
theorem d198_5 : decode bM198 5 = .ok (.aload_n 1, 1) := by decide +kernel
theorem d198_6 : decode bM198 6 = .ok (.putfield 9, 3) := by decide +kernel
theorem d198_9 : decode bM198 9 = .ok (.return_, 1) := by decide +kernel
theorem d199_0 : decode bM199 0 = .ok (.aload_n 1, 1) := by decide +kernel
theorem d199_1 : decode bM199 1 = .ok (.getfield 79, 3) := by decide +kernel
theorem d199_4 : decode bM199 4 = .ok (.lstore 5, 2) := by decide +kernel
theorem d199_6 : decode bM199 6 = .ok (.aload_n 1, 1) := by decide +kernel
theorem d199_7 : decode bM199 7 = .ok (.getfield 71, 3) := by decide +kernel
theorem d199_10 : decode bM199 10 = .ok (.bipush 49, 2) := by decide +kernel
theorem d199_12 : decode bM199 12 = .ok (.if_icmp .ne 19, 3) := by decide +kernel
theorem d199_15 : decode bM199 15 = .ok (.aload_n 0, 1) := by decide +kernel
theorem d199_16 : decode bM199 16 = .ok (.aload_n 1, 1) := by decide +kernel
theorem d199_17 : decode bM199 17 = .ok (.getfield 178, 3) := by decide +kernel
theorem d199_20 : decode bM199 20 = .ok (.lload_n 2, 1) := by decide +kernel
theorem d199_21 : decode bM199 21 = .ok (.iload 4, 2) := by decide +kernel
theorem d199_23 : decode bM199 23 = .ok (.invokevirtual 181, 3) := by decide +kernel
theorem d199_26 : decode bM199 26 = .ok (.lstore 5, 2) := by decide +kernel
theorem d199_28 : decode bM199 28 = .ok (.goto 25, 3) := by decide +kernel
theorem d199_31 : decode bM199 31 = .ok (.aload_n 1, 1) := by decide +kernel
theorem d199_32 : decode bM199 32 = .ok (.getfield 71, 3) := by decide +kernel
theorem d199_35 : decode bM199 35 = .ok (.bipush 36, 2) := by decide +kernel
theorem d199_37 : decode bM199 37 = .ok (.if_icmp .ne 16, 3) := by decide +kernel
theorem d199_40 : decode bM199 40 = .ok (.aload_n 0, 1) := by decide +kernel
theorem d199_41 : decode bM199 41 = .ok (.lload_n 2, 1) := by decide +kernel
theorem d199_42 : decode bM199 42 = .ok (.invokestatic 185, 3) := by decide +kernel
theorem d199_45 : decode bM199 45 = .ok (.lload_n 2, 1) := by decide +kernel
theorem d199_46 : decode bM199 46 = .ok (.iload 4, 2) := by decide +kernel
theorem d199_48 : decode bM199 48 = .ok (.invokevirtual 181, 3) := by decide +kernel
theorem d199_51 : decode bM199 51 = .ok (.lstore 5, 2) := by decide +kernel
theorem d199_53 : decode bM199 53 = .ok (.lload_n 2, 1) := by decide +kernel
theorem d199_54 : decode bM199 54 = .ok (.aload_n 1, 1) := by decide +kernel
theorem d199_55 : decode bM199 55 = .ok (.getfield 191, 3) := by decide +kernel
theorem d199_58 : decode bM199 58 = .ok (.ifCond .eq 12, 3) := by decide +kernel
theorem d199_61 : decode bM199 61 = .ok (.lload 5, 2) := by decide +kernel
theorem d199_63 : decode bM199 63 = .ok (.ldc2_w 194, 3) := by decide +kernel
theorem d199_66 : decode bM199 66 = .ok (.lxor, 1) := by decide +kernel
theorem d199_67 : decode bM199 67 = .ok (.goto 5, 3) := by decide +kernel
theorem d199_70 : decode bM199 70 = .ok (.lload 5, 2) := by decide +kernel
theorem d199_72 : decode bM199 72 = .ok (.land, 1) := by decide +kernel
theorem d199_73 : decode bM199 73 = .ok (.lreturn, 1) := by decide +kernel
theorem d200_0 : decode bM200 0 = .ok (.aload_n 0, 1) := by decide +kernel
theorem d200_1 : decode bM200 1 = .ok (.getfield 22, 3) := by decide +kernel
theorem d200_4 : decode bM200 4 = .ok (.invokevirtual 236, 3) := by decide +kernel
theorem d200_7 : decode bM200 7 = .ok (.aload_n 0, 1) := by decide +kernel
theorem d200_8 : decode bM200 8 = .ok (.iconst 0, 1) := by decide +kernel
theorem d200_9 : decode bM200 9 = .ok (.putfield 34, 3) := by decide +kernel
theorem d200_12 : decode bM200 12 = .ok (.return_, 1) := by decide +kernel
theorem d201_0 : decode bM201 0 = .ok (.aload_n 1, 1) := by decide +kernel
theorem d201_1 : decode bM201 1 = .ok (.getfield 64, 3) := by decide +kernel
theorem d201_4 : decode bM201 4 = .ok (.invokevirtual 68, 3) := by decide +kernel
theorem d201_7 : decode bM201 7 = .ok (.istore_n 3, 1) := by decide +kernel
theorem d201_8 : decode bM201 8 = .ok (.aload_n 1, 1) := by decide +kernel
theorem d201_9 : decode bM201 9 = .ok (.invokevirtual 73, 3) := by decide +kernel
theorem d201_12 : decode bM201 12 = .ok (.ifCond .ne 28, 3) := by decide +kernel
theorem d201_15 : decode bM201 15 = .ok (.aload_n 0, 1) := by decide +kernel
theorem d201_16 : decode bM201 16 = .ok (.getfield 22, 3) := by decide +kernel
theorem d201_19 : decode bM201 19 = .ok (.getfield 200, 3) := by decide +kernel
theorem d201_22 : decode bM201 22 = .ok (.iload_n 3, 1) := by decide +kernel
theorem d201_23 : decode bM201 23 = .ok (.iadd, 1) := by decide +kernel
theorem d201_24 : decode bM201 24 = .ok (.bipush 40, 2) := by decide +kernel
theorem d201_26 : decode bM201 26 = .ok (.if_icmp .gt 14, 3) := by decide +kernel
theorem d201_29 : decode bM201 29 = .ok (.aload_n 0, 1) := by decide +kernel
theorem d201_30 : decode bM201 30 = .ok (.getfield 22, 3) := by decide +kernel
theorem d201_33 : decode bM201 33 = .ok (.iload_n 3, 1) := by decide +kernel
theorem d201_34 : decode bM201 34 = .ok (.invokevirtual 76, 3) := by decide +kernel
theorem d201_37 : decode bM201 37 = .ok (.ifCond .ne 7, 3) := by decide +kernel
theorem d201_40 : decode bM201 40 = .ok (.sipush (-2000), 3) := by decide +kernel
theorem d201_43 : decode bM201 43 = .ok (.ireturn, 1) := by decide +kernel
theorem d201_44 : decode bM201 44 = .ok (.aload_n 0, 1) := by decide +kernel
theorem d201_45 : decode bM201 45 = .ok (.getfield 22, 3) := by decide +kernel
theorem d201_48 : decode bM201 48 = .ok (.aload_n 1, 1) := by decide +kernel
theorem d201_49 : decode bM201 49 = .ok (.getfield 64, 3) := by decide +kernel
theorem d201_52 : decode bM201 52 = .ok (.iload_n 2, 1) := by decide +kernel
theorem d201_53 : decode bM201 53 = .ok (.invokevirtual 83, 3) := by decide +kernel
theorem d201_56 : decode bM201 56 = .ok (.aload_n 0, 1) := by decide +kernel
theorem d201_57 : decode bM201 57 = .ok (.dup, 1) := by decide +kernel
theorem d201_58 : decode bM201 58 = .ok (.getfield 34, 3) := by decide +kernel
theorem d201_61 : decode bM201 61 = .ok (.iconst 1, 1) := by decide +kernel
theorem d201_62 : decode bM201 62 = .ok (.iadd, 1) := by decide +kernel
theorem d201_63 : decode bM201 63 = .ok (.putfield 34, 3) := by decide +kernel
theorem d201_66 : decode bM201 66 = .ok (.aload_n 0, 1) := by decide +kernel
theorem d201_67 : decode bM201 67 = .ok (.getfield 22, 3) := by decide +kernel
theorem d201_70 : decode bM201 70 = .ok (.getfield 216, 3) := by decide +kernel
theorem d201_73 : decode bM201 73 = .ok (.iload_n 2, 1) := by decide +kernel
theorem d201_74 : decode bM201 74 = .ok (.aaload, 1) := by decide +kernel
theorem d201_75 : decode bM201 75 = .ok (.getfield 197, 3) := by decide +kernel
theorem d201_78 : decode bM201 78 = .ok (.ireturn, 1) := by decide +kernel
theorem d202_0 : decode bM202 0 = .ok (.iload_n 2, 1) := by decide +kernel
theorem d202_1 : decode bM202 1 = .ok (.iconst (-1), 1) := by decide +kernel
theorem d202_2 : decode bM202 2 = .ok (.if_icmp .ne 14, 3) := by decide +kernel
theorem d202_5 : decode bM202 5 = .ok (.aload_n 0, 1) := by decide +kernel
theorem d202_6 : decode bM202 6 = .ok (.aload_n 1, 1) := by decide +kernel
theorem d202_7 : decode bM202 7 = .ok (.getfield 160, 3) := by decide +kernel
theorem d202_10 : decode bM202 10 = .ok (.invokevirtual 163, 3) := by decide +kernel
theorem d202_13 : decode bM202 13 = .ok (.goto 20, 3) := by decide +kernel
theorem d202_16 : decode bM202 16 = .ok (.aload_n 0, 1) := by decide +kernel
theorem d202_17 : decode bM202 17 = .ok (.aload_n 1, 1) := by decide +kernel
theorem d202_18 : decode bM202 18 = .ok (.getfield 160, 3) := by decide +kernel
theorem d202_21 : decode bM202 21 = .ok (.aload_n 0, 1) := by decide +kernel
theorem d202_22 : decode bM202 22 = .ok (.getfield 9, 3) := by decide +kernel
theorem d202_25 : decode bM202 25 = .ok (.getfield 54, 3) := by decide +kernel
theorem d202_28 : decode bM202 28 = .ok (.iload_n 2, 1) := by decide +kernel
theorem d202_29 : decode bM202 29 = .ok (.aaload, 1) := by decide +kernel
theorem d202_30 : decode bM202 30 = .ok (.invokevirtual 167, 3) := by decide +kernel
theorem d202_33 : decode bM202 33 = .ok (.lstore_n 3, 1) := by decide +kernel
theorem d202_34 : decode bM202 34 = .ok (.lload_n 3, 1) := by decide +kernel
theorem d202_35 : decode bM202 35 = .ok (.aload_n 1, 1) := by decide +kernel
theorem d202_36 : decode bM202 36 = .ok (.getfield 50, 3) := by decide +kernel
theorem d202_39 : decode bM202 39 = .ok (.land, 1) := by decide +kernel
theorem d202_40 : decode bM202 40 = .ok (.lstore 5, 2) := by decide +kernel
theorem d202_42 : decode bM202 42 = .ok (.iconst 0, 1) := by decide +kernel
theorem d202_43 : decode bM202 43 = .ok (.istore 7, 2) := by decide +kernel
theorem d202_45 : decode bM202 45 = .ok (.iload 7, 2) := by decide +kernel
theorem d202_47 : decode bM202 47 = .ok (.aload_n 1, 1) := by decide +kernel
theorem d202_48 : decode bM202 48 = .ok (.getfield 62, 3) := by decide +kernel
theorem d202_51 : decode bM202 51 = .ok (.invokevirtual 21, 3) := by decide +kernel
theorem d202_54 : decode bM202 54 = .ok (.if_icmp .ge 33, 3) := by decide +kernel
theorem d202_57 : decode bM202 57 = .ok (.aload_n 0, 1) := by decide +kernel
theorem d202_58 : decode bM202 58 = .ok (.aload_n 1, 1) := by decide +kernel
theorem d202_59 : decode bM202 59 = .ok (.getfield 62, 3) := by decide +kernel
theorem d202_62 : decode bM202 62 = .ok (.iload 7, 2) := by decide +kernel
theorem d202_64 : decode bM202 64 = .ok (.invokevirtual 27, 3) := by decide +kernel
theorem d202_67 : decode bM202 67 = .ok (.checkcast 65, 3) := by decide +kernel
theorem d202_70 : decode bM202 70 = .ok (.lload 5, 2) := by decide +kernel
theorem d202_72 : decode bM202 72 = .ok (.aload_n 1, 1) := by decide +kernel
theorem d202_73 : decode bM202 73 = .ok (.invokevirtual 170, 3) := by decide +kernel
theorem d202_76 : decode bM202 76 = .ok (.invokevirtual 174, 3) := by decide +kernel
theorem d202_79 : decode bM202 79 = .ok (.lstore 5, 2) := by decide +kernel
theorem d202_81 : decode bM202 81 = .ok (.iinc 7 1, 3) := by decide +kernel
theorem d202_84 : decode bM202 84 = .ok (.goto (-39), 3) := by decide +kernel
theorem d202_87 : decode bM202 87 = .ok (.lload 5, 2) := by decide +kernel
theorem d202_89 : decode bM202 89 = .ok (.lreturn, 1) := by decide +kernel
theorem d203_0 : decode bM203 0 = .ok (.aload_n 0, 1) := by decide +kernel
theorem d203_1 : decode bM203 1 = .ok (.getfield 34, 3) := by decide +kernel
theorem d203_4 : decode bM203 4 = .ok (.istore_n 1, 1) := by decide +kernel
theorem d203_5 : decode bM203 5 = .ok (.aload_n 0, 1) := by decide +kernel
theorem d203_6 : decode bM203 6 = .ok (.invokevirtual 87, 3) := by decide +kernel
theorem d203_9 : decode bM203 9 = .ok (.iload_n 1, 1) := by decide +kernel
theorem d203_10 : decode bM203 10 = .ok (.ireturn, 1) := by decide +kernel
theorem d204_0 : decode bM204 0 = .ok (.lconst 0, 1) := by decide +kernel
theorem d204_1 : decode bM204 1 = .ok (.lstore 4, 2) := by decide +kernel
theorem d204_3 : decode bM204 3 = .ok (.iconst 0, 1) := by decide +kernel
theorem d204_4 : decode bM204 4 = .ok (.istore 6, 2) := by decide +kernel
theorem d204_6 : decode bM204 6 = .ok (.iload 6, 2) := by decide +kernel
theorem d204_8 : decode bM204 8 = .ok (.aload_n 0, 1) := by decide +kernel
theorem d204_9 : decode bM204 9 = .ok (.getfield 9, 3) := by decide +kernel
theorem d204_12 : decode bM204 12 = .ok (.getfield 45, 3) := by decide +kernel
theorem d204_15 : decode bM204 15 = .ok (.if_icmp .ge 36, 3) := by decide +kernel
theorem d204_18 : decode bM204 18 = .ok (.lload 4, 2) := by decide +kernel
theorem d204_20 : decode bM204 20 = .ok (.aload_n 0, 1) := by decide +kernel
theorem d204_21 : decode bM204 21 = .ok (.aload_n 1, 1) := by decide +kernel
theorem d204_22 : decode bM204 22 = .ok (.iload 6, 2) := by decide +kernel
theorem d204_24 : decode bM204 24 = .ok (.invokevirtual 37, 3) := by decide +kernel
theorem d204_27 : decode bM204 27 = .ok (.lload_n 2, 1) := by decide +kernel
theorem d204_28 : decode bM204 28 = .ok (.land, 1) := by decide +kernel
theorem d204_29 : decode bM204 29 = .ok (.lconst 0, 1) := by decide +kernel
theorem d204_30 : decode bM204 30 = .ok (.lcmp, 1) := by decide +kernel
theorem d204_31 : decode bM204 31 = .ok (.ifCond .eq 10, 3) := by decide +kernel
theorem d204_34 : decode bM204 34 = .ok (.lconst 1, 1) := by decide +kernel
theorem d204_35 : decode bM204 35 = .ok (.iload 6, 2) := by decide +kernel
theorem d204_37 : decode bM204 37 = .ok (.lshl, 1) := by decide +kernel
theorem d204_38 : decode bM204 38 = .ok (.goto 4, 3) := by decide +kernel
theorem d204_41 : decode bM204 41 = .ok (.lconst 0, 1) := by decide +kernel
theorem d204_42 : decode bM204 42 = .ok (.lor, 1) := by decide +kernel
theorem d204_43 : decode bM204 43 = .ok (.lstore 4, 2) := by decide +kernel
theorem d204_45 : decode bM204 45 = .ok (.iinc 6 1, 3) := by decide +kernel
theorem d204_48 : decode bM204 48 = .ok (.goto (-42), 3) := by decide +kernel
theorem d204_51 : decode bM204 51 = .ok (.lload 4, 2) := by decide +kernel
theorem d204_53 : decode bM204 53 = .ok (.lreturn, 1) := by decide +kernel
theorem d205_0 : decode bM205 0 = .ok (.lconst 0, 1) := by decide +kernel
theorem d205_1 : decode bM205 1 = .ok (.lstore 4, 2) := by decide +kernel
theorem d205_3 : decode bM205 3 = .ok (.iconst 0, 1) := by decide +kernel
theorem d205_4 : decode bM205 4 = .ok (.istore 6, 2) := by decide +kernel
theorem d205_6 : decode bM205 6 = .ok (.iload 6, 2) := by decide +kernel
theorem d205_8 : decode bM205 8 = .ok (.aload_n 0, 1) := by decide +kernel
theorem d205_9 : decode bM205 9 = .ok (.getfield 9, 3) := by decide +kernel
theorem d205_12 : decode bM205 12 = .ok (.getfield 45, 3) := by decide +kernel
theorem d205_15 : decode bM205 15 = .ok (.if_icmp .ge 34, 3) := by decide +kernel
theorem d205_18 : decode bM205 18 = .ok (.lload 4, 2) := by decide +kernel
theorem d205_20 : decode bM205 20 = .ok (.lload_n 2, 1) := by decide +kernel
theorem d205_21 : decode bM205 21 = .ok (.iload 6, 2) := by decide +kernel
theorem d205_23 : decode bM205 23 = .ok (.invokestatic 156, 3) := by decide +kernel
theorem d205_26 : decode bM205 26 = .ok (.ifCond .eq 13, 3) := by decide +kernel
theorem d205_29 : decode bM205 29 = .ok (.aload_n 0, 1) := by decide +kernel
theorem d205_30 : decode bM205 30 = .ok (.aload_n 1, 1) := by decide +kernel
theorem d205_31 : decode bM205 31 = .ok (.iload 6, 2) := by decide +kernel
theorem d205_33 : decode bM205 33 = .ok (.invokevirtual 37, 3) := by decide +kernel
theorem d205_36 : decode bM205 36 = .ok (.goto 4, 3) := by decide +kernel
theorem d205_39 : decode bM205 39 = .ok (.lconst 0, 1) := by decide +kernel
theorem d205_40 : decode bM205 40 = .ok (.lor, 1) := by decide +kernel
theorem d205_41 : decode bM205 41 = .ok (.lstore 4, 2) := by decide +kernel
theorem d205_43 : decode bM205 43 = .ok (.iinc 6 1, 3) := by decide +kernel
theorem d205_46 : decode bM205 46 = .ok (.goto (-40), 3) := by decide +kernel
theorem d205_49 : decode bM205 49 = .ok (.lload 4, 2) := by decide +kernel
theorem d205_51 : decode bM205 51 = .ok (.lreturn, 1) := by decide +kernel
theorem d206_0 : decode bM206 0 = .ok (.lconst 0, 1) := by decide +kernel
theorem d206_1 : decode bM206 1 = .ok (.lstore_n 3, 1) := by decide +kernel
theorem d206_2 : decode bM206 2 = .ok (.iconst 0, 1) := by decide +kernel
theorem d206_3 : decode bM206 3 = .ok (.istore 5, 2) := by decide +kernel
theorem d206_5 : decode bM206 5 = .ok (.iload 5, 2) := by decide +kernel
theorem d206_7 : decode bM206 7 = .ok (.aload_n 2, 1) := by decide +kernel
theorem d206_8 : decode bM206 8 = .ok (.getfield 15, 3) := by decide +kernel
theorem d206_11 : decode bM206 11 = .ok (.invokevirtual 21, 3) := by decide +kernel
theorem d206_14 : decode bM206 14 = .ok (.if_icmp .ge 58, 3) := by decide +kernel
theorem d206_17 : decode bM206 17 = .ok (.aload_n 2, 1) := by decide +kernel
theorem d206_18 : decode bM206 18 = .ok (.getfield 15, 3) := by decide +kernel
theorem d206_21 : decode bM206 21 = .ok (.iload 5, 2) := by decide +kernel
theorem d206_23 : decode bM206 23 = .ok (.invokevirtual 27, 3) := by decide +kernel
theorem d206_26 : decode bM206 26 = .ok (.checkcast 31, 3) := by decide +kernel
theorem d206_29 : decode bM206 29 = .ok (.astore 6, 2) := by decide +kernel
theorem d206_31 : decode bM206 31 = .ok (.iload 5, 2) := by decide +kernel
theorem d206_33 : decode bM206 33 = .ok (.ifCond .ne 25, 3) := by decide +kernel
theorem d206_36 : decode bM206 36 = .ok (.aload_n 0, 1) := by decide +kernel
theorem d206_37 : decode bM206 37 = .ok (.aload 6, 2) := by decide +kernel
theorem d206_39 : decode bM206 39 = .ok (.aload_n 2, 1) := by decide +kernel
theorem d206_40 : decode bM206 40 = .ok (.getfield 33, 3) := by decide +kernel
theorem d206_43 : decode bM206 43 = .ok (.ifCond .eq 7, 3) := by decide +kernel
theorem d206_46 : decode bM206 46 = .ok (.iconst (-1), 1) := by decide +kernel
theorem d206_47 : decode bM206 47 = .ok (.goto 4, 3) := by decide +kernel
theorem d206_50 : decode bM206 50 = .ok (.iload_n 1, 1) := by decide +kernel
theorem d206_51 : decode bM206 51 = .ok (.invokevirtual 37, 3) := by decide +kernel
theorem d206_54 : decode bM206 54 = .ok (.lstore_n 3, 1) := by decide +kernel
theorem d206_55 : decode bM206 55 = .ok (.goto 11, 3) := by decide +kernel
theorem d206_58 : decode bM206 58 = .ok (.aload_n 0, 1) := by decide +kernel
theorem d206_59 : decode bM206 59 = .ok (.aload 6, 2) := by decide +kernel
theorem d206_61 : decode bM206 61 = .ok (.lload_n 3, 1) := by decide +kernel
theorem d206_62 : decode bM206 62 = .ok (.invokevirtual 41, 3) := by decide +kernel
theorem d206_65 : decode bM206 65 = .ok (.lstore_n 3, 1) := by decide +kernel
theorem d206_66 : decode bM206 66 = .ok (.iinc 5 1, 3) := by decide +kernel
theorem d206_69 : decode bM206 69 = .ok (.goto (-64), 3) := by decide +kernel
theorem d206_72 : decode bM206 72 = .ok (.lload_n 3, 1) := by decide +kernel
theorem d206_73 : decode bM206 73 = .ok (.lreturn, 1) := by decide +kernel
theorem d207_0 : decode bM207 0 = .ok (.lload_n 2, 1) := by decide +kernel
theorem d207_1 : decode bM207 1 = .ok (.lstore 4, 2) := by decide +kernel
theorem d207_3 : decode bM207 3 = .ok (.aload_n 1, 1) := by decide +kernel
theorem d207_4 : decode bM207 4 = .ok (.getfield 15, 3) := by decide +kernel
theorem d207_7 : decode bM207 7 = .ok (.invokevirtual 21, 3) := by decide +kernel
theorem d207_10 : decode bM207 10 = .ok (.iconst 1, 1) := by decide +kernel
theorem d207_11 : decode bM207 11 = .ok (.isub, 1) := by decide +kernel
theorem d207_12 : decode bM207 12 = .ok (.istore 6, 2) := by decide +kernel
theorem d207_14 : decode bM207 14 = .ok (.iload 6, 2) := by decide +kernel
theorem d207_16 : decode bM207 16 = .ok (.ifCond .lt 80, 3) := by decide +kernel
theorem d207_19 : decode bM207 19 = .ok (.aload_n 1, 1) := by decide +kernel
theorem d207_20 : decode bM207 20 = .ok (.getfield 15, 3) := by decide +kernel
theorem d207_23 : decode bM207 23 = .ok (.iload 6, 2) := by decide +kernel
theorem d207_25 : decode bM207 25 = .ok (.invokevirtual 27, 3) := by decide +kernel
theorem d207_28 : decode bM207 28 = .ok (.checkcast 31, 3) := by decide +kernel
theorem d207_31 : decode bM207 31 = .ok (.astore 7, 2) := by decide +kernel
theorem d207_33 : decode bM207 33 = .ok (.iload 6, 2) := by decide +kernel
theorem d207_35 : decode bM207 35 = .ok (.ifCond .ne 45, 3) := by decide +kernel
theorem d207_38 : decode bM207 38 = .ok (.aload_n 1, 1) := by decide +kernel
theorem d207_39 : decode bM207 39 = .ok (.getfield 33, 3) := by decide +kernel
theorem d207_42 : decode bM207 42 = .ok (.ifCond .eq 38, 3) := by decide +kernel
theorem d207_45 : decode bM207 45 = .ok (.aload_n 0, 1) := by decide +kernel
theorem d207_46 : decode bM207 46 = .ok (.aload 7, 2) := by decide +kernel
theorem d207_48 : decode bM207 48 = .ok (.iconst (-1), 1) := by decide +kernel
theorem d207_49 : decode bM207 49 = .ok (.invokevirtual 37, 3) := by decide +kernel
theorem d207_52 : decode bM207 52 = .ok (.lload 4, 2) := by decide +kernel
theorem d207_54 : decode bM207 54 = .ok (.land, 1) := by decide +kernel
theorem d207_55 : decode bM207 55 = .ok (.lconst 0, 1) := by decide +kernel
theorem d207_56 : decode bM207 56 = .ok (.lcmp, 1) := by decide +kernel
theorem d207_57 : decode bM207 57 = .ok (.ifCond .eq 17, 3) := by decide +kernel
theorem d207_60 : decode bM207 60 = .ok (.iconst 0, 1) := by decide +kernel
theorem d207_61 : decode bM207 61 = .ok (.aload_n 0, 1) := by decide +kernel
theorem d207_62 : decode bM207 62 = .ok (.getfield 9, 3) := by decide +kernel
theorem d207_65 : decode bM207 65 = .ok (.getfield 45, 3) := by decide +kernel
theorem d207_68 : decode bM207 68 = .ok (.invokestatic 125, 3) := by decide +kernel
theorem d207_71 : decode bM207 71 = .ok (.goto 4, 3) := by decide +kernel
theorem d207_74 : decode bM207 74 = .ok (.lconst 0, 1) := by decide +kernel
theorem d207_75 : decode bM207 75 = .ok (.lstore 4, 2) := by decide +kernel
theorem d207_77 : decode bM207 77 = .ok (.goto 13, 3) := by decide +kernel
theorem d207_80 : decode bM207 80 = .ok (.aload_n 0, 1) := by decide +kernel
theorem d207_81 : decode bM207 81 = .ok (.aload 7, 2) := by decide +kernel
theorem d207_83 : decode bM207 83 = .ok (.lload 4, 2) := by decide +kernel
theorem d207_85 : decode bM207 85 = .ok (.invokevirtual 153, 3) := by decide +kernel
theorem d207_88 : decode bM207 88 = .ok (.lstore 4, 2) := by decide +kernel
theorem d207_90 : decode bM207 90 = .ok (.iinc 6 (-1), 3) := by decide +kernel
theorem d207_93 : decode bM207 93 = .ok (.goto (-79), 3) := by decide +kernel
theorem d207_96 : decode bM207 96 = .ok (.lload 4, 2) := by decide +kernel
theorem d207_98 : decode bM207 98 = .ok (.lreturn, 1) := by decide +kernel
def cg_lt {α : Type} (x : α) (K : α → Prop) : Prop := ∃ v, v = x ∧ K v
theorem hm_any {D : va_G} {tys : List (ClassId × FieldType)} {s0 s : State} {h : hm_T} {z : hz_T} {H : Heap} {locs : List Loc} {a ci : Nat} {fs : List Value} {r : vw_C} (hK : va_K D vwCl tys s) (I : hm_I D s0 s h z H locs) (c9 : h a = some (.inr (ci, fs))) (hc : vwCl[ci]? = some r) : va_Any r.1 s H a := va_rAny (q0 := 0) hK (hm_one I.1 c9) rfl hc (fun comp c0 h1 h2 => vb_asgS comp c0 h1 h2)

def w_Long_bitCount (dA : Nat → ClassId) (y0 : Int64) (K : Int32 → hm_T → hz_T → Prop) (h0 : hm_T) (z0 : hz_T) : Prop := (cg_lt (y0 - ((y0.toUInt64 >>> ((1 : Int32).toInt64.toUInt64 &&& Int64.toUInt64 63)).toInt64 &&& (6148914691236517205 : Int64))) (fun v21 => (cg_lt ((v21 &&& (3689348814741910323 : Int64)) + ((v21.toUInt64 >>> ((2 : Int32).toInt64.toUInt64 &&& Int64.toUInt64 63)).toInt64 &&& (3689348814741910323 : Int64))) (fun v22 => (cg_lt ((v22 + (v22.toUInt64 >>> ((4 : Int32).toInt64.toUInt64 &&& Int64.toUInt64 63)).toInt64) &&& (1085102592571150095 : Int64)) (fun v23 => (cg_lt (v23 + (v23.toUInt64 >>> ((8 : Int32).toInt64.toUInt64 &&& Int64.toUInt64 63)).toInt64) (fun v24 => (cg_lt (v24 + (v24.toUInt64 >>> ((16 : Int32).toInt64.toUInt64 &&& Int64.toUInt64 63)).toInt64) (fun v25 => (cg_lt (v25 + (v25.toUInt64 >>> ((32 : Int32).toInt64.toUInt64 &&& Int64.toUInt64 63)).toInt64) (fun v26 => (K ((v26.toInt32) &&& 127) h0 z0)))))))))))))
set_option maxRecDepth 100000 in
set_option maxHeartbeats 8000000 in
theorem cw_Long_bitCount (l : Launch) (D : va_G) (dA : Nat → ClassId) (s0 : State) (hE : ms_EV D dA s0) (y0 : Int64) (h0 : hm_T) (z0 : hz_T) (K : Int32 → hm_T → hz_T → Prop) (hg : w_Long_bitCount dA y0 K h0 z0) : ht_C l D s0 yM188 bM188 2 (Option.some Jvm.ClassFile.FieldType.int) 0 0 0 0 [.long y0] (fun h z => h = h0 ∧ z = z0) (fun h z vv h1 z1 => ∃ v, vv = some (.int v) ∧ K v h1 z1) := by
  refine ht_C.mk hE.1 (by decide) (Nat.le_of_ble_eq_true rfl) [(0, .long y0)] rfl ?_
  intro p e s m below meth c ls h z X hin hpre I hl
  have hx := X.1
  have hb := X.2.1
  have hml := X.2.2.1
  have hown : s.vm.findClass "java/lang/Long" = some m.cls := X.2.2.2.1
  have hts := X.2.2.2.2.2.2.1
  have hK := X.2.2.2.2.2.2.2.2.1
  rw [hpre.1, hpre.2] at I
  clear hpre
  have hF := hg
  unfold w_Long_bitCount at hF
  clear h z
  refine lv_lload_n hx hb d188_0 rfl (lv_at hl 0 rfl) ?_
  refine lv_lload_n hx hb d188_1 rfl (lv_at hl 0 rfl) ?_
  refine lv_iconst (v := 1) hx hb d188_2 (by decide) ?_
  refine lv_lushr (v := (y0.toUInt64 >>> ((1 : Int32).toInt64.toUInt64 &&& Int64.toUInt64 63)).toInt64) hx hb d188_3 rfl ?_
  refine lv_ldc2 (own := "java/lang/Long") (v := (6148914691236517205 : Int64)) hx hb hown (hts _ ms_k1174) d188_4 ?_
  refine lv_land hx hb d188_7 ?_
  refine lv_lsub hx hb d188_8 ?_
  obtain ⟨v21, e9, hF⟩ := hF
  refine mm_topL (y := v21) e9.symm ?_
  clear e9
  refine lv_lstore_n hx hb d188_9 rfl hl (by decide) rfl (fun ls hl => ?_)
  have hl : lv_has ls 2 [(0, .long v21)] := hl
  refine lv_lload_n hx hb d188_10 rfl (lv_at hl 0 rfl) ?_
  refine lv_ldc2 (own := "java/lang/Long") (v := (3689348814741910323 : Int64)) hx hb hown (hts _ ms_k1175) d188_11 ?_
  refine lv_land hx hb d188_14 ?_
  refine lv_lload_n hx hb d188_15 rfl (lv_at hl 0 rfl) ?_
  refine lv_iconst (v := 2) hx hb d188_16 (by decide) ?_
  refine lv_lushr (v := (v21.toUInt64 >>> ((2 : Int32).toInt64.toUInt64 &&& Int64.toUInt64 63)).toInt64) hx hb d188_17 rfl ?_
  refine lv_ldc2 (own := "java/lang/Long") (v := (3689348814741910323 : Int64)) hx hb hown (hts _ ms_k1175) d188_18 ?_
  refine lv_land hx hb d188_21 ?_
  refine lv_ladd hx hb d188_22 ?_
  obtain ⟨v22, e9, hF⟩ := hF
  refine mm_topL (y := v22) e9.symm ?_
  clear e9
  refine lv_lstore_n hx hb d188_23 rfl hl (by decide) rfl (fun ls hl => ?_)
  have hl : lv_has ls 2 [(0, .long v22)] := hl
  refine lv_lload_n hx hb d188_24 rfl (lv_at hl 0 rfl) ?_
  refine lv_lload_n hx hb d188_25 rfl (lv_at hl 0 rfl) ?_
  refine lv_iconst (v := 4) hx hb d188_26 (by decide) ?_
  refine lv_lushr (v := (v22.toUInt64 >>> ((4 : Int32).toInt64.toUInt64 &&& Int64.toUInt64 63)).toInt64) hx hb d188_27 rfl ?_
  refine lv_ladd hx hb d188_28 ?_
  refine lv_ldc2 (own := "java/lang/Long") (v := (1085102592571150095 : Int64)) hx hb hown (hts _ ms_k1176) d188_29 ?_
  refine lv_land hx hb d188_32 ?_
  obtain ⟨v23, e9, hF⟩ := hF
  refine mm_topL (y := v23) e9.symm ?_
  clear e9
  refine lv_lstore_n hx hb d188_33 rfl hl (by decide) rfl (fun ls hl => ?_)
  have hl : lv_has ls 2 [(0, .long v23)] := hl
  refine lv_lload_n hx hb d188_34 rfl (lv_at hl 0 rfl) ?_
  refine lv_lload_n hx hb d188_35 rfl (lv_at hl 0 rfl) ?_
  refine lv_bipush (v := 8) hx hb d188_36 (by decide) ?_
  refine lv_lushr (v := (v23.toUInt64 >>> ((8 : Int32).toInt64.toUInt64 &&& Int64.toUInt64 63)).toInt64) hx hb d188_38 rfl ?_
  refine lv_ladd hx hb d188_39 ?_
  obtain ⟨v24, e9, hF⟩ := hF
  refine mm_topL (y := v24) e9.symm ?_
  clear e9
  refine lv_lstore_n hx hb d188_40 rfl hl (by decide) rfl (fun ls hl => ?_)
  have hl : lv_has ls 2 [(0, .long v24)] := hl
  refine lv_lload_n hx hb d188_41 rfl (lv_at hl 0 rfl) ?_
  refine lv_lload_n hx hb d188_42 rfl (lv_at hl 0 rfl) ?_
  refine lv_bipush (v := 16) hx hb d188_43 (by decide) ?_
  refine lv_lushr (v := (v24.toUInt64 >>> ((16 : Int32).toInt64.toUInt64 &&& Int64.toUInt64 63)).toInt64) hx hb d188_45 rfl ?_
  refine lv_ladd hx hb d188_46 ?_
  obtain ⟨v25, e9, hF⟩ := hF
  refine mm_topL (y := v25) e9.symm ?_
  clear e9
  refine lv_lstore_n hx hb d188_47 rfl hl (by decide) rfl (fun ls hl => ?_)
  have hl : lv_has ls 2 [(0, .long v25)] := hl
  refine lv_lload_n hx hb d188_48 rfl (lv_at hl 0 rfl) ?_
  refine lv_lload_n hx hb d188_49 rfl (lv_at hl 0 rfl) ?_
  refine lv_bipush (v := 32) hx hb d188_50 (by decide) ?_
  refine lv_lushr (v := (v25.toUInt64 >>> ((32 : Int32).toInt64.toUInt64 &&& Int64.toUInt64 63)).toInt64) hx hb d188_52 rfl ?_
  refine lv_ladd hx hb d188_53 ?_
  obtain ⟨v26, e9, hF⟩ := hF
  refine mm_topL (y := v26) e9.symm ?_
  clear e9
  refine lv_lstore_n hx hb d188_54 rfl hl (by decide) rfl (fun ls hl => ?_)
  have hl : lv_has ls 2 [(0, .long v26)] := hl
  refine lv_lload_n hx hb d188_55 rfl (lv_at hl 0 rfl) ?_
  refine lv_l2i (v := v26.toInt32) hx hb d188_56 rfl ?_
  refine lv_bipush (v := 127) hx hb d188_57 (by decide) ?_
  refine lv_iand hx hb d188_59 ?_
  exact ht_iret X d188_60 I (Nat.le_of_ble_eq_true rfl) (Nat.le_of_ble_eq_true rfl) ⟨_, rfl, hF⟩

def w_Store_keepFound_57 (dA : Nat → ClassId) (y0 : Nat) (K : hm_T → hz_T → Prop) (k7 : Int64 → Int32 → hm_T → hz_T → Prop) (x1 : Int64) (x3 : Int32) (h : hm_T) (z : hz_T) : Prop := (k7 x1 (x3 + 1) h z)
def w_Store_keepFound_7 (dA : Nat → ClassId) (y0 : Nat) (K : hm_T → hz_T → Prop) : Nat → Int64 → Int32 → hm_T → hz_T → Prop
  | 0, _, _, _, _ => False
  | n9 + 1, x1, x3, h, z => (cg_R h 0 2 y0 (fun v22 => (cg_d v22 (fun a23 => (cg_I h 1 3 a23 (fun v24 => (if v24 ≤ x3 then (K h z) else (w_Walker_has dA x1 x3 (fun v25 h26 z27 => (if v25 = 0 then (w_Store_keepFound_57 dA y0 K (w_Store_keepFound_7 dA y0 K n9) x1 x3 h26 z27) else (cg_R h26 0 3 y0 (fun v28 => (cg_I h26 0 4 y0 (fun v29 => (cg_R h26 0 2 y0 (fun v30 => (cg_d v30 (fun a31 => (cg_R h26 1 2 a31 (fun v32 => (cg_d v32 (fun a33 => (cg_ar dA h26 5 a33 x3 (fun v34 => (cg_d v34 (fun a35 => (cg_I h26 8 5 a35 (fun v36 => (cg_d v28 (fun a37 => (cg_si dA h26 0 a37 v29 v36 (fun h38 => (cg_I h38 0 4 y0 (fun v39 => (cg_p h38 0 4 y0 (.int (v39 + 1)) (fun h40 => (w_Store_keepFound_57 dA y0 K (w_Store_keepFound_7 dA y0 K n9) x1 x3 h40 z27))))))))))))))))))))))))))))) h z))))))))
def w_Store_keepFound (dA : Nat → ClassId) (y0 : Nat) (y1 : Int64) (K : hm_T → hz_T → Prop) (h0 : hm_T) (z0 : hz_T) : Prop := (cg_p h0 0 4 y0 (.int 0) (fun h21 => (w_Store_keepFound_7 dA y0 K mF y1 0 h21 z0)))
set_option maxRecDepth 100000 in
set_option maxHeartbeats 8000000 in
theorem cw_Store_keepFound (l : Launch) (D : va_G) (dA : Nat → ClassId) (s0 : State) (hE : ms_EV D dA s0) (y0 : Nat) (y1 : Int64) (h0 : hm_T) (z0 : hz_T) (K : hm_T → hz_T → Prop) (hg : w_Store_keepFound dA y0 y1 K h0 z0) : ht_C l D s0 yM189 bM189 4 (Option.none : Option Jvm.ClassFile.FieldType) 1 22 0 0 [.ref y0, .long y1] (fun h z => h = h0 ∧ z = z0) (fun h z vv h1 z1 => vv = none ∧ K h1 z1) := by
  refine ht_C.mk hE.1 (by decide) (Nat.le_of_ble_eq_true rfl) [(0, .ref y0), (1, .long y1)] rfl ?_
  intro p e s m below meth c ls h z X hin hpre I hl
  have hx := X.1
  have hb := X.2.1
  have hml := X.2.2.1
  have hown : s.vm.findClass "MarkupStore" = some m.cls := X.2.2.2.1
  have hts := X.2.2.2.2.2.2.1
  have hK := X.2.2.2.2.2.2.2.2.1
  rw [hpre.1, hpre.2] at I
  clear hpre
  have b57 : ∀ (k7 : Int64 → Int32 → hm_T → hz_T → Prop), (∀ (ls : Array Slot) (x1 : Int64) (x3 : Int32) (h : hm_T) (z : hz_T) (H : Heap) (locs : List Loc), k7 x1 x3 h z → lv_has ls 4 [(0, .ref y0), (1, .long x1), (3, .int x3)] → hm_I D s0 s h z H locs → W p l e { frames := 1, cells := 0, slots := 0, locals := 22 } s m ([.ref y0, .long y1] : List Value).toArray below meth c H locs 0 0 (MQ below (ht_Q D s0 (fun vv h1 z1 => vv = none ∧ K h1 z1)) ([.ref y0, .long y1] : List Value).toArray s 0 0 (fun q => s0.heap.size ≤ q)) (F0 m 7 ls [])) → ∀ (ls : Array Slot) (x1 : Int64) (x3 : Int32) (h : hm_T) (z : hz_T) (H : Heap) (locs : List Loc), w_Store_keepFound_57 dA y0 K k7 x1 x3 h z → lv_has ls 4 [(0, .ref y0), (1, .long x1), (3, .int x3)] → hm_I D s0 s h z H locs → W p l e { frames := 1, cells := 0, slots := 0, locals := 22 } s m ([.ref y0, .long y1] : List Value).toArray below meth c H locs 0 0 (MQ below (ht_Q D s0 (fun vv h1 z1 => vv = none ∧ K h1 z1)) ([.ref y0, .long y1] : List Value).toArray s 0 0 (fun q => s0.heap.size ≤ q)) (F0 m 57 ls []) := by
    intro k7 hk7 ls x1 x3 h z H locs hF hl I
    unfold w_Store_keepFound_57 at hF
    refine lv_iinc (k := 2) (v := (x3 + 1)) hx hb d189_57 hl rfl (rfl) (by decide) rfl (fun ls hl => ?_)
    have hl : lv_has ls 4 [(3, .int (x3 + 1)), (0, .ref y0), (1, .long x1)] := hl
    refine lv_goto hx hb d189_60 rfl ?_
    exact hk7 ls x1 (x3 + 1) h z _ _ hF (hl.sub [1, 2, 0] rfl) I
  have b7 : ∀ n9 : Nat, ∀ (ls : Array Slot) (x1 : Int64) (x3 : Int32) (h : hm_T) (z : hz_T) (H : Heap) (locs : List Loc), w_Store_keepFound_7 dA y0 K n9 x1 x3 h z → lv_has ls 4 [(0, .ref y0), (1, .long x1), (3, .int x3)] → hm_I D s0 s h z H locs → W p l e { frames := 1, cells := 0, slots := 0, locals := 22 } s m ([.ref y0, .long y1] : List Value).toArray below meth c H locs 0 0 (MQ below (ht_Q D s0 (fun vv h1 z1 => vv = none ∧ K h1 z1)) ([.ref y0, .long y1] : List Value).toArray s 0 0 (fun q => s0.heap.size ≤ q)) (F0 m 7 ls []) := by
    intro n9
    induction n9 with
    | zero => intro ls x1 x3 h z H locs hF; cases hF
    | succ n9 hk7 =>
    intro ls x1 x3 h z H locs hF hl I
    unfold w_Store_keepFound_7 at hF
    refine lv_iload_n hx hb d189_7 rfl (lv_at hl 2 rfl) ?_
    refine lv_aload_n hx hb d189_8 rfl (lv_at hl 0 rfl) ?_
    obtain ⟨fs9, v22, c9, e9, hF⟩ := hF
    refine va_get (D := D) (ci := 0) (v := va_rf v22) (C := kR0) (T := kT0) (N := 6) hx hb hts ku0 hown hK (hm_one I.1 c9) 0 rfl rfl 2 (by decide) (hts _ ms_k107) (fun _ h => h) e9 d189_9 ?_
    clear e9 c9 fs9
    obtain ⟨a23, e9, hF⟩ := hF
    refine W.eq (g2 := F0 m 12 ls [.ref a23, .int x3]) (by rw [e9]; rfl) ?_
    clear e9
    obtain ⟨fs9, v24, c9, e9, hF⟩ := hF
    refine va_get (D := D) (ci := 1) (v := .int v24) (C := kR1) (T := kT1) (N := 6) hx hb hts ku1 hown hK (hm_one I.1 c9) 0 rfl rfl 3 (by decide) (hts _ ms_k89) (fun _ h => h) e9 d189_12 ?_
    clear e9 c9 fs9
    refine lv_icmp_ge hx hb d189_15 rfl (fun h9 => ?_) (fun h9 => ?_)
    · have hF := Eq.mp (if_pos h9) hF
      exact ht_vret X d189_63 I (Nat.le_of_ble_eq_true rfl) (Nat.le_of_ble_eq_true rfl) ⟨rfl, hF⟩
    · have hF := Eq.mp (if_neg h9) hF
      refine lv_lload_n hx hb d189_18 rfl (lv_at hl 1 rfl) ?_
      refine lv_iload_n hx hb d189_19 rfl (lv_at hl 2 rfl) ?_
      refine ht_S (rest := []) (as := [.long x1, .int x3]) X hl (cw_Walker_has l D dA s0 hE x1 x3 h z _ hF) (List.forall_mem_cons.mpr ⟨ms_k1196, List.forall_mem_cons.mpr ⟨ms_k1190, List.forall_mem_cons.mpr ⟨ms_k28, List.forall_mem_cons.mpr ⟨ms_k1191, fun _ h => absurd h List.not_mem_nil⟩⟩⟩⟩) ⟨by decide +kernel, by decide +kernel, (by decide +kernel : (parseMethodDescriptor "(JI)Z").map (fun d => d.parameters.length) = some 2)⟩ I ⟨rfl, rfl⟩ ⟨⟨Nat.le_of_ble_eq_true rfl, Nat.le_of_ble_eq_true rfl⟩, Nat.le_of_ble_eq_true rfl, Nat.le_of_ble_eq_true rfl⟩ rfl (Nat.le_of_ble_eq_true rfl) d189_20 (fun vv h26 z27 H locs hR I9 => ?_)
      obtain ⟨v25, e1, hF⟩ := hR
      subst e1
      clear I
      have I := I9
      clear I9
      refine W.eq (g2 := F0 m 23 ls [.int v25]) rfl ?_
      refine lv_if_eq hx hb d189_23 rfl (fun h9 => ?_) (fun h9 => ?_)
      · have hF := Eq.mp (if_pos h9) hF
        exact b57 (w_Store_keepFound_7 dA y0 K n9) hk7 ls x1 x3 h26 z27 _ _ hF (hl.sub [0, 1, 2] rfl) I
      · have hF := Eq.mp (if_neg h9) hF
        refine lv_aload_n hx hb d189_26 rfl (lv_at hl 0 rfl) ?_
        obtain ⟨fs9, v28, c9, e9, hF⟩ := hF
        refine va_get (D := D) (ci := 0) (v := va_rf v28) (C := kR0) (T := kT0) (N := 6) hx hb hts ku0 hown hK (hm_one I.1 c9) 0 rfl rfl 3 (by decide) (hts _ ms_k108) (fun _ h => h) e9 d189_27 ?_
        clear e9 c9 fs9
        refine lv_aload_n hx hb d189_30 rfl (lv_at hl 0 rfl) ?_
        obtain ⟨fs9, v29, c9, e9, hF⟩ := hF
        refine va_get (D := D) (ci := 0) (v := .int v29) (C := kR0) (T := kT0) (N := 6) hx hb hts ku0 hown hK (hm_one I.1 c9) 0 rfl rfl 4 (by decide) (hts _ ms_k109) (fun _ h => h) e9 d189_31 ?_
        clear e9 c9 fs9
        refine lv_aload_n hx hb d189_34 rfl (lv_at hl 0 rfl) ?_
        obtain ⟨fs9, v30, c9, e9, hF⟩ := hF
        refine va_get (D := D) (ci := 0) (v := va_rf v30) (C := kR0) (T := kT0) (N := 6) hx hb hts ku0 hown hK (hm_one I.1 c9) 0 rfl rfl 2 (by decide) (hts _ ms_k107) (fun _ h => h) e9 d189_35 ?_
        clear e9 c9 fs9
        obtain ⟨a31, e9, hF⟩ := hF
        refine W.eq (g2 := F0 m 38 ls [.ref a31, .int v29, va_rf v28]) (by rw [e9]; rfl) ?_
        clear e9
        obtain ⟨fs9, v32, c9, e9, hF⟩ := hF
        refine va_get (D := D) (ci := 1) (v := va_rf v32) (C := kR1) (T := kT1) (N := 6) hx hb hts ku1 hown hK (hm_one I.1 c9) 0 rfl rfl 2 (by decide) (hts _ ms_k85) (fun _ h => h) e9 d189_38 ?_
        clear e9 c9 fs9
        refine lv_iload_n hx hb d189_41 rfl (lv_at hl 2 rfl) ?_
        obtain ⟨a33, e9, hF⟩ := hF
        refine W.eq (g2 := F0 m 42 ls [.int x3, .ref a33, .int v29, va_rf v28]) (by rw [e9]; rfl) ?_
        clear e9
        obtain ⟨n8, f8, c9, i9, hF⟩ := hF
        refine va_aldq hx hb hK (hm_one I.1 c9) 0 5 rfl rfl i9 d189_42 ?_
        generalize f8 (Int32.toNatClampNeg x3) = v34 at hF ⊢
        clear c9 i9
        obtain ⟨a35, e9, hF⟩ := hF
        refine W.eq (g2 := F0 m 43 ls [.ref a35, .int v29, va_rf v28]) (by rw [e9]; rfl) ?_
        clear e9
        obtain ⟨fs9, v36, c9, e9, hF⟩ := hF
        refine va_get (D := D) (ci := 8) (v := .int v36) (C := kR8) (T := kT8) (N := 9) hx hb hts ku8 hown hK (hm_one I.1 c9) 0 rfl rfl 5 (by decide) (hts _ ms_k461) (fun _ h => h) e9 d189_43 ?_
        clear e9 c9 fs9
        obtain ⟨a37, e9, hF⟩ := hF
        refine W.eq (g2 := F0 m 46 ls [.int v36, .int v29, .ref a37]) (by rw [e9]; rfl) ?_
        clear e9
        obtain ⟨n8, f8, c9, i9, hF⟩ := hF
        refine hm_iast X I 0 c9 rfl i9 d189_46 (fun h38 H locs e9 f9 I => ?_)
        rw [← hm_eqU e9 f9] at hF
        clear e9 f9 c9 i9
        refine lv_aload_n hx hb d189_47 rfl (lv_at hl 0 rfl) ?_
        refine lv_dup hx hb d189_48 rfl ?_
        obtain ⟨fs9, v39, c9, e9, hF⟩ := hF
        refine va_get (D := D) (ci := 0) (v := .int v39) (C := kR0) (T := kT0) (N := 6) hx hb hts ku0 hown hK (hm_one I.1 c9) 0 rfl rfl 4 (by decide) (hts _ ms_k109) (fun _ h => h) e9 d189_49 ?_
        clear e9 c9 fs9
        refine lv_iconst (v := 1) hx hb d189_52 (by decide) ?_
        refine lv_iadd hx hb d189_53 ?_
        obtain ⟨fs9, c9, k9, hF⟩ := hF
        refine hm_put (ci := 0) (v := .int (v39 + 1)) (ty := .int) (C := kR0) (T := kT0) (N := 6) X I ku0 kt0 kp0 kn0 c9 rfl 4 (by decide) ms_k109 (fun _ h => h) rfl (by decide +kernel) rfl rfl k9 d189_54 (fun h40 H locs e9 f9 I => ?_)
        rw [← hm_eqU e9 f9] at hF
        clear e9 f9 c9 k9
        exact b57 (w_Store_keepFound_7 dA y0 K n9) hk7 ls x1 x3 h40 z27 _ _ hF (hl.sub [0, 1, 2] rfl) I
  have hF := hg
  unfold w_Store_keepFound at hF
  clear h z
  refine lv_aload_n hx hb d189_0 rfl (lv_at hl 0 rfl) ?_
  refine lv_iconst (v := 0) hx hb d189_1 (by decide) ?_
  obtain ⟨fs9, c9, k9, hF⟩ := hF
  refine hm_put (ci := 0) (v := .int 0) (ty := .int) (C := kR0) (T := kT0) (N := 6) X I ku0 kt0 kp0 kn0 c9 rfl 4 (by decide) ms_k109 (fun _ h => h) rfl (by decide +kernel) rfl rfl k9 d189_2 (fun h21 H locs e9 f9 I => ?_)
  rw [← hm_eqU e9 f9] at hF
  clear e9 f9 c9 k9
  refine lv_iconst (v := 0) hx hb d189_5 (by decide) ?_
  refine lv_istore_n hx hb d189_6 rfl hl (by decide) rfl (fun ls hl => ?_)
  have hl : lv_has ls 4 [(3, .int 0), (0, .ref y0), (1, .long y1)] := hl
  exact b7 mF ls y1 0 h21 z0 _ _ hF (hl.sub [1, 2, 0] rfl) I

def w_Predicate_init (dA : Nat → ClassId) (y0 : Nat) (K : hm_T → hz_T → Prop) (h0 : hm_T) (z0 : hz_T) : Prop := (cg_p h0 13 0 y0 (.int 47) (fun h21 => (cg_p h21 13 1 y0 (.int 0) (fun h22 => (cg_p h22 13 2 y0 (.int 0) (fun h23 => (cg_lit z0 [] (fun a24 => (cg_p h23 13 3 y0 (.ref a24) (fun h25 => (cg_p h25 13 4 y0 (.null) (fun h26 => (cg_p h26 13 5 y0 (.int 32) (fun h27 => (cg_lit z0 [] (fun a28 => (cg_p h27 13 6 y0 (.ref a28) (fun h29 => (cg_p h29 13 7 y0 (.long (0 : Int64)) (fun h30 => (K h30 z0)))))))))))))))))))))
set_option maxRecDepth 100000 in
set_option maxHeartbeats 8000000 in
theorem cw_Predicate_init (l : Launch) (D : va_G) (dA : Nat → ClassId) (s0 : State) (hE : ms_EV D dA s0) (y0 : Nat) (h0 : hm_T) (z0 : hz_T) (K : hm_T → hz_T → Prop) (hg : w_Predicate_init dA y0 K h0 z0) : ht_C l D s0 yM190 bM190 1 (Option.none : Option Jvm.ClassFile.FieldType) 1 12 0 0 [.ref y0] (fun h z => h = h0 ∧ z = z0) (fun h z vv h1 z1 => vv = none ∧ K h1 z1) := by
  refine ht_C.mk hE.1 (by decide) (Nat.le_of_ble_eq_true rfl) [(0, .ref y0)] rfl ?_
  intro p e s m below meth c ls h z X hin hpre I hl
  have hx := X.1
  have hb := X.2.1
  have hml := X.2.2.1
  have hown : s.vm.findClass "MarkupStore$Predicate" = some m.cls := X.2.2.2.1
  have hts := X.2.2.2.2.2.2.1
  have hK := X.2.2.2.2.2.2.2.2.1
  rw [hpre.1, hpre.2] at I
  clear hpre
  have hF := hg
  unfold w_Predicate_init at hF
  clear h z
  refine lv_aload_n hx hb d190_0 rfl (lv_at hl 0 rfl) ?_
  refine W.objInit hx hb hown (hts _ ms_k1018) (hts _ ms_k37) (hts _ ms_k38) rfl (by rw [hml]; exact hl.1) rfl d190_1 (Nat.le_of_ble_eq_true rfl) (Nat.le_of_ble_eq_true rfl) ?_
  refine W.eq (g2 := F0 m 4 ls []) rfl ?_
  refine lv_aload_n hx hb d190_4 rfl (lv_at hl 0 rfl) ?_
  refine lv_bipush (v := 47) hx hb d190_5 (by decide) ?_
  obtain ⟨fs9, c9, k9, hF⟩ := hF
  refine hm_put (ci := 13) (v := .int 47) (ty := .char) (C := kR13) (T := kT13) (N := 8) X I ku13 kt13 kp13 kn13 c9 rfl 0 (by decide) ms_k1020 (fun _ h => h) rfl (by decide +kernel) rfl rfl k9 d190_7 (fun h21 H locs e9 f9 I => ?_)
  rw [← hm_eqU e9 f9] at hF
  clear e9 f9 c9 k9
  refine lv_aload_n hx hb d190_10 rfl (lv_at hl 0 rfl) ?_
  refine lv_iconst (v := 0) hx hb d190_11 (by decide) ?_
  obtain ⟨fs9, c9, k9, hF⟩ := hF
  refine hm_put (ci := 13) (v := .int 0) (ty := .boolean) (C := kR13) (T := kT13) (N := 8) X I ku13 kt13 kp13 kn13 c9 rfl 1 (by decide) ms_k1023 (fun _ h => h) rfl (by decide +kernel) rfl rfl k9 d190_12 (fun h22 H locs e9 f9 I => ?_)
  rw [← hm_eqU e9 f9] at hF
  clear e9 f9 c9 k9
  refine lv_aload_n hx hb d190_15 rfl (lv_at hl 0 rfl) ?_
  refine lv_iconst (v := 0) hx hb d190_16 (by decide) ?_
  obtain ⟨fs9, c9, k9, hF⟩ := hF
  refine hm_put (ci := 13) (v := .int 0) (ty := .int) (C := kR13) (T := kT13) (N := 8) X I ku13 kt13 kp13 kn13 c9 rfl 2 (by decide) ms_k1026 (fun _ h => h) rfl (by decide +kernel) rfl rfl k9 d190_17 (fun h23 H locs e9 f9 I => ?_)
  rw [← hm_eqU e9 f9] at hF
  clear e9 f9 c9 k9
  refine lv_aload_n hx hb d190_20 rfl (lv_at hl 0 rfl) ?_
  refine hz_ldc (xs := []) hE X I 12 rfl hown d190_21 (fun a24 u9 z9 => ?_)
  have hF := hF _ _ z9
  obtain ⟨fs9, c9, k9, hF⟩ := hF
  refine hm_put (ci := 13) (v := .ref a24) (ty := (.object "java/lang/String")) (C := kR13) (T := kT13) (N := 8) X I ku13 kt13 kp13 kn13 c9 rfl 3 (by decide) ms_k1029 (fun _ h => h) rfl (by decide +kernel) rfl rfl k9 d190_23 (fun h25 H locs e9 f9 I => ?_)
  rw [← hm_eqU e9 f9] at hF
  clear e9 f9 c9 k9
  refine lv_aload_n hx hb d190_26 rfl (lv_at hl 0 rfl) ?_
  refine lv_null hx hb d190_27 ?_
  obtain ⟨fs9, c9, k9, hF⟩ := hF
  refine hm_put (ci := 13) (v := .null) (ty := (.object "MarkupStore$Path")) (C := kR13) (T := kT13) (N := 8) X I ku13 kt13 kp13 kn13 c9 rfl 4 (by decide) ms_k1032 (fun _ h => h) rfl (by decide +kernel) rfl rfl k9 d190_28 (fun h26 H locs e9 f9 I => ?_)
  rw [← hm_eqU e9 f9] at hF
  clear e9 f9 c9 k9
  refine lv_aload_n hx hb d190_31 rfl (lv_at hl 0 rfl) ?_
  refine lv_bipush (v := 32) hx hb d190_32 (by decide) ?_
  obtain ⟨fs9, c9, k9, hF⟩ := hF
  refine hm_put (ci := 13) (v := .int 32) (ty := .char) (C := kR13) (T := kT13) (N := 8) X I ku13 kt13 kp13 kn13 c9 rfl 5 (by decide) ms_k1035 (fun _ h => h) rfl (by decide +kernel) rfl rfl k9 d190_34 (fun h27 H locs e9 f9 I => ?_)
  rw [← hm_eqU e9 f9] at hF
  clear e9 f9 c9 k9
  refine lv_aload_n hx hb d190_37 rfl (lv_at hl 0 rfl) ?_
  refine hz_ldc (xs := []) hE X I 12 rfl hown d190_38 (fun a28 u9 z9 => ?_)
  have hF := hF _ _ z9
  obtain ⟨fs9, c9, k9, hF⟩ := hF
  refine hm_put (ci := 13) (v := .ref a28) (ty := (.object "java/lang/String")) (C := kR13) (T := kT13) (N := 8) X I ku13 kt13 kp13 kn13 c9 rfl 6 (by decide) ms_k1038 (fun _ h => h) rfl (by decide +kernel) rfl rfl k9 d190_40 (fun h29 H locs e9 f9 I => ?_)
  rw [← hm_eqU e9 f9] at hF
  clear e9 f9 c9 k9
  refine lv_aload_n hx hb d190_43 rfl (lv_at hl 0 rfl) ?_
  refine lv_lconst (v := (0 : Int64)) hx hb d190_44 (by decide) ?_
  obtain ⟨fs9, c9, k9, hF⟩ := hF
  refine hm_put (ci := 13) (v := .long (0 : Int64)) (ty := .long) (C := kR13) (T := kT13) (N := 8) X I ku13 kt13 kp13 kn13 c9 rfl 7 (by decide) ms_k1041 (fun _ h => h) rfl (by decide +kernel) rfl rfl k9 d190_45 (fun h30 H locs e9 f9 I => ?_)
  rw [← hm_eqU e9 f9] at hF
  clear e9 f9 c9 k9
  exact ht_vret X d190_48 I (Nat.le_of_ble_eq_true rfl) (Nat.le_of_ble_eq_true rfl) ⟨rfl, hF⟩

def w_Scribe_init (dA : Nat → ClassId) (y0 : Nat) (y1 : Int32) (K : hm_T → hz_T → Prop) (h0 : hm_T) (z0 : hz_T) : Prop := (cg_p h0 7 0 y0 (.int y1) (fun h21 => (cg_p h21 7 1 y0 (.int 0) (fun h22 => (cg_p h22 7 2 y0 (.int 0) (fun h23 => (K h23 z0)))))))
set_option maxRecDepth 100000 in
set_option maxHeartbeats 8000000 in
theorem cw_Scribe_init (l : Launch) (D : va_G) (dA : Nat → ClassId) (s0 : State) (hE : ms_EV D dA s0) (y0 : Nat) (y1 : Int32) (h0 : hm_T) (z0 : hz_T) (K : hm_T → hz_T → Prop) (hg : w_Scribe_init dA y0 y1 K h0 z0) : ht_C l D s0 yM191 bM191 2 (Option.none : Option Jvm.ClassFile.FieldType) 1 12 0 0 [.ref y0, .int y1] (fun h z => h = h0 ∧ z = z0) (fun h z vv h1 z1 => vv = none ∧ K h1 z1) := by
  refine ht_C.mk hE.1 (by decide) (Nat.le_of_ble_eq_true rfl) [(0, .ref y0), (1, .int y1)] rfl ?_
  intro p e s m below meth c ls h z X hin hpre I hl
  have hx := X.1
  have hb := X.2.1
  have hml := X.2.2.1
  have hown : s.vm.findClass "MarkupStore$Scribe" = some m.cls := X.2.2.2.1
  have hts := X.2.2.2.2.2.2.1
  have hK := X.2.2.2.2.2.2.2.2.1
  rw [hpre.1, hpre.2] at I
  clear hpre
  have hF := hg
  unfold w_Scribe_init at hF
  clear h z
  refine lv_aload_n hx hb d191_0 rfl (lv_at hl 0 rfl) ?_
  refine W.objInit hx hb hown (hts _ ms_k1251) (hts _ ms_k37) (hts _ ms_k38) rfl (by rw [hml]; exact hl.1) rfl d191_1 (Nat.le_of_ble_eq_true rfl) (Nat.le_of_ble_eq_true rfl) ?_
  refine W.eq (g2 := F0 m 4 ls []) rfl ?_
  refine lv_aload_n hx hb d191_4 rfl (lv_at hl 0 rfl) ?_
  refine lv_iload_n hx hb d191_5 rfl (lv_at hl 1 rfl) ?_
  obtain ⟨fs9, c9, k9, hF⟩ := hF
  refine hm_putF (ci := 7) (v := .int y1) (ty := .int) (C := kR7) (T := kT7) (N := 3) X I ku7 kt7 kp7 kn7 c9 rfl 0 (by decide) ms_k1252 (fun _ h => h) rfl hin rfl (by decide +kernel) rfl rfl k9 d191_6 (fun h21 H locs e9 f9 I => ?_)
  rw [← hm_eqU e9 f9] at hF
  clear e9 f9 c9 k9
  refine lv_aload_n hx hb d191_9 rfl (lv_at hl 0 rfl) ?_
  refine lv_iconst (v := 0) hx hb d191_10 (by decide) ?_
  obtain ⟨fs9, c9, k9, hF⟩ := hF
  refine hm_put (ci := 7) (v := .int 0) (ty := .int) (C := kR7) (T := kT7) (N := 3) X I ku7 kt7 kp7 kn7 c9 rfl 1 (by decide) ms_k1253 (fun _ h => h) rfl (by decide +kernel) rfl rfl k9 d191_11 (fun h22 H locs e9 f9 I => ?_)
  rw [← hm_eqU e9 f9] at hF
  clear e9 f9 c9 k9
  refine lv_aload_n hx hb d191_14 rfl (lv_at hl 0 rfl) ?_
  refine lv_iconst (v := 0) hx hb d191_15 (by decide) ?_
  obtain ⟨fs9, c9, k9, hF⟩ := hF
  refine hm_put (ci := 7) (v := .int 0) (ty := .int) (C := kR7) (T := kT7) (N := 3) X I ku7 kt7 kp7 kn7 c9 rfl 2 (by decide) ms_k1255 (fun _ h => h) rfl (by decide +kernel) rfl rfl k9 d191_16 (fun h23 H locs e9 f9 I => ?_)
  rw [← hm_eqU e9 f9] at hF
  clear e9 f9 c9 k9
  exact ht_vret X d191_19 I (Nat.le_of_ble_eq_true rfl) (Nat.le_of_ble_eq_true rfl) ⟨rfl, hF⟩

def w_TextReader_init6 (dA : Nat → ClassId) (y0 : Nat) (y1 : Option Nat) (K : hm_T → hz_T → Prop) (h0 : hm_T) (z0 : hz_T) : Prop := (cg_p h0 6 0 y0 (va_rf y1) (fun h21 => (cg_p h21 6 1 y0 (.int 0) (fun h22 => (cg_p h22 6 2 y0 (.int (-1)) (fun h23 => (K h23 z0)))))))
set_option maxRecDepth 100000 in
set_option maxHeartbeats 8000000 in
theorem cw_TextReader_init6 (l : Launch) (D : va_G) (dA : Nat → ClassId) (s0 : State) (hE : ms_EV D dA s0) (y0 : Nat) (y1 : Option Nat) (h0 : hm_T) (z0 : hz_T) (K : hm_T → hz_T → Prop) (hg : w_TextReader_init6 dA y0 y1 K h0 z0) : ht_C l D s0 yM192 bM192 2 (Option.none : Option Jvm.ClassFile.FieldType) 1 12 0 0 [.ref y0, va_rf y1] (fun h z => h = h0 ∧ z = z0) (fun h z vv h1 z1 => vv = none ∧ K h1 z1) := by
  refine ht_C.mk hE.1 (by decide) (by simp [lg_sl, cat_rf, cat_int, cat_ref, cat_null, cat_long]) [(0, .ref y0), (1, va_rf y1)] (by simp [lv_args, cat_rf, cat_int, cat_ref, cat_null, cat_long]) ?_
  intro p e s m below meth c ls h z X hin hpre I hl
  have hx := X.1
  have hb := X.2.1
  have hml := X.2.2.1
  have hown : s.vm.findClass "MarkupStore$TextReader" = some m.cls := X.2.2.2.1
  have hts := X.2.2.2.2.2.2.1
  have hK := X.2.2.2.2.2.2.2.2.1
  rw [hpre.1, hpre.2] at I
  clear hpre
  have hF := hg
  unfold w_TextReader_init6 at hF
  clear h z
  refine lv_aload_n hx hb d192_0 rfl (lv_at hl 0 rfl) ?_
  refine W.objInit hx hb hown (hts _ ms_k321) (hts _ ms_k37) (hts _ ms_k38) rfl (by rw [hml]; exact hl.1) rfl d192_1 (Nat.le_of_ble_eq_true rfl) (Nat.le_of_ble_eq_true rfl) ?_
  refine W.eq (g2 := F0 m 4 ls []) rfl ?_
  refine lv_aload_n hx hb d192_4 rfl (lv_at hl 0 rfl) ?_
  refine lv_aload_nR hx hb d192_5 rfl (lv_at hl 1 rfl) ?_
  obtain ⟨fs9, c9, k9, hF⟩ := hF
  refine hm_putF (ci := 6) (v := va_rf y1) (ty := (.object "java/lang/String")) (C := kR6) (T := kT6) (N := 6) X I ku6 kt6 kp6 kn6 c9 rfl 0 (by decide) ms_k352 (fun _ h => h) rfl hin rfl (by decide +kernel) (by cases y1 <;> rfl) (by cases y1 <;> rfl) k9 d192_6 (fun h21 H locs e9 f9 I => ?_)
  rw [← hm_eqU e9 f9] at hF
  clear e9 f9 c9 k9
  refine lv_aload_n hx hb d192_9 rfl (lv_at hl 0 rfl) ?_
  refine lv_iconst (v := 0) hx hb d192_10 (by decide) ?_
  obtain ⟨fs9, c9, k9, hF⟩ := hF
  refine hm_put (ci := 6) (v := .int 0) (ty := .int) (C := kR6) (T := kT6) (N := 6) X I ku6 kt6 kp6 kn6 c9 rfl 1 (by decide) ms_k357 (fun _ h => h) rfl (by decide +kernel) rfl rfl k9 d192_11 (fun h22 H locs e9 f9 I => ?_)
  rw [← hm_eqU e9 f9] at hF
  clear e9 f9 c9 k9
  refine lv_aload_n hx hb d192_14 rfl (lv_at hl 0 rfl) ?_
  refine lv_iconst (v := (-1)) hx hb d192_15 (by decide) ?_
  obtain ⟨fs9, c9, k9, hF⟩ := hF
  refine hm_put (ci := 6) (v := .int (-1)) (ty := .int) (C := kR6) (T := kT6) (N := 6) X I ku6 kt6 kp6 kn6 c9 rfl 2 (by decide) ms_k362 (fun _ h => h) rfl (by decide +kernel) rfl rfl k9 d192_16 (fun h23 H locs e9 f9 I => ?_)
  rw [← hm_eqU e9 f9] at hF
  clear e9 f9 c9 k9
  exact ht_vret X d192_19 I (Nat.le_of_ble_eq_true rfl) (Nat.le_of_ble_eq_true rfl) ⟨rfl, hF⟩

def w_TextReader_init10 (dA : Nat → ClassId) (y0 : Nat) (y1 : Option Nat) (K : hm_T → hz_T → Prop) (h0 : hm_T) (z0 : hz_T) : Prop := (cg_p h0 10 0 y0 (va_rf y1) (fun h21 => (cg_p h21 10 1 y0 (.int 0) (fun h22 => (cg_p h22 10 2 y0 (.int (-1)) (fun h23 => (K h23 z0)))))))
set_option maxRecDepth 100000 in
set_option maxHeartbeats 8000000 in
theorem cw_TextReader_init10 (l : Launch) (D : va_G) (dA : Nat → ClassId) (s0 : State) (hE : ms_EV D dA s0) (y0 : Nat) (y1 : Option Nat) (h0 : hm_T) (z0 : hz_T) (K : hm_T → hz_T → Prop) (hg : w_TextReader_init10 dA y0 y1 K h0 z0) : ht_C l D s0 yM192 bM192 2 (Option.none : Option Jvm.ClassFile.FieldType) 1 12 0 0 [.ref y0, va_rf y1] (fun h z => h = h0 ∧ z = z0) (fun h z vv h1 z1 => vv = none ∧ K h1 z1) := by
  refine ht_C.mk hE.1 (by decide) (by simp [lg_sl, cat_rf, cat_int, cat_ref, cat_null, cat_long]) [(0, .ref y0), (1, va_rf y1)] (by simp [lv_args, cat_rf, cat_int, cat_ref, cat_null, cat_long]) ?_
  intro p e s m below meth c ls h z X hin hpre I hl
  have hx := X.1
  have hb := X.2.1
  have hml := X.2.2.1
  have hown : s.vm.findClass "MarkupStore$TextReader" = some m.cls := X.2.2.2.1
  have hts := X.2.2.2.2.2.2.1
  have hK := X.2.2.2.2.2.2.2.2.1
  rw [hpre.1, hpre.2] at I
  clear hpre
  have hF := hg
  unfold w_TextReader_init10 at hF
  clear h z
  refine lv_aload_n hx hb d192_0 rfl (lv_at hl 0 rfl) ?_
  refine W.objInit hx hb hown (hts _ ms_k321) (hts _ ms_k37) (hts _ ms_k38) rfl (by rw [hml]; exact hl.1) rfl d192_1 (Nat.le_of_ble_eq_true rfl) (Nat.le_of_ble_eq_true rfl) ?_
  refine W.eq (g2 := F0 m 4 ls []) rfl ?_
  refine lv_aload_n hx hb d192_4 rfl (lv_at hl 0 rfl) ?_
  refine lv_aload_nR hx hb d192_5 rfl (lv_at hl 1 rfl) ?_
  obtain ⟨fs9, c9, k9, hF⟩ := hF
  refine hm_putF (ci := 10) (v := va_rf y1) (ty := (.object "java/lang/String")) (C := kR10) (T := kT10) (N := 3) X I ku10 kt10 kp10 kn10 c9 rfl 0 (by decide) ms_k352 (fun _ h => h) rfl hin rfl (by decide +kernel) (by cases y1 <;> rfl) (by cases y1 <;> rfl) k9 d192_6 (fun h21 H locs e9 f9 I => ?_)
  rw [← hm_eqU e9 f9] at hF
  clear e9 f9 c9 k9
  refine lv_aload_n hx hb d192_9 rfl (lv_at hl 0 rfl) ?_
  refine lv_iconst (v := 0) hx hb d192_10 (by decide) ?_
  obtain ⟨fs9, c9, k9, hF⟩ := hF
  refine hm_put (ci := 10) (v := .int 0) (ty := .int) (C := kR10) (T := kT10) (N := 3) X I ku10 kt10 kp10 kn10 c9 rfl 1 (by decide) ms_k357 (fun _ h => h) rfl (by decide +kernel) rfl rfl k9 d192_11 (fun h22 H locs e9 f9 I => ?_)
  rw [← hm_eqU e9 f9] at hF
  clear e9 f9 c9 k9
  refine lv_aload_n hx hb d192_14 rfl (lv_at hl 0 rfl) ?_
  refine lv_iconst (v := (-1)) hx hb d192_15 (by decide) ?_
  obtain ⟨fs9, c9, k9, hF⟩ := hF
  refine hm_put (ci := 10) (v := .int (-1)) (ty := .int) (C := kR10) (T := kT10) (N := 3) X I ku10 kt10 kp10 kn10 c9 rfl 2 (by decide) ms_k362 (fun _ h => h) rfl (by decide +kernel) rfl rfl k9 d192_16 (fun h23 H locs e9 f9 I => ?_)
  rw [← hm_eqU e9 f9] at hF
  clear e9 f9 c9 k9
  exact ht_vret X d192_19 I (Nat.le_of_ble_eq_true rfl) (Nat.le_of_ble_eq_true rfl) ⟨rfl, hF⟩

def w_Tree_put_44 (dA : Nat → ClassId) (y0 : Nat) (K : hm_T → hz_T → Prop) : Nat → Option Nat → Int32 → Int32 → Int32 → hm_T → hz_T → Prop
  | 0, _, _, _, _, _, _ => False
  | n9 + 1, x1, x2, x3, x4, h, z => (if x3 ≤ x4 then (cg_I h 1 3 y0 (fun v24 => (cg_p h 1 3 y0 (.int (v24 + x3)) (fun h25 => (cg_c h25 1 y0 ((w_Tree_setPlaces dA y0 (fun h27 z28 => (K h27 z28)) h25 z))))))) else (cg_d x1 (fun a29 => (jd_get dA h a29 x4 (fun v30 => (cg_c h 8 v30 (cg_I h 1 1 y0 (fun v31 => (cg_p h 8 5 v30 (.int v31) (fun h32 => (cg_R h32 1 0 y0 (fun v33 => (cg_I h32 1 1 y0 (fun v34 => (cg_d v33 (fun a35 => (cg_c h32 8 v30 (cg_sr dA h32 5 a35 v34 v30 (fun h36 => (cg_I h36 1 1 y0 (fun v37 => (cg_p h36 1 1 y0 (.int (v37 + 1)) (fun h38 => (cg_R h38 1 2 y0 (fun v39 => (cg_d v39 (fun a40 => (cg_c h38 8 v30 (cg_sr dA h38 5 a40 (x2 + x4) v30 (fun h41 => ((w_Tree_put_44 dA y0 K n9) x1 x2 x3 (x4 + 1) h41 z)))))))))))))))))))))))))))))))
def w_Tree_put_13 (dA : Nat → ClassId) (y0 : Nat) (K : hm_T → hz_T → Prop) : Nat → Option Nat → Int32 → Int32 → Int32 → hm_T → hz_T → Prop
  | 0, _, _, _, _, _, _ => False
  | n9 + 1, x1, x2, x3, x4, h, z => (if x4 < x2 then (w_Tree_put_44 dA y0 K mF x1 x2 x3 0 h z) else (cg_R h 1 2 y0 (fun v42 => (cg_R h 1 2 y0 (fun v43 => (cg_d v43 (fun a44 => (cg_ar dA h 5 a44 x4 (fun v45 => (cg_d v42 (fun a46 => (cg_d v45 (fun a48 => (cg_c h 8 a48 (cg_sr dA h 5 a46 (x4 + x3) a48 (fun h47 => ((w_Tree_put_13 dA y0 K n9) x1 x2 x3 (x4 + (-1)) h47 z)))))))))))))))))
def w_Tree_put (dA : Nat → ClassId) (y0 : Nat) (y1 : Option Nat) (y2 : Int32) (K : hm_T → hz_T → Prop) (h0 : hm_T) (z0 : hz_T) : Prop := (cg_d y1 (fun a21 => (jd_sz h0 a21 (fun v22 => (cg_I h0 1 3 y0 (fun v23 => (w_Tree_put_13 dA y0 K mF y1 y2 v22 (v23 - 1) h0 z0)))))))
set_option maxRecDepth 100000 in
set_option maxHeartbeats 8000000 in
theorem cw_Tree_put (l : Launch) (D : va_G) (dA : Nat → ClassId) (s0 : State) (hE : ms_EV D dA s0) (y0 : Nat) (y1 : Option Nat) (y2 : Int32) (h0 : hm_T) (z0 : hz_T) (K : hm_T → hz_T → Prop) (hg : w_Tree_put dA y0 y1 y2 K h0 z0) : ht_C l D s0 yM193 bM193 6 (Option.none : Option Jvm.ClassFile.FieldType) 3 64 0 0 [.ref y0, va_rf y1, .int y2] (fun h z => h = h0 ∧ z = z0) (fun h z vv h1 z1 => vv = none ∧ K h1 z1) := by
  refine ht_C.mk hE.1 (by decide) (by simp [lg_sl, cat_rf, cat_int, cat_ref, cat_null, cat_long]) [(0, .ref y0), (1, va_rf y1), (2, .int y2)] (by simp [lv_args, cat_rf, cat_int, cat_ref, cat_null, cat_long]) ?_
  intro p e s m below meth c ls h z X hin hpre I hl
  have hx := X.1
  have hb := X.2.1
  have hml := X.2.2.1
  have hown : s.vm.findClass "MarkupStore$Tree" = some m.cls := X.2.2.2.1
  have hts := X.2.2.2.2.2.2.1
  have hK := X.2.2.2.2.2.2.2.2.1
  rw [hpre.1, hpre.2] at I
  clear hpre
  have b44 : ∀ n9 : Nat, ∀ (ls : Array Slot) (x1 : Option Nat) (x2 : Int32) (x3 : Int32) (x4 : Int32) (h : hm_T) (z : hz_T) (H : Heap) (locs : List Loc), w_Tree_put_44 dA y0 K n9 x1 x2 x3 x4 h z → lv_has ls 6 [(0, .ref y0), (1, va_rf x1), (2, .int x2), (3, .int x3), (4, .int x4)] → hm_I D s0 s h z H locs → W p l e { frames := 3, cells := 0, slots := 0, locals := 64 } s m ([.ref y0, va_rf y1, .int y2] : List Value).toArray below meth c H locs 0 0 (MQ below (ht_Q D s0 (fun vv h1 z1 => vv = none ∧ K h1 z1)) ([.ref y0, va_rf y1, .int y2] : List Value).toArray s 0 0 (fun q => s0.heap.size ≤ q)) (F0 m 44 ls []) := by
    intro n9
    induction n9 with
    | zero => intro ls x1 x2 x3 x4 h z H locs hF; cases hF
    | succ n9 hk44 =>
    intro ls x1 x2 x3 x4 h z H locs hF hl I
    unfold w_Tree_put_44 at hF
    refine lv_iload hx hb d193_44 (lv_at hl 4 rfl) ?_
    refine lv_iload_n hx hb d193_46 rfl (lv_at hl 3 rfl) ?_
    refine lv_icmp_ge hx hb d193_47 rfl (fun h9 => ?_) (fun h9 => ?_)
    · have hF := Eq.mp (if_pos h9) hF
      refine lv_aload_n hx hb d193_108 rfl (lv_at hl 0 rfl) ?_
      refine lv_dup hx hb d193_109 rfl ?_
      obtain ⟨fs9, v24, c9, e9, hF⟩ := hF
      refine va_get (D := D) (ci := 1) (v := .int v24) (C := kR1) (T := kT1) (N := 6) hx hb hts ku1 hown hK (hm_one I.1 c9) 0 rfl rfl 3 (by decide) (hts _ ms_k87) (fun _ h => h) e9 d193_110 ?_
      clear e9 c9 fs9
      refine lv_iload_n hx hb d193_113 rfl (lv_at hl 3 rfl) ?_
      refine lv_iadd hx hb d193_114 ?_
      obtain ⟨fs9, c9, k9, hF⟩ := hF
      refine hm_put (ci := 1) (v := .int (v24 + x3)) (ty := .int) (C := kR1) (T := kT1) (N := 6) X I ku1 kt1 kp1 kn1 c9 rfl 3 (by decide) ms_k87 (fun _ h => h) rfl (by decide +kernel) rfl rfl k9 d193_115 (fun h25 H locs e9 f9 I => ?_)
      rw [← hm_eqU e9 f9] at hF
      clear e9 f9 c9 k9
      refine lv_aload_n hx hb d193_118 rfl (lv_at hl 0 rfl) ?_
      obtain ⟨fs9, c9, hF⟩ := hF
      refine ht_V (C := "MarkupStore$Tree") (rest := []) (as := []) X hl (cw_Tree_setPlaces l D dA s0 hE y0 h25 z _ hF) (List.forall_mem_cons.mpr ⟨ms_k723, List.forall_mem_cons.mpr ⟨ms_k725, List.forall_mem_cons.mpr ⟨ms_p14, List.forall_mem_cons.mpr ⟨ms_k6, List.forall_mem_cons.mpr ⟨ms_k726, fun _ h => absurd h List.not_mem_nil⟩⟩⟩⟩⟩) ⟨rfl, by decide +kernel, by decide +kernel, (by decide +kernel : (parseMethodDescriptor "()V").map (fun d => d.parameters.length) = some 0)⟩ (hm_recv hK I rfl c9) I ⟨rfl, rfl⟩ ⟨⟨Nat.le_of_ble_eq_true rfl, Nat.le_of_ble_eq_true rfl⟩, Nat.le_of_ble_eq_true rfl, Nat.le_of_ble_eq_true rfl⟩ rfl (Nat.le_of_ble_eq_true rfl) d193_119 (fun vv h27 z28 H locs hR I9 => ?_)
      obtain ⟨e1, hF⟩ := hR
      subst e1
      clear I
      have I := I9
      clear I9 c9 fs9
      refine W.eq (g2 := F0 m 122 ls []) rfl ?_
      exact ht_vret X d193_122 I (Nat.le_of_ble_eq_true rfl) (Nat.le_of_ble_eq_true rfl) ⟨rfl, hF⟩
    · have hF := Eq.mp (if_neg h9) hF
      refine lv_aload_nR hx hb d193_50 rfl (lv_at hl 1 rfl) ?_
      refine lv_iload hx hb d193_51 (lv_at hl 4 rfl) ?_
      obtain ⟨a29, e9, hF⟩ := hF
      refine W.eq (g2 := F0 m 53 ls [.int x4, .ref a29]) (by rw [e9]; rfl) ?_
      clear e9
      obtain ⟨d9, k9, mo9, n8, j9, q9, f8, c9, c8, e8, p1, p2, p3, p4, hF⟩ := hF
      refine ms_top (y := nI j9) e8 ?_
      refine ht_V (C := "java/util/ArrayList") (rest := []) (as := [.int (nI j9)]) X hl (c_ALget l D dA s0 hE a29 d9 k9 mo9 n8 j9 q9 f8 p1 p2 p3 p4) (List.forall_mem_cons.mpr ⟨ms_k732, List.forall_mem_cons.mpr ⟨ms_k599, List.forall_mem_cons.mpr ⟨ms_k600, List.forall_mem_cons.mpr ⟨ms_k18, List.forall_mem_cons.mpr ⟨ms_k601, fun _ h => absurd h List.not_mem_nil⟩⟩⟩⟩⟩) ⟨rfl, by decide +kernel, by decide +kernel, (by decide +kernel : (parseMethodDescriptor "(I)Ljava/lang/Object;").map (fun d => d.parameters.length) = some 1)⟩ (hm_recv hK I rfl c9) I ⟨c9, c8⟩ ⟨⟨Nat.le_of_ble_eq_true rfl, Nat.le_of_ble_eq_true rfl⟩, Nat.le_of_ble_eq_true rfl, Nat.le_of_ble_eq_true rfl⟩ rfl (Nat.le_of_ble_eq_true rfl) d193_53 (fun vv h9 z7 H locs hR I9 => ?_)
      obtain ⟨e1, e2, e3⟩ := hR
      rw [e2, e3] at I9
      subst e1
      clear I
      have I := I9
      clear I9 e2 e3 h9 z7
      refine W.eq (g2 := F0 m 56 ls [.ref q9]) rfl ?_
      generalize q9 = v30 at hF ⊢
      try clear p4
      obtain ⟨fs9, c9, hF⟩ := hF
      refine va_castE hx hb hown (hts _ ms_k78) (hm_recv hK I rfl c9) d193_56 ?_
      clear c9 fs9
      refine lv_astore hx hb d193_59 hl (by decide) rfl (fun ls hl => ?_)
      have hl : lv_has ls 6 [(5, .ref v30), (0, .ref y0), (1, va_rf x1), (2, .int x2), (3, .int x3), (4, .int x4)] := hl
      refine lv_aload hx hb d193_61 (lv_at hl 0 rfl) ?_
      refine lv_aload_n hx hb d193_63 rfl (lv_at hl 1 rfl) ?_
      obtain ⟨fs9, v31, c9, e9, hF⟩ := hF
      refine va_get (D := D) (ci := 1) (v := .int v31) (C := kR1) (T := kT1) (N := 6) hx hb hts ku1 hown hK (hm_one I.1 c9) 0 rfl rfl 1 (by decide) (hts _ ms_k81) (fun _ h => h) e9 d193_64 ?_
      clear e9 c9 fs9
      obtain ⟨fs9, c9, k9, hF⟩ := hF
      refine hm_put (ci := 8) (v := .int v31) (ty := .int) (C := kR8) (T := kT8) (N := 9) X I ku8 kt8 kp8 kn8 c9 rfl 5 (by decide) ms_k460 (fun _ h => h) rfl (by decide +kernel) rfl rfl k9 d193_67 (fun h32 H locs e9 f9 I => ?_)
      rw [← hm_eqU e9 f9] at hF
      clear e9 f9 c9 k9
      refine lv_aload_n hx hb d193_70 rfl (lv_at hl 1 rfl) ?_
      obtain ⟨fs9, v33, c9, e9, hF⟩ := hF
      refine va_get (D := D) (ci := 1) (v := va_rf v33) (C := kR1) (T := kT1) (N := 6) hx hb hts ku1 hown hK (hm_one I.1 c9) 0 rfl rfl 0 (by decide) (hts _ ms_k80) (fun _ h => h) e9 d193_71 ?_
      clear e9 c9 fs9
      refine lv_aload_n hx hb d193_74 rfl (lv_at hl 1 rfl) ?_
      obtain ⟨fs9, v34, c9, e9, hF⟩ := hF
      refine va_get (D := D) (ci := 1) (v := .int v34) (C := kR1) (T := kT1) (N := 6) hx hb hts ku1 hown hK (hm_one I.1 c9) 0 rfl rfl 1 (by decide) (hts _ ms_k81) (fun _ h => h) e9 d193_75 ?_
      clear e9 c9 fs9
      refine lv_aload hx hb d193_78 (lv_at hl 0 rfl) ?_
      obtain ⟨a35, e9, hF⟩ := hF
      refine W.eq (g2 := F0 m 80 ls [.ref v30, .int v34, .ref a35]) (by rw [e9]; rfl) ?_
      clear e9
      obtain ⟨fs9, c8, hF⟩ := hF
      obtain ⟨n8, f8, c9, i9, hF⟩ := hF
      refine hm_aast (E := "MarkupStore$Node") X I 5 c9 rfl (hm_any hK I c8 rfl) i9 d193_80 (fun h36 H locs e9 f9 I => ?_)
      rw [← hm_eqU e9 f9] at hF
      clear e9 f9 c9 i9 c8
      refine lv_aload_n hx hb d193_81 rfl (lv_at hl 1 rfl) ?_
      refine lv_dup hx hb d193_82 rfl ?_
      obtain ⟨fs9, v37, c9, e9, hF⟩ := hF
      refine va_get (D := D) (ci := 1) (v := .int v37) (C := kR1) (T := kT1) (N := 6) hx hb hts ku1 hown hK (hm_one I.1 c9) 0 rfl rfl 1 (by decide) (hts _ ms_k81) (fun _ h => h) e9 d193_83 ?_
      clear e9 c9 fs9
      refine lv_iconst (v := 1) hx hb d193_86 (by decide) ?_
      refine lv_iadd hx hb d193_87 ?_
      obtain ⟨fs9, c9, k9, hF⟩ := hF
      refine hm_put (ci := 1) (v := .int (v37 + 1)) (ty := .int) (C := kR1) (T := kT1) (N := 6) X I ku1 kt1 kp1 kn1 c9 rfl 1 (by decide) ms_k81 (fun _ h => h) rfl (by decide +kernel) rfl rfl k9 d193_88 (fun h38 H locs e9 f9 I => ?_)
      rw [← hm_eqU e9 f9] at hF
      clear e9 f9 c9 k9
      refine lv_aload_n hx hb d193_91 rfl (lv_at hl 1 rfl) ?_
      obtain ⟨fs9, v39, c9, e9, hF⟩ := hF
      refine va_get (D := D) (ci := 1) (v := va_rf v39) (C := kR1) (T := kT1) (N := 6) hx hb hts ku1 hown hK (hm_one I.1 c9) 0 rfl rfl 2 (by decide) (hts _ ms_k82) (fun _ h => h) e9 d193_92 ?_
      clear e9 c9 fs9
      refine lv_iload_n hx hb d193_95 rfl (lv_at hl 3 rfl) ?_
      refine lv_iload hx hb d193_96 (lv_at hl 5 rfl) ?_
      refine lv_iadd hx hb d193_98 ?_
      refine lv_aload hx hb d193_99 (lv_at hl 0 rfl) ?_
      obtain ⟨a40, e9, hF⟩ := hF
      refine W.eq (g2 := F0 m 101 ls [.ref v30, .int (x2 + x4), .ref a40]) (by rw [e9]; rfl) ?_
      clear e9
      obtain ⟨fs9, c8, hF⟩ := hF
      obtain ⟨n8, f8, c9, i9, hF⟩ := hF
      refine hm_aast (E := "MarkupStore$Node") X I 5 c9 rfl (hm_any hK I c8 rfl) i9 d193_101 (fun h41 H locs e9 f9 I => ?_)
      rw [← hm_eqU e9 f9] at hF
      clear e9 f9 c9 i9 c8
      refine lv_iinc (k := 5) (v := (x4 + 1)) hx hb d193_102 hl rfl (rfl) (by decide) rfl (fun ls hl => ?_)
      have hl : lv_has ls 6 [(4, .int (x4 + 1)), (5, .ref v30), (0, .ref y0), (1, va_rf x1), (2, .int x2), (3, .int x3)] := hl
      refine lv_goto hx hb d193_105 rfl ?_
      exact hk44 ls x1 x2 x3 (x4 + 1) h41 z _ _ hF (hl.sub [2, 3, 4, 5, 0] rfl) I
  have b13 : ∀ n9 : Nat, ∀ (ls : Array Slot) (x1 : Option Nat) (x2 : Int32) (x3 : Int32) (x4 : Int32) (h : hm_T) (z : hz_T) (H : Heap) (locs : List Loc), w_Tree_put_13 dA y0 K n9 x1 x2 x3 x4 h z → lv_has ls 6 [(0, .ref y0), (1, va_rf x1), (2, .int x2), (3, .int x3), (4, .int x4)] → hm_I D s0 s h z H locs → W p l e { frames := 3, cells := 0, slots := 0, locals := 64 } s m ([.ref y0, va_rf y1, .int y2] : List Value).toArray below meth c H locs 0 0 (MQ below (ht_Q D s0 (fun vv h1 z1 => vv = none ∧ K h1 z1)) ([.ref y0, va_rf y1, .int y2] : List Value).toArray s 0 0 (fun q => s0.heap.size ≤ q)) (F0 m 13 ls []) := by
    intro n9
    induction n9 with
    | zero => intro ls x1 x2 x3 x4 h z H locs hF; cases hF
    | succ n9 hk13 =>
    intro ls x1 x2 x3 x4 h z H locs hF hl I
    unfold w_Tree_put_13 at hF
    refine lv_iload hx hb d193_13 (lv_at hl 4 rfl) ?_
    refine lv_iload_n hx hb d193_15 rfl (lv_at hl 2 rfl) ?_
    refine lv_icmp_lt hx hb d193_16 rfl (fun h9 => ?_) (fun h9 => ?_)
    · have hF := Eq.mp (if_pos h9) hF
      refine lv_iconst (v := 0) hx hb d193_41 (by decide) ?_
      refine lv_istore hx hb d193_42 hl (by decide) rfl (fun ls hl => ?_)
      have hl : lv_has ls 6 [(4, .int 0), (0, .ref y0), (1, va_rf x1), (2, .int x2), (3, .int x3)] := hl
      exact b44 mF ls x1 x2 x3 0 h z _ _ hF (hl.sub [1, 2, 3, 4, 0] rfl) I
    · have hF := Eq.mp (if_neg h9) hF
      refine lv_aload_n hx hb d193_19 rfl (lv_at hl 0 rfl) ?_
      obtain ⟨fs9, v42, c9, e9, hF⟩ := hF
      refine va_get (D := D) (ci := 1) (v := va_rf v42) (C := kR1) (T := kT1) (N := 6) hx hb hts ku1 hown hK (hm_one I.1 c9) 0 rfl rfl 2 (by decide) (hts _ ms_k82) (fun _ h => h) e9 d193_20 ?_
      clear e9 c9 fs9
      refine lv_iload hx hb d193_23 (lv_at hl 4 rfl) ?_
      refine lv_iload_n hx hb d193_25 rfl (lv_at hl 3 rfl) ?_
      refine lv_iadd hx hb d193_26 ?_
      refine lv_aload_n hx hb d193_27 rfl (lv_at hl 0 rfl) ?_
      obtain ⟨fs9, v43, c9, e9, hF⟩ := hF
      refine va_get (D := D) (ci := 1) (v := va_rf v43) (C := kR1) (T := kT1) (N := 6) hx hb hts ku1 hown hK (hm_one I.1 c9) 0 rfl rfl 2 (by decide) (hts _ ms_k82) (fun _ h => h) e9 d193_28 ?_
      clear e9 c9 fs9
      refine lv_iload hx hb d193_31 (lv_at hl 4 rfl) ?_
      obtain ⟨a44, e9, hF⟩ := hF
      refine W.eq (g2 := F0 m 33 ls [.int x4, .ref a44, .int (x4 + x3), va_rf v42]) (by rw [e9]; rfl) ?_
      clear e9
      obtain ⟨n8, f8, c9, i9, hF⟩ := hF
      refine va_aldq hx hb hK (hm_one I.1 c9) 0 5 rfl rfl i9 d193_33 ?_
      generalize f8 (Int32.toNatClampNeg x4) = v45 at hF ⊢
      clear c9 i9
      obtain ⟨a46, e9, hF⟩ := hF
      refine W.eq (g2 := F0 m 34 ls [va_rf v45, .int (x4 + x3), .ref a46]) (by rw [e9]; rfl) ?_
      clear e9
      obtain ⟨a48, e9, hF⟩ := hF
      refine W.eq (g2 := F0 m 34 ls [.ref a48, .int (x4 + x3), .ref a46]) (by rw [e9]; rfl) ?_
      clear e9
      obtain ⟨fs9, c8, hF⟩ := hF
      obtain ⟨n8, f8, c9, i9, hF⟩ := hF
      refine hm_aast (E := "MarkupStore$Node") X I 5 c9 rfl (hm_any hK I c8 rfl) i9 d193_34 (fun h47 H locs e9 f9 I => ?_)
      rw [← hm_eqU e9 f9] at hF
      clear e9 f9 c9 i9 c8
      refine lv_iinc (k := 4) (v := (x4 + (-1))) hx hb d193_35 hl rfl (rfl) (by decide) rfl (fun ls hl => ?_)
      have hl : lv_has ls 6 [(4, .int (x4 + (-1))), (0, .ref y0), (1, va_rf x1), (2, .int x2), (3, .int x3)] := hl
      refine lv_goto hx hb d193_38 rfl ?_
      exact hk13 ls x1 x2 x3 (x4 + (-1)) h47 z _ _ hF (hl.sub [1, 2, 3, 4, 0] rfl) I
  have hF := hg
  unfold w_Tree_put at hF
  clear h z
  refine lv_aload_nR hx hb d193_0 rfl (lv_at hl 1 rfl) ?_
  obtain ⟨a21, e9, hF⟩ := hF
  refine W.eq (g2 := F0 m 1 ls [.ref a21]) (by rw [e9]; rfl) ?_
  clear e9
  obtain ⟨d9, k9, mo9, c9, hF⟩ := hF
  refine ht_V (C := "java/util/ArrayList") (rest := []) (as := []) X hl (c_ALsize l D dA s0 hE a21 d9 k9 mo9) (List.forall_mem_cons.mpr ⟨ms_k731, List.forall_mem_cons.mpr ⟨ms_k595, List.forall_mem_cons.mpr ⟨ms_k596, List.forall_mem_cons.mpr ⟨ms_k18, List.forall_mem_cons.mpr ⟨ms_k597, fun _ h => absurd h List.not_mem_nil⟩⟩⟩⟩⟩) ⟨rfl, by decide +kernel, by decide +kernel, (by decide +kernel : (parseMethodDescriptor "()I").map (fun d => d.parameters.length) = some 0)⟩ (hm_recv hK I rfl c9) I c9 ⟨⟨Nat.le_of_ble_eq_true rfl, Nat.le_of_ble_eq_true rfl⟩, Nat.le_of_ble_eq_true rfl, Nat.le_of_ble_eq_true rfl⟩ rfl (Nat.le_of_ble_eq_true rfl) d193_1 (fun vv h9 z7 H locs hR I9 => ?_)
  obtain ⟨e1, e2, e3⟩ := hR
  rw [e2, e3] at I9
  subst e1
  clear I
  have I := I9
  clear I9 e2 e3 h9 z7
  refine W.eq (g2 := F0 m 4 ls [.int (nI k9)]) rfl ?_
  generalize (nI k9) = v22 at hF ⊢
  refine lv_istore_n hx hb d193_4 rfl hl (by decide) rfl (fun ls hl => ?_)
  have hl : lv_has ls 6 [(3, .int v22), (0, .ref y0), (1, va_rf y1), (2, .int y2)] := hl
  refine lv_aload_n hx hb d193_5 rfl (lv_at hl 1 rfl) ?_
  obtain ⟨fs9, v23, c9, e9, hF⟩ := hF
  refine va_get (D := D) (ci := 1) (v := .int v23) (C := kR1) (T := kT1) (N := 6) hx hb hts ku1 hown hK (hm_one I.1 c9) 0 rfl rfl 3 (by decide) (hts _ ms_k87) (fun _ h => h) e9 d193_6 ?_
  clear e9 c9 fs9
  refine lv_iconst (v := 1) hx hb d193_9 (by decide) ?_
  refine lv_isub hx hb d193_10 ?_
  refine lv_istore hx hb d193_11 hl (by decide) rfl (fun ls hl => ?_)
  have hl : lv_has ls 6 [(4, .int (v23 - 1)), (3, .int v22), (0, .ref y0), (1, va_rf y1), (2, .int y2)] := hl
  exact b13 mF ls y1 y2 v22 (v23 - 1) h0 z0 _ _ hF (hl.sub [2, 3, 4, 1, 0] rfl) I

def w_Tree_takeOut_25 (dA : Nat → ClassId) (y0 : Nat) (K : hm_T → hz_T → Prop) : Nat → Int32 → Int32 → Int32 → hm_T → hz_T → Prop
  | 0, _, _, _, _, _ => False
  | n9 + 1, x1, x2, x3, h, z => (cg_I h 1 3 y0 (fun v21 => (if v21 ≤ x3 then (cg_I h 1 3 y0 (fun v22 => (cg_p h 1 3 y0 (.int (v22 - (x2 - x1))) (fun h23 => (cg_c h23 1 y0 ((w_Tree_setPlaces dA y0 (fun h25 z26 => (K h25 z26)) h23 z))))))) else (cg_R h 1 2 y0 (fun v27 => (cg_R h 1 2 y0 (fun v28 => (cg_d v28 (fun a29 => (cg_ar dA h 5 a29 x3 (fun v30 => (cg_d v27 (fun a31 => (cg_d v30 (fun a33 => (cg_c h 8 a33 (cg_sr dA h 5 a31 ((x3 - x2) + x1) a33 (fun h32 => ((w_Tree_takeOut_25 dA y0 K n9) x1 x2 (x3 + 1) h32 z)))))))))))))))))))
def w_Tree_takeOut_2 (dA : Nat → ClassId) (y0 : Nat) (K : hm_T → hz_T → Prop) : Nat → Int32 → Int32 → Int32 → hm_T → hz_T → Prop
  | 0, _, _, _, _, _ => False
  | n9 + 1, x1, x2, x3, h, z => (if x2 ≤ x3 then (w_Tree_takeOut_25 dA y0 K mF x1 x2 x2 h z) else (cg_R h 1 2 y0 (fun v34 => (cg_d v34 (fun a35 => (cg_ar dA h 5 a35 x3 (fun v36 => (cg_d v36 (fun a37 => (cg_p h 8 6 a37 (.int (-1)) (fun h38 => ((w_Tree_takeOut_2 dA y0 K n9) x1 x2 (x3 + 1) h38 z))))))))))))
def w_Tree_takeOut (dA : Nat → ClassId) (y0 : Nat) (y1 : Int32) (y2 : Int32) (K : hm_T → hz_T → Prop) (h0 : hm_T) (z0 : hz_T) : Prop := (w_Tree_takeOut_2 dA y0 K mF y1 y2 y1 h0 z0)
set_option maxRecDepth 100000 in
set_option maxHeartbeats 8000000 in
theorem cw_Tree_takeOut (l : Launch) (D : va_G) (dA : Nat → ClassId) (s0 : State) (hE : ms_EV D dA s0) (y0 : Nat) (y1 : Int32) (y2 : Int32) (h0 : hm_T) (z0 : hz_T) (K : hm_T → hz_T → Prop) (hg : w_Tree_takeOut dA y0 y1 y2 K h0 z0) : ht_C l D s0 yM194 bM194 4 (Option.none : Option Jvm.ClassFile.FieldType) 1 21 0 0 [.ref y0, .int y1, .int y2] (fun h z => h = h0 ∧ z = z0) (fun h z vv h1 z1 => vv = none ∧ K h1 z1) := by
  refine ht_C.mk hE.1 (by decide) (Nat.le_of_ble_eq_true rfl) [(0, .ref y0), (1, .int y1), (2, .int y2)] rfl ?_
  intro p e s m below meth c ls h z X hin hpre I hl
  have hx := X.1
  have hb := X.2.1
  have hml := X.2.2.1
  have hown : s.vm.findClass "MarkupStore$Tree" = some m.cls := X.2.2.2.1
  have hts := X.2.2.2.2.2.2.1
  have hK := X.2.2.2.2.2.2.2.2.1
  rw [hpre.1, hpre.2] at I
  clear hpre
  have b25 : ∀ n9 : Nat, ∀ (ls : Array Slot) (x1 : Int32) (x2 : Int32) (x3 : Int32) (h : hm_T) (z : hz_T) (H : Heap) (locs : List Loc), w_Tree_takeOut_25 dA y0 K n9 x1 x2 x3 h z → lv_has ls 4 [(0, .ref y0), (1, .int x1), (2, .int x2), (3, .int x3)] → hm_I D s0 s h z H locs → W p l e { frames := 1, cells := 0, slots := 0, locals := 21 } s m ([.ref y0, .int y1, .int y2] : List Value).toArray below meth c H locs 0 0 (MQ below (ht_Q D s0 (fun vv h1 z1 => vv = none ∧ K h1 z1)) ([.ref y0, .int y1, .int y2] : List Value).toArray s 0 0 (fun q => s0.heap.size ≤ q)) (F0 m 25 ls []) := by
    intro n9
    induction n9 with
    | zero => intro ls x1 x2 x3 h z H locs hF; cases hF
    | succ n9 hk25 =>
    intro ls x1 x2 x3 h z H locs hF hl I
    unfold w_Tree_takeOut_25 at hF
    refine lv_iload_n hx hb d194_25 rfl (lv_at hl 3 rfl) ?_
    refine lv_aload_n hx hb d194_26 rfl (lv_at hl 0 rfl) ?_
    obtain ⟨fs9, v21, c9, e9, hF⟩ := hF
    refine va_get (D := D) (ci := 1) (v := .int v21) (C := kR1) (T := kT1) (N := 6) hx hb hts ku1 hown hK (hm_one I.1 c9) 0 rfl rfl 3 (by decide) (hts _ ms_k87) (fun _ h => h) e9 d194_27 ?_
    clear e9 c9 fs9
    refine lv_icmp_ge hx hb d194_30 rfl (fun h9 => ?_) (fun h9 => ?_)
    · have hF := Eq.mp (if_pos h9) hF
      refine lv_aload_n hx hb d194_55 rfl (lv_at hl 0 rfl) ?_
      refine lv_dup hx hb d194_56 rfl ?_
      obtain ⟨fs9, v22, c9, e9, hF⟩ := hF
      refine va_get (D := D) (ci := 1) (v := .int v22) (C := kR1) (T := kT1) (N := 6) hx hb hts ku1 hown hK (hm_one I.1 c9) 0 rfl rfl 3 (by decide) (hts _ ms_k87) (fun _ h => h) e9 d194_57 ?_
      clear e9 c9 fs9
      refine lv_iload_n hx hb d194_60 rfl (lv_at hl 2 rfl) ?_
      refine lv_iload_n hx hb d194_61 rfl (lv_at hl 1 rfl) ?_
      refine lv_isub hx hb d194_62 ?_
      refine lv_isub hx hb d194_63 ?_
      obtain ⟨fs9, c9, k9, hF⟩ := hF
      refine hm_put (ci := 1) (v := .int (v22 - (x2 - x1))) (ty := .int) (C := kR1) (T := kT1) (N := 6) X I ku1 kt1 kp1 kn1 c9 rfl 3 (by decide) ms_k87 (fun _ h => h) rfl (by decide +kernel) rfl rfl k9 d194_64 (fun h23 H locs e9 f9 I => ?_)
      rw [← hm_eqU e9 f9] at hF
      clear e9 f9 c9 k9
      refine lv_aload_n hx hb d194_67 rfl (lv_at hl 0 rfl) ?_
      obtain ⟨fs9, c9, hF⟩ := hF
      refine ht_V (C := "MarkupStore$Tree") (rest := []) (as := []) X hl (cw_Tree_setPlaces l D dA s0 hE y0 h23 z _ hF) (List.forall_mem_cons.mpr ⟨ms_k723, List.forall_mem_cons.mpr ⟨ms_k725, List.forall_mem_cons.mpr ⟨ms_p14, List.forall_mem_cons.mpr ⟨ms_k6, List.forall_mem_cons.mpr ⟨ms_k726, fun _ h => absurd h List.not_mem_nil⟩⟩⟩⟩⟩) ⟨rfl, by decide +kernel, by decide +kernel, (by decide +kernel : (parseMethodDescriptor "()V").map (fun d => d.parameters.length) = some 0)⟩ (hm_recv hK I rfl c9) I ⟨rfl, rfl⟩ ⟨⟨Nat.le_of_ble_eq_true rfl, Nat.le_of_ble_eq_true rfl⟩, Nat.le_of_ble_eq_true rfl, Nat.le_of_ble_eq_true rfl⟩ rfl (Nat.le_of_ble_eq_true rfl) d194_68 (fun vv h25 z26 H locs hR I9 => ?_)
      obtain ⟨e1, hF⟩ := hR
      subst e1
      clear I
      have I := I9
      clear I9 c9 fs9
      refine W.eq (g2 := F0 m 71 ls []) rfl ?_
      exact ht_vret X d194_71 I (Nat.le_of_ble_eq_true rfl) (Nat.le_of_ble_eq_true rfl) ⟨rfl, hF⟩
    · have hF := Eq.mp (if_neg h9) hF
      refine lv_aload_n hx hb d194_33 rfl (lv_at hl 0 rfl) ?_
      obtain ⟨fs9, v27, c9, e9, hF⟩ := hF
      refine va_get (D := D) (ci := 1) (v := va_rf v27) (C := kR1) (T := kT1) (N := 6) hx hb hts ku1 hown hK (hm_one I.1 c9) 0 rfl rfl 2 (by decide) (hts _ ms_k82) (fun _ h => h) e9 d194_34 ?_
      clear e9 c9 fs9
      refine lv_iload_n hx hb d194_37 rfl (lv_at hl 3 rfl) ?_
      refine lv_iload_n hx hb d194_38 rfl (lv_at hl 2 rfl) ?_
      refine lv_isub hx hb d194_39 ?_
      refine lv_iload_n hx hb d194_40 rfl (lv_at hl 1 rfl) ?_
      refine lv_iadd hx hb d194_41 ?_
      refine lv_aload_n hx hb d194_42 rfl (lv_at hl 0 rfl) ?_
      obtain ⟨fs9, v28, c9, e9, hF⟩ := hF
      refine va_get (D := D) (ci := 1) (v := va_rf v28) (C := kR1) (T := kT1) (N := 6) hx hb hts ku1 hown hK (hm_one I.1 c9) 0 rfl rfl 2 (by decide) (hts _ ms_k82) (fun _ h => h) e9 d194_43 ?_
      clear e9 c9 fs9
      refine lv_iload_n hx hb d194_46 rfl (lv_at hl 3 rfl) ?_
      obtain ⟨a29, e9, hF⟩ := hF
      refine W.eq (g2 := F0 m 47 ls [.int x3, .ref a29, .int ((x3 - x2) + x1), va_rf v27]) (by rw [e9]; rfl) ?_
      clear e9
      obtain ⟨n8, f8, c9, i9, hF⟩ := hF
      refine va_aldq hx hb hK (hm_one I.1 c9) 0 5 rfl rfl i9 d194_47 ?_
      generalize f8 (Int32.toNatClampNeg x3) = v30 at hF ⊢
      clear c9 i9
      obtain ⟨a31, e9, hF⟩ := hF
      refine W.eq (g2 := F0 m 48 ls [va_rf v30, .int ((x3 - x2) + x1), .ref a31]) (by rw [e9]; rfl) ?_
      clear e9
      obtain ⟨a33, e9, hF⟩ := hF
      refine W.eq (g2 := F0 m 48 ls [.ref a33, .int ((x3 - x2) + x1), .ref a31]) (by rw [e9]; rfl) ?_
      clear e9
      obtain ⟨fs9, c8, hF⟩ := hF
      obtain ⟨n8, f8, c9, i9, hF⟩ := hF
      refine hm_aast (E := "MarkupStore$Node") X I 5 c9 rfl (hm_any hK I c8 rfl) i9 d194_48 (fun h32 H locs e9 f9 I => ?_)
      rw [← hm_eqU e9 f9] at hF
      clear e9 f9 c9 i9 c8
      refine lv_iinc (k := 3) (v := (x3 + 1)) hx hb d194_49 hl rfl (rfl) (by decide) rfl (fun ls hl => ?_)
      have hl : lv_has ls 4 [(3, .int (x3 + 1)), (0, .ref y0), (1, .int x1), (2, .int x2)] := hl
      refine lv_goto hx hb d194_52 rfl ?_
      exact hk25 ls x1 x2 (x3 + 1) h32 z _ _ hF (hl.sub [1, 2, 3, 0] rfl) I
  have b2 : ∀ n9 : Nat, ∀ (ls : Array Slot) (x1 : Int32) (x2 : Int32) (x3 : Int32) (h : hm_T) (z : hz_T) (H : Heap) (locs : List Loc), w_Tree_takeOut_2 dA y0 K n9 x1 x2 x3 h z → lv_has ls 4 [(0, .ref y0), (1, .int x1), (2, .int x2), (3, .int x3)] → hm_I D s0 s h z H locs → W p l e { frames := 1, cells := 0, slots := 0, locals := 21 } s m ([.ref y0, .int y1, .int y2] : List Value).toArray below meth c H locs 0 0 (MQ below (ht_Q D s0 (fun vv h1 z1 => vv = none ∧ K h1 z1)) ([.ref y0, .int y1, .int y2] : List Value).toArray s 0 0 (fun q => s0.heap.size ≤ q)) (F0 m 2 ls []) := by
    intro n9
    induction n9 with
    | zero => intro ls x1 x2 x3 h z H locs hF; cases hF
    | succ n9 hk2 =>
    intro ls x1 x2 x3 h z H locs hF hl I
    unfold w_Tree_takeOut_2 at hF
    refine lv_iload_n hx hb d194_2 rfl (lv_at hl 3 rfl) ?_
    refine lv_iload_n hx hb d194_3 rfl (lv_at hl 2 rfl) ?_
    refine lv_icmp_ge hx hb d194_4 rfl (fun h9 => ?_) (fun h9 => ?_)
    · have hF := Eq.mp (if_pos h9) hF
      refine lv_iload_n hx hb d194_23 rfl (lv_at hl 2 rfl) ?_
      refine lv_istore_n hx hb d194_24 rfl hl (by decide) rfl (fun ls hl => ?_)
      have hl : lv_has ls 4 [(3, .int x2), (0, .ref y0), (1, .int x1), (2, .int x2)] := hl
      exact b25 mF ls x1 x2 x2 h z _ _ hF (hl.sub [1, 2, 3, 0] rfl) I
    · have hF := Eq.mp (if_neg h9) hF
      refine lv_aload_n hx hb d194_7 rfl (lv_at hl 0 rfl) ?_
      obtain ⟨fs9, v34, c9, e9, hF⟩ := hF
      refine va_get (D := D) (ci := 1) (v := va_rf v34) (C := kR1) (T := kT1) (N := 6) hx hb hts ku1 hown hK (hm_one I.1 c9) 0 rfl rfl 2 (by decide) (hts _ ms_k82) (fun _ h => h) e9 d194_8 ?_
      clear e9 c9 fs9
      refine lv_iload_n hx hb d194_11 rfl (lv_at hl 3 rfl) ?_
      obtain ⟨a35, e9, hF⟩ := hF
      refine W.eq (g2 := F0 m 12 ls [.int x3, .ref a35]) (by rw [e9]; rfl) ?_
      clear e9
      obtain ⟨n8, f8, c9, i9, hF⟩ := hF
      refine va_aldq hx hb hK (hm_one I.1 c9) 0 5 rfl rfl i9 d194_12 ?_
      generalize f8 (Int32.toNatClampNeg x3) = v36 at hF ⊢
      clear c9 i9
      refine lv_iconst (v := (-1)) hx hb d194_13 (by decide) ?_
      obtain ⟨a37, e9, hF⟩ := hF
      refine W.eq (g2 := F0 m 14 ls [.int (-1), .ref a37]) (by rw [e9]; rfl) ?_
      clear e9
      obtain ⟨fs9, c9, k9, hF⟩ := hF
      refine hm_put (ci := 8) (v := .int (-1)) (ty := .int) (C := kR8) (T := kT8) (N := 9) X I ku8 kt8 kp8 kn8 c9 rfl 6 (by decide) ms_k463 (fun _ h => h) rfl (by decide +kernel) rfl rfl k9 d194_14 (fun h38 H locs e9 f9 I => ?_)
      rw [← hm_eqU e9 f9] at hF
      clear e9 f9 c9 k9
      refine lv_iinc (k := 3) (v := (x3 + 1)) hx hb d194_17 hl rfl (rfl) (by decide) rfl (fun ls hl => ?_)
      have hl : lv_has ls 4 [(3, .int (x3 + 1)), (0, .ref y0), (1, .int x1), (2, .int x2)] := hl
      refine lv_goto hx hb d194_20 rfl ?_
      exact hk2 ls x1 x2 (x3 + 1) h38 z _ _ hF (hl.sub [1, 2, 3, 0] rfl) I
  have hF := hg
  unfold w_Tree_takeOut at hF
  clear h z
  refine lv_iload_n hx hb d194_0 rfl (lv_at hl 1 rfl) ?_
  refine lv_istore_n hx hb d194_1 rfl hl (by decide) rfl (fun ls hl => ?_)
  have hl : lv_has ls 4 [(3, .int y1), (0, .ref y0), (1, .int y1), (2, .int y2)] := hl
  exact b2 mF ls y1 y2 y1 h0 z0 _ _ hF (hl.sub [1, 2, 3, 0] rfl) I

def w_Tree_clear (dA : Nat → ClassId) (y0 : Nat) (K : hm_T → hz_T → Prop) (h0 : hm_T) (z0 : hz_T) : Prop := (cg_I h0 1 3 y0 (fun v21 => (cg_c h0 1 y0 ((w_Tree_takeOut dA y0 0 v21 (fun h23 z24 => (K h23 z24)) h0 z0)))))
set_option maxRecDepth 100000 in
set_option maxHeartbeats 8000000 in
theorem cw_Tree_clear (l : Launch) (D : va_G) (dA : Nat → ClassId) (s0 : State) (hE : ms_EV D dA s0) (y0 : Nat) (h0 : hm_T) (z0 : hz_T) (K : hm_T → hz_T → Prop) (hg : w_Tree_clear dA y0 K h0 z0) : ht_C l D s0 yM195 bM195 1 (Option.none : Option Jvm.ClassFile.FieldType) 2 44 0 0 [.ref y0] (fun h z => h = h0 ∧ z = z0) (fun h z vv h1 z1 => vv = none ∧ K h1 z1) := by
  refine ht_C.mk hE.1 (by decide) (Nat.le_of_ble_eq_true rfl) [(0, .ref y0)] rfl ?_
  intro p e s m below meth c ls h z X hin hpre I hl
  have hx := X.1
  have hb := X.2.1
  have hml := X.2.2.1
  have hown : s.vm.findClass "MarkupStore$Tree" = some m.cls := X.2.2.2.1
  have hts := X.2.2.2.2.2.2.1
  have hK := X.2.2.2.2.2.2.2.2.1
  rw [hpre.1, hpre.2] at I
  clear hpre
  have hF := hg
  unfold w_Tree_clear at hF
  clear h z
  refine lv_aload_n hx hb d195_0 rfl (lv_at hl 0 rfl) ?_
  refine lv_iconst (v := 0) hx hb d195_1 (by decide) ?_
  refine lv_aload_n hx hb d195_2 rfl (lv_at hl 0 rfl) ?_
  obtain ⟨fs9, v21, c9, e9, hF⟩ := hF
  refine va_get (D := D) (ci := 1) (v := .int v21) (C := kR1) (T := kT1) (N := 6) hx hb hts ku1 hown hK (hm_one I.1 c9) 0 rfl rfl 3 (by decide) (hts _ ms_k87) (fun _ h => h) e9 d195_3 ?_
  clear e9 c9 fs9
  obtain ⟨fs9, c9, hF⟩ := hF
  refine ht_V (C := "MarkupStore$Tree") (rest := []) (as := [.int 0, .int v21]) X hl (cw_Tree_takeOut l D dA s0 hE y0 0 v21 h0 z0 _ hF) (List.forall_mem_cons.mpr ⟨ms_k719, List.forall_mem_cons.mpr ⟨ms_k720, List.forall_mem_cons.mpr ⟨ms_k721, List.forall_mem_cons.mpr ⟨ms_k6, List.forall_mem_cons.mpr ⟨ms_k722, fun _ h => absurd h List.not_mem_nil⟩⟩⟩⟩⟩) ⟨rfl, by decide +kernel, by decide +kernel, (by decide +kernel : (parseMethodDescriptor "(II)V").map (fun d => d.parameters.length) = some 2)⟩ (hm_recv hK I rfl c9) I ⟨rfl, rfl⟩ ⟨⟨Nat.le_of_ble_eq_true rfl, Nat.le_of_ble_eq_true rfl⟩, Nat.le_of_ble_eq_true rfl, Nat.le_of_ble_eq_true rfl⟩ rfl (Nat.le_of_ble_eq_true rfl) d195_6 (fun vv h23 z24 H locs hR I9 => ?_)
  obtain ⟨e1, hF⟩ := hR
  subst e1
  clear I
  have I := I9
  clear I9 c9 fs9
  refine W.eq (g2 := F0 m 9 ls []) rfl ?_
  exact ht_vret X d195_9 I (Nat.le_of_ble_eq_true rfl) (Nat.le_of_ble_eq_true rfl) ⟨rfl, hF⟩

def w_Tree_keep_2 (dA : Nat → ClassId) (y0 : Nat) (K : hm_T → hz_T → Prop) : Nat → Int32 → hm_T → hz_T → Prop
  | 0, _, _, _ => False
  | n9 + 1, x1, h, z => (cg_I h 1 3 y0 (fun v21 => (if v21 ≤ x1 then (cg_I h 1 3 y0 (fun v22 => (cg_p h 1 5 y0 (.int v22) (fun h23 => (K h23 z))))) else (cg_R h 1 4 y0 (fun v24 => (cg_R h 1 2 y0 (fun v25 => (cg_d v25 (fun a26 => (cg_ar dA h 5 a26 x1 (fun v27 => (cg_d v24 (fun a28 => (cg_d v27 (fun a30 => (cg_c h 8 a30 (cg_sr dA h 5 a28 x1 a30 (fun h29 => (cg_R h29 1 4 y0 (fun v31 => (cg_d v31 (fun a32 => (cg_ar dA h29 5 a32 x1 (fun v33 => (cg_R h29 1 4 y0 (fun v34 => (cg_d v34 (fun a35 => (cg_ar dA h29 5 a35 x1 (fun v36 => (cg_d v36 (fun a37 => (cg_R h29 8 7 a37 (fun v38 => (cg_d v33 (fun a39 => (cg_p h29 8 8 a39 (va_rf v38) (fun h40 => ((w_Tree_keep_2 dA y0 K n9) (x1 + 1) h40 z)))))))))))))))))))))))))))))))))))))))
def w_Tree_keep (dA : Nat → ClassId) (y0 : Nat) (K : hm_T → hz_T → Prop) (h0 : hm_T) (z0 : hz_T) : Prop := (w_Tree_keep_2 dA y0 K mF 0 h0 z0)
set_option maxRecDepth 100000 in
set_option maxHeartbeats 8000000 in
theorem cw_Tree_keep (l : Launch) (D : va_G) (dA : Nat → ClassId) (s0 : State) (hE : ms_EV D dA s0) (y0 : Nat) (h0 : hm_T) (z0 : hz_T) (K : hm_T → hz_T → Prop) (hg : w_Tree_keep dA y0 K h0 z0) : ht_C l D s0 yM196 bM196 2 (Option.none : Option Jvm.ClassFile.FieldType) 0 0 0 0 [.ref y0] (fun h z => h = h0 ∧ z = z0) (fun h z vv h1 z1 => vv = none ∧ K h1 z1) := by
  refine ht_C.mk hE.1 (by decide) (Nat.le_of_ble_eq_true rfl) [(0, .ref y0)] rfl ?_
  intro p e s m below meth c ls h z X hin hpre I hl
  have hx := X.1
  have hb := X.2.1
  have hml := X.2.2.1
  have hown : s.vm.findClass "MarkupStore$Tree" = some m.cls := X.2.2.2.1
  have hts := X.2.2.2.2.2.2.1
  have hK := X.2.2.2.2.2.2.2.2.1
  rw [hpre.1, hpre.2] at I
  clear hpre
  have b2 : ∀ n9 : Nat, ∀ (ls : Array Slot) (x1 : Int32) (h : hm_T) (z : hz_T) (H : Heap) (locs : List Loc), w_Tree_keep_2 dA y0 K n9 x1 h z → lv_has ls 2 [(0, .ref y0), (1, .int x1)] → hm_I D s0 s h z H locs → W p l e { frames := 0, cells := 0, slots := 0, locals := 0 } s m ([.ref y0] : List Value).toArray below meth c H locs 0 0 (MQ below (ht_Q D s0 (fun vv h1 z1 => vv = none ∧ K h1 z1)) ([.ref y0] : List Value).toArray s 0 0 (fun q => s0.heap.size ≤ q)) (F0 m 2 ls []) := by
    intro n9
    induction n9 with
    | zero => intro ls x1 h z H locs hF; cases hF
    | succ n9 hk2 =>
    intro ls x1 h z H locs hF hl I
    unfold w_Tree_keep_2 at hF
    refine lv_iload_n hx hb d196_2 rfl (lv_at hl 1 rfl) ?_
    refine lv_aload_n hx hb d196_3 rfl (lv_at hl 0 rfl) ?_
    obtain ⟨fs9, v21, c9, e9, hF⟩ := hF
    refine va_get (D := D) (ci := 1) (v := .int v21) (C := kR1) (T := kT1) (N := 6) hx hb hts ku1 hown hK (hm_one I.1 c9) 0 rfl rfl 3 (by decide) (hts _ ms_k87) (fun _ h => h) e9 d196_4 ?_
    clear e9 c9 fs9
    refine lv_icmp_ge hx hb d196_7 rfl (fun h9 => ?_) (fun h9 => ?_)
    · have hF := Eq.mp (if_pos h9) hF
      refine lv_aload_n hx hb d196_46 rfl (lv_at hl 0 rfl) ?_
      refine lv_aload_n hx hb d196_47 rfl (lv_at hl 0 rfl) ?_
      obtain ⟨fs9, v22, c9, e9, hF⟩ := hF
      refine va_get (D := D) (ci := 1) (v := .int v22) (C := kR1) (T := kT1) (N := 6) hx hb hts ku1 hown hK (hm_one I.1 c9) 0 rfl rfl 3 (by decide) (hts _ ms_k87) (fun _ h => h) e9 d196_48 ?_
      clear e9 c9 fs9
      obtain ⟨fs9, c9, k9, hF⟩ := hF
      refine hm_put (ci := 1) (v := .int v22) (ty := .int) (C := kR1) (T := kT1) (N := 6) X I ku1 kt1 kp1 kn1 c9 rfl 5 (by decide) ms_k91 (fun _ h => h) rfl (by decide +kernel) rfl rfl k9 d196_51 (fun h23 H locs e9 f9 I => ?_)
      rw [← hm_eqU e9 f9] at hF
      clear e9 f9 c9 k9
      exact ht_vret X d196_54 I (Nat.le_of_ble_eq_true rfl) (Nat.le_of_ble_eq_true rfl) ⟨rfl, hF⟩
    · have hF := Eq.mp (if_neg h9) hF
      refine lv_aload_n hx hb d196_10 rfl (lv_at hl 0 rfl) ?_
      obtain ⟨fs9, v24, c9, e9, hF⟩ := hF
      refine va_get (D := D) (ci := 1) (v := va_rf v24) (C := kR1) (T := kT1) (N := 6) hx hb hts ku1 hown hK (hm_one I.1 c9) 0 rfl rfl 4 (by decide) (hts _ ms_k90) (fun _ h => h) e9 d196_11 ?_
      clear e9 c9 fs9
      refine lv_iload_n hx hb d196_14 rfl (lv_at hl 1 rfl) ?_
      refine lv_aload_n hx hb d196_15 rfl (lv_at hl 0 rfl) ?_
      obtain ⟨fs9, v25, c9, e9, hF⟩ := hF
      refine va_get (D := D) (ci := 1) (v := va_rf v25) (C := kR1) (T := kT1) (N := 6) hx hb hts ku1 hown hK (hm_one I.1 c9) 0 rfl rfl 2 (by decide) (hts _ ms_k82) (fun _ h => h) e9 d196_16 ?_
      clear e9 c9 fs9
      refine lv_iload_n hx hb d196_19 rfl (lv_at hl 1 rfl) ?_
      obtain ⟨a26, e9, hF⟩ := hF
      refine W.eq (g2 := F0 m 20 ls [.int x1, .ref a26, .int x1, va_rf v24]) (by rw [e9]; rfl) ?_
      clear e9
      obtain ⟨n8, f8, c9, i9, hF⟩ := hF
      refine va_aldq hx hb hK (hm_one I.1 c9) 0 5 rfl rfl i9 d196_20 ?_
      generalize f8 (Int32.toNatClampNeg x1) = v27 at hF ⊢
      clear c9 i9
      obtain ⟨a28, e9, hF⟩ := hF
      refine W.eq (g2 := F0 m 21 ls [va_rf v27, .int x1, .ref a28]) (by rw [e9]; rfl) ?_
      clear e9
      obtain ⟨a30, e9, hF⟩ := hF
      refine W.eq (g2 := F0 m 21 ls [.ref a30, .int x1, .ref a28]) (by rw [e9]; rfl) ?_
      clear e9
      obtain ⟨fs9, c8, hF⟩ := hF
      obtain ⟨n8, f8, c9, i9, hF⟩ := hF
      refine hm_aast (E := "MarkupStore$Node") X I 5 c9 rfl (hm_any hK I c8 rfl) i9 d196_21 (fun h29 H locs e9 f9 I => ?_)
      rw [← hm_eqU e9 f9] at hF
      clear e9 f9 c9 i9 c8
      refine lv_aload_n hx hb d196_22 rfl (lv_at hl 0 rfl) ?_
      obtain ⟨fs9, v31, c9, e9, hF⟩ := hF
      refine va_get (D := D) (ci := 1) (v := va_rf v31) (C := kR1) (T := kT1) (N := 6) hx hb hts ku1 hown hK (hm_one I.1 c9) 0 rfl rfl 4 (by decide) (hts _ ms_k90) (fun _ h => h) e9 d196_23 ?_
      clear e9 c9 fs9
      refine lv_iload_n hx hb d196_26 rfl (lv_at hl 1 rfl) ?_
      obtain ⟨a32, e9, hF⟩ := hF
      refine W.eq (g2 := F0 m 27 ls [.int x1, .ref a32]) (by rw [e9]; rfl) ?_
      clear e9
      obtain ⟨n8, f8, c9, i9, hF⟩ := hF
      refine va_aldq hx hb hK (hm_one I.1 c9) 0 5 rfl rfl i9 d196_27 ?_
      generalize f8 (Int32.toNatClampNeg x1) = v33 at hF ⊢
      clear c9 i9
      refine lv_aload_n hx hb d196_28 rfl (lv_at hl 0 rfl) ?_
      obtain ⟨fs9, v34, c9, e9, hF⟩ := hF
      refine va_get (D := D) (ci := 1) (v := va_rf v34) (C := kR1) (T := kT1) (N := 6) hx hb hts ku1 hown hK (hm_one I.1 c9) 0 rfl rfl 4 (by decide) (hts _ ms_k90) (fun _ h => h) e9 d196_29 ?_
      clear e9 c9 fs9
      refine lv_iload_n hx hb d196_32 rfl (lv_at hl 1 rfl) ?_
      obtain ⟨a35, e9, hF⟩ := hF
      refine W.eq (g2 := F0 m 33 ls [.int x1, .ref a35, va_rf v33]) (by rw [e9]; rfl) ?_
      clear e9
      obtain ⟨n8, f8, c9, i9, hF⟩ := hF
      refine va_aldq hx hb hK (hm_one I.1 c9) 0 5 rfl rfl i9 d196_33 ?_
      generalize f8 (Int32.toNatClampNeg x1) = v36 at hF ⊢
      clear c9 i9
      obtain ⟨a37, e9, hF⟩ := hF
      refine W.eq (g2 := F0 m 34 ls [.ref a37, va_rf v33]) (by rw [e9]; rfl) ?_
      clear e9
      obtain ⟨fs9, v38, c9, e9, hF⟩ := hF
      refine va_get (D := D) (ci := 8) (v := va_rf v38) (C := kR8) (T := kT8) (N := 9) hx hb hts ku8 hown hK (hm_one I.1 c9) 0 rfl rfl 7 (by decide) (hts _ ms_k472) (fun _ h => h) e9 d196_34 ?_
      clear e9 c9 fs9
      obtain ⟨a39, e9, hF⟩ := hF
      refine W.eq (g2 := F0 m 37 ls [va_rf v38, .ref a39]) (by rw [e9]; rfl) ?_
      clear e9
      obtain ⟨fs9, c9, k9, hF⟩ := hF
      refine hm_put (ci := 8) (v := va_rf v38) (ty := (.object "java/lang/String")) (C := kR8) (T := kT8) (N := 9) X I ku8 kt8 kp8 kn8 c9 rfl 8 (by decide) ms_k474 (fun _ h => h) rfl (by decide +kernel) (by cases v38 <;> rfl) (by cases v38 <;> rfl) k9 d196_37 (fun h40 H locs e9 f9 I => ?_)
      rw [← hm_eqU e9 f9] at hF
      clear e9 f9 c9 k9
      refine lv_iinc (k := 1) (v := (x1 + 1)) hx hb d196_40 hl rfl (rfl) (by decide) rfl (fun ls hl => ?_)
      have hl : lv_has ls 2 [(1, .int (x1 + 1)), (0, .ref y0)] := hl
      refine lv_goto hx hb d196_43 rfl ?_
      exact hk2 ls (x1 + 1) h40 z _ _ hF (hl.sub [1, 0] rfl) I
  have hF := hg
  unfold w_Tree_keep at hF
  clear h z
  refine lv_iconst (v := 0) hx hb d196_0 (by decide) ?_
  refine lv_istore_n hx hb d196_1 rfl hl (by decide) rfl (fun ls hl => ?_)
  have hl : lv_has ls 2 [(1, .int 0), (0, .ref y0)] := hl
  exact b2 mF ls 0 h0 z0 _ _ hF (hl.sub [1, 0] rfl) I

def w_Tree_giveBack_6 (dA : Nat → ClassId) (y0 : Nat) (K : hm_T → hz_T → Prop) : Nat → Int32 → hm_T → hz_T → Prop
  | 0, _, _, _ => False
  | n9 + 1, x1, h, z => (cg_I h 1 5 y0 (fun v24 => (if v24 ≤ x1 then (cg_I h 1 5 y0 (fun v25 => (cg_p h 1 3 y0 (.int v25) (fun h26 => (cg_c h26 1 y0 ((w_Tree_setPlaces dA y0 (fun h28 z29 => (K h28 z29)) h26 z))))))) else (cg_R h 1 2 y0 (fun v30 => (cg_R h 1 4 y0 (fun v31 => (cg_d v31 (fun a32 => (cg_ar dA h 5 a32 x1 (fun v33 => (cg_d v30 (fun a34 => (cg_d v33 (fun a36 => (cg_c h 8 a36 (cg_sr dA h 5 a34 x1 a36 (fun h35 => (cg_R h35 1 2 y0 (fun v37 => (cg_d v37 (fun a38 => (cg_ar dA h35 5 a38 x1 (fun v39 => (cg_R h35 1 2 y0 (fun v40 => (cg_d v40 (fun a41 => (cg_ar dA h35 5 a41 x1 (fun v42 => (cg_d v42 (fun a43 => (cg_R h35 8 8 a43 (fun v44 => (cg_d v39 (fun a45 => (cg_p h35 8 7 a45 (va_rf v44) (fun h46 => ((w_Tree_giveBack_6 dA y0 K n9) (x1 + 1) h46 z)))))))))))))))))))))))))))))))))))))))
def w_Tree_giveBack (dA : Nat → ClassId) (y0 : Nat) (K : hm_T → hz_T → Prop) (h0 : hm_T) (z0 : hz_T) : Prop := (cg_c h0 1 y0 ((w_Tree_clear dA y0 (fun h22 z23 => (w_Tree_giveBack_6 dA y0 K mF 0 h22 z23)) h0 z0)))
set_option maxRecDepth 100000 in
set_option maxHeartbeats 8000000 in
theorem cw_Tree_giveBack (l : Launch) (D : va_G) (dA : Nat → ClassId) (s0 : State) (hE : ms_EV D dA s0) (y0 : Nat) (h0 : hm_T) (z0 : hz_T) (K : hm_T → hz_T → Prop) (hg : w_Tree_giveBack dA y0 K h0 z0) : ht_C l D s0 yM197 bM197 2 (Option.none : Option Jvm.ClassFile.FieldType) 3 64 0 0 [.ref y0] (fun h z => h = h0 ∧ z = z0) (fun h z vv h1 z1 => vv = none ∧ K h1 z1) := by
  refine ht_C.mk hE.1 (by decide) (Nat.le_of_ble_eq_true rfl) [(0, .ref y0)] rfl ?_
  intro p e s m below meth c ls h z X hin hpre I hl
  have hx := X.1
  have hb := X.2.1
  have hml := X.2.2.1
  have hown : s.vm.findClass "MarkupStore$Tree" = some m.cls := X.2.2.2.1
  have hts := X.2.2.2.2.2.2.1
  have hK := X.2.2.2.2.2.2.2.2.1
  rw [hpre.1, hpre.2] at I
  clear hpre
  have b6 : ∀ n9 : Nat, ∀ (ls : Array Slot) (x1 : Int32) (h : hm_T) (z : hz_T) (H : Heap) (locs : List Loc), w_Tree_giveBack_6 dA y0 K n9 x1 h z → lv_has ls 2 [(0, .ref y0), (1, .int x1)] → hm_I D s0 s h z H locs → W p l e { frames := 3, cells := 0, slots := 0, locals := 64 } s m ([.ref y0] : List Value).toArray below meth c H locs 0 0 (MQ below (ht_Q D s0 (fun vv h1 z1 => vv = none ∧ K h1 z1)) ([.ref y0] : List Value).toArray s 0 0 (fun q => s0.heap.size ≤ q)) (F0 m 6 ls []) := by
    intro n9
    induction n9 with
    | zero => intro ls x1 h z H locs hF; cases hF
    | succ n9 hk6 =>
    intro ls x1 h z H locs hF hl I
    unfold w_Tree_giveBack_6 at hF
    refine lv_iload_n hx hb d197_6 rfl (lv_at hl 1 rfl) ?_
    refine lv_aload_n hx hb d197_7 rfl (lv_at hl 0 rfl) ?_
    obtain ⟨fs9, v24, c9, e9, hF⟩ := hF
    refine va_get (D := D) (ci := 1) (v := .int v24) (C := kR1) (T := kT1) (N := 6) hx hb hts ku1 hown hK (hm_one I.1 c9) 0 rfl rfl 5 (by decide) (hts _ ms_k91) (fun _ h => h) e9 d197_8 ?_
    clear e9 c9 fs9
    refine lv_icmp_ge hx hb d197_11 rfl (fun h9 => ?_) (fun h9 => ?_)
    · have hF := Eq.mp (if_pos h9) hF
      refine lv_aload_n hx hb d197_50 rfl (lv_at hl 0 rfl) ?_
      refine lv_aload_n hx hb d197_51 rfl (lv_at hl 0 rfl) ?_
      obtain ⟨fs9, v25, c9, e9, hF⟩ := hF
      refine va_get (D := D) (ci := 1) (v := .int v25) (C := kR1) (T := kT1) (N := 6) hx hb hts ku1 hown hK (hm_one I.1 c9) 0 rfl rfl 5 (by decide) (hts _ ms_k91) (fun _ h => h) e9 d197_52 ?_
      clear e9 c9 fs9
      obtain ⟨fs9, c9, k9, hF⟩ := hF
      refine hm_put (ci := 1) (v := .int v25) (ty := .int) (C := kR1) (T := kT1) (N := 6) X I ku1 kt1 kp1 kn1 c9 rfl 3 (by decide) ms_k87 (fun _ h => h) rfl (by decide +kernel) rfl rfl k9 d197_55 (fun h26 H locs e9 f9 I => ?_)
      rw [← hm_eqU e9 f9] at hF
      clear e9 f9 c9 k9
      refine lv_aload_n hx hb d197_58 rfl (lv_at hl 0 rfl) ?_
      obtain ⟨fs9, c9, hF⟩ := hF
      refine ht_V (C := "MarkupStore$Tree") (rest := []) (as := []) X hl (cw_Tree_setPlaces l D dA s0 hE y0 h26 z _ hF) (List.forall_mem_cons.mpr ⟨ms_k723, List.forall_mem_cons.mpr ⟨ms_k725, List.forall_mem_cons.mpr ⟨ms_p14, List.forall_mem_cons.mpr ⟨ms_k6, List.forall_mem_cons.mpr ⟨ms_k726, fun _ h => absurd h List.not_mem_nil⟩⟩⟩⟩⟩) ⟨rfl, by decide +kernel, by decide +kernel, (by decide +kernel : (parseMethodDescriptor "()V").map (fun d => d.parameters.length) = some 0)⟩ (hm_recv hK I rfl c9) I ⟨rfl, rfl⟩ ⟨⟨Nat.le_of_ble_eq_true rfl, Nat.le_of_ble_eq_true rfl⟩, Nat.le_of_ble_eq_true rfl, Nat.le_of_ble_eq_true rfl⟩ rfl (Nat.le_of_ble_eq_true rfl) d197_59 (fun vv h28 z29 H locs hR I9 => ?_)
      obtain ⟨e1, hF⟩ := hR
      subst e1
      clear I
      have I := I9
      clear I9 c9 fs9
      refine W.eq (g2 := F0 m 62 ls []) rfl ?_
      exact ht_vret X d197_62 I (Nat.le_of_ble_eq_true rfl) (Nat.le_of_ble_eq_true rfl) ⟨rfl, hF⟩
    · have hF := Eq.mp (if_neg h9) hF
      refine lv_aload_n hx hb d197_14 rfl (lv_at hl 0 rfl) ?_
      obtain ⟨fs9, v30, c9, e9, hF⟩ := hF
      refine va_get (D := D) (ci := 1) (v := va_rf v30) (C := kR1) (T := kT1) (N := 6) hx hb hts ku1 hown hK (hm_one I.1 c9) 0 rfl rfl 2 (by decide) (hts _ ms_k82) (fun _ h => h) e9 d197_15 ?_
      clear e9 c9 fs9
      refine lv_iload_n hx hb d197_18 rfl (lv_at hl 1 rfl) ?_
      refine lv_aload_n hx hb d197_19 rfl (lv_at hl 0 rfl) ?_
      obtain ⟨fs9, v31, c9, e9, hF⟩ := hF
      refine va_get (D := D) (ci := 1) (v := va_rf v31) (C := kR1) (T := kT1) (N := 6) hx hb hts ku1 hown hK (hm_one I.1 c9) 0 rfl rfl 4 (by decide) (hts _ ms_k90) (fun _ h => h) e9 d197_20 ?_
      clear e9 c9 fs9
      refine lv_iload_n hx hb d197_23 rfl (lv_at hl 1 rfl) ?_
      obtain ⟨a32, e9, hF⟩ := hF
      refine W.eq (g2 := F0 m 24 ls [.int x1, .ref a32, .int x1, va_rf v30]) (by rw [e9]; rfl) ?_
      clear e9
      obtain ⟨n8, f8, c9, i9, hF⟩ := hF
      refine va_aldq hx hb hK (hm_one I.1 c9) 0 5 rfl rfl i9 d197_24 ?_
      generalize f8 (Int32.toNatClampNeg x1) = v33 at hF ⊢
      clear c9 i9
      obtain ⟨a34, e9, hF⟩ := hF
      refine W.eq (g2 := F0 m 25 ls [va_rf v33, .int x1, .ref a34]) (by rw [e9]; rfl) ?_
      clear e9
      obtain ⟨a36, e9, hF⟩ := hF
      refine W.eq (g2 := F0 m 25 ls [.ref a36, .int x1, .ref a34]) (by rw [e9]; rfl) ?_
      clear e9
      obtain ⟨fs9, c8, hF⟩ := hF
      obtain ⟨n8, f8, c9, i9, hF⟩ := hF
      refine hm_aast (E := "MarkupStore$Node") X I 5 c9 rfl (hm_any hK I c8 rfl) i9 d197_25 (fun h35 H locs e9 f9 I => ?_)
      rw [← hm_eqU e9 f9] at hF
      clear e9 f9 c9 i9 c8
      refine lv_aload_n hx hb d197_26 rfl (lv_at hl 0 rfl) ?_
      obtain ⟨fs9, v37, c9, e9, hF⟩ := hF
      refine va_get (D := D) (ci := 1) (v := va_rf v37) (C := kR1) (T := kT1) (N := 6) hx hb hts ku1 hown hK (hm_one I.1 c9) 0 rfl rfl 2 (by decide) (hts _ ms_k82) (fun _ h => h) e9 d197_27 ?_
      clear e9 c9 fs9
      refine lv_iload_n hx hb d197_30 rfl (lv_at hl 1 rfl) ?_
      obtain ⟨a38, e9, hF⟩ := hF
      refine W.eq (g2 := F0 m 31 ls [.int x1, .ref a38]) (by rw [e9]; rfl) ?_
      clear e9
      obtain ⟨n8, f8, c9, i9, hF⟩ := hF
      refine va_aldq hx hb hK (hm_one I.1 c9) 0 5 rfl rfl i9 d197_31 ?_
      generalize f8 (Int32.toNatClampNeg x1) = v39 at hF ⊢
      clear c9 i9
      refine lv_aload_n hx hb d197_32 rfl (lv_at hl 0 rfl) ?_
      obtain ⟨fs9, v40, c9, e9, hF⟩ := hF
      refine va_get (D := D) (ci := 1) (v := va_rf v40) (C := kR1) (T := kT1) (N := 6) hx hb hts ku1 hown hK (hm_one I.1 c9) 0 rfl rfl 2 (by decide) (hts _ ms_k82) (fun _ h => h) e9 d197_33 ?_
      clear e9 c9 fs9
      refine lv_iload_n hx hb d197_36 rfl (lv_at hl 1 rfl) ?_
      obtain ⟨a41, e9, hF⟩ := hF
      refine W.eq (g2 := F0 m 37 ls [.int x1, .ref a41, va_rf v39]) (by rw [e9]; rfl) ?_
      clear e9
      obtain ⟨n8, f8, c9, i9, hF⟩ := hF
      refine va_aldq hx hb hK (hm_one I.1 c9) 0 5 rfl rfl i9 d197_37 ?_
      generalize f8 (Int32.toNatClampNeg x1) = v42 at hF ⊢
      clear c9 i9
      obtain ⟨a43, e9, hF⟩ := hF
      refine W.eq (g2 := F0 m 38 ls [.ref a43, va_rf v39]) (by rw [e9]; rfl) ?_
      clear e9
      obtain ⟨fs9, v44, c9, e9, hF⟩ := hF
      refine va_get (D := D) (ci := 8) (v := va_rf v44) (C := kR8) (T := kT8) (N := 9) hx hb hts ku8 hown hK (hm_one I.1 c9) 0 rfl rfl 8 (by decide) (hts _ ms_k474) (fun _ h => h) e9 d197_38 ?_
      clear e9 c9 fs9
      obtain ⟨a45, e9, hF⟩ := hF
      refine W.eq (g2 := F0 m 41 ls [va_rf v44, .ref a45]) (by rw [e9]; rfl) ?_
      clear e9
      obtain ⟨fs9, c9, k9, hF⟩ := hF
      refine hm_put (ci := 8) (v := va_rf v44) (ty := (.object "java/lang/String")) (C := kR8) (T := kT8) (N := 9) X I ku8 kt8 kp8 kn8 c9 rfl 7 (by decide) ms_k472 (fun _ h => h) rfl (by decide +kernel) (by cases v44 <;> rfl) (by cases v44 <;> rfl) k9 d197_41 (fun h46 H locs e9 f9 I => ?_)
      rw [← hm_eqU e9 f9] at hF
      clear e9 f9 c9 k9
      refine lv_iinc (k := 1) (v := (x1 + 1)) hx hb d197_44 hl rfl (rfl) (by decide) rfl (fun ls hl => ?_)
      have hl : lv_has ls 2 [(1, .int (x1 + 1)), (0, .ref y0)] := hl
      refine lv_goto hx hb d197_47 rfl ?_
      exact hk6 ls (x1 + 1) h46 z _ _ hF (hl.sub [1, 0] rfl) I
  have hF := hg
  unfold w_Tree_giveBack at hF
  clear h z
  refine lv_aload_n hx hb d197_0 rfl (lv_at hl 0 rfl) ?_
  obtain ⟨fs9, c9, hF⟩ := hF
  refine ht_V (C := "MarkupStore$Tree") (rest := []) (as := []) X hl (cw_Tree_clear l D dA s0 hE y0 h0 z0 _ hF) (List.forall_mem_cons.mpr ⟨ms_k1213, List.forall_mem_cons.mpr ⟨ms_k716, List.forall_mem_cons.mpr ⟨ms_k717, List.forall_mem_cons.mpr ⟨ms_k6, List.forall_mem_cons.mpr ⟨ms_k718, fun _ h => absurd h List.not_mem_nil⟩⟩⟩⟩⟩) ⟨rfl, by decide +kernel, by decide +kernel, (by decide +kernel : (parseMethodDescriptor "()V").map (fun d => d.parameters.length) = some 0)⟩ (hm_recv hK I rfl c9) I ⟨rfl, rfl⟩ ⟨⟨Nat.le_of_ble_eq_true rfl, Nat.le_of_ble_eq_true rfl⟩, Nat.le_of_ble_eq_true rfl, Nat.le_of_ble_eq_true rfl⟩ rfl (Nat.le_of_ble_eq_true rfl) d197_1 (fun vv h22 z23 H locs hR I9 => ?_)
  obtain ⟨e1, hF⟩ := hR
  subst e1
  clear I
  have I := I9
  clear I9 c9 fs9
  refine W.eq (g2 := F0 m 4 ls []) rfl ?_
  refine lv_iconst (v := 0) hx hb d197_4 (by decide) ?_
  refine lv_istore_n hx hb d197_5 rfl hl (by decide) rfl (fun ls hl => ?_)
  have hl : lv_has ls 2 [(1, .int 0), (0, .ref y0)] := hl
  exact b6 mF ls 0 h22 z23 _ _ hF (hl.sub [1, 0] rfl) I

def w_Walker_init (dA : Nat → ClassId) (y0 : Nat) (y1 : Option Nat) (K : hm_T → hz_T → Prop) (h0 : hm_T) (z0 : hz_T) : Prop := (cg_p h0 14 0 y0 (va_rf y1) (fun h21 => (K h21 z0)))
set_option maxRecDepth 100000 in
set_option maxHeartbeats 8000000 in
theorem cw_Walker_init (l : Launch) (D : va_G) (dA : Nat → ClassId) (s0 : State) (hE : ms_EV D dA s0) (y0 : Nat) (y1 : Option Nat) (h0 : hm_T) (z0 : hz_T) (K : hm_T → hz_T → Prop) (hg : w_Walker_init dA y0 y1 K h0 z0) : ht_C l D s0 yM198 bM198 2 (Option.none : Option Jvm.ClassFile.FieldType) 1 12 0 0 [.ref y0, va_rf y1] (fun h z => h = h0 ∧ z = z0) (fun h z vv h1 z1 => vv = none ∧ K h1 z1) := by
  refine ht_C.mk hE.1 (by decide) (by simp [lg_sl, cat_rf, cat_int, cat_ref, cat_null, cat_long]) [(0, .ref y0), (1, va_rf y1)] (by simp [lv_args, cat_rf, cat_int, cat_ref, cat_null, cat_long]) ?_
  intro p e s m below meth c ls h z X hin hpre I hl
  have hx := X.1
  have hb := X.2.1
  have hml := X.2.2.1
  have hown : s.vm.findClass "MarkupStore$Walker" = some m.cls := X.2.2.2.1
  have hts := X.2.2.2.2.2.2.1
  have hK := X.2.2.2.2.2.2.2.2.1
  rw [hpre.1, hpre.2] at I
  clear hpre
  have hF := hg
  unfold w_Walker_init at hF
  clear h z
  refine lv_aload_n hx hb d198_0 rfl (lv_at hl 0 rfl) ?_
  refine W.objInit hx hb hown (hts _ ms_k1087) (hts _ ms_k37) (hts _ ms_k38) rfl (by rw [hml]; exact hl.1) rfl d198_1 (Nat.le_of_ble_eq_true rfl) (Nat.le_of_ble_eq_true rfl) ?_
  refine W.eq (g2 := F0 m 4 ls []) rfl ?_
  refine lv_aload_n hx hb d198_4 rfl (lv_at hl 0 rfl) ?_
  refine lv_aload_nR hx hb d198_5 rfl (lv_at hl 1 rfl) ?_
  obtain ⟨fs9, c9, k9, hF⟩ := hF
  refine hm_putF (ci := 14) (v := va_rf y1) (ty := (.object "MarkupStore$Tree")) (C := kR14) (T := kT14) (N := 1) X I ku14 kt14 kp14 kn14 c9 rfl 0 (by decide) ms_k1088 (fun _ h => h) rfl hin rfl (by decide +kernel) (by cases y1 <;> rfl) (by cases y1 <;> rfl) k9 d198_6 (fun h21 H locs e9 f9 I => ?_)
  rw [← hm_eqU e9 f9] at hF
  clear e9 f9 c9 k9
  exact ht_vret X d198_9 I (Nat.le_of_ble_eq_true rfl) (Nat.le_of_ble_eq_true rfl) ⟨rfl, hF⟩

def w_Walker_sift_72 (dA : Nat → ClassId) (y0 : Nat) (K : Int64 → hm_T → hz_T → Prop) (w0 : Int64) (w1 : Int64) (h : hm_T) (z : hz_T) : Prop := (K (w1 &&& w0) h z)
def w_Walker_sift_53 (dA : Nat → ClassId) (y0 : Nat) (K : Int64 → hm_T → hz_T → Prop) (x1 : Option Nat) (x2 : Int64) (x5 : Int64) (h : hm_T) (z : hz_T) : Prop := (cg_d x1 (fun a27 => (cg_I h 13 1 a27 (fun v28 => (if v28 = 0 then (w_Walker_sift_72 dA y0 K x5 x2 h z) else (w_Walker_sift_72 dA y0 K (x5 ^^^ (-1 : Int64)) x2 h z))))))
def w_Walker_sift (dA : Nat → ClassId) (y0 : Nat) (y1 : Option Nat) (y2 : Int64) (y4 : Int32) (K : Int64 → hm_T → hz_T → Prop) (h0 : hm_T) (z0 : hz_T) : Prop := (cg_d y1 (fun a21 => (cg_L h0 13 7 a21 (fun v22 => (cg_d y1 (fun a23 => (cg_I h0 13 0 a23 (fun v24 => (if v24 = 49 then (cg_d y1 (fun a35 => (cg_I h0 13 2 a35 (fun v36 => (cg_c h0 14 y0 ((w_Walker_atPosition dA y0 v36 y2 y4 (fun v37 h38 z39 => (w_Walker_sift_53 dA y0 K y1 y2 v37 h38 z39)) h0 z0))))))) else (cg_d y1 (fun a25 => (cg_I h0 13 0 a25 (fun v26 => (if v26 = 36 then (w_Long_bitCount dA y2 (fun v29 h30 z31 => (cg_c h30 14 y0 ((w_Walker_atPosition dA y0 v29 y2 y4 (fun v32 h33 z34 => (w_Walker_sift_53 dA y0 K y1 y2 v32 h33 z34)) h30 z31)))) h0 z0) else (w_Walker_sift_53 dA y0 K y1 y2 v22 h0 z0)))))))))))))))
set_option maxRecDepth 100000 in
set_option maxHeartbeats 8000000 in
theorem cw_Walker_sift (l : Launch) (D : va_G) (dA : Nat → ClassId) (s0 : State) (hE : ms_EV D dA s0) (y0 : Nat) (y1 : Option Nat) (y2 : Int64) (y4 : Int32) (h0 : hm_T) (z0 : hz_T) (K : Int64 → hm_T → hz_T → Prop) (hg : w_Walker_sift dA y0 y1 y2 y4 K h0 z0) : ht_C l D s0 yM199 bM199 7 (Option.some Jvm.ClassFile.FieldType.long) 1 29 0 0 [.ref y0, va_rf y1, .long y2, .int y4] (fun h z => h = h0 ∧ z = z0) (fun h z vv h1 z1 => ∃ v, vv = some (.long v) ∧ K v h1 z1) := by
  refine ht_C.mk hE.1 (by decide) (by simp [lg_sl, cat_rf, cat_int, cat_ref, cat_null, cat_long]) [(0, .ref y0), (1, va_rf y1), (2, .long y2), (4, .int y4)] (by simp [lv_args, cat_rf, cat_int, cat_ref, cat_null, cat_long]) ?_
  intro p e s m below meth c ls h z X hin hpre I hl
  have hx := X.1
  have hb := X.2.1
  have hml := X.2.2.1
  have hown : s.vm.findClass "MarkupStore$Walker" = some m.cls := X.2.2.2.1
  have hts := X.2.2.2.2.2.2.1
  have hK := X.2.2.2.2.2.2.2.2.1
  rw [hpre.1, hpre.2] at I
  clear hpre
  have b72 : ∀ (ls : Array Slot) (w0 : Int64) (w1 : Int64) (h : hm_T) (z : hz_T) (H : Heap) (locs : List Loc), w_Walker_sift_72 dA y0 K w0 w1 h z → lv_has ls 7 [] → hm_I D s0 s h z H locs → W p l e { frames := 1, cells := 0, slots := 0, locals := 29 } s m ([.ref y0, va_rf y1, .long y2, .int y4] : List Value).toArray below meth c H locs 0 0 (MQ below (ht_Q D s0 (fun vv h1 z1 => ∃ v, vv = some (.long v) ∧ K v h1 z1)) ([.ref y0, va_rf y1, .long y2, .int y4] : List Value).toArray s 0 0 (fun q => s0.heap.size ≤ q)) (F0 m 72 ls [.long w0, .long w1]) := by
    intro ls w0 w1 h z H locs hF hl I
    unfold w_Walker_sift_72 at hF
    refine lv_land hx hb d199_72 ?_
    exact ht_lret X d199_73 I (Nat.le_of_ble_eq_true rfl) (Nat.le_of_ble_eq_true rfl) ⟨_, rfl, hF⟩
  have b53 : ∀ (ls : Array Slot) (x1 : Option Nat) (x2 : Int64) (x5 : Int64) (h : hm_T) (z : hz_T) (H : Heap) (locs : List Loc), w_Walker_sift_53 dA y0 K x1 x2 x5 h z → lv_has ls 7 [(1, va_rf x1), (2, .long x2), (5, .long x5)] → hm_I D s0 s h z H locs → W p l e { frames := 1, cells := 0, slots := 0, locals := 29 } s m ([.ref y0, va_rf y1, .long y2, .int y4] : List Value).toArray below meth c H locs 0 0 (MQ below (ht_Q D s0 (fun vv h1 z1 => ∃ v, vv = some (.long v) ∧ K v h1 z1)) ([.ref y0, va_rf y1, .long y2, .int y4] : List Value).toArray s 0 0 (fun q => s0.heap.size ≤ q)) (F0 m 53 ls []) := by
    intro ls x1 x2 x5 h z H locs hF hl I
    unfold w_Walker_sift_53 at hF
    refine lv_lload_n hx hb d199_53 rfl (lv_at hl 1 rfl) ?_
    refine lv_aload_nR hx hb d199_54 rfl (lv_at hl 0 rfl) ?_
    obtain ⟨a27, e9, hF⟩ := hF
    refine W.eq (g2 := F0 m 55 ls [.ref a27, .long x2]) (by rw [e9]; rfl) ?_
    clear e9
    obtain ⟨fs9, v28, c9, e9, hF⟩ := hF
    refine va_get (D := D) (ci := 13) (v := .int v28) (C := kR13) (T := kT13) (N := 8) hx hb hts ku13 hown hK (hm_one I.1 c9) 0 rfl rfl 1 (by decide) (hts _ ms_k1025) (fun _ h => h) e9 d199_55 ?_
    clear e9 c9 fs9
    refine lv_if_eq hx hb d199_58 rfl (fun h9 => ?_) (fun h9 => ?_)
    · have hF := Eq.mp (if_pos h9) hF
      refine lv_lload hx hb d199_70 (lv_at hl 2 rfl) ?_
      exact b72 ls x5 x2 h z _ _ hF (hl.sub [] rfl) I
    · have hF := Eq.mp (if_neg h9) hF
      refine lv_lload hx hb d199_61 (lv_at hl 2 rfl) ?_
      refine lv_ldc2 (own := "MarkupStore$Walker") (v := (-1 : Int64)) hx hb hown (hts _ ms_k1158) d199_63 ?_
      refine lv_lxor hx hb d199_66 ?_
      refine lv_goto hx hb d199_67 rfl ?_
      exact b72 ls (x5 ^^^ (-1 : Int64)) x2 h z _ _ hF (hl.sub [] rfl) I
  have hF := hg
  unfold w_Walker_sift at hF
  clear h z
  refine lv_aload_nR hx hb d199_0 rfl (lv_at hl 1 rfl) ?_
  obtain ⟨a21, e9, hF⟩ := hF
  refine W.eq (g2 := F0 m 1 ls [.ref a21]) (by rw [e9]; rfl) ?_
  clear e9
  obtain ⟨fs9, v22, c9, e9, hF⟩ := hF
  refine va_get (D := D) (ci := 13) (v := .long v22) (C := kR13) (T := kT13) (N := 8) hx hb hts ku13 hown hK (hm_one I.1 c9) 0 rfl rfl 7 (by decide) (hts _ ms_k1042) (fun _ h => h) e9 d199_1 ?_
  clear e9 c9 fs9
  refine lv_lstore hx hb d199_4 hl (by decide) rfl (fun ls hl => ?_)
  have hl : lv_has ls 7 [(5, .long v22), (0, .ref y0), (1, va_rf y1), (2, .long y2), (4, .int y4)] := hl
  refine lv_aload_nR hx hb d199_6 rfl (lv_at hl 2 rfl) ?_
  obtain ⟨a23, e9, hF⟩ := hF
  refine W.eq (g2 := F0 m 7 ls [.ref a23]) (by rw [e9]; rfl) ?_
  clear e9
  obtain ⟨fs9, v24, c9, e9, hF⟩ := hF
  refine va_get (D := D) (ci := 13) (v := .int v24) (C := kR13) (T := kT13) (N := 8) hx hb hts ku13 hown hK (hm_one I.1 c9) 0 rfl rfl 0 (by decide) (hts _ ms_k1021) (fun _ h => h) e9 d199_7 ?_
  clear e9 c9 fs9
  refine lv_bipush (v := 49) hx hb d199_10 (by decide) ?_
  refine lv_icmp_ne hx hb d199_12 rfl (fun h9 => ?_) (fun h9 => ?_)
  · have hF := Eq.mp (if_neg h9) hF
    refine lv_aload_nR hx hb d199_31 rfl (lv_at hl 2 rfl) ?_
    obtain ⟨a25, e9, hF⟩ := hF
    refine W.eq (g2 := F0 m 32 ls [.ref a25]) (by rw [e9]; rfl) ?_
    clear e9
    obtain ⟨fs9, v26, c9, e9, hF⟩ := hF
    refine va_get (D := D) (ci := 13) (v := .int v26) (C := kR13) (T := kT13) (N := 8) hx hb hts ku13 hown hK (hm_one I.1 c9) 0 rfl rfl 0 (by decide) (hts _ ms_k1021) (fun _ h => h) e9 d199_32 ?_
    clear e9 c9 fs9
    refine lv_bipush (v := 36) hx hb d199_35 (by decide) ?_
    refine lv_icmp_ne hx hb d199_37 rfl (fun h9 => ?_) (fun h9 => ?_)
    · have hF := Eq.mp (if_neg h9) hF
      exact b53 ls y1 y2 v22 h0 z0 _ _ hF (hl.sub [2, 3, 0] rfl) I
    · have hF := Eq.mp (if_pos h9) hF
      refine lv_aload_n hx hb d199_40 rfl (lv_at hl 1 rfl) ?_
      refine lv_lload_n hx hb d199_41 rfl (lv_at hl 3 rfl) ?_
      refine ht_S (rest := [.ref y0]) (as := [.long y2]) X hl (cw_Long_bitCount l D dA s0 hE y2 h0 z0 _ hF) (List.forall_mem_cons.mpr ⟨ms_k1171, List.forall_mem_cons.mpr ⟨ms_k1172, List.forall_mem_cons.mpr ⟨ms_k29, List.forall_mem_cons.mpr ⟨ms_k1173, fun _ h => absurd h List.not_mem_nil⟩⟩⟩⟩) ⟨by decide +kernel, by decide +kernel, (by decide +kernel : (parseMethodDescriptor "(J)I").map (fun d => d.parameters.length) = some 1)⟩ I ⟨rfl, rfl⟩ ⟨⟨Nat.le_of_ble_eq_true rfl, Nat.le_of_ble_eq_true rfl⟩, Nat.le_of_ble_eq_true rfl, Nat.le_of_ble_eq_true rfl⟩ rfl (Nat.le_of_ble_eq_true rfl) d199_42 (fun vv h30 z31 H locs hR I9 => ?_)
      obtain ⟨v29, e1, hF⟩ := hR
      subst e1
      clear I
      have I := I9
      clear I9
      refine W.eq (g2 := F0 m 45 ls [.int v29, .ref y0]) rfl ?_
      refine lv_lload_n hx hb d199_45 rfl (lv_at hl 3 rfl) ?_
      refine lv_iload hx hb d199_46 (lv_at hl 4 rfl) ?_
      obtain ⟨fs9, c9, hF⟩ := hF
      refine ht_V (C := "MarkupStore$Walker") (rest := []) (as := [.int v29, .long y2, .int y4]) X hl (cw_Walker_atPosition l D dA s0 hE y0 v29 y2 y4 h30 z31 _ hF) (List.forall_mem_cons.mpr ⟨ms_k1167, List.forall_mem_cons.mpr ⟨ms_k1169, List.forall_mem_cons.mpr ⟨ms_p35, List.forall_mem_cons.mpr ⟨ms_k28, List.forall_mem_cons.mpr ⟨ms_k1170, fun _ h => absurd h List.not_mem_nil⟩⟩⟩⟩⟩) ⟨rfl, by decide +kernel, by decide +kernel, (by decide +kernel : (parseMethodDescriptor "(IJZ)J").map (fun d => d.parameters.length) = some 3)⟩ (hm_recv hK I rfl c9) I ⟨rfl, rfl⟩ ⟨⟨Nat.le_of_ble_eq_true rfl, Nat.le_of_ble_eq_true rfl⟩, Nat.le_of_ble_eq_true rfl, Nat.le_of_ble_eq_true rfl⟩ rfl (Nat.le_of_ble_eq_true rfl) d199_48 (fun vv h33 z34 H locs hR I9 => ?_)
      obtain ⟨v32, e1, hF⟩ := hR
      subst e1
      clear I
      have I := I9
      clear I9 c9 fs9
      refine W.eq (g2 := F0 m 51 ls [.long v32]) rfl ?_
      refine lv_lstore hx hb d199_51 hl (by decide) rfl (fun ls hl => ?_)
      have hl : lv_has ls 7 [(5, .long v32), (0, .ref y0), (1, va_rf y1), (2, .long y2), (4, .int y4)] := hl
      exact b53 ls y1 y2 v32 h33 z34 _ _ hF (hl.sub [2, 3, 0] rfl) I
  · have hF := Eq.mp (if_pos h9) hF
    refine lv_aload_n hx hb d199_15 rfl (lv_at hl 1 rfl) ?_
    refine lv_aload_nR hx hb d199_16 rfl (lv_at hl 2 rfl) ?_
    obtain ⟨a35, e9, hF⟩ := hF
    refine W.eq (g2 := F0 m 17 ls [.ref a35, .ref y0]) (by rw [e9]; rfl) ?_
    clear e9
    obtain ⟨fs9, v36, c9, e9, hF⟩ := hF
    refine va_get (D := D) (ci := 13) (v := .int v36) (C := kR13) (T := kT13) (N := 8) hx hb hts ku13 hown hK (hm_one I.1 c9) 0 rfl rfl 2 (by decide) (hts _ ms_k1028) (fun _ h => h) e9 d199_17 ?_
    clear e9 c9 fs9
    refine lv_lload_n hx hb d199_20 rfl (lv_at hl 3 rfl) ?_
    refine lv_iload hx hb d199_21 (lv_at hl 4 rfl) ?_
    obtain ⟨fs9, c9, hF⟩ := hF
    refine ht_V (C := "MarkupStore$Walker") (rest := []) (as := [.int v36, .long y2, .int y4]) X hl (cw_Walker_atPosition l D dA s0 hE y0 v36 y2 y4 h0 z0 _ hF) (List.forall_mem_cons.mpr ⟨ms_k1167, List.forall_mem_cons.mpr ⟨ms_k1169, List.forall_mem_cons.mpr ⟨ms_p35, List.forall_mem_cons.mpr ⟨ms_k28, List.forall_mem_cons.mpr ⟨ms_k1170, fun _ h => absurd h List.not_mem_nil⟩⟩⟩⟩⟩) ⟨rfl, by decide +kernel, by decide +kernel, (by decide +kernel : (parseMethodDescriptor "(IJZ)J").map (fun d => d.parameters.length) = some 3)⟩ (hm_recv hK I rfl c9) I ⟨rfl, rfl⟩ ⟨⟨Nat.le_of_ble_eq_true rfl, Nat.le_of_ble_eq_true rfl⟩, Nat.le_of_ble_eq_true rfl, Nat.le_of_ble_eq_true rfl⟩ rfl (Nat.le_of_ble_eq_true rfl) d199_23 (fun vv h38 z39 H locs hR I9 => ?_)
    obtain ⟨v37, e1, hF⟩ := hR
    subst e1
    clear I
    have I := I9
    clear I9 c9 fs9
    refine W.eq (g2 := F0 m 26 ls [.long v37]) rfl ?_
    refine lv_lstore hx hb d199_26 hl (by decide) rfl (fun ls hl => ?_)
    have hl : lv_has ls 7 [(5, .long v37), (0, .ref y0), (1, va_rf y1), (2, .long y2), (4, .int y4)] := hl
    refine lv_goto hx hb d199_28 rfl ?_
    exact b53 ls y1 y2 v37 h38 z39 _ _ hF (hl.sub [2, 3, 0] rfl) I

def w_Store_beginBatch (dA : Nat → ClassId) (y0 : Nat) (K : hm_T → hz_T → Prop) (h0 : hm_T) (z0 : hz_T) : Prop := (cg_R h0 0 2 y0 (fun v21 => (cg_d v21 (fun a22 => (cg_c h0 1 a22 ((w_Tree_keep dA a22 (fun h24 z25 => (cg_p h24 0 5 y0 (.int 0) (fun h26 => (K h26 z25)))) h0 z0)))))))
set_option maxRecDepth 100000 in
set_option maxHeartbeats 8000000 in
theorem cw_Store_beginBatch (l : Launch) (D : va_G) (dA : Nat → ClassId) (s0 : State) (hE : ms_EV D dA s0) (y0 : Nat) (h0 : hm_T) (z0 : hz_T) (K : hm_T → hz_T → Prop) (hg : w_Store_beginBatch dA y0 K h0 z0) : ht_C l D s0 yM200 bM200 1 (Option.none : Option Jvm.ClassFile.FieldType) 1 21 0 0 [.ref y0] (fun h z => h = h0 ∧ z = z0) (fun h z vv h1 z1 => vv = none ∧ K h1 z1) := by
  refine ht_C.mk hE.1 (by decide) (Nat.le_of_ble_eq_true rfl) [(0, .ref y0)] rfl ?_
  intro p e s m below meth c ls h z X hin hpre I hl
  have hx := X.1
  have hb := X.2.1
  have hml := X.2.2.1
  have hown : s.vm.findClass "MarkupStore" = some m.cls := X.2.2.2.1
  have hts := X.2.2.2.2.2.2.1
  have hK := X.2.2.2.2.2.2.2.2.1
  rw [hpre.1, hpre.2] at I
  clear hpre
  have hF := hg
  unfold w_Store_beginBatch at hF
  clear h z
  refine lv_aload_n hx hb d200_0 rfl (lv_at hl 0 rfl) ?_
  obtain ⟨fs9, v21, c9, e9, hF⟩ := hF
  refine va_get (D := D) (ci := 0) (v := va_rf v21) (C := kR0) (T := kT0) (N := 6) hx hb hts ku0 hown hK (hm_one I.1 c9) 0 rfl rfl 2 (by decide) (hts _ ms_k107) (fun _ h => h) e9 d200_1 ?_
  clear e9 c9 fs9
  obtain ⟨a22, e9, hF⟩ := hF
  refine W.eq (g2 := F0 m 4 ls [.ref a22]) (by rw [e9]; rfl) ?_
  clear e9
  obtain ⟨fs9, c9, hF⟩ := hF
  refine ht_V (C := "MarkupStore$Tree") (rest := []) (as := []) X hl (cw_Tree_keep l D dA s0 hE a22 h0 z0 _ hF) (List.forall_mem_cons.mpr ⟨ms_k737, List.forall_mem_cons.mpr ⟨ms_k738, List.forall_mem_cons.mpr ⟨ms_k739, List.forall_mem_cons.mpr ⟨ms_k6, List.forall_mem_cons.mpr ⟨ms_k740, fun _ h => absurd h List.not_mem_nil⟩⟩⟩⟩⟩) ⟨rfl, by decide +kernel, by decide +kernel, (by decide +kernel : (parseMethodDescriptor "()V").map (fun d => d.parameters.length) = some 0)⟩ (hm_recv hK I rfl c9) I ⟨rfl, rfl⟩ ⟨⟨Nat.le_of_ble_eq_true rfl, Nat.le_of_ble_eq_true rfl⟩, Nat.le_of_ble_eq_true rfl, Nat.le_of_ble_eq_true rfl⟩ rfl (Nat.le_of_ble_eq_true rfl) d200_4 (fun vv h24 z25 H locs hR I9 => ?_)
  obtain ⟨e1, hF⟩ := hR
  subst e1
  clear I
  have I := I9
  clear I9 c9 fs9
  refine W.eq (g2 := F0 m 7 ls []) rfl ?_
  refine lv_aload_n hx hb d200_7 rfl (lv_at hl 0 rfl) ?_
  refine lv_iconst (v := 0) hx hb d200_8 (by decide) ?_
  obtain ⟨fs9, c9, k9, hF⟩ := hF
  refine hm_put (ci := 0) (v := .int 0) (ty := .int) (C := kR0) (T := kT0) (N := 6) X I ku0 kt0 kp0 kn0 c9 rfl 5 (by decide) ms_k110 (fun _ h => h) rfl (by decide +kernel) rfl rfl k9 d200_9 (fun h26 H locs e9 f9 I => ?_)
  rw [← hm_eqU e9 f9] at hF
  clear e9 f9 c9 k9
  exact ht_vret X d200_12 I (Nat.le_of_ble_eq_true rfl) (Nat.le_of_ble_eq_true rfl) ⟨rfl, hF⟩

def w_Store_putNew_40 (dA : Nat → ClassId) (y0 : Nat) (K : Int32 → hm_T → hz_T → Prop) (h : hm_T) (z : hz_T) : Prop := (K (-2000) h z)
def w_Store_putNew (dA : Nat → ClassId) (y0 : Nat) (y1 : Option Nat) (y2 : Int32) (K : Int32 → hm_T → hz_T → Prop) (h0 : hm_T) (z0 : hz_T) : Prop := (cg_d y1 (fun a21 => (cg_R h0 6 3 a21 (fun v22 => (cg_d v22 (fun a23 => (jd_sz h0 a23 (fun v24 => (cg_d y1 (fun a25 => (cg_c h0 6 a25 ((w_MarkupReader_passesLimits dA a25 (fun v26 h27 z28 => (if v26 = 0 then (cg_R h27 0 2 y0 (fun v29 => (cg_d v29 (fun a30 => (cg_I h27 1 3 a30 (fun v31 => (if 40 < (v31 + v24) then (w_Store_putNew_40 dA y0 K h27 z28) else (cg_R h27 0 2 y0 (fun v32 => (cg_d v32 (fun a33 => (cg_c h27 1 a33 ((w_Tree_mayMake dA a33 v24 (fun v34 h35 z36 => (if v34 = 0 then (w_Store_putNew_40 dA y0 K h35 z36) else (cg_R h35 0 2 y0 (fun v37 => (cg_d y1 (fun a38 => (cg_R h35 6 3 a38 (fun v39 => (cg_d v37 (fun a40 => (cg_c h35 1 a40 ((w_Tree_put dA a40 v39 y2 (fun h42 z43 => (cg_I h42 0 5 y0 (fun v44 => (cg_p h42 0 5 y0 (.int (v44 + 1)) (fun h45 => (cg_R h45 0 2 y0 (fun v46 => (cg_d v46 (fun a47 => (cg_R h45 1 2 a47 (fun v48 => (cg_d v48 (fun a49 => (cg_ar dA h45 5 a49 y2 (fun v50 => (cg_d v50 (fun a51 => (cg_I h45 8 5 a51 (fun v52 => (K v52 h45 z43)))))))))))))))))))) h35 z36))))))))))))) h27 z28)))))))))))))) else (w_Store_putNew_40 dA y0 K h27 z28))) h0 z0)))))))))))))
set_option maxRecDepth 100000 in
set_option maxHeartbeats 8000000 in
theorem cw_Store_putNew (l : Launch) (D : va_G) (dA : Nat → ClassId) (s0 : State) (hE : ms_EV D dA s0) (y0 : Nat) (y1 : Option Nat) (y2 : Int32) (h0 : hm_T) (z0 : hz_T) (K : Int32 → hm_T → hz_T → Prop) (hg : w_Store_putNew dA y0 y1 y2 K h0 z0) : ht_C l D s0 yM201 bM201 4 (Option.some Jvm.ClassFile.FieldType.int) 4 89 0 0 [.ref y0, va_rf y1, .int y2] (fun h z => h = h0 ∧ z = z0) (fun h z vv h1 z1 => ∃ v, vv = some (.int v) ∧ K v h1 z1) := by
  refine ht_C.mk hE.1 (by decide) (by simp [lg_sl, cat_rf, cat_int, cat_ref, cat_null, cat_long]) [(0, .ref y0), (1, va_rf y1), (2, .int y2)] (by simp [lv_args, cat_rf, cat_int, cat_ref, cat_null, cat_long]) ?_
  intro p e s m below meth c ls h z X hin hpre I hl
  have hx := X.1
  have hb := X.2.1
  have hml := X.2.2.1
  have hown : s.vm.findClass "MarkupStore" = some m.cls := X.2.2.2.1
  have hts := X.2.2.2.2.2.2.1
  have hK := X.2.2.2.2.2.2.2.2.1
  rw [hpre.1, hpre.2] at I
  clear hpre
  have b40 : ∀ (ls : Array Slot) (h : hm_T) (z : hz_T) (H : Heap) (locs : List Loc), w_Store_putNew_40 dA y0 K h z → lv_has ls 4 [] → hm_I D s0 s h z H locs → W p l e { frames := 4, cells := 0, slots := 0, locals := 89 } s m ([.ref y0, va_rf y1, .int y2] : List Value).toArray below meth c H locs 0 0 (MQ below (ht_Q D s0 (fun vv h1 z1 => ∃ v, vv = some (.int v) ∧ K v h1 z1)) ([.ref y0, va_rf y1, .int y2] : List Value).toArray s 0 0 (fun q => s0.heap.size ≤ q)) (F0 m 40 ls []) := by
    intro ls h z H locs hF hl I
    unfold w_Store_putNew_40 at hF
    refine lv_sipush (v := (-2000)) hx hb d201_40 (by decide) ?_
    exact ht_iret X d201_43 I (Nat.le_of_ble_eq_true rfl) (Nat.le_of_ble_eq_true rfl) ⟨_, rfl, hF⟩
  have hF := hg
  unfold w_Store_putNew at hF
  clear h z
  refine lv_aload_nR hx hb d201_0 rfl (lv_at hl 1 rfl) ?_
  obtain ⟨a21, e9, hF⟩ := hF
  refine W.eq (g2 := F0 m 1 ls [.ref a21]) (by rw [e9]; rfl) ?_
  clear e9
  obtain ⟨fs9, v22, c9, e9, hF⟩ := hF
  refine va_get (D := D) (ci := 6) (v := va_rf v22) (C := kR6) (T := kT6) (N := 6) hx hb hts ku6 hown hK (hm_one I.1 c9) 0 rfl rfl 3 (by decide) (hts _ ms_k349) (fun _ h => h) e9 d201_1 ?_
  clear e9 c9 fs9
  obtain ⟨a23, e9, hF⟩ := hF
  refine W.eq (g2 := F0 m 4 ls [.ref a23]) (by rw [e9]; rfl) ?_
  clear e9
  obtain ⟨d9, k9, mo9, c9, hF⟩ := hF
  refine ht_V (C := "java/util/ArrayList") (rest := []) (as := []) X hl (c_ALsize l D dA s0 hE a23 d9 k9 mo9) (List.forall_mem_cons.mpr ⟨ms_k705, List.forall_mem_cons.mpr ⟨ms_k595, List.forall_mem_cons.mpr ⟨ms_k596, List.forall_mem_cons.mpr ⟨ms_k18, List.forall_mem_cons.mpr ⟨ms_k597, fun _ h => absurd h List.not_mem_nil⟩⟩⟩⟩⟩) ⟨rfl, by decide +kernel, by decide +kernel, (by decide +kernel : (parseMethodDescriptor "()I").map (fun d => d.parameters.length) = some 0)⟩ (hm_recv hK I rfl c9) I c9 ⟨⟨Nat.le_of_ble_eq_true rfl, Nat.le_of_ble_eq_true rfl⟩, Nat.le_of_ble_eq_true rfl, Nat.le_of_ble_eq_true rfl⟩ rfl (Nat.le_of_ble_eq_true rfl) d201_4 (fun vv h9 z7 H locs hR I9 => ?_)
  obtain ⟨e1, e2, e3⟩ := hR
  rw [e2, e3] at I9
  subst e1
  clear I
  have I := I9
  clear I9 e2 e3 h9 z7
  refine W.eq (g2 := F0 m 7 ls [.int (nI k9)]) rfl ?_
  generalize (nI k9) = v24 at hF ⊢
  refine lv_istore_n hx hb d201_7 rfl hl (by decide) rfl (fun ls hl => ?_)
  have hl : lv_has ls 4 [(3, .int v24), (0, .ref y0), (1, va_rf y1), (2, .int y2)] := hl
  refine lv_aload_nR hx hb d201_8 rfl (lv_at hl 2 rfl) ?_
  obtain ⟨a25, e9, hF⟩ := hF
  refine W.eq (g2 := F0 m 9 ls [.ref a25]) (by rw [e9]; rfl) ?_
  clear e9
  obtain ⟨fs9, c9, hF⟩ := hF
  refine ht_V (C := "MarkupStore$MarkupReader") (rest := []) (as := []) X hl (cw_MarkupReader_passesLimits l D dA s0 hE a25 h0 z0 _ hF) (List.forall_mem_cons.mpr ⟨ms_k706, List.forall_mem_cons.mpr ⟨ms_k707, List.forall_mem_cons.mpr ⟨ms_k708, List.forall_mem_cons.mpr ⟨ms_k15, List.forall_mem_cons.mpr ⟨ms_k709, fun _ h => absurd h List.not_mem_nil⟩⟩⟩⟩⟩) ⟨rfl, by decide +kernel, by decide +kernel, (by decide +kernel : (parseMethodDescriptor "()Z").map (fun d => d.parameters.length) = some 0)⟩ (hm_recv hK I rfl c9) I ⟨rfl, rfl⟩ ⟨⟨Nat.le_of_ble_eq_true rfl, Nat.le_of_ble_eq_true rfl⟩, Nat.le_of_ble_eq_true rfl, Nat.le_of_ble_eq_true rfl⟩ rfl (Nat.le_of_ble_eq_true rfl) d201_9 (fun vv h27 z28 H locs hR I9 => ?_)
  obtain ⟨v26, e1, hF⟩ := hR
  subst e1
  clear I
  have I := I9
  clear I9 c9 fs9
  refine W.eq (g2 := F0 m 12 ls [.int v26]) rfl ?_
  refine lv_if_ne hx hb d201_12 rfl (fun h9 => ?_) (fun h9 => ?_)
  · have hF := Eq.mp (if_neg h9) hF
    exact b40 ls h27 z28 _ _ hF (hl.sub [] rfl) I
  · have hF := Eq.mp (if_pos h9) hF
    refine lv_aload_n hx hb d201_15 rfl (lv_at hl 1 rfl) ?_
    obtain ⟨fs9, v29, c9, e9, hF⟩ := hF
    refine va_get (D := D) (ci := 0) (v := va_rf v29) (C := kR0) (T := kT0) (N := 6) hx hb hts ku0 hown hK (hm_one I.1 c9) 0 rfl rfl 2 (by decide) (hts _ ms_k107) (fun _ h => h) e9 d201_16 ?_
    clear e9 c9 fs9
    obtain ⟨a30, e9, hF⟩ := hF
    refine W.eq (g2 := F0 m 19 ls [.ref a30]) (by rw [e9]; rfl) ?_
    clear e9
    obtain ⟨fs9, v31, c9, e9, hF⟩ := hF
    refine va_get (D := D) (ci := 1) (v := .int v31) (C := kR1) (T := kT1) (N := 6) hx hb hts ku1 hown hK (hm_one I.1 c9) 0 rfl rfl 3 (by decide) (hts _ ms_k89) (fun _ h => h) e9 d201_19 ?_
    clear e9 c9 fs9
    refine lv_iload_n hx hb d201_22 rfl (lv_at hl 0 rfl) ?_
    refine lv_iadd hx hb d201_23 ?_
    refine lv_bipush (v := 40) hx hb d201_24 (by decide) ?_
    refine lv_icmp_gt hx hb d201_26 rfl (fun h9 => ?_) (fun h9 => ?_)
    · have hF := Eq.mp (if_pos h9) hF
      exact b40 ls h27 z28 _ _ hF (hl.sub [] rfl) I
    · have hF := Eq.mp (if_neg h9) hF
      refine lv_aload_n hx hb d201_29 rfl (lv_at hl 1 rfl) ?_
      obtain ⟨fs9, v32, c9, e9, hF⟩ := hF
      refine va_get (D := D) (ci := 0) (v := va_rf v32) (C := kR0) (T := kT0) (N := 6) hx hb hts ku0 hown hK (hm_one I.1 c9) 0 rfl rfl 2 (by decide) (hts _ ms_k107) (fun _ h => h) e9 d201_30 ?_
      clear e9 c9 fs9
      refine lv_iload_n hx hb d201_33 rfl (lv_at hl 0 rfl) ?_
      obtain ⟨a33, e9, hF⟩ := hF
      refine W.eq (g2 := F0 m 34 ls [.int v24, .ref a33]) (by rw [e9]; rfl) ?_
      clear e9
      obtain ⟨fs9, c9, hF⟩ := hF
      refine ht_V (C := "MarkupStore$Tree") (rest := []) (as := [.int v24]) X hl (cw_Tree_mayMake l D dA s0 hE a33 v24 h27 z28 _ hF) (List.forall_mem_cons.mpr ⟨ms_k711, List.forall_mem_cons.mpr ⟨ms_k712, List.forall_mem_cons.mpr ⟨ms_k713, List.forall_mem_cons.mpr ⟨ms_k6, List.forall_mem_cons.mpr ⟨ms_k714, fun _ h => absurd h List.not_mem_nil⟩⟩⟩⟩⟩) ⟨rfl, by decide +kernel, by decide +kernel, (by decide +kernel : (parseMethodDescriptor "(I)Z").map (fun d => d.parameters.length) = some 1)⟩ (hm_recv hK I rfl c9) I ⟨rfl, rfl⟩ ⟨⟨Nat.le_of_ble_eq_true rfl, Nat.le_of_ble_eq_true rfl⟩, Nat.le_of_ble_eq_true rfl, Nat.le_of_ble_eq_true rfl⟩ rfl (Nat.le_of_ble_eq_true rfl) d201_34 (fun vv h35 z36 H locs hR I9 => ?_)
      obtain ⟨v34, e1, hF⟩ := hR
      subst e1
      clear I
      have I := I9
      clear I9 c9 fs9
      refine W.eq (g2 := F0 m 37 ls [.int v34]) rfl ?_
      refine lv_if_ne hx hb d201_37 rfl (fun h9 => ?_) (fun h9 => ?_)
      · have hF := Eq.mp (if_neg h9) hF
        refine lv_aload_n hx hb d201_44 rfl (lv_at hl 1 rfl) ?_
        obtain ⟨fs9, v37, c9, e9, hF⟩ := hF
        refine va_get (D := D) (ci := 0) (v := va_rf v37) (C := kR0) (T := kT0) (N := 6) hx hb hts ku0 hown hK (hm_one I.1 c9) 0 rfl rfl 2 (by decide) (hts _ ms_k107) (fun _ h => h) e9 d201_45 ?_
        clear e9 c9 fs9
        refine lv_aload_nR hx hb d201_48 rfl (lv_at hl 2 rfl) ?_
        obtain ⟨a38, e9, hF⟩ := hF
        refine W.eq (g2 := F0 m 49 ls [.ref a38, va_rf v37]) (by rw [e9]; rfl) ?_
        clear e9
        obtain ⟨fs9, v39, c9, e9, hF⟩ := hF
        refine va_get (D := D) (ci := 6) (v := va_rf v39) (C := kR6) (T := kT6) (N := 6) hx hb hts ku6 hown hK (hm_one I.1 c9) 0 rfl rfl 3 (by decide) (hts _ ms_k349) (fun _ h => h) e9 d201_49 ?_
        clear e9 c9 fs9
        refine lv_iload_n hx hb d201_52 rfl (lv_at hl 3 rfl) ?_
        obtain ⟨a40, e9, hF⟩ := hF
        refine W.eq (g2 := F0 m 53 ls [.int y2, va_rf v39, .ref a40]) (by rw [e9]; rfl) ?_
        clear e9
        obtain ⟨fs9, c9, hF⟩ := hF
        refine ht_V (C := "MarkupStore$Tree") (rest := []) (as := [va_rf v39, .int y2]) X hl (cw_Tree_put l D dA s0 hE a40 v39 y2 h35 z36 _ hF) (List.forall_mem_cons.mpr ⟨ms_k727, List.forall_mem_cons.mpr ⟨ms_k728, List.forall_mem_cons.mpr ⟨ms_k729, List.forall_mem_cons.mpr ⟨ms_k6, List.forall_mem_cons.mpr ⟨ms_k730, fun _ h => absurd h List.not_mem_nil⟩⟩⟩⟩⟩) ⟨rfl, by decide +kernel, by decide +kernel, (by decide +kernel : (parseMethodDescriptor "(Ljava/util/ArrayList;I)V").map (fun d => d.parameters.length) = some 2)⟩ (hm_recv hK I rfl c9) I ⟨rfl, rfl⟩ ⟨⟨Nat.le_of_ble_eq_true rfl, Nat.le_of_ble_eq_true rfl⟩, Nat.le_of_ble_eq_true rfl, Nat.le_of_ble_eq_true rfl⟩ rfl (Nat.le_of_ble_eq_true rfl) d201_53 (fun vv h42 z43 H locs hR I9 => ?_)
        obtain ⟨e1, hF⟩ := hR
        subst e1
        clear I
        have I := I9
        clear I9 c9 fs9
        refine W.eq (g2 := F0 m 56 ls []) rfl ?_
        refine lv_aload_n hx hb d201_56 rfl (lv_at hl 1 rfl) ?_
        refine lv_dup hx hb d201_57 rfl ?_
        obtain ⟨fs9, v44, c9, e9, hF⟩ := hF
        refine va_get (D := D) (ci := 0) (v := .int v44) (C := kR0) (T := kT0) (N := 6) hx hb hts ku0 hown hK (hm_one I.1 c9) 0 rfl rfl 5 (by decide) (hts _ ms_k110) (fun _ h => h) e9 d201_58 ?_
        clear e9 c9 fs9
        refine lv_iconst (v := 1) hx hb d201_61 (by decide) ?_
        refine lv_iadd hx hb d201_62 ?_
        obtain ⟨fs9, c9, k9, hF⟩ := hF
        refine hm_put (ci := 0) (v := .int (v44 + 1)) (ty := .int) (C := kR0) (T := kT0) (N := 6) X I ku0 kt0 kp0 kn0 c9 rfl 5 (by decide) ms_k110 (fun _ h => h) rfl (by decide +kernel) rfl rfl k9 d201_63 (fun h45 H locs e9 f9 I => ?_)
        rw [← hm_eqU e9 f9] at hF
        clear e9 f9 c9 k9
        refine lv_aload_n hx hb d201_66 rfl (lv_at hl 1 rfl) ?_
        obtain ⟨fs9, v46, c9, e9, hF⟩ := hF
        refine va_get (D := D) (ci := 0) (v := va_rf v46) (C := kR0) (T := kT0) (N := 6) hx hb hts ku0 hown hK (hm_one I.1 c9) 0 rfl rfl 2 (by decide) (hts _ ms_k107) (fun _ h => h) e9 d201_67 ?_
        clear e9 c9 fs9
        obtain ⟨a47, e9, hF⟩ := hF
        refine W.eq (g2 := F0 m 70 ls [.ref a47]) (by rw [e9]; rfl) ?_
        clear e9
        obtain ⟨fs9, v48, c9, e9, hF⟩ := hF
        refine va_get (D := D) (ci := 1) (v := va_rf v48) (C := kR1) (T := kT1) (N := 6) hx hb hts ku1 hown hK (hm_one I.1 c9) 0 rfl rfl 2 (by decide) (hts _ ms_k85) (fun _ h => h) e9 d201_70 ?_
        clear e9 c9 fs9
        refine lv_iload_n hx hb d201_73 rfl (lv_at hl 3 rfl) ?_
        obtain ⟨a49, e9, hF⟩ := hF
        refine W.eq (g2 := F0 m 74 ls [.int y2, .ref a49]) (by rw [e9]; rfl) ?_
        clear e9
        obtain ⟨n8, f8, c9, i9, hF⟩ := hF
        refine va_aldq hx hb hK (hm_one I.1 c9) 0 5 rfl rfl i9 d201_74 ?_
        generalize f8 (Int32.toNatClampNeg y2) = v50 at hF ⊢
        clear c9 i9
        obtain ⟨a51, e9, hF⟩ := hF
        refine W.eq (g2 := F0 m 75 ls [.ref a51]) (by rw [e9]; rfl) ?_
        clear e9
        obtain ⟨fs9, v52, c9, e9, hF⟩ := hF
        refine va_get (D := D) (ci := 8) (v := .int v52) (C := kR8) (T := kT8) (N := 9) hx hb hts ku8 hown hK (hm_one I.1 c9) 0 rfl rfl 5 (by decide) (hts _ ms_k461) (fun _ h => h) e9 d201_75 ?_
        clear e9 c9 fs9
        exact ht_iret X d201_78 I (Nat.le_of_ble_eq_true rfl) (Nat.le_of_ble_eq_true rfl) ⟨_, rfl, hF⟩
      · have hF := Eq.mp (if_pos h9) hF
        exact b40 ls h35 z36 _ _ hF (hl.sub [] rfl) I

def w_Walker_lead_45 (dA : Nat → ClassId) (y0 : Nat) (K : Int64 → hm_T → hz_T → Prop) : Nat → Option Nat → Int64 → Int32 → hm_T → hz_T → Prop
  | 0, _, _, _, _, _ => False
  | n9 + 1, x1, x5, x7, h, z => (cg_d x1 (fun a33 => (cg_R h 12 3 a33 (fun v34 => (cg_d v34 (fun a35 => (jd_sz h a35 (fun v36 => (if v36 ≤ x7 then (K x5 h z) else (cg_d x1 (fun a37 => (cg_R h 12 3 a37 (fun v38 => (cg_d v38 (fun a39 => (jd_get dA h a39 x7 (fun v40 => (cg_c h 13 v40 (cg_d x1 (fun a41 => (cg_c h 12 a41 ((w_Step_goesBackwards dA a41 (fun v42 h43 z44 => (cg_c h43 14 y0 ((w_Walker_sift dA y0 (some v40) x5 v42 (fun v45 h46 z47 => ((w_Walker_lead_45 dA y0 K n9) x1 v45 (x7 + 1) h46 z47)) h43 z44)))) h z)))))))))))))))))))))))
def w_Walker_lead_33 (dA : Nat → ClassId) (y0 : Nat) (K : Int64 → hm_T → hz_T → Prop) (x1 : Option Nat) (w0 : Int64) (h : hm_T) (z : hz_T) : Prop := (cg_d x1 (fun a31 => (cg_L h 12 4 a31 (fun v32 => (w_Walker_lead_45 dA y0 K mF x1 (w0 &&& v32) 0 h z)))))
def w_Walker_lead (dA : Nat → ClassId) (y0 : Nat) (y1 : Option Nat) (y2 : Int32) (K : Int64 → hm_T → hz_T → Prop) (h0 : hm_T) (z0 : hz_T) : Prop := (if y2 = (-1) then (cg_d y1 (fun a48 => (cg_I h0 12 0 a48 (fun v49 => (cg_c h0 14 y0 ((w_Walker_documentAxis dA y0 v49 (fun v50 h51 z52 => (w_Walker_lead_33 dA y0 K y1 v50 h51 z52)) h0 z0))))))) else (cg_d y1 (fun a21 => (cg_I h0 12 0 a21 (fun v22 => (cg_R h0 14 0 y0 (fun v23 => (cg_d v23 (fun a24 => (cg_R h0 1 2 a24 (fun v25 => (cg_d v25 (fun a26 => (cg_ar dA h0 5 a26 y2 (fun v27 => (cg_c h0 14 y0 ((w_Walker_axis dA y0 v22 v27 (fun v28 h29 z30 => (w_Walker_lead_33 dA y0 K y1 v28 h29 z30)) h0 z0))))))))))))))))))
set_option maxRecDepth 100000 in
set_option maxHeartbeats 8000000 in
theorem cw_Walker_lead (l : Launch) (D : va_G) (dA : Nat → ClassId) (s0 : State) (hE : ms_EV D dA s0) (y0 : Nat) (y1 : Option Nat) (y2 : Int32) (h0 : hm_T) (z0 : hz_T) (K : Int64 → hm_T → hz_T → Prop) (hg : w_Walker_lead dA y0 y1 y2 K h0 z0) : ht_C l D s0 yM202 bM202 8 (Option.some Jvm.ClassFile.FieldType.long) 3 64 0 0 [.ref y0, va_rf y1, .int y2] (fun h z => h = h0 ∧ z = z0) (fun h z vv h1 z1 => ∃ v, vv = some (.long v) ∧ K v h1 z1) := by
  refine ht_C.mk hE.1 (by decide) (by simp [lg_sl, cat_rf, cat_int, cat_ref, cat_null, cat_long]) [(0, .ref y0), (1, va_rf y1), (2, .int y2)] (by simp [lv_args, cat_rf, cat_int, cat_ref, cat_null, cat_long]) ?_
  intro p e s m below meth c ls h z X hin hpre I hl
  have hx := X.1
  have hb := X.2.1
  have hml := X.2.2.1
  have hown : s.vm.findClass "MarkupStore$Walker" = some m.cls := X.2.2.2.1
  have hts := X.2.2.2.2.2.2.1
  have hK := X.2.2.2.2.2.2.2.2.1
  rw [hpre.1, hpre.2] at I
  clear hpre
  have b45 : ∀ n9 : Nat, ∀ (ls : Array Slot) (x1 : Option Nat) (x5 : Int64) (x7 : Int32) (h : hm_T) (z : hz_T) (H : Heap) (locs : List Loc), w_Walker_lead_45 dA y0 K n9 x1 x5 x7 h z → lv_has ls 8 [(0, .ref y0), (1, va_rf x1), (5, .long x5), (7, .int x7)] → hm_I D s0 s h z H locs → W p l e { frames := 3, cells := 0, slots := 0, locals := 64 } s m ([.ref y0, va_rf y1, .int y2] : List Value).toArray below meth c H locs 0 0 (MQ below (ht_Q D s0 (fun vv h1 z1 => ∃ v, vv = some (.long v) ∧ K v h1 z1)) ([.ref y0, va_rf y1, .int y2] : List Value).toArray s 0 0 (fun q => s0.heap.size ≤ q)) (F0 m 45 ls []) := by
    intro n9
    induction n9 with
    | zero => intro ls x1 x5 x7 h z H locs hF; cases hF
    | succ n9 hk45 =>
    intro ls x1 x5 x7 h z H locs hF hl I
    unfold w_Walker_lead_45 at hF
    refine lv_iload hx hb d202_45 (lv_at hl 3 rfl) ?_
    refine lv_aload_nR hx hb d202_47 rfl (lv_at hl 1 rfl) ?_
    obtain ⟨a33, e9, hF⟩ := hF
    refine W.eq (g2 := F0 m 48 ls [.ref a33, .int x7]) (by rw [e9]; rfl) ?_
    clear e9
    obtain ⟨fs9, v34, c9, e9, hF⟩ := hF
    refine va_get (D := D) (ci := 12) (v := va_rf v34) (C := kR12) (T := kT12) (N := 5) hx hb hts ku12 hown hK (hm_one I.1 c9) 0 rfl rfl 3 (by decide) (hts _ ms_k931) (fun _ h => h) e9 d202_48 ?_
    clear e9 c9 fs9
    obtain ⟨a35, e9, hF⟩ := hF
    refine W.eq (g2 := F0 m 51 ls [.ref a35, .int x7]) (by rw [e9]; rfl) ?_
    clear e9
    obtain ⟨d9, k9, mo9, c9, hF⟩ := hF
    refine ht_V (C := "java/util/ArrayList") (rest := [.int x7]) (as := []) X hl (c_ALsize l D dA s0 hE a35 d9 k9 mo9) (List.forall_mem_cons.mpr ⟨ms_k1096, List.forall_mem_cons.mpr ⟨ms_k595, List.forall_mem_cons.mpr ⟨ms_k596, List.forall_mem_cons.mpr ⟨ms_k18, List.forall_mem_cons.mpr ⟨ms_k597, fun _ h => absurd h List.not_mem_nil⟩⟩⟩⟩⟩) ⟨rfl, by decide +kernel, by decide +kernel, (by decide +kernel : (parseMethodDescriptor "()I").map (fun d => d.parameters.length) = some 0)⟩ (hm_recv hK I rfl c9) I c9 ⟨⟨Nat.le_of_ble_eq_true rfl, Nat.le_of_ble_eq_true rfl⟩, Nat.le_of_ble_eq_true rfl, Nat.le_of_ble_eq_true rfl⟩ rfl (Nat.le_of_ble_eq_true rfl) d202_51 (fun vv h9 z7 H locs hR I9 => ?_)
    obtain ⟨e1, e2, e3⟩ := hR
    rw [e2, e3] at I9
    subst e1
    clear I
    have I := I9
    clear I9 e2 e3 h9 z7
    refine W.eq (g2 := F0 m 54 ls [.int (nI k9), .int x7]) rfl ?_
    generalize (nI k9) = v36 at hF ⊢
    refine lv_icmp_ge hx hb d202_54 rfl (fun h9 => ?_) (fun h9 => ?_)
    · have hF := Eq.mp (if_pos h9) hF
      refine lv_lload hx hb d202_87 (lv_at hl 2 rfl) ?_
      exact ht_lret X d202_89 I (Nat.le_of_ble_eq_true rfl) (Nat.le_of_ble_eq_true rfl) ⟨_, rfl, hF⟩
    · have hF := Eq.mp (if_neg h9) hF
      refine lv_aload_n hx hb d202_57 rfl (lv_at hl 0 rfl) ?_
      refine lv_aload_nR hx hb d202_58 rfl (lv_at hl 1 rfl) ?_
      obtain ⟨a37, e9, hF⟩ := hF
      refine W.eq (g2 := F0 m 59 ls [.ref a37, .ref y0]) (by rw [e9]; rfl) ?_
      clear e9
      obtain ⟨fs9, v38, c9, e9, hF⟩ := hF
      refine va_get (D := D) (ci := 12) (v := va_rf v38) (C := kR12) (T := kT12) (N := 5) hx hb hts ku12 hown hK (hm_one I.1 c9) 0 rfl rfl 3 (by decide) (hts _ ms_k931) (fun _ h => h) e9 d202_59 ?_
      clear e9 c9 fs9
      refine lv_iload hx hb d202_62 (lv_at hl 3 rfl) ?_
      obtain ⟨a39, e9, hF⟩ := hF
      refine W.eq (g2 := F0 m 64 ls [.int x7, .ref a39, .ref y0]) (by rw [e9]; rfl) ?_
      clear e9
      obtain ⟨d9, k9, mo9, n8, j9, q9, f8, c9, c8, e8, p1, p2, p3, p4, hF⟩ := hF
      refine ms_top (y := nI j9) e8 ?_
      refine ht_V (C := "java/util/ArrayList") (rest := [.ref y0]) (as := [.int (nI j9)]) X hl (c_ALget l D dA s0 hE a39 d9 k9 mo9 n8 j9 q9 f8 p1 p2 p3 p4) (List.forall_mem_cons.mpr ⟨ms_k1097, List.forall_mem_cons.mpr ⟨ms_k599, List.forall_mem_cons.mpr ⟨ms_k600, List.forall_mem_cons.mpr ⟨ms_k18, List.forall_mem_cons.mpr ⟨ms_k601, fun _ h => absurd h List.not_mem_nil⟩⟩⟩⟩⟩) ⟨rfl, by decide +kernel, by decide +kernel, (by decide +kernel : (parseMethodDescriptor "(I)Ljava/lang/Object;").map (fun d => d.parameters.length) = some 1)⟩ (hm_recv hK I rfl c9) I ⟨c9, c8⟩ ⟨⟨Nat.le_of_ble_eq_true rfl, Nat.le_of_ble_eq_true rfl⟩, Nat.le_of_ble_eq_true rfl, Nat.le_of_ble_eq_true rfl⟩ rfl (Nat.le_of_ble_eq_true rfl) d202_64 (fun vv h9 z7 H locs hR I9 => ?_)
      obtain ⟨e1, e2, e3⟩ := hR
      rw [e2, e3] at I9
      subst e1
      clear I
      have I := I9
      clear I9 e2 e3 h9 z7
      refine W.eq (g2 := F0 m 67 ls [.ref q9, .ref y0]) rfl ?_
      generalize q9 = v40 at hF ⊢
      try clear p4
      obtain ⟨fs9, c9, hF⟩ := hF
      refine va_castE hx hb hown (hts _ ms_k1104) (hm_recv hK I rfl c9) d202_67 ?_
      clear c9 fs9
      refine lv_lload hx hb d202_70 (lv_at hl 2 rfl) ?_
      refine lv_aload_nR hx hb d202_72 rfl (lv_at hl 1 rfl) ?_
      obtain ⟨a41, e9, hF⟩ := hF
      refine W.eq (g2 := F0 m 73 ls [.ref a41, .long x5, .ref v40, .ref y0]) (by rw [e9]; rfl) ?_
      clear e9
      obtain ⟨fs9, c9, hF⟩ := hF
      refine ht_V (C := "MarkupStore$Step") (rest := [.long x5, .ref v40, .ref y0]) (as := []) X hl (cw_Step_goesBackwards l D dA s0 hE a41 h z _ hF) (List.forall_mem_cons.mpr ⟨ms_k1159, List.forall_mem_cons.mpr ⟨ms_k1160, List.forall_mem_cons.mpr ⟨ms_k1161, List.forall_mem_cons.mpr ⟨ms_k25, List.forall_mem_cons.mpr ⟨ms_k1162, fun _ h => absurd h List.not_mem_nil⟩⟩⟩⟩⟩) ⟨rfl, by decide +kernel, by decide +kernel, (by decide +kernel : (parseMethodDescriptor "()Z").map (fun d => d.parameters.length) = some 0)⟩ (hm_recv hK I rfl c9) I ⟨rfl, rfl⟩ ⟨⟨Nat.le_of_ble_eq_true rfl, Nat.le_of_ble_eq_true rfl⟩, Nat.le_of_ble_eq_true rfl, Nat.le_of_ble_eq_true rfl⟩ rfl (Nat.le_of_ble_eq_true rfl) d202_73 (fun vv h43 z44 H locs hR I9 => ?_)
      obtain ⟨v42, e1, hF⟩ := hR
      subst e1
      clear I
      have I := I9
      clear I9 c9 fs9
      refine W.eq (g2 := F0 m 76 ls [.int v42, .long x5, .ref v40, .ref y0]) rfl ?_
      obtain ⟨fs9, c9, hF⟩ := hF
      refine ht_V (C := "MarkupStore$Walker") (rest := []) (as := [.ref v40, .long x5, .int v42]) X hl (cw_Walker_sift l D dA s0 hE y0 (some v40) x5 v42 h43 z44 _ hF) (List.forall_mem_cons.mpr ⟨ms_k1163, List.forall_mem_cons.mpr ⟨ms_k1165, List.forall_mem_cons.mpr ⟨ms_p34, List.forall_mem_cons.mpr ⟨ms_k28, List.forall_mem_cons.mpr ⟨ms_k1166, fun _ h => absurd h List.not_mem_nil⟩⟩⟩⟩⟩) ⟨rfl, by decide +kernel, by decide +kernel, (by decide +kernel : (parseMethodDescriptor "(LMarkupStore$Predicate;JZ)J").map (fun d => d.parameters.length) = some 3)⟩ (hm_recv hK I rfl c9) I ⟨rfl, rfl⟩ ⟨⟨Nat.le_of_ble_eq_true rfl, Nat.le_of_ble_eq_true rfl⟩, Nat.le_of_ble_eq_true rfl, Nat.le_of_ble_eq_true rfl⟩ rfl (Nat.le_of_ble_eq_true rfl) d202_76 (fun vv h46 z47 H locs hR I9 => ?_)
      obtain ⟨v45, e1, hF⟩ := hR
      subst e1
      clear I
      have I := I9
      clear I9 c9 fs9
      refine W.eq (g2 := F0 m 79 ls [.long v45]) rfl ?_
      refine lv_lstore hx hb d202_79 hl (by decide) rfl (fun ls hl => ?_)
      have hl : lv_has ls 8 [(5, .long v45), (0, .ref y0), (1, va_rf x1), (7, .int x7)] := hl
      refine lv_iinc (k := 3) (v := (x7 + 1)) hx hb d202_81 hl rfl (rfl) (by decide) rfl (fun ls hl => ?_)
      have hl : lv_has ls 8 [(7, .int (x7 + 1)), (5, .long v45), (0, .ref y0), (1, va_rf x1)] := hl
      refine lv_goto hx hb d202_84 rfl ?_
      exact hk45 ls x1 v45 (x7 + 1) h46 z47 _ _ hF (hl.sub [2, 3, 1, 0] rfl) I
  have b33 : ∀ (ls : Array Slot) (x1 : Option Nat) (w0 : Int64) (h : hm_T) (z : hz_T) (H : Heap) (locs : List Loc), w_Walker_lead_33 dA y0 K x1 w0 h z → lv_has ls 8 [(0, .ref y0), (1, va_rf x1)] → hm_I D s0 s h z H locs → W p l e { frames := 3, cells := 0, slots := 0, locals := 64 } s m ([.ref y0, va_rf y1, .int y2] : List Value).toArray below meth c H locs 0 0 (MQ below (ht_Q D s0 (fun vv h1 z1 => ∃ v, vv = some (.long v) ∧ K v h1 z1)) ([.ref y0, va_rf y1, .int y2] : List Value).toArray s 0 0 (fun q => s0.heap.size ≤ q)) (F0 m 33 ls [.long w0]) := by
    intro ls x1 w0 h z H locs hF hl I
    unfold w_Walker_lead_33 at hF
    refine lv_lstore_n hx hb d202_33 rfl hl (by decide) rfl (fun ls hl => ?_)
    have hl : lv_has ls 8 [(3, .long w0), (0, .ref y0), (1, va_rf x1)] := hl
    refine lv_lload_n hx hb d202_34 rfl (lv_at hl 0 rfl) ?_
    refine lv_aload_nR hx hb d202_35 rfl (lv_at hl 2 rfl) ?_
    obtain ⟨a31, e9, hF⟩ := hF
    refine W.eq (g2 := F0 m 36 ls [.ref a31, .long w0]) (by rw [e9]; rfl) ?_
    clear e9
    obtain ⟨fs9, v32, c9, e9, hF⟩ := hF
    refine va_get (D := D) (ci := 12) (v := .long v32) (C := kR12) (T := kT12) (N := 5) hx hb hts ku12 hown hK (hm_one I.1 c9) 0 rfl rfl 4 (by decide) (hts _ ms_k934) (fun _ h => h) e9 d202_36 ?_
    clear e9 c9 fs9
    refine lv_land hx hb d202_39 ?_
    refine lv_lstore hx hb d202_40 hl (by decide) rfl (fun ls hl => ?_)
    have hl : lv_has ls 8 [(5, .long (w0 &&& v32)), (3, .long w0), (0, .ref y0), (1, va_rf x1)] := hl
    refine lv_iconst (v := 0) hx hb d202_42 (by decide) ?_
    refine lv_istore hx hb d202_43 hl (by decide) rfl (fun ls hl => ?_)
    have hl : lv_has ls 8 [(7, .int 0), (5, .long (w0 &&& v32)), (3, .long w0), (0, .ref y0), (1, va_rf x1)] := hl
    exact b45 mF ls x1 (w0 &&& v32) 0 h z _ _ hF (hl.sub [3, 4, 1, 0] rfl) I
  have hF := hg
  unfold w_Walker_lead at hF
  clear h z
  refine lv_iload_n hx hb d202_0 rfl (lv_at hl 2 rfl) ?_
  refine lv_iconst (v := (-1)) hx hb d202_1 (by decide) ?_
  refine lv_icmp_ne hx hb d202_2 rfl (fun h9 => ?_) (fun h9 => ?_)
  · have hF := Eq.mp (if_neg h9) hF
    refine lv_aload_n hx hb d202_16 rfl (lv_at hl 0 rfl) ?_
    refine lv_aload_nR hx hb d202_17 rfl (lv_at hl 1 rfl) ?_
    obtain ⟨a21, e9, hF⟩ := hF
    refine W.eq (g2 := F0 m 18 ls [.ref a21, .ref y0]) (by rw [e9]; rfl) ?_
    clear e9
    obtain ⟨fs9, v22, c9, e9, hF⟩ := hF
    refine va_get (D := D) (ci := 12) (v := .int v22) (C := kR12) (T := kT12) (N := 5) hx hb hts ku12 hown hK (hm_one I.1 c9) 0 rfl rfl 0 (by decide) (hts _ ms_k925) (fun _ h => h) e9 d202_18 ?_
    clear e9 c9 fs9
    refine lv_aload_n hx hb d202_21 rfl (lv_at hl 0 rfl) ?_
    obtain ⟨fs9, v23, c9, e9, hF⟩ := hF
    refine va_get (D := D) (ci := 14) (v := va_rf v23) (C := kR14) (T := kT14) (N := 1) hx hb hts ku14 hown hK (hm_one I.1 c9) 0 rfl rfl 0 (by decide) (hts _ ms_k1088) (fun _ h => h) e9 d202_22 ?_
    clear e9 c9 fs9
    obtain ⟨a24, e9, hF⟩ := hF
    refine W.eq (g2 := F0 m 25 ls [.ref a24, .int v22, .ref y0]) (by rw [e9]; rfl) ?_
    clear e9
    obtain ⟨fs9, v25, c9, e9, hF⟩ := hF
    refine va_get (D := D) (ci := 1) (v := va_rf v25) (C := kR1) (T := kT1) (N := 6) hx hb hts ku1 hown hK (hm_one I.1 c9) 0 rfl rfl 2 (by decide) (hts _ ms_k84) (fun _ h => h) e9 d202_25 ?_
    clear e9 c9 fs9
    refine lv_iload_n hx hb d202_28 rfl (lv_at hl 2 rfl) ?_
    obtain ⟨a26, e9, hF⟩ := hF
    refine W.eq (g2 := F0 m 29 ls [.int y2, .ref a26, .int v22, .ref y0]) (by rw [e9]; rfl) ?_
    clear e9
    obtain ⟨n8, f8, c9, i9, hF⟩ := hF
    refine va_aldq hx hb hK (hm_one I.1 c9) 0 5 rfl rfl i9 d202_29 ?_
    generalize f8 (Int32.toNatClampNeg y2) = v27 at hF ⊢
    clear c9 i9
    obtain ⟨fs9, c9, hF⟩ := hF
    refine ht_V (C := "MarkupStore$Walker") (rest := []) (as := [.int v22, va_rf v27]) X hl (cw_Walker_axis l D dA s0 hE y0 v22 v27 h0 z0 _ hF) (List.forall_mem_cons.mpr ⟨ms_k1146, List.forall_mem_cons.mpr ⟨ms_k1148, List.forall_mem_cons.mpr ⟨ms_p31, List.forall_mem_cons.mpr ⟨ms_k28, List.forall_mem_cons.mpr ⟨ms_k1149, fun _ h => absurd h List.not_mem_nil⟩⟩⟩⟩⟩) ⟨rfl, by decide +kernel, by decide +kernel, (by decide +kernel : (parseMethodDescriptor "(CLMarkupStore$Node;)J").map (fun d => d.parameters.length) = some 2)⟩ (hm_recv hK I rfl c9) I ⟨rfl, rfl⟩ ⟨⟨Nat.le_of_ble_eq_true rfl, Nat.le_of_ble_eq_true rfl⟩, Nat.le_of_ble_eq_true rfl, Nat.le_of_ble_eq_true rfl⟩ rfl (Nat.le_of_ble_eq_true rfl) d202_30 (fun vv h29 z30 H locs hR I9 => ?_)
    obtain ⟨v28, e1, hF⟩ := hR
    subst e1
    clear I
    have I := I9
    clear I9 c9 fs9
    refine W.eq (g2 := F0 m 33 ls [.long v28]) rfl ?_
    exact b33 ls y1 v28 h29 z30 _ _ hF (hl.sub [0, 1] rfl) I
  · have hF := Eq.mp (if_pos h9) hF
    refine lv_aload_n hx hb d202_5 rfl (lv_at hl 0 rfl) ?_
    refine lv_aload_nR hx hb d202_6 rfl (lv_at hl 1 rfl) ?_
    obtain ⟨a48, e9, hF⟩ := hF
    refine W.eq (g2 := F0 m 7 ls [.ref a48, .ref y0]) (by rw [e9]; rfl) ?_
    clear e9
    obtain ⟨fs9, v49, c9, e9, hF⟩ := hF
    refine va_get (D := D) (ci := 12) (v := .int v49) (C := kR12) (T := kT12) (N := 5) hx hb hts ku12 hown hK (hm_one I.1 c9) 0 rfl rfl 0 (by decide) (hts _ ms_k925) (fun _ h => h) e9 d202_7 ?_
    clear e9 c9 fs9
    obtain ⟨fs9, c9, hF⟩ := hF
    refine ht_V (C := "MarkupStore$Walker") (rest := []) (as := [.int v49]) X hl (cw_Walker_documentAxis l D dA s0 hE y0 v49 h0 z0 _ hF) (List.forall_mem_cons.mpr ⟨ms_k1142, List.forall_mem_cons.mpr ⟨ms_k1144, List.forall_mem_cons.mpr ⟨ms_p30, List.forall_mem_cons.mpr ⟨ms_k28, List.forall_mem_cons.mpr ⟨ms_k1145, fun _ h => absurd h List.not_mem_nil⟩⟩⟩⟩⟩) ⟨rfl, by decide +kernel, by decide +kernel, (by decide +kernel : (parseMethodDescriptor "(C)J").map (fun d => d.parameters.length) = some 1)⟩ (hm_recv hK I rfl c9) I ⟨rfl, rfl⟩ ⟨⟨Nat.le_of_ble_eq_true rfl, Nat.le_of_ble_eq_true rfl⟩, Nat.le_of_ble_eq_true rfl, Nat.le_of_ble_eq_true rfl⟩ rfl (Nat.le_of_ble_eq_true rfl) d202_10 (fun vv h51 z52 H locs hR I9 => ?_)
    obtain ⟨v50, e1, hF⟩ := hR
    subst e1
    clear I
    have I := I9
    clear I9 c9 fs9
    refine W.eq (g2 := F0 m 13 ls [.long v50]) rfl ?_
    refine lv_goto hx hb d202_13 rfl ?_
    exact b33 ls y1 v50 h51 z52 _ _ hF (hl.sub [0, 1] rfl) I

def w_Store_commit (dA : Nat → ClassId) (y0 : Nat) (K : Int32 → hm_T → hz_T → Prop) (h0 : hm_T) (z0 : hz_T) : Prop := (cg_I h0 0 5 y0 (fun v21 => (cg_c h0 0 y0 ((w_Store_beginBatch dA y0 (fun h23 z24 => (K v21 h23 z24)) h0 z0)))))
set_option maxRecDepth 100000 in
set_option maxHeartbeats 8000000 in
theorem cw_Store_commit (l : Launch) (D : va_G) (dA : Nat → ClassId) (s0 : State) (hE : ms_EV D dA s0) (y0 : Nat) (h0 : hm_T) (z0 : hz_T) (K : Int32 → hm_T → hz_T → Prop) (hg : w_Store_commit dA y0 K h0 z0) : ht_C l D s0 yM203 bM203 2 (Option.some Jvm.ClassFile.FieldType.int) 2 41 0 0 [.ref y0] (fun h z => h = h0 ∧ z = z0) (fun h z vv h1 z1 => ∃ v, vv = some (.int v) ∧ K v h1 z1) := by
  refine ht_C.mk hE.1 (by decide) (Nat.le_of_ble_eq_true rfl) [(0, .ref y0)] rfl ?_
  intro p e s m below meth c ls h z X hin hpre I hl
  have hx := X.1
  have hb := X.2.1
  have hml := X.2.2.1
  have hown : s.vm.findClass "MarkupStore" = some m.cls := X.2.2.2.1
  have hts := X.2.2.2.2.2.2.1
  have hK := X.2.2.2.2.2.2.2.2.1
  rw [hpre.1, hpre.2] at I
  clear hpre
  have hF := hg
  unfold w_Store_commit at hF
  clear h z
  refine lv_aload_n hx hb d203_0 rfl (lv_at hl 0 rfl) ?_
  obtain ⟨fs9, v21, c9, e9, hF⟩ := hF
  refine va_get (D := D) (ci := 0) (v := .int v21) (C := kR0) (T := kT0) (N := 6) hx hb hts ku0 hown hK (hm_one I.1 c9) 0 rfl rfl 5 (by decide) (hts _ ms_k110) (fun _ h => h) e9 d203_1 ?_
  clear e9 c9 fs9
  refine lv_istore_n hx hb d203_4 rfl hl (by decide) rfl (fun ls hl => ?_)
  have hl : lv_has ls 2 [(1, .int v21), (0, .ref y0)] := hl
  refine lv_aload_n hx hb d203_5 rfl (lv_at hl 1 rfl) ?_
  obtain ⟨fs9, c9, hF⟩ := hF
  refine ht_V (C := "MarkupStore") (rest := []) (as := []) X hl (cw_Store_beginBatch l D dA s0 hE y0 h0 z0 _ hF) (List.forall_mem_cons.mpr ⟨ms_k733, List.forall_mem_cons.mpr ⟨ms_k735, List.forall_mem_cons.mpr ⟨ms_p15, List.forall_mem_cons.mpr ⟨ms_k1, List.forall_mem_cons.mpr ⟨ms_k736, fun _ h => absurd h List.not_mem_nil⟩⟩⟩⟩⟩) ⟨rfl, by decide +kernel, by decide +kernel, (by decide +kernel : (parseMethodDescriptor "()V").map (fun d => d.parameters.length) = some 0)⟩ (hm_recv hK I rfl c9) I ⟨rfl, rfl⟩ ⟨⟨Nat.le_of_ble_eq_true rfl, Nat.le_of_ble_eq_true rfl⟩, Nat.le_of_ble_eq_true rfl, Nat.le_of_ble_eq_true rfl⟩ rfl (Nat.le_of_ble_eq_true rfl) d203_6 (fun vv h23 z24 H locs hR I9 => ?_)
  obtain ⟨e1, hF⟩ := hR
  subst e1
  clear I
  have I := I9
  clear I9 c9 fs9
  refine W.eq (g2 := F0 m 9 ls []) rfl ?_
  refine lv_iload_n hx hb d203_9 rfl (lv_at hl 0 rfl) ?_
  exact ht_iret X d203_10 I (Nat.le_of_ble_eq_true rfl) (Nat.le_of_ble_eq_true rfl) ⟨_, rfl, hF⟩

def w_Walker_whence_42 (dA : Nat → ClassId) (y0 : Nat) (K : Int64 → hm_T → hz_T → Prop) (k6 : Option Nat → Int64 → Int64 → Int32 → hm_T → hz_T → Prop) (x1 : Option Nat) (x2 : Int64) (x6 : Int32) (w0 : Int64) (w1 : Int64) (h : hm_T) (z : hz_T) : Prop := (k6 x1 x2 (w1 ||| w0) (x6 + 1) h z)
def w_Walker_whence_6 (dA : Nat → ClassId) (y0 : Nat) (K : Int64 → hm_T → hz_T → Prop) : Nat → Option Nat → Int64 → Int64 → Int32 → hm_T → hz_T → Prop
  | 0, _, _, _, _, _, _ => False
  | n9 + 1, x1, x2, x4, x6, h, z => (cg_R h 14 0 y0 (fun v21 => (cg_d v21 (fun a22 => (cg_I h 1 3 a22 (fun v23 => (if v23 ≤ x6 then (K x4 h z) else (cg_c h 14 y0 ((w_Walker_lead dA y0 x1 x6 (fun v24 h25 z26 => (if (mm_cmp (v24 &&& x2) (0 : Int64)) = 0 then (w_Walker_whence_42 dA y0 K (w_Walker_whence_6 dA y0 K n9) x1 x2 x6 (0 : Int64) x4 h25 z26) else (w_Walker_whence_42 dA y0 K (w_Walker_whence_6 dA y0 K n9) x1 x2 x6 ((1 : Int64) <<< (x6.toInt64 &&& 63)) x4 h25 z26))) h z))))))))))
def w_Walker_whence (dA : Nat → ClassId) (y0 : Nat) (y1 : Option Nat) (y2 : Int64) (K : Int64 → hm_T → hz_T → Prop) (h0 : hm_T) (z0 : hz_T) : Prop := (w_Walker_whence_6 dA y0 K mF y1 y2 (0 : Int64) 0 h0 z0)
set_option maxRecDepth 100000 in
set_option maxHeartbeats 8000000 in
theorem cw_Walker_whence (l : Launch) (D : va_G) (dA : Nat → ClassId) (s0 : State) (hE : ms_EV D dA s0) (y0 : Nat) (y1 : Option Nat) (y2 : Int64) (h0 : hm_T) (z0 : hz_T) (K : Int64 → hm_T → hz_T → Prop) (hg : w_Walker_whence dA y0 y1 y2 K h0 z0) : ht_C l D s0 yM204 bM204 7 (Option.some Jvm.ClassFile.FieldType.long) 4 91 0 0 [.ref y0, va_rf y1, .long y2] (fun h z => h = h0 ∧ z = z0) (fun h z vv h1 z1 => ∃ v, vv = some (.long v) ∧ K v h1 z1) := by
  refine ht_C.mk hE.1 (by decide) (by simp [lg_sl, cat_rf, cat_int, cat_ref, cat_null, cat_long]) [(0, .ref y0), (1, va_rf y1), (2, .long y2)] (by simp [lv_args, cat_rf, cat_int, cat_ref, cat_null, cat_long]) ?_
  intro p e s m below meth c ls h z X hin hpre I hl
  have hx := X.1
  have hb := X.2.1
  have hml := X.2.2.1
  have hown : s.vm.findClass "MarkupStore$Walker" = some m.cls := X.2.2.2.1
  have hts := X.2.2.2.2.2.2.1
  have hK := X.2.2.2.2.2.2.2.2.1
  rw [hpre.1, hpre.2] at I
  clear hpre
  have b42 : ∀ (k6 : Option Nat → Int64 → Int64 → Int32 → hm_T → hz_T → Prop), (∀ (ls : Array Slot) (x1 : Option Nat) (x2 : Int64) (x4 : Int64) (x6 : Int32) (h : hm_T) (z : hz_T) (H : Heap) (locs : List Loc), k6 x1 x2 x4 x6 h z → lv_has ls 7 [(0, .ref y0), (1, va_rf x1), (2, .long x2), (4, .long x4), (6, .int x6)] → hm_I D s0 s h z H locs → W p l e { frames := 4, cells := 0, slots := 0, locals := 91 } s m ([.ref y0, va_rf y1, .long y2] : List Value).toArray below meth c H locs 0 0 (MQ below (ht_Q D s0 (fun vv h1 z1 => ∃ v, vv = some (.long v) ∧ K v h1 z1)) ([.ref y0, va_rf y1, .long y2] : List Value).toArray s 0 0 (fun q => s0.heap.size ≤ q)) (F0 m 6 ls [])) → ∀ (ls : Array Slot) (x1 : Option Nat) (x2 : Int64) (x6 : Int32) (w0 : Int64) (w1 : Int64) (h : hm_T) (z : hz_T) (H : Heap) (locs : List Loc), w_Walker_whence_42 dA y0 K k6 x1 x2 x6 w0 w1 h z → lv_has ls 7 [(0, .ref y0), (1, va_rf x1), (2, .long x2), (6, .int x6)] → hm_I D s0 s h z H locs → W p l e { frames := 4, cells := 0, slots := 0, locals := 91 } s m ([.ref y0, va_rf y1, .long y2] : List Value).toArray below meth c H locs 0 0 (MQ below (ht_Q D s0 (fun vv h1 z1 => ∃ v, vv = some (.long v) ∧ K v h1 z1)) ([.ref y0, va_rf y1, .long y2] : List Value).toArray s 0 0 (fun q => s0.heap.size ≤ q)) (F0 m 42 ls [.long w0, .long w1]) := by
    intro k6 hk6 ls x1 x2 x6 w0 w1 h z H locs hF hl I
    unfold w_Walker_whence_42 at hF
    refine lv_lor hx hb d204_42 ?_
    refine lv_lstore hx hb d204_43 hl (by decide) rfl (fun ls hl => ?_)
    have hl : lv_has ls 7 [(4, .long (w1 ||| w0)), (0, .ref y0), (1, va_rf x1), (2, .long x2), (6, .int x6)] := hl
    refine lv_iinc (k := 4) (v := (x6 + 1)) hx hb d204_45 hl rfl (rfl) (by decide) rfl (fun ls hl => ?_)
    have hl : lv_has ls 7 [(6, .int (x6 + 1)), (4, .long (w1 ||| w0)), (0, .ref y0), (1, va_rf x1), (2, .long x2)] := hl
    refine lv_goto hx hb d204_48 rfl ?_
    exact hk6 ls x1 x2 (w1 ||| w0) (x6 + 1) h z _ _ hF (hl.sub [2, 3, 4, 1, 0] rfl) I
  have b6 : ∀ n9 : Nat, ∀ (ls : Array Slot) (x1 : Option Nat) (x2 : Int64) (x4 : Int64) (x6 : Int32) (h : hm_T) (z : hz_T) (H : Heap) (locs : List Loc), w_Walker_whence_6 dA y0 K n9 x1 x2 x4 x6 h z → lv_has ls 7 [(0, .ref y0), (1, va_rf x1), (2, .long x2), (4, .long x4), (6, .int x6)] → hm_I D s0 s h z H locs → W p l e { frames := 4, cells := 0, slots := 0, locals := 91 } s m ([.ref y0, va_rf y1, .long y2] : List Value).toArray below meth c H locs 0 0 (MQ below (ht_Q D s0 (fun vv h1 z1 => ∃ v, vv = some (.long v) ∧ K v h1 z1)) ([.ref y0, va_rf y1, .long y2] : List Value).toArray s 0 0 (fun q => s0.heap.size ≤ q)) (F0 m 6 ls []) := by
    intro n9
    induction n9 with
    | zero => intro ls x1 x2 x4 x6 h z H locs hF; cases hF
    | succ n9 hk6 =>
    intro ls x1 x2 x4 x6 h z H locs hF hl I
    unfold w_Walker_whence_6 at hF
    refine lv_iload hx hb d204_6 (lv_at hl 4 rfl) ?_
    refine lv_aload_n hx hb d204_8 rfl (lv_at hl 0 rfl) ?_
    obtain ⟨fs9, v21, c9, e9, hF⟩ := hF
    refine va_get (D := D) (ci := 14) (v := va_rf v21) (C := kR14) (T := kT14) (N := 1) hx hb hts ku14 hown hK (hm_one I.1 c9) 0 rfl rfl 0 (by decide) (hts _ ms_k1088) (fun _ h => h) e9 d204_9 ?_
    clear e9 c9 fs9
    obtain ⟨a22, e9, hF⟩ := hF
    refine W.eq (g2 := F0 m 12 ls [.ref a22, .int x6]) (by rw [e9]; rfl) ?_
    clear e9
    obtain ⟨fs9, v23, c9, e9, hF⟩ := hF
    refine va_get (D := D) (ci := 1) (v := .int v23) (C := kR1) (T := kT1) (N := 6) hx hb hts ku1 hown hK (hm_one I.1 c9) 0 rfl rfl 3 (by decide) (hts _ ms_k88) (fun _ h => h) e9 d204_12 ?_
    clear e9 c9 fs9
    refine lv_icmp_ge hx hb d204_15 rfl (fun h9 => ?_) (fun h9 => ?_)
    · have hF := Eq.mp (if_pos h9) hF
      refine lv_lload hx hb d204_51 (lv_at hl 3 rfl) ?_
      exact ht_lret X d204_53 I (Nat.le_of_ble_eq_true rfl) (Nat.le_of_ble_eq_true rfl) ⟨_, rfl, hF⟩
    · have hF := Eq.mp (if_neg h9) hF
      refine lv_lload hx hb d204_18 (lv_at hl 3 rfl) ?_
      refine lv_aload_n hx hb d204_20 rfl (lv_at hl 0 rfl) ?_
      refine lv_aload_nR hx hb d204_21 rfl (lv_at hl 1 rfl) ?_
      refine lv_iload hx hb d204_22 (lv_at hl 4 rfl) ?_
      obtain ⟨fs9, c9, hF⟩ := hF
      refine ht_V (C := "MarkupStore$Walker") (rest := [.long x4]) (as := [va_rf x1, .int x6]) X hl (cw_Walker_lead l D dA s0 hE y0 x1 x6 h z _ hF) (List.forall_mem_cons.mpr ⟨ms_k1138, List.forall_mem_cons.mpr ⟨ms_k1140, List.forall_mem_cons.mpr ⟨ms_p29, List.forall_mem_cons.mpr ⟨ms_k28, List.forall_mem_cons.mpr ⟨ms_k1141, fun _ h => absurd h List.not_mem_nil⟩⟩⟩⟩⟩) ⟨rfl, by decide +kernel, by decide +kernel, (by decide +kernel : (parseMethodDescriptor "(LMarkupStore$Step;I)J").map (fun d => d.parameters.length) = some 2)⟩ (hm_recv hK I rfl c9) I ⟨rfl, rfl⟩ ⟨⟨Nat.le_of_ble_eq_true rfl, Nat.le_of_ble_eq_true rfl⟩, Nat.le_of_ble_eq_true rfl, Nat.le_of_ble_eq_true rfl⟩ rfl (Nat.le_of_ble_eq_true rfl) d204_24 (fun vv h25 z26 H locs hR I9 => ?_)
      obtain ⟨v24, e1, hF⟩ := hR
      subst e1
      clear I
      have I := I9
      clear I9 c9 fs9
      refine W.eq (g2 := F0 m 27 ls [.long v24, .long x4]) rfl ?_
      refine lv_lload_n hx hb d204_27 rfl (lv_at hl 2 rfl) ?_
      refine lv_land hx hb d204_28 ?_
      refine lv_lconst (v := (0 : Int64)) hx hb d204_29 (by decide) ?_
      refine lv_lcmp hx hb d204_30 ?_
      refine lv_if_eq hx hb d204_31 rfl (fun h9 => ?_) (fun h9 => ?_)
      · have hF := Eq.mp (if_pos h9) hF
        refine lv_lconst (v := (0 : Int64)) hx hb d204_41 (by decide) ?_
        exact b42 (w_Walker_whence_6 dA y0 K n9) hk6 ls x1 x2 x6 (0 : Int64) x4 h25 z26 _ _ hF (hl.sub [0, 1, 2, 4] rfl) I
      · have hF := Eq.mp (if_neg h9) hF
        refine lv_lconst (v := (1 : Int64)) hx hb d204_34 (by decide) ?_
        refine lv_iload hx hb d204_35 (lv_at hl 4 rfl) ?_
        refine lv_lshl (v := ((1 : Int64) <<< (x6.toInt64 &&& 63))) hx hb d204_37 rfl ?_
        refine lv_goto hx hb d204_38 rfl ?_
        exact b42 (w_Walker_whence_6 dA y0 K n9) hk6 ls x1 x2 x6 ((1 : Int64) <<< (x6.toInt64 &&& 63)) x4 h25 z26 _ _ hF (hl.sub [0, 1, 2, 4] rfl) I
  have hF := hg
  unfold w_Walker_whence at hF
  clear h z
  refine lv_lconst (v := (0 : Int64)) hx hb d204_0 (by decide) ?_
  refine lv_lstore hx hb d204_1 hl (by decide) rfl (fun ls hl => ?_)
  have hl : lv_has ls 7 [(4, .long (0 : Int64)), (0, .ref y0), (1, va_rf y1), (2, .long y2)] := hl
  refine lv_iconst (v := 0) hx hb d204_3 (by decide) ?_
  refine lv_istore hx hb d204_4 hl (by decide) rfl (fun ls hl => ?_)
  have hl : lv_has ls 7 [(6, .int 0), (4, .long (0 : Int64)), (0, .ref y0), (1, va_rf y1), (2, .long y2)] := hl
  exact b6 mF ls y1 y2 (0 : Int64) 0 h0 z0 _ _ hF (hl.sub [2, 3, 4, 1, 0] rfl) I

def w_Walker_leadAll_40 (dA : Nat → ClassId) (y0 : Nat) (K : Int64 → hm_T → hz_T → Prop) (k6 : Option Nat → Int64 → Int64 → Int32 → hm_T → hz_T → Prop) (x1 : Option Nat) (x2 : Int64) (x6 : Int32) (w0 : Int64) (w1 : Int64) (h : hm_T) (z : hz_T) : Prop := (k6 x1 x2 (w1 ||| w0) (x6 + 1) h z)
def w_Walker_leadAll_6 (dA : Nat → ClassId) (y0 : Nat) (K : Int64 → hm_T → hz_T → Prop) : Nat → Option Nat → Int64 → Int64 → Int32 → hm_T → hz_T → Prop
  | 0, _, _, _, _, _, _ => False
  | n9 + 1, x1, x2, x4, x6, h, z => (cg_R h 14 0 y0 (fun v21 => (cg_d v21 (fun a22 => (cg_I h 1 3 a22 (fun v23 => (if v23 ≤ x6 then (K x4 h z) else (w_Walker_has dA x2 x6 (fun v24 h25 z26 => (if v24 = 0 then (w_Walker_leadAll_40 dA y0 K (w_Walker_leadAll_6 dA y0 K n9) x1 x2 x6 (0 : Int64) x4 h25 z26) else (cg_c h25 14 y0 ((w_Walker_lead dA y0 x1 x6 (fun v27 h28 z29 => (w_Walker_leadAll_40 dA y0 K (w_Walker_leadAll_6 dA y0 K n9) x1 x2 x6 v27 x4 h28 z29)) h25 z26))))) h z))))))))
def w_Walker_leadAll (dA : Nat → ClassId) (y0 : Nat) (y1 : Option Nat) (y2 : Int64) (K : Int64 → hm_T → hz_T → Prop) (h0 : hm_T) (z0 : hz_T) : Prop := (w_Walker_leadAll_6 dA y0 K mF y1 y2 (0 : Int64) 0 h0 z0)
set_option maxRecDepth 100000 in
set_option maxHeartbeats 8000000 in
theorem cw_Walker_leadAll (l : Launch) (D : va_G) (dA : Nat → ClassId) (s0 : State) (hE : ms_EV D dA s0) (y0 : Nat) (y1 : Option Nat) (y2 : Int64) (h0 : hm_T) (z0 : hz_T) (K : Int64 → hm_T → hz_T → Prop) (hg : w_Walker_leadAll dA y0 y1 y2 K h0 z0) : ht_C l D s0 yM205 bM205 7 (Option.some Jvm.ClassFile.FieldType.long) 4 91 0 0 [.ref y0, va_rf y1, .long y2] (fun h z => h = h0 ∧ z = z0) (fun h z vv h1 z1 => ∃ v, vv = some (.long v) ∧ K v h1 z1) := by
  refine ht_C.mk hE.1 (by decide) (by simp [lg_sl, cat_rf, cat_int, cat_ref, cat_null, cat_long]) [(0, .ref y0), (1, va_rf y1), (2, .long y2)] (by simp [lv_args, cat_rf, cat_int, cat_ref, cat_null, cat_long]) ?_
  intro p e s m below meth c ls h z X hin hpre I hl
  have hx := X.1
  have hb := X.2.1
  have hml := X.2.2.1
  have hown : s.vm.findClass "MarkupStore$Walker" = some m.cls := X.2.2.2.1
  have hts := X.2.2.2.2.2.2.1
  have hK := X.2.2.2.2.2.2.2.2.1
  rw [hpre.1, hpre.2] at I
  clear hpre
  have b40 : ∀ (k6 : Option Nat → Int64 → Int64 → Int32 → hm_T → hz_T → Prop), (∀ (ls : Array Slot) (x1 : Option Nat) (x2 : Int64) (x4 : Int64) (x6 : Int32) (h : hm_T) (z : hz_T) (H : Heap) (locs : List Loc), k6 x1 x2 x4 x6 h z → lv_has ls 7 [(0, .ref y0), (1, va_rf x1), (2, .long x2), (4, .long x4), (6, .int x6)] → hm_I D s0 s h z H locs → W p l e { frames := 4, cells := 0, slots := 0, locals := 91 } s m ([.ref y0, va_rf y1, .long y2] : List Value).toArray below meth c H locs 0 0 (MQ below (ht_Q D s0 (fun vv h1 z1 => ∃ v, vv = some (.long v) ∧ K v h1 z1)) ([.ref y0, va_rf y1, .long y2] : List Value).toArray s 0 0 (fun q => s0.heap.size ≤ q)) (F0 m 6 ls [])) → ∀ (ls : Array Slot) (x1 : Option Nat) (x2 : Int64) (x6 : Int32) (w0 : Int64) (w1 : Int64) (h : hm_T) (z : hz_T) (H : Heap) (locs : List Loc), w_Walker_leadAll_40 dA y0 K k6 x1 x2 x6 w0 w1 h z → lv_has ls 7 [(0, .ref y0), (1, va_rf x1), (2, .long x2), (6, .int x6)] → hm_I D s0 s h z H locs → W p l e { frames := 4, cells := 0, slots := 0, locals := 91 } s m ([.ref y0, va_rf y1, .long y2] : List Value).toArray below meth c H locs 0 0 (MQ below (ht_Q D s0 (fun vv h1 z1 => ∃ v, vv = some (.long v) ∧ K v h1 z1)) ([.ref y0, va_rf y1, .long y2] : List Value).toArray s 0 0 (fun q => s0.heap.size ≤ q)) (F0 m 40 ls [.long w0, .long w1]) := by
    intro k6 hk6 ls x1 x2 x6 w0 w1 h z H locs hF hl I
    unfold w_Walker_leadAll_40 at hF
    refine lv_lor hx hb d205_40 ?_
    refine lv_lstore hx hb d205_41 hl (by decide) rfl (fun ls hl => ?_)
    have hl : lv_has ls 7 [(4, .long (w1 ||| w0)), (0, .ref y0), (1, va_rf x1), (2, .long x2), (6, .int x6)] := hl
    refine lv_iinc (k := 4) (v := (x6 + 1)) hx hb d205_43 hl rfl (rfl) (by decide) rfl (fun ls hl => ?_)
    have hl : lv_has ls 7 [(6, .int (x6 + 1)), (4, .long (w1 ||| w0)), (0, .ref y0), (1, va_rf x1), (2, .long x2)] := hl
    refine lv_goto hx hb d205_46 rfl ?_
    exact hk6 ls x1 x2 (w1 ||| w0) (x6 + 1) h z _ _ hF (hl.sub [2, 3, 4, 1, 0] rfl) I
  have b6 : ∀ n9 : Nat, ∀ (ls : Array Slot) (x1 : Option Nat) (x2 : Int64) (x4 : Int64) (x6 : Int32) (h : hm_T) (z : hz_T) (H : Heap) (locs : List Loc), w_Walker_leadAll_6 dA y0 K n9 x1 x2 x4 x6 h z → lv_has ls 7 [(0, .ref y0), (1, va_rf x1), (2, .long x2), (4, .long x4), (6, .int x6)] → hm_I D s0 s h z H locs → W p l e { frames := 4, cells := 0, slots := 0, locals := 91 } s m ([.ref y0, va_rf y1, .long y2] : List Value).toArray below meth c H locs 0 0 (MQ below (ht_Q D s0 (fun vv h1 z1 => ∃ v, vv = some (.long v) ∧ K v h1 z1)) ([.ref y0, va_rf y1, .long y2] : List Value).toArray s 0 0 (fun q => s0.heap.size ≤ q)) (F0 m 6 ls []) := by
    intro n9
    induction n9 with
    | zero => intro ls x1 x2 x4 x6 h z H locs hF; cases hF
    | succ n9 hk6 =>
    intro ls x1 x2 x4 x6 h z H locs hF hl I
    unfold w_Walker_leadAll_6 at hF
    refine lv_iload hx hb d205_6 (lv_at hl 4 rfl) ?_
    refine lv_aload_n hx hb d205_8 rfl (lv_at hl 0 rfl) ?_
    obtain ⟨fs9, v21, c9, e9, hF⟩ := hF
    refine va_get (D := D) (ci := 14) (v := va_rf v21) (C := kR14) (T := kT14) (N := 1) hx hb hts ku14 hown hK (hm_one I.1 c9) 0 rfl rfl 0 (by decide) (hts _ ms_k1088) (fun _ h => h) e9 d205_9 ?_
    clear e9 c9 fs9
    obtain ⟨a22, e9, hF⟩ := hF
    refine W.eq (g2 := F0 m 12 ls [.ref a22, .int x6]) (by rw [e9]; rfl) ?_
    clear e9
    obtain ⟨fs9, v23, c9, e9, hF⟩ := hF
    refine va_get (D := D) (ci := 1) (v := .int v23) (C := kR1) (T := kT1) (N := 6) hx hb hts ku1 hown hK (hm_one I.1 c9) 0 rfl rfl 3 (by decide) (hts _ ms_k88) (fun _ h => h) e9 d205_12 ?_
    clear e9 c9 fs9
    refine lv_icmp_ge hx hb d205_15 rfl (fun h9 => ?_) (fun h9 => ?_)
    · have hF := Eq.mp (if_pos h9) hF
      refine lv_lload hx hb d205_49 (lv_at hl 3 rfl) ?_
      exact ht_lret X d205_51 I (Nat.le_of_ble_eq_true rfl) (Nat.le_of_ble_eq_true rfl) ⟨_, rfl, hF⟩
    · have hF := Eq.mp (if_neg h9) hF
      refine lv_lload hx hb d205_18 (lv_at hl 3 rfl) ?_
      refine lv_lload_n hx hb d205_20 rfl (lv_at hl 2 rfl) ?_
      refine lv_iload hx hb d205_21 (lv_at hl 4 rfl) ?_
      refine ht_S (rest := [.long x4]) (as := [.long x2, .int x6]) X hl (cw_Walker_has l D dA s0 hE x2 x6 h z _ hF) (List.forall_mem_cons.mpr ⟨ms_k1189, List.forall_mem_cons.mpr ⟨ms_k1190, List.forall_mem_cons.mpr ⟨ms_k28, List.forall_mem_cons.mpr ⟨ms_k1191, fun _ h => absurd h List.not_mem_nil⟩⟩⟩⟩) ⟨by decide +kernel, by decide +kernel, (by decide +kernel : (parseMethodDescriptor "(JI)Z").map (fun d => d.parameters.length) = some 2)⟩ I ⟨rfl, rfl⟩ ⟨⟨Nat.le_of_ble_eq_true rfl, Nat.le_of_ble_eq_true rfl⟩, Nat.le_of_ble_eq_true rfl, Nat.le_of_ble_eq_true rfl⟩ rfl (Nat.le_of_ble_eq_true rfl) d205_23 (fun vv h25 z26 H locs hR I9 => ?_)
      obtain ⟨v24, e1, hF⟩ := hR
      subst e1
      clear I
      have I := I9
      clear I9
      refine W.eq (g2 := F0 m 26 ls [.int v24, .long x4]) rfl ?_
      refine lv_if_eq hx hb d205_26 rfl (fun h9 => ?_) (fun h9 => ?_)
      · have hF := Eq.mp (if_pos h9) hF
        refine lv_lconst (v := (0 : Int64)) hx hb d205_39 (by decide) ?_
        exact b40 (w_Walker_leadAll_6 dA y0 K n9) hk6 ls x1 x2 x6 (0 : Int64) x4 h25 z26 _ _ hF (hl.sub [0, 1, 2, 4] rfl) I
      · have hF := Eq.mp (if_neg h9) hF
        refine lv_aload_n hx hb d205_29 rfl (lv_at hl 0 rfl) ?_
        refine lv_aload_nR hx hb d205_30 rfl (lv_at hl 1 rfl) ?_
        refine lv_iload hx hb d205_31 (lv_at hl 4 rfl) ?_
        obtain ⟨fs9, c9, hF⟩ := hF
        refine ht_V (C := "MarkupStore$Walker") (rest := [.long x4]) (as := [va_rf x1, .int x6]) X hl (cw_Walker_lead l D dA s0 hE y0 x1 x6 h25 z26 _ hF) (List.forall_mem_cons.mpr ⟨ms_k1138, List.forall_mem_cons.mpr ⟨ms_k1140, List.forall_mem_cons.mpr ⟨ms_p29, List.forall_mem_cons.mpr ⟨ms_k28, List.forall_mem_cons.mpr ⟨ms_k1141, fun _ h => absurd h List.not_mem_nil⟩⟩⟩⟩⟩) ⟨rfl, by decide +kernel, by decide +kernel, (by decide +kernel : (parseMethodDescriptor "(LMarkupStore$Step;I)J").map (fun d => d.parameters.length) = some 2)⟩ (hm_recv hK I rfl c9) I ⟨rfl, rfl⟩ ⟨⟨Nat.le_of_ble_eq_true rfl, Nat.le_of_ble_eq_true rfl⟩, Nat.le_of_ble_eq_true rfl, Nat.le_of_ble_eq_true rfl⟩ rfl (Nat.le_of_ble_eq_true rfl) d205_33 (fun vv h28 z29 H locs hR I9 => ?_)
        obtain ⟨v27, e1, hF⟩ := hR
        subst e1
        clear I
        have I := I9
        clear I9 c9 fs9
        refine W.eq (g2 := F0 m 36 ls [.long v27, .long x4]) rfl ?_
        refine lv_goto hx hb d205_36 rfl ?_
        exact b40 (w_Walker_leadAll_6 dA y0 K n9) hk6 ls x1 x2 x6 v27 x4 h28 z29 _ _ hF (hl.sub [0, 1, 2, 4] rfl) I
  have hF := hg
  unfold w_Walker_leadAll at hF
  clear h z
  refine lv_lconst (v := (0 : Int64)) hx hb d205_0 (by decide) ?_
  refine lv_lstore hx hb d205_1 hl (by decide) rfl (fun ls hl => ?_)
  have hl : lv_has ls 7 [(4, .long (0 : Int64)), (0, .ref y0), (1, va_rf y1), (2, .long y2)] := hl
  refine lv_iconst (v := 0) hx hb d205_3 (by decide) ?_
  refine lv_istore hx hb d205_4 hl (by decide) rfl (fun ls hl => ?_)
  have hl : lv_has ls 7 [(6, .int 0), (4, .long (0 : Int64)), (0, .ref y0), (1, va_rf y1), (2, .long y2)] := hl
  exact b6 mF ls y1 y2 (0 : Int64) 0 h0 z0 _ _ hF (hl.sub [2, 3, 4, 1, 0] rfl) I

def w_Walker_goFrom_66 (dA : Nat → ClassId) (y0 : Nat) (K : Int64 → hm_T → hz_T → Prop) (k5 : Int32 → Option Nat → Int64 → Int32 → hm_T → hz_T → Prop) (x1 : Int32) (x2 : Option Nat) (x3 : Int64) (x5 : Int32) (h : hm_T) (z : hz_T) : Prop := (k5 x1 x2 x3 (x5 + 1) h z)
def w_Walker_goFrom_51 (dA : Nat → ClassId) (y0 : Nat) (K : Int64 → hm_T → hz_T → Prop) (k5 : Int32 → Option Nat → Int64 → Int32 → hm_T → hz_T → Prop) (x1 : Int32) (x2 : Option Nat) (x5 : Int32) (w0 : Int32) (w1 : Option Nat) (h : hm_T) (z : hz_T) : Prop := (cg_c h 14 y0 ((w_Walker_lead dA y0 w1 w0 (fun v34 h35 z36 => (w_Walker_goFrom_66 dA y0 K k5 x1 x2 v34 x5 h35 z36)) h z)))
def w_Walker_goFrom_5 (dA : Nat → ClassId) (y0 : Nat) (K : Int64 → hm_T → hz_T → Prop) : Nat → Int32 → Option Nat → Int64 → Int32 → hm_T → hz_T → Prop
  | 0, _, _, _, _, _, _ => False
  | n9 + 1, x1, x2, x3, x5, h, z => (cg_d x2 (fun a21 => (cg_R h 11 1 a21 (fun v22 => (cg_d v22 (fun a23 => (jd_sz h a23 (fun v24 => (if v24 ≤ x5 then (K x3 h z) else (cg_d x2 (fun a25 => (cg_R h 11 1 a25 (fun v26 => (cg_d v26 (fun a27 => (jd_get dA h a27 x5 (fun v28 => (cg_c h 12 v28 (if x5 = 0 then (cg_d x2 (fun a32 => (cg_I h 11 0 a32 (fun v33 => (if v33 = 0 then (w_Walker_goFrom_51 dA y0 K (w_Walker_goFrom_5 dA y0 K n9) x1 x2 x5 x1 (some v28) h z) else (w_Walker_goFrom_51 dA y0 K (w_Walker_goFrom_5 dA y0 K n9) x1 x2 x5 (-1) (some v28) h z)))))) else (cg_c h 14 y0 ((w_Walker_leadAll dA y0 (some v28) x3 (fun v29 h30 z31 => (w_Walker_goFrom_66 dA y0 K (w_Walker_goFrom_5 dA y0 K n9) x1 x2 v29 x5 h30 z31)) h z))))))))))))))))))))))
def w_Walker_goFrom (dA : Nat → ClassId) (y0 : Nat) (y1 : Int32) (y2 : Option Nat) (K : Int64 → hm_T → hz_T → Prop) (h0 : hm_T) (z0 : hz_T) : Prop := (w_Walker_goFrom_5 dA y0 K mF y1 y2 (0 : Int64) 0 h0 z0)
set_option maxRecDepth 100000 in
set_option maxHeartbeats 8000000 in
theorem cw_Walker_goFrom (l : Launch) (D : va_G) (dA : Nat → ClassId) (s0 : State) (hE : ms_EV D dA s0) (y0 : Nat) (y1 : Int32) (y2 : Option Nat) (h0 : hm_T) (z0 : hz_T) (K : Int64 → hm_T → hz_T → Prop) (hg : w_Walker_goFrom dA y0 y1 y2 K h0 z0) : ht_C l D s0 yM206 bM206 7 (Option.some Jvm.ClassFile.FieldType.long) 5 117 0 0 [.ref y0, .int y1, va_rf y2] (fun h z => h = h0 ∧ z = z0) (fun h z vv h1 z1 => ∃ v, vv = some (.long v) ∧ K v h1 z1) := by
  refine ht_C.mk hE.1 (by decide) (by simp [lg_sl, cat_rf, cat_int, cat_ref, cat_null, cat_long]) [(0, .ref y0), (1, .int y1), (2, va_rf y2)] (by simp [lv_args, cat_rf, cat_int, cat_ref, cat_null, cat_long]) ?_
  intro p e s m below meth c ls h z X hin hpre I hl
  have hx := X.1
  have hb := X.2.1
  have hml := X.2.2.1
  have hown : s.vm.findClass "MarkupStore$Walker" = some m.cls := X.2.2.2.1
  have hts := X.2.2.2.2.2.2.1
  have hK := X.2.2.2.2.2.2.2.2.1
  rw [hpre.1, hpre.2] at I
  clear hpre
  have b66 : ∀ (k5 : Int32 → Option Nat → Int64 → Int32 → hm_T → hz_T → Prop), (∀ (ls : Array Slot) (x1 : Int32) (x2 : Option Nat) (x3 : Int64) (x5 : Int32) (h : hm_T) (z : hz_T) (H : Heap) (locs : List Loc), k5 x1 x2 x3 x5 h z → lv_has ls 7 [(0, .ref y0), (1, .int x1), (2, va_rf x2), (3, .long x3), (5, .int x5)] → hm_I D s0 s h z H locs → W p l e { frames := 5, cells := 0, slots := 0, locals := 117 } s m ([.ref y0, .int y1, va_rf y2] : List Value).toArray below meth c H locs 0 0 (MQ below (ht_Q D s0 (fun vv h1 z1 => ∃ v, vv = some (.long v) ∧ K v h1 z1)) ([.ref y0, .int y1, va_rf y2] : List Value).toArray s 0 0 (fun q => s0.heap.size ≤ q)) (F0 m 5 ls [])) → ∀ (ls : Array Slot) (x1 : Int32) (x2 : Option Nat) (x3 : Int64) (x5 : Int32) (h : hm_T) (z : hz_T) (H : Heap) (locs : List Loc), w_Walker_goFrom_66 dA y0 K k5 x1 x2 x3 x5 h z → lv_has ls 7 [(0, .ref y0), (1, .int x1), (2, va_rf x2), (3, .long x3), (5, .int x5)] → hm_I D s0 s h z H locs → W p l e { frames := 5, cells := 0, slots := 0, locals := 117 } s m ([.ref y0, .int y1, va_rf y2] : List Value).toArray below meth c H locs 0 0 (MQ below (ht_Q D s0 (fun vv h1 z1 => ∃ v, vv = some (.long v) ∧ K v h1 z1)) ([.ref y0, .int y1, va_rf y2] : List Value).toArray s 0 0 (fun q => s0.heap.size ≤ q)) (F0 m 66 ls []) := by
    intro k5 hk5 ls x1 x2 x3 x5 h z H locs hF hl I
    unfold w_Walker_goFrom_66 at hF
    refine lv_iinc (k := 4) (v := (x5 + 1)) hx hb d206_66 hl rfl (rfl) (by decide) rfl (fun ls hl => ?_)
    have hl : lv_has ls 7 [(5, .int (x5 + 1)), (0, .ref y0), (1, .int x1), (2, va_rf x2), (3, .long x3)] := hl
    refine lv_goto hx hb d206_69 rfl ?_
    exact hk5 ls x1 x2 x3 (x5 + 1) h z _ _ hF (hl.sub [1, 2, 3, 4, 0] rfl) I
  have b51 : ∀ (k5 : Int32 → Option Nat → Int64 → Int32 → hm_T → hz_T → Prop), (∀ (ls : Array Slot) (x1 : Int32) (x2 : Option Nat) (x3 : Int64) (x5 : Int32) (h : hm_T) (z : hz_T) (H : Heap) (locs : List Loc), k5 x1 x2 x3 x5 h z → lv_has ls 7 [(0, .ref y0), (1, .int x1), (2, va_rf x2), (3, .long x3), (5, .int x5)] → hm_I D s0 s h z H locs → W p l e { frames := 5, cells := 0, slots := 0, locals := 117 } s m ([.ref y0, .int y1, va_rf y2] : List Value).toArray below meth c H locs 0 0 (MQ below (ht_Q D s0 (fun vv h1 z1 => ∃ v, vv = some (.long v) ∧ K v h1 z1)) ([.ref y0, .int y1, va_rf y2] : List Value).toArray s 0 0 (fun q => s0.heap.size ≤ q)) (F0 m 5 ls [])) → ∀ (ls : Array Slot) (x1 : Int32) (x2 : Option Nat) (x5 : Int32) (w0 : Int32) (w1 : Option Nat) (h : hm_T) (z : hz_T) (H : Heap) (locs : List Loc), w_Walker_goFrom_51 dA y0 K k5 x1 x2 x5 w0 w1 h z → lv_has ls 7 [(0, .ref y0), (1, .int x1), (2, va_rf x2), (5, .int x5)] → hm_I D s0 s h z H locs → W p l e { frames := 5, cells := 0, slots := 0, locals := 117 } s m ([.ref y0, .int y1, va_rf y2] : List Value).toArray below meth c H locs 0 0 (MQ below (ht_Q D s0 (fun vv h1 z1 => ∃ v, vv = some (.long v) ∧ K v h1 z1)) ([.ref y0, .int y1, va_rf y2] : List Value).toArray s 0 0 (fun q => s0.heap.size ≤ q)) (F0 m 51 ls [.int w0, va_rf w1, .ref y0]) := by
    intro k5 hk5 ls x1 x2 x5 w0 w1 h z H locs hF hl I
    unfold w_Walker_goFrom_51 at hF
    obtain ⟨fs9, c9, hF⟩ := hF
    refine ht_V (C := "MarkupStore$Walker") (rest := []) (as := [va_rf w1, .int w0]) X hl (cw_Walker_lead l D dA s0 hE y0 w1 w0 h z _ hF) (List.forall_mem_cons.mpr ⟨ms_k1138, List.forall_mem_cons.mpr ⟨ms_k1140, List.forall_mem_cons.mpr ⟨ms_p29, List.forall_mem_cons.mpr ⟨ms_k28, List.forall_mem_cons.mpr ⟨ms_k1141, fun _ h => absurd h List.not_mem_nil⟩⟩⟩⟩⟩) ⟨rfl, by decide +kernel, by decide +kernel, (by decide +kernel : (parseMethodDescriptor "(LMarkupStore$Step;I)J").map (fun d => d.parameters.length) = some 2)⟩ (hm_recv hK I rfl c9) I ⟨rfl, rfl⟩ ⟨⟨Nat.le_of_ble_eq_true rfl, Nat.le_of_ble_eq_true rfl⟩, Nat.le_of_ble_eq_true rfl, Nat.le_of_ble_eq_true rfl⟩ rfl (Nat.le_of_ble_eq_true rfl) d206_51 (fun vv h35 z36 H locs hR I9 => ?_)
    obtain ⟨v34, e1, hF⟩ := hR
    subst e1
    clear I
    have I := I9
    clear I9 c9 fs9
    refine W.eq (g2 := F0 m 54 ls [.long v34]) rfl ?_
    refine lv_lstore_n (i := 3) hx hb d206_54 rfl hl (by decide) (show _ = [(3, .long v34), (0, .ref y0), (1, .int x1), (2, va_rf x2), (5, .int x5)] by simp [cat_rf, cat_int, cat_ref, cat_null, cat_long]) (fun ls hl => ?_)
    have hl : lv_has ls 7 [(3, .long v34), (0, .ref y0), (1, .int x1), (2, va_rf x2), (5, .int x5)] := hl
    refine lv_goto hx hb d206_55 rfl ?_
    exact b66 k5 hk5 ls x1 x2 v34 x5 h35 z36 _ _ hF (hl.sub [1, 2, 3, 0, 4] rfl) I
  have b5 : ∀ n9 : Nat, ∀ (ls : Array Slot) (x1 : Int32) (x2 : Option Nat) (x3 : Int64) (x5 : Int32) (h : hm_T) (z : hz_T) (H : Heap) (locs : List Loc), w_Walker_goFrom_5 dA y0 K n9 x1 x2 x3 x5 h z → lv_has ls 7 [(0, .ref y0), (1, .int x1), (2, va_rf x2), (3, .long x3), (5, .int x5)] → hm_I D s0 s h z H locs → W p l e { frames := 5, cells := 0, slots := 0, locals := 117 } s m ([.ref y0, .int y1, va_rf y2] : List Value).toArray below meth c H locs 0 0 (MQ below (ht_Q D s0 (fun vv h1 z1 => ∃ v, vv = some (.long v) ∧ K v h1 z1)) ([.ref y0, .int y1, va_rf y2] : List Value).toArray s 0 0 (fun q => s0.heap.size ≤ q)) (F0 m 5 ls []) := by
    intro n9
    induction n9 with
    | zero => intro ls x1 x2 x3 x5 h z H locs hF; cases hF
    | succ n9 hk5 =>
    intro ls x1 x2 x3 x5 h z H locs hF hl I
    unfold w_Walker_goFrom_5 at hF
    refine lv_iload hx hb d206_5 (lv_at hl 4 rfl) ?_
    refine lv_aload_nR hx hb d206_7 rfl (lv_at hl 2 rfl) ?_
    obtain ⟨a21, e9, hF⟩ := hF
    refine W.eq (g2 := F0 m 8 ls [.ref a21, .int x5]) (by rw [e9]; rfl) ?_
    clear e9
    obtain ⟨fs9, v22, c9, e9, hF⟩ := hF
    refine va_get (D := D) (ci := 11) (v := va_rf v22) (C := kR11) (T := kT11) (N := 2) hx hb hts ku11 hown hK (hm_one I.1 c9) 0 rfl rfl 1 (by decide) (hts _ ms_k903) (fun _ h => h) e9 d206_8 ?_
    clear e9 c9 fs9
    obtain ⟨a23, e9, hF⟩ := hF
    refine W.eq (g2 := F0 m 11 ls [.ref a23, .int x5]) (by rw [e9]; rfl) ?_
    clear e9
    obtain ⟨d9, k9, mo9, c9, hF⟩ := hF
    refine ht_V (C := "java/util/ArrayList") (rest := [.int x5]) (as := []) X hl (c_ALsize l D dA s0 hE a23 d9 k9 mo9) (List.forall_mem_cons.mpr ⟨ms_k1096, List.forall_mem_cons.mpr ⟨ms_k595, List.forall_mem_cons.mpr ⟨ms_k596, List.forall_mem_cons.mpr ⟨ms_k18, List.forall_mem_cons.mpr ⟨ms_k597, fun _ h => absurd h List.not_mem_nil⟩⟩⟩⟩⟩) ⟨rfl, by decide +kernel, by decide +kernel, (by decide +kernel : (parseMethodDescriptor "()I").map (fun d => d.parameters.length) = some 0)⟩ (hm_recv hK I rfl c9) I c9 ⟨⟨Nat.le_of_ble_eq_true rfl, Nat.le_of_ble_eq_true rfl⟩, Nat.le_of_ble_eq_true rfl, Nat.le_of_ble_eq_true rfl⟩ rfl (Nat.le_of_ble_eq_true rfl) d206_11 (fun vv h9 z7 H locs hR I9 => ?_)
    obtain ⟨e1, e2, e3⟩ := hR
    rw [e2, e3] at I9
    subst e1
    clear I
    have I := I9
    clear I9 e2 e3 h9 z7
    refine W.eq (g2 := F0 m 14 ls [.int (nI k9), .int x5]) rfl ?_
    generalize (nI k9) = v24 at hF ⊢
    refine lv_icmp_ge hx hb d206_14 rfl (fun h9 => ?_) (fun h9 => ?_)
    · have hF := Eq.mp (if_pos h9) hF
      refine lv_lload_n hx hb d206_72 rfl (lv_at hl 3 rfl) ?_
      exact ht_lret X d206_73 I (Nat.le_of_ble_eq_true rfl) (Nat.le_of_ble_eq_true rfl) ⟨_, rfl, hF⟩
    · have hF := Eq.mp (if_neg h9) hF
      refine lv_aload_nR hx hb d206_17 rfl (lv_at hl 2 rfl) ?_
      obtain ⟨a25, e9, hF⟩ := hF
      refine W.eq (g2 := F0 m 18 ls [.ref a25]) (by rw [e9]; rfl) ?_
      clear e9
      obtain ⟨fs9, v26, c9, e9, hF⟩ := hF
      refine va_get (D := D) (ci := 11) (v := va_rf v26) (C := kR11) (T := kT11) (N := 2) hx hb hts ku11 hown hK (hm_one I.1 c9) 0 rfl rfl 1 (by decide) (hts _ ms_k903) (fun _ h => h) e9 d206_18 ?_
      clear e9 c9 fs9
      refine lv_iload hx hb d206_21 (lv_at hl 4 rfl) ?_
      obtain ⟨a27, e9, hF⟩ := hF
      refine W.eq (g2 := F0 m 23 ls [.int x5, .ref a27]) (by rw [e9]; rfl) ?_
      clear e9
      obtain ⟨d9, k9, mo9, n8, j9, q9, f8, c9, c8, e8, p1, p2, p3, p4, hF⟩ := hF
      refine ms_top (y := nI j9) e8 ?_
      refine ht_V (C := "java/util/ArrayList") (rest := []) (as := [.int (nI j9)]) X hl (c_ALget l D dA s0 hE a27 d9 k9 mo9 n8 j9 q9 f8 p1 p2 p3 p4) (List.forall_mem_cons.mpr ⟨ms_k1097, List.forall_mem_cons.mpr ⟨ms_k599, List.forall_mem_cons.mpr ⟨ms_k600, List.forall_mem_cons.mpr ⟨ms_k18, List.forall_mem_cons.mpr ⟨ms_k601, fun _ h => absurd h List.not_mem_nil⟩⟩⟩⟩⟩) ⟨rfl, by decide +kernel, by decide +kernel, (by decide +kernel : (parseMethodDescriptor "(I)Ljava/lang/Object;").map (fun d => d.parameters.length) = some 1)⟩ (hm_recv hK I rfl c9) I ⟨c9, c8⟩ ⟨⟨Nat.le_of_ble_eq_true rfl, Nat.le_of_ble_eq_true rfl⟩, Nat.le_of_ble_eq_true rfl, Nat.le_of_ble_eq_true rfl⟩ rfl (Nat.le_of_ble_eq_true rfl) d206_23 (fun vv h9 z7 H locs hR I9 => ?_)
      obtain ⟨e1, e2, e3⟩ := hR
      rw [e2, e3] at I9
      subst e1
      clear I
      have I := I9
      clear I9 e2 e3 h9 z7
      refine W.eq (g2 := F0 m 26 ls [.ref q9]) rfl ?_
      generalize q9 = v28 at hF ⊢
      try clear p4
      obtain ⟨fs9, c9, hF⟩ := hF
      refine va_castE hx hb hown (hts _ ms_k1098) (hm_recv hK I rfl c9) d206_26 ?_
      clear c9 fs9
      refine lv_astore hx hb d206_29 hl (by decide) rfl (fun ls hl => ?_)
      have hl : lv_has ls 7 [(6, .ref v28), (0, .ref y0), (1, .int x1), (2, va_rf x2), (3, .long x3), (5, .int x5)] := hl
      refine lv_iload hx hb d206_31 (lv_at hl 5 rfl) ?_
      refine lv_if_ne hx hb d206_33 rfl (fun h9 => ?_) (fun h9 => ?_)
      · have hF := Eq.mp (if_neg h9) hF
        refine lv_aload_n hx hb d206_58 rfl (lv_at hl 1 rfl) ?_
        refine lv_aload hx hb d206_59 (lv_at hl 0 rfl) ?_
        refine lv_lload_n hx hb d206_61 rfl (lv_at hl 4 rfl) ?_
        obtain ⟨fs9, c9, hF⟩ := hF
        refine ht_V (C := "MarkupStore$Walker") (rest := []) (as := [.ref v28, .long x3]) X hl (cw_Walker_leadAll l D dA s0 hE y0 (some v28) x3 h z _ hF) (List.forall_mem_cons.mpr ⟨ms_k1185, List.forall_mem_cons.mpr ⟨ms_k1187, List.forall_mem_cons.mpr ⟨ms_p37, List.forall_mem_cons.mpr ⟨ms_k28, List.forall_mem_cons.mpr ⟨ms_k1188, fun _ h => absurd h List.not_mem_nil⟩⟩⟩⟩⟩) ⟨rfl, by decide +kernel, by decide +kernel, (by decide +kernel : (parseMethodDescriptor "(LMarkupStore$Step;J)J").map (fun d => d.parameters.length) = some 2)⟩ (hm_recv hK I rfl c9) I ⟨rfl, rfl⟩ ⟨⟨Nat.le_of_ble_eq_true rfl, Nat.le_of_ble_eq_true rfl⟩, Nat.le_of_ble_eq_true rfl, Nat.le_of_ble_eq_true rfl⟩ rfl (Nat.le_of_ble_eq_true rfl) d206_62 (fun vv h30 z31 H locs hR I9 => ?_)
        obtain ⟨v29, e1, hF⟩ := hR
        subst e1
        clear I
        have I := I9
        clear I9 c9 fs9
        refine W.eq (g2 := F0 m 65 ls [.long v29]) rfl ?_
        refine lv_lstore_n (i := 3) hx hb d206_65 rfl hl (by decide) (show _ = [(3, .long v29), (6, .ref v28), (0, .ref y0), (1, .int x1), (2, va_rf x2), (5, .int x5)] by simp [cat_rf, cat_int, cat_ref, cat_null, cat_long]) (fun ls hl => ?_)
        have hl : lv_has ls 7 [(3, .long v29), (6, .ref v28), (0, .ref y0), (1, .int x1), (2, va_rf x2), (5, .int x5)] := hl
        exact b66 (w_Walker_goFrom_5 dA y0 K n9) hk5 ls x1 x2 v29 x5 h30 z31 _ _ hF (hl.sub [2, 3, 4, 0, 5] rfl) I
      · have hF := Eq.mp (if_pos h9) hF
        refine lv_aload_n hx hb d206_36 rfl (lv_at hl 1 rfl) ?_
        refine lv_aload hx hb d206_37 (lv_at hl 0 rfl) ?_
        refine lv_aload_nR hx hb d206_39 rfl (lv_at hl 3 rfl) ?_
        obtain ⟨a32, e9, hF⟩ := hF
        refine W.eq (g2 := F0 m 40 ls [.ref a32, .ref v28, .ref y0]) (by rw [e9]; rfl) ?_
        clear e9
        obtain ⟨fs9, v33, c9, e9, hF⟩ := hF
        refine va_get (D := D) (ci := 11) (v := .int v33) (C := kR11) (T := kT11) (N := 2) hx hb hts ku11 hown hK (hm_one I.1 c9) 0 rfl rfl 0 (by decide) (hts _ ms_k901) (fun _ h => h) e9 d206_40 ?_
        clear e9 c9 fs9
        refine lv_if_eq hx hb d206_43 rfl (fun h9 => ?_) (fun h9 => ?_)
        · have hF := Eq.mp (if_pos h9) hF
          refine lv_iload_n hx hb d206_50 rfl (lv_at hl 2 rfl) ?_
          exact b51 (w_Walker_goFrom_5 dA y0 K n9) hk5 ls x1 x2 x5 x1 (some v28) h z _ _ hF (hl.sub [1, 2, 3, 5] rfl) I
        · have hF := Eq.mp (if_neg h9) hF
          refine lv_iconst (v := (-1)) hx hb d206_46 (by decide) ?_
          refine lv_goto hx hb d206_47 rfl ?_
          exact b51 (w_Walker_goFrom_5 dA y0 K n9) hk5 ls x1 x2 x5 (-1) (some v28) h z _ _ hF (hl.sub [1, 2, 3, 5] rfl) I
  have hF := hg
  unfold w_Walker_goFrom at hF
  clear h z
  refine lv_lconst (v := (0 : Int64)) hx hb d206_0 (by decide) ?_
  refine lv_lstore_n (i := 3) hx hb d206_1 rfl hl (by decide) (show _ = [(3, .long (0 : Int64)), (0, .ref y0), (1, .int y1), (2, va_rf y2)] by simp [cat_rf, cat_int, cat_ref, cat_null, cat_long]) (fun ls hl => ?_)
  have hl : lv_has ls 7 [(3, .long (0 : Int64)), (0, .ref y0), (1, .int y1), (2, va_rf y2)] := hl
  refine lv_iconst (v := 0) hx hb d206_2 (by decide) ?_
  refine lv_istore hx hb d206_3 hl (by decide) rfl (fun ls hl => ?_)
  have hl : lv_has ls 7 [(5, .int 0), (3, .long (0 : Int64)), (0, .ref y0), (1, .int y1), (2, va_rf y2)] := hl
  exact b5 mF ls y1 y2 (0 : Int64) 0 h0 z0 _ _ hF (hl.sub [2, 3, 4, 1, 0] rfl) I

def w_Walker_origins_90 (dA : Nat → ClassId) (y0 : Nat) (K : Int64 → hm_T → hz_T → Prop) (k14 : Option Nat → Int64 → Int32 → hm_T → hz_T → Prop) (x1 : Option Nat) (x4 : Int64) (x6 : Int32) (h : hm_T) (z : hz_T) : Prop := (k14 x1 x4 (x6 + (-1)) h z)
def w_Walker_origins_80 (dA : Nat → ClassId) (y0 : Nat) (K : Int64 → hm_T → hz_T → Prop) (k14 : Option Nat → Int64 → Int32 → hm_T → hz_T → Prop) (x1 : Option Nat) (x4 : Int64) (x6 : Int32) (x7 : Option Nat) (h : hm_T) (z : hz_T) : Prop := (cg_c h 14 y0 ((w_Walker_whence dA y0 x7 x4 (fun v29 h30 z31 => (w_Walker_origins_90 dA y0 K k14 x1 v29 x6 h30 z31)) h z)))
def w_Walker_origins_75 (dA : Nat → ClassId) (y0 : Nat) (K : Int64 → hm_T → hz_T → Prop) (k14 : Option Nat → Int64 → Int32 → hm_T → hz_T → Prop) (x1 : Option Nat) (x6 : Int32) (w0 : Int64) (h : hm_T) (z : hz_T) : Prop := (w_Walker_origins_90 dA y0 K k14 x1 w0 x6 h z)
def w_Walker_origins_14 (dA : Nat → ClassId) (y0 : Nat) (K : Int64 → hm_T → hz_T → Prop) : Nat → Option Nat → Int64 → Int32 → hm_T → hz_T → Prop
  | 0, _, _, _, _, _ => False
  | n9 + 1, x1, x4, x6, h, z => (if x6 < 0 then (K x4 h z) else (cg_d x1 (fun a25 => (cg_R h 11 1 a25 (fun v26 => (cg_d v26 (fun a27 => (jd_get dA h a27 x6 (fun v28 => (cg_c h 12 v28 (if x6 = 0 then (cg_d x1 (fun a32 => (cg_I h 11 0 a32 (fun v33 => (if v33 = 0 then (w_Walker_origins_80 dA y0 K (w_Walker_origins_14 dA y0 K n9) x1 x4 x6 (some v28) h z) else (cg_c h 14 y0 ((w_Walker_lead dA y0 (some v28) (-1) (fun v34 h35 z36 => (if (mm_cmp (v34 &&& x4) (0 : Int64)) = 0 then (w_Walker_origins_75 dA y0 K (w_Walker_origins_14 dA y0 K n9) x1 x6 (0 : Int64) h35 z36) else (cg_R h35 14 0 y0 (fun v37 => (cg_d v37 (fun a38 => (cg_I h35 1 3 a38 (fun v39 => (w_Walker_range dA 0 v39 (fun v40 h41 z42 => (w_Walker_origins_75 dA y0 K (w_Walker_origins_14 dA y0 K n9) x1 x6 v40 h41 z42)) h35 z36))))))))) h z)))))))) else (w_Walker_origins_80 dA y0 K (w_Walker_origins_14 dA y0 K n9) x1 x4 x6 (some v28) h z))))))))))))
def w_Walker_origins (dA : Nat → ClassId) (y0 : Nat) (y1 : Option Nat) (y2 : Int64) (K : Int64 → hm_T → hz_T → Prop) (h0 : hm_T) (z0 : hz_T) : Prop := (cg_d y1 (fun a21 => (cg_R h0 11 1 a21 (fun v22 => (cg_d v22 (fun a23 => (jd_sz h0 a23 (fun v24 => (w_Walker_origins_14 dA y0 K mF y1 y2 (v24 - 1) h0 z0)))))))))
set_option maxRecDepth 100000 in
set_option maxHeartbeats 8000000 in
theorem cw_Walker_origins (l : Launch) (D : va_G) (dA : Nat → ClassId) (s0 : State) (hE : ms_EV D dA s0) (y0 : Nat) (y1 : Option Nat) (y2 : Int64) (h0 : hm_T) (z0 : hz_T) (K : Int64 → hm_T → hz_T → Prop) (hg : w_Walker_origins dA y0 y1 y2 K h0 z0) : ht_C l D s0 yM207 bM207 8 (Option.some Jvm.ClassFile.FieldType.long) 5 117 0 0 [.ref y0, va_rf y1, .long y2] (fun h z => h = h0 ∧ z = z0) (fun h z vv h1 z1 => ∃ v, vv = some (.long v) ∧ K v h1 z1) := by
  refine ht_C.mk hE.1 (by decide) (by simp [lg_sl, cat_rf, cat_int, cat_ref, cat_null, cat_long]) [(0, .ref y0), (1, va_rf y1), (2, .long y2)] (by simp [lv_args, cat_rf, cat_int, cat_ref, cat_null, cat_long]) ?_
  intro p e s m below meth c ls h z X hin hpre I hl
  have hx := X.1
  have hb := X.2.1
  have hml := X.2.2.1
  have hown : s.vm.findClass "MarkupStore$Walker" = some m.cls := X.2.2.2.1
  have hts := X.2.2.2.2.2.2.1
  have hK := X.2.2.2.2.2.2.2.2.1
  rw [hpre.1, hpre.2] at I
  clear hpre
  have b90 : ∀ (k14 : Option Nat → Int64 → Int32 → hm_T → hz_T → Prop), (∀ (ls : Array Slot) (x1 : Option Nat) (x4 : Int64) (x6 : Int32) (h : hm_T) (z : hz_T) (H : Heap) (locs : List Loc), k14 x1 x4 x6 h z → lv_has ls 8 [(0, .ref y0), (1, va_rf x1), (4, .long x4), (6, .int x6)] → hm_I D s0 s h z H locs → W p l e { frames := 5, cells := 0, slots := 0, locals := 117 } s m ([.ref y0, va_rf y1, .long y2] : List Value).toArray below meth c H locs 0 0 (MQ below (ht_Q D s0 (fun vv h1 z1 => ∃ v, vv = some (.long v) ∧ K v h1 z1)) ([.ref y0, va_rf y1, .long y2] : List Value).toArray s 0 0 (fun q => s0.heap.size ≤ q)) (F0 m 14 ls [])) → ∀ (ls : Array Slot) (x1 : Option Nat) (x4 : Int64) (x6 : Int32) (h : hm_T) (z : hz_T) (H : Heap) (locs : List Loc), w_Walker_origins_90 dA y0 K k14 x1 x4 x6 h z → lv_has ls 8 [(0, .ref y0), (1, va_rf x1), (4, .long x4), (6, .int x6)] → hm_I D s0 s h z H locs → W p l e { frames := 5, cells := 0, slots := 0, locals := 117 } s m ([.ref y0, va_rf y1, .long y2] : List Value).toArray below meth c H locs 0 0 (MQ below (ht_Q D s0 (fun vv h1 z1 => ∃ v, vv = some (.long v) ∧ K v h1 z1)) ([.ref y0, va_rf y1, .long y2] : List Value).toArray s 0 0 (fun q => s0.heap.size ≤ q)) (F0 m 90 ls []) := by
    intro k14 hk14 ls x1 x4 x6 h z H locs hF hl I
    unfold w_Walker_origins_90 at hF
    refine lv_iinc (k := 3) (v := (x6 + (-1))) hx hb d207_90 hl rfl (rfl) (by decide) rfl (fun ls hl => ?_)
    have hl : lv_has ls 8 [(6, .int (x6 + (-1))), (0, .ref y0), (1, va_rf x1), (4, .long x4)] := hl
    refine lv_goto hx hb d207_93 rfl ?_
    exact hk14 ls x1 x4 (x6 + (-1)) h z _ _ hF (hl.sub [1, 2, 3, 0] rfl) I
  have b80 : ∀ (k14 : Option Nat → Int64 → Int32 → hm_T → hz_T → Prop), (∀ (ls : Array Slot) (x1 : Option Nat) (x4 : Int64) (x6 : Int32) (h : hm_T) (z : hz_T) (H : Heap) (locs : List Loc), k14 x1 x4 x6 h z → lv_has ls 8 [(0, .ref y0), (1, va_rf x1), (4, .long x4), (6, .int x6)] → hm_I D s0 s h z H locs → W p l e { frames := 5, cells := 0, slots := 0, locals := 117 } s m ([.ref y0, va_rf y1, .long y2] : List Value).toArray below meth c H locs 0 0 (MQ below (ht_Q D s0 (fun vv h1 z1 => ∃ v, vv = some (.long v) ∧ K v h1 z1)) ([.ref y0, va_rf y1, .long y2] : List Value).toArray s 0 0 (fun q => s0.heap.size ≤ q)) (F0 m 14 ls [])) → ∀ (ls : Array Slot) (x1 : Option Nat) (x4 : Int64) (x6 : Int32) (x7 : Option Nat) (h : hm_T) (z : hz_T) (H : Heap) (locs : List Loc), w_Walker_origins_80 dA y0 K k14 x1 x4 x6 x7 h z → lv_has ls 8 [(0, .ref y0), (1, va_rf x1), (4, .long x4), (6, .int x6), (7, va_rf x7)] → hm_I D s0 s h z H locs → W p l e { frames := 5, cells := 0, slots := 0, locals := 117 } s m ([.ref y0, va_rf y1, .long y2] : List Value).toArray below meth c H locs 0 0 (MQ below (ht_Q D s0 (fun vv h1 z1 => ∃ v, vv = some (.long v) ∧ K v h1 z1)) ([.ref y0, va_rf y1, .long y2] : List Value).toArray s 0 0 (fun q => s0.heap.size ≤ q)) (F0 m 80 ls []) := by
    intro k14 hk14 ls x1 x4 x6 x7 h z H locs hF hl I
    unfold w_Walker_origins_80 at hF
    refine lv_aload_n hx hb d207_80 rfl (lv_at hl 0 rfl) ?_
    refine lv_aloadR hx hb d207_81 (lv_at hl 4 rfl) ?_
    refine lv_lload hx hb d207_83 (lv_at hl 2 rfl) ?_
    obtain ⟨fs9, c9, hF⟩ := hF
    refine ht_V (C := "MarkupStore$Walker") (rest := []) (as := [va_rf x7, .long x4]) X hl (cw_Walker_whence l D dA s0 hE y0 x7 x4 h z _ hF) (List.forall_mem_cons.mpr ⟨ms_k1177, List.forall_mem_cons.mpr ⟨ms_k1179, List.forall_mem_cons.mpr ⟨ms_p36, List.forall_mem_cons.mpr ⟨ms_k28, List.forall_mem_cons.mpr ⟨ms_k1180, fun _ h => absurd h List.not_mem_nil⟩⟩⟩⟩⟩) ⟨rfl, by decide +kernel, by decide +kernel, (by decide +kernel : (parseMethodDescriptor "(LMarkupStore$Step;J)J").map (fun d => d.parameters.length) = some 2)⟩ (hm_recv hK I rfl c9) I ⟨rfl, rfl⟩ ⟨⟨Nat.le_of_ble_eq_true rfl, Nat.le_of_ble_eq_true rfl⟩, Nat.le_of_ble_eq_true rfl, Nat.le_of_ble_eq_true rfl⟩ rfl (Nat.le_of_ble_eq_true rfl) d207_85 (fun vv h30 z31 H locs hR I9 => ?_)
    obtain ⟨v29, e1, hF⟩ := hR
    subst e1
    clear I
    have I := I9
    clear I9 c9 fs9
    refine W.eq (g2 := F0 m 88 ls [.long v29]) rfl ?_
    refine lv_lstore hx hb d207_88 hl (by decide) rfl (fun ls hl => ?_)
    have hl : lv_has ls 8 [(4, .long v29), (0, .ref y0), (1, va_rf x1), (6, .int x6), (7, va_rf x7)] := hl
    exact b90 k14 hk14 ls x1 v29 x6 h30 z31 _ _ hF (hl.sub [1, 2, 0, 3] rfl) I
  have b75 : ∀ (k14 : Option Nat → Int64 → Int32 → hm_T → hz_T → Prop), (∀ (ls : Array Slot) (x1 : Option Nat) (x4 : Int64) (x6 : Int32) (h : hm_T) (z : hz_T) (H : Heap) (locs : List Loc), k14 x1 x4 x6 h z → lv_has ls 8 [(0, .ref y0), (1, va_rf x1), (4, .long x4), (6, .int x6)] → hm_I D s0 s h z H locs → W p l e { frames := 5, cells := 0, slots := 0, locals := 117 } s m ([.ref y0, va_rf y1, .long y2] : List Value).toArray below meth c H locs 0 0 (MQ below (ht_Q D s0 (fun vv h1 z1 => ∃ v, vv = some (.long v) ∧ K v h1 z1)) ([.ref y0, va_rf y1, .long y2] : List Value).toArray s 0 0 (fun q => s0.heap.size ≤ q)) (F0 m 14 ls [])) → ∀ (ls : Array Slot) (x1 : Option Nat) (x6 : Int32) (w0 : Int64) (h : hm_T) (z : hz_T) (H : Heap) (locs : List Loc), w_Walker_origins_75 dA y0 K k14 x1 x6 w0 h z → lv_has ls 8 [(0, .ref y0), (1, va_rf x1), (6, .int x6)] → hm_I D s0 s h z H locs → W p l e { frames := 5, cells := 0, slots := 0, locals := 117 } s m ([.ref y0, va_rf y1, .long y2] : List Value).toArray below meth c H locs 0 0 (MQ below (ht_Q D s0 (fun vv h1 z1 => ∃ v, vv = some (.long v) ∧ K v h1 z1)) ([.ref y0, va_rf y1, .long y2] : List Value).toArray s 0 0 (fun q => s0.heap.size ≤ q)) (F0 m 75 ls [.long w0]) := by
    intro k14 hk14 ls x1 x6 w0 h z H locs hF hl I
    unfold w_Walker_origins_75 at hF
    refine lv_lstore hx hb d207_75 hl (by decide) rfl (fun ls hl => ?_)
    have hl : lv_has ls 8 [(4, .long w0), (0, .ref y0), (1, va_rf x1), (6, .int x6)] := hl
    refine lv_goto hx hb d207_77 rfl ?_
    exact b90 k14 hk14 ls x1 w0 x6 h z _ _ hF (hl.sub [1, 2, 0, 3] rfl) I
  have b14 : ∀ n9 : Nat, ∀ (ls : Array Slot) (x1 : Option Nat) (x4 : Int64) (x6 : Int32) (h : hm_T) (z : hz_T) (H : Heap) (locs : List Loc), w_Walker_origins_14 dA y0 K n9 x1 x4 x6 h z → lv_has ls 8 [(0, .ref y0), (1, va_rf x1), (4, .long x4), (6, .int x6)] → hm_I D s0 s h z H locs → W p l e { frames := 5, cells := 0, slots := 0, locals := 117 } s m ([.ref y0, va_rf y1, .long y2] : List Value).toArray below meth c H locs 0 0 (MQ below (ht_Q D s0 (fun vv h1 z1 => ∃ v, vv = some (.long v) ∧ K v h1 z1)) ([.ref y0, va_rf y1, .long y2] : List Value).toArray s 0 0 (fun q => s0.heap.size ≤ q)) (F0 m 14 ls []) := by
    intro n9
    induction n9 with
    | zero => intro ls x1 x4 x6 h z H locs hF; cases hF
    | succ n9 hk14 =>
    intro ls x1 x4 x6 h z H locs hF hl I
    unfold w_Walker_origins_14 at hF
    refine lv_iload hx hb d207_14 (lv_at hl 3 rfl) ?_
    refine lv_if_lt hx hb d207_16 rfl (fun h9 => ?_) (fun h9 => ?_)
    · have hF := Eq.mp (if_pos h9) hF
      refine lv_lload hx hb d207_96 (lv_at hl 2 rfl) ?_
      exact ht_lret X d207_98 I (Nat.le_of_ble_eq_true rfl) (Nat.le_of_ble_eq_true rfl) ⟨_, rfl, hF⟩
    · have hF := Eq.mp (if_neg h9) hF
      refine lv_aload_nR hx hb d207_19 rfl (lv_at hl 1 rfl) ?_
      obtain ⟨a25, e9, hF⟩ := hF
      refine W.eq (g2 := F0 m 20 ls [.ref a25]) (by rw [e9]; rfl) ?_
      clear e9
      obtain ⟨fs9, v26, c9, e9, hF⟩ := hF
      refine va_get (D := D) (ci := 11) (v := va_rf v26) (C := kR11) (T := kT11) (N := 2) hx hb hts ku11 hown hK (hm_one I.1 c9) 0 rfl rfl 1 (by decide) (hts _ ms_k903) (fun _ h => h) e9 d207_20 ?_
      clear e9 c9 fs9
      refine lv_iload hx hb d207_23 (lv_at hl 3 rfl) ?_
      obtain ⟨a27, e9, hF⟩ := hF
      refine W.eq (g2 := F0 m 25 ls [.int x6, .ref a27]) (by rw [e9]; rfl) ?_
      clear e9
      obtain ⟨d9, k9, mo9, n8, j9, q9, f8, c9, c8, e8, p1, p2, p3, p4, hF⟩ := hF
      refine ms_top (y := nI j9) e8 ?_
      refine ht_V (C := "java/util/ArrayList") (rest := []) (as := [.int (nI j9)]) X hl (c_ALget l D dA s0 hE a27 d9 k9 mo9 n8 j9 q9 f8 p1 p2 p3 p4) (List.forall_mem_cons.mpr ⟨ms_k1097, List.forall_mem_cons.mpr ⟨ms_k599, List.forall_mem_cons.mpr ⟨ms_k600, List.forall_mem_cons.mpr ⟨ms_k18, List.forall_mem_cons.mpr ⟨ms_k601, fun _ h => absurd h List.not_mem_nil⟩⟩⟩⟩⟩) ⟨rfl, by decide +kernel, by decide +kernel, (by decide +kernel : (parseMethodDescriptor "(I)Ljava/lang/Object;").map (fun d => d.parameters.length) = some 1)⟩ (hm_recv hK I rfl c9) I ⟨c9, c8⟩ ⟨⟨Nat.le_of_ble_eq_true rfl, Nat.le_of_ble_eq_true rfl⟩, Nat.le_of_ble_eq_true rfl, Nat.le_of_ble_eq_true rfl⟩ rfl (Nat.le_of_ble_eq_true rfl) d207_25 (fun vv h9 z7 H locs hR I9 => ?_)
      obtain ⟨e1, e2, e3⟩ := hR
      rw [e2, e3] at I9
      subst e1
      clear I
      have I := I9
      clear I9 e2 e3 h9 z7
      refine W.eq (g2 := F0 m 28 ls [.ref q9]) rfl ?_
      generalize q9 = v28 at hF ⊢
      try clear p4
      obtain ⟨fs9, c9, hF⟩ := hF
      refine va_castE hx hb hown (hts _ ms_k1098) (hm_recv hK I rfl c9) d207_28 ?_
      clear c9 fs9
      refine lv_astore hx hb d207_31 hl (by decide) rfl (fun ls hl => ?_)
      have hl : lv_has ls 8 [(7, .ref v28), (0, .ref y0), (1, va_rf x1), (4, .long x4), (6, .int x6)] := hl
      refine lv_iload hx hb d207_33 (lv_at hl 4 rfl) ?_
      refine lv_if_ne hx hb d207_35 rfl (fun h9 => ?_) (fun h9 => ?_)
      · have hF := Eq.mp (if_neg h9) hF
        exact b80 (w_Walker_origins_14 dA y0 K n9) hk14 ls x1 x4 x6 (some v28) h z _ _ hF (hl.sub [1, 2, 3, 4, 0] rfl) I
      · have hF := Eq.mp (if_pos h9) hF
        refine lv_aload_nR hx hb d207_38 rfl (lv_at hl 2 rfl) ?_
        obtain ⟨a32, e9, hF⟩ := hF
        refine W.eq (g2 := F0 m 39 ls [.ref a32]) (by rw [e9]; rfl) ?_
        clear e9
        obtain ⟨fs9, v33, c9, e9, hF⟩ := hF
        refine va_get (D := D) (ci := 11) (v := .int v33) (C := kR11) (T := kT11) (N := 2) hx hb hts ku11 hown hK (hm_one I.1 c9) 0 rfl rfl 0 (by decide) (hts _ ms_k901) (fun _ h => h) e9 d207_39 ?_
        clear e9 c9 fs9
        refine lv_if_eq hx hb d207_42 rfl (fun h9 => ?_) (fun h9 => ?_)
        · have hF := Eq.mp (if_pos h9) hF
          exact b80 (w_Walker_origins_14 dA y0 K n9) hk14 ls x1 x4 x6 (some v28) h z _ _ hF (hl.sub [1, 2, 3, 4, 0] rfl) I
        · have hF := Eq.mp (if_neg h9) hF
          refine lv_aload_n hx hb d207_45 rfl (lv_at hl 1 rfl) ?_
          refine lv_aload hx hb d207_46 (lv_at hl 0 rfl) ?_
          refine lv_iconst (v := (-1)) hx hb d207_48 (by decide) ?_
          obtain ⟨fs9, c9, hF⟩ := hF
          refine ht_V (C := "MarkupStore$Walker") (rest := []) (as := [.ref v28, .int (-1)]) X hl (cw_Walker_lead l D dA s0 hE y0 (some v28) (-1) h z _ hF) (List.forall_mem_cons.mpr ⟨ms_k1138, List.forall_mem_cons.mpr ⟨ms_k1140, List.forall_mem_cons.mpr ⟨ms_p29, List.forall_mem_cons.mpr ⟨ms_k28, List.forall_mem_cons.mpr ⟨ms_k1141, fun _ h => absurd h List.not_mem_nil⟩⟩⟩⟩⟩) ⟨rfl, by decide +kernel, by decide +kernel, (by decide +kernel : (parseMethodDescriptor "(LMarkupStore$Step;I)J").map (fun d => d.parameters.length) = some 2)⟩ (hm_recv hK I rfl c9) I ⟨rfl, rfl⟩ ⟨⟨Nat.le_of_ble_eq_true rfl, Nat.le_of_ble_eq_true rfl⟩, Nat.le_of_ble_eq_true rfl, Nat.le_of_ble_eq_true rfl⟩ rfl (Nat.le_of_ble_eq_true rfl) d207_49 (fun vv h35 z36 H locs hR I9 => ?_)
          obtain ⟨v34, e1, hF⟩ := hR
          subst e1
          clear I
          have I := I9
          clear I9 c9 fs9
          refine W.eq (g2 := F0 m 52 ls [.long v34]) rfl ?_
          refine lv_lload hx hb d207_52 (lv_at hl 3 rfl) ?_
          refine lv_land hx hb d207_54 ?_
          refine lv_lconst (v := (0 : Int64)) hx hb d207_55 (by decide) ?_
          refine lv_lcmp hx hb d207_56 ?_
          refine lv_if_eq hx hb d207_57 rfl (fun h9 => ?_) (fun h9 => ?_)
          · have hF := Eq.mp (if_pos h9) hF
            refine lv_lconst (v := (0 : Int64)) hx hb d207_74 (by decide) ?_
            exact b75 (w_Walker_origins_14 dA y0 K n9) hk14 ls x1 x6 (0 : Int64) h35 z36 _ _ hF (hl.sub [1, 2, 4] rfl) I
          · have hF := Eq.mp (if_neg h9) hF
            refine lv_iconst (v := 0) hx hb d207_60 (by decide) ?_
            refine lv_aload_n hx hb d207_61 rfl (lv_at hl 1 rfl) ?_
            obtain ⟨fs9, v37, c9, e9, hF⟩ := hF
            refine va_get (D := D) (ci := 14) (v := va_rf v37) (C := kR14) (T := kT14) (N := 1) hx hb hts ku14 hown hK (hm_one I.1 c9) 0 rfl rfl 0 (by decide) (hts _ ms_k1088) (fun _ h => h) e9 d207_62 ?_
            clear e9 c9 fs9
            obtain ⟨a38, e9, hF⟩ := hF
            refine W.eq (g2 := F0 m 65 ls [.ref a38, .int 0]) (by rw [e9]; rfl) ?_
            clear e9
            obtain ⟨fs9, v39, c9, e9, hF⟩ := hF
            refine va_get (D := D) (ci := 1) (v := .int v39) (C := kR1) (T := kT1) (N := 6) hx hb hts ku1 hown hK (hm_one I.1 c9) 0 rfl rfl 3 (by decide) (hts _ ms_k88) (fun _ h => h) e9 d207_65 ?_
            clear e9 c9 fs9
            refine ht_S (rest := []) (as := [.int 0, .int v39]) X hl (cw_Walker_range l D dA s0 hE 0 v39 h35 z36 _ hF) (List.forall_mem_cons.mpr ⟨ms_k1124, List.forall_mem_cons.mpr ⟨ms_k1125, List.forall_mem_cons.mpr ⟨ms_k28, List.forall_mem_cons.mpr ⟨ms_k1126, fun _ h => absurd h List.not_mem_nil⟩⟩⟩⟩) ⟨by decide +kernel, by decide +kernel, (by decide +kernel : (parseMethodDescriptor "(II)J").map (fun d => d.parameters.length) = some 2)⟩ I ⟨rfl, rfl⟩ ⟨⟨Nat.le_of_ble_eq_true rfl, Nat.le_of_ble_eq_true rfl⟩, Nat.le_of_ble_eq_true rfl, Nat.le_of_ble_eq_true rfl⟩ rfl (Nat.le_of_ble_eq_true rfl) d207_68 (fun vv h41 z42 H locs hR I9 => ?_)
            obtain ⟨v40, e1, hF⟩ := hR
            subst e1
            clear I
            have I := I9
            clear I9
            refine W.eq (g2 := F0 m 71 ls [.long v40]) rfl ?_
            refine lv_goto hx hb d207_71 rfl ?_
            exact b75 (w_Walker_origins_14 dA y0 K n9) hk14 ls x1 x6 v40 h41 z42 _ _ hF (hl.sub [1, 2, 4] rfl) I
  have hF := hg
  unfold w_Walker_origins at hF
  clear h z
  refine lv_lload_n hx hb d207_0 rfl (lv_at hl 2 rfl) ?_
  refine lv_lstore hx hb d207_1 hl (by decide) rfl (fun ls hl => ?_)
  have hl : lv_has ls 8 [(4, .long y2), (0, .ref y0), (1, va_rf y1), (2, .long y2)] := hl
  refine lv_aload_nR hx hb d207_3 rfl (lv_at hl 2 rfl) ?_
  obtain ⟨a21, e9, hF⟩ := hF
  refine W.eq (g2 := F0 m 4 ls [.ref a21]) (by rw [e9]; rfl) ?_
  clear e9
  obtain ⟨fs9, v22, c9, e9, hF⟩ := hF
  refine va_get (D := D) (ci := 11) (v := va_rf v22) (C := kR11) (T := kT11) (N := 2) hx hb hts ku11 hown hK (hm_one I.1 c9) 0 rfl rfl 1 (by decide) (hts _ ms_k903) (fun _ h => h) e9 d207_4 ?_
  clear e9 c9 fs9
  obtain ⟨a23, e9, hF⟩ := hF
  refine W.eq (g2 := F0 m 7 ls [.ref a23]) (by rw [e9]; rfl) ?_
  clear e9
  obtain ⟨d9, k9, mo9, c9, hF⟩ := hF
  refine ht_V (C := "java/util/ArrayList") (rest := []) (as := []) X hl (c_ALsize l D dA s0 hE a23 d9 k9 mo9) (List.forall_mem_cons.mpr ⟨ms_k1096, List.forall_mem_cons.mpr ⟨ms_k595, List.forall_mem_cons.mpr ⟨ms_k596, List.forall_mem_cons.mpr ⟨ms_k18, List.forall_mem_cons.mpr ⟨ms_k597, fun _ h => absurd h List.not_mem_nil⟩⟩⟩⟩⟩) ⟨rfl, by decide +kernel, by decide +kernel, (by decide +kernel : (parseMethodDescriptor "()I").map (fun d => d.parameters.length) = some 0)⟩ (hm_recv hK I rfl c9) I c9 ⟨⟨Nat.le_of_ble_eq_true rfl, Nat.le_of_ble_eq_true rfl⟩, Nat.le_of_ble_eq_true rfl, Nat.le_of_ble_eq_true rfl⟩ rfl (Nat.le_of_ble_eq_true rfl) d207_7 (fun vv h9 z7 H locs hR I9 => ?_)
  obtain ⟨e1, e2, e3⟩ := hR
  rw [e2, e3] at I9
  subst e1
  clear I
  have I := I9
  clear I9 e2 e3 h9 z7
  refine W.eq (g2 := F0 m 10 ls [.int (nI k9)]) rfl ?_
  generalize (nI k9) = v24 at hF ⊢
  refine lv_iconst (v := 1) hx hb d207_10 (by decide) ?_
  refine lv_isub hx hb d207_11 ?_
  refine lv_istore hx hb d207_12 hl (by decide) rfl (fun ls hl => ?_)
  have hl : lv_has ls 8 [(6, .int (v24 - 1)), (4, .long y2), (0, .ref y0), (1, va_rf y1), (2, .long y2)] := hl
  exact b14 mF ls y1 y2 (v24 - 1) h0 z0 _ _ hF (hl.sub [2, 3, 1, 0] rfl) I
