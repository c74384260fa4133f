theorem ms_k21 : (Jvm.Cond.initialized "java/lang/Record") ∈ ms_tb := ms_i1 21 (by decide +kernel) (by decide +kernel)
theorem ms_k24 : (Jvm.Cond.initialized "MarkupStore$Path") ∈ ms_tb := ms_i1 24 (by decide +kernel) (by decide +kernel)
theorem ms_k27 : (Jvm.Cond.initialized "MarkupStore$Predicate") ∈ ms_tb := ms_i1 27 (by decide +kernel) (by decide +kernel)
theorem ms_k36 : (Jvm.Cond.methodLink "MarkupStore" (1 : Nat) ({ cls := "java/lang/Object", name := "<init>", desc := "()V" } : Jvm.MethodName)) ∈ ms_tb := ms_i1 36 (by decide +kernel) (by decide +kernel)
theorem ms_k39 : (Jvm.Cond.classLink "MarkupStore" (7 : Nat) "java/lang/StringBuilder") ∈ ms_tb := ms_i1 39 (by decide +kernel) (by decide +kernel)
theorem ms_k40 : (Jvm.Cond.instantiable "java/lang/StringBuilder" (4 : Nat)) ∈ ms_tb := ms_i1 40 (by decide +kernel) (by decide +kernel)
theorem ms_k41 : (Jvm.Cond.methodLink "MarkupStore" (9 : Nat) ({ cls := "java/lang/StringBuilder", name := "<init>", desc := "()V" } : Jvm.MethodName)) ∈ ms_tb := ms_i1 41 (by decide +kernel) (by decide +kernel)
theorem ms_k42 : (Jvm.Cond.instanceMethod ({ cls := "java/lang/StringBuilder", name := "<init>", desc := "()V" } : Jvm.MethodName)) ∈ ms_tb := ms_i1 42 (by decide +kernel) (by decide +kernel)
theorem ms_k43 : (Jvm.Cond.code ({ cls := "java/lang/StringBuilder", name := "<init>", desc := "()V" } : Jvm.MethodName) prog_24_method_1_code (1 : Nat) (Option.none : Option Jvm.ClassFile.FieldType)) ∈ ms_tb := ms_i1 43 (by decide +kernel) (by decide +kernel)
theorem ms_k72 : (Jvm.Cond.classLink "MarkupStore" (19 : Nat) "MarkupStore$Tree") ∈ ms_tb := ms_i1 72 (by decide +kernel) (by decide +kernel)
theorem ms_k73 : (Jvm.Cond.instantiable "MarkupStore$Tree" (6 : Nat)) ∈ ms_tb := ms_i1 73 (by decide +kernel) (by decide +kernel)
theorem ms_k74 : (Jvm.Cond.methodLink "MarkupStore" (21 : Nat) ({ cls := "MarkupStore$Tree", name := "<init>", desc := "()V" } : Jvm.MethodName)) ∈ ms_tb := ms_i1 74 (by decide +kernel) (by decide +kernel)
theorem ms_k75 : (Jvm.Cond.instanceMethod ({ cls := "MarkupStore$Tree", name := "<init>", desc := "()V" } : Jvm.MethodName)) ∈ ms_tb := ms_i1 75 (by decide +kernel) (by decide +kernel)
theorem ms_k76 : (Jvm.Cond.code ({ cls := "MarkupStore$Tree", name := "<init>", desc := "()V" } : Jvm.MethodName) prog_11_method_1_code (1 : Nat) (Option.none : Option Jvm.ClassFile.FieldType)) ∈ ms_tb := ms_i1 76 (by decide +kernel) (by decide +kernel)
theorem ms_k77 : (Jvm.Cond.methodLink "MarkupStore$Tree" (3 : Nat) ({ cls := "java/lang/Object", name := "<init>", desc := "()V" } : Jvm.MethodName)) ∈ ms_tb := ms_i1 77 (by decide +kernel) (by decide +kernel)
theorem ms_k105 : (Jvm.Cond.fieldLink "MarkupStore" (10 : Nat) "MarkupStore" "buffer" "Ljava/lang/StringBuilder;") ∈ ms_tb := ms_i1 105 (by decide +kernel) (by decide +kernel)
theorem ms_k106 : (Jvm.Cond.fieldLink "MarkupStore" (16 : Nat) "MarkupStore" "scratch" "Ljava/lang/StringBuilder;") ∈ ms_tb := ms_i1 106 (by decide +kernel) (by decide +kernel)
theorem ms_k129 : (Jvm.Cond.methodLink "MarkupStore" (37 : Nat) ({ cls := "java/lang/StringBuilder", name := "length", desc := "()I" } : Jvm.MethodName)) ∈ ms_tb := ms_i1 129 (by decide +kernel) (by decide +kernel)
theorem ms_k131 : (Jvm.Cond.selects "java/lang/StringBuilder" ({ cls := "java/lang/StringBuilder", name := "length", desc := "()I" } : Jvm.MethodName) ({ cls := "java/lang/StringBuilder", name := "length", desc := "()I" } : Jvm.MethodName)) ∈ ms_tb := ms_i1 131 (by decide +kernel) (by decide +kernel)
theorem ms_k136 : (Jvm.Cond.methodLink "MarkupStore" (41 : Nat) ({ cls := "java/lang/StringBuilder", name := "append", desc := "(C)Ljava/lang/StringBuilder;" } : Jvm.MethodName)) ∈ ms_tb := ms_i1 136 (by decide +kernel) (by decide +kernel)
theorem ms_k137 : (Jvm.Cond.instanceMethod ({ cls := "java/lang/StringBuilder", name := "append", desc := "(C)Ljava/lang/StringBuilder;" } : Jvm.MethodName)) ∈ ms_tb := ms_i1 137 (by decide +kernel) (by decide +kernel)
theorem ms_k138 : (Jvm.Cond.selects "java/lang/StringBuilder" ({ cls := "java/lang/StringBuilder", name := "append", desc := "(C)Ljava/lang/StringBuilder;" } : Jvm.MethodName) ({ cls := "java/lang/StringBuilder", name := "append", desc := "(C)Ljava/lang/StringBuilder;" } : Jvm.MethodName)) ∈ ms_tb := ms_i1 138 (by decide +kernel) (by decide +kernel)
theorem ms_k139 : (Jvm.Cond.code ({ cls := "java/lang/StringBuilder", name := "append", desc := "(C)Ljava/lang/StringBuilder;" } : Jvm.MethodName) prog_24_method_14_code (2 : Nat) (Option.some (Jvm.ClassFile.FieldType.object "java/lang/StringBuilder"))) ∈ ms_tb := ms_i1 139 (by decide +kernel) (by decide +kernel)
theorem ms_k235 : (Jvm.Cond.classLink "MarkupStore" (45 : Nat) "MarkupStore$MarkupReader") ∈ ms_tb := ms_i1 235 (by decide +kernel) (by decide +kernel)
theorem ms_k236 : (Jvm.Cond.instantiable "MarkupStore$MarkupReader" (6 : Nat)) ∈ ms_tb := ms_i1 236 (by decide +kernel) (by decide +kernel)
theorem ms_k237 : (Jvm.Cond.methodLink "MarkupStore" (47 : Nat) ({ cls := "MarkupStore", name := "useBuffer", desc := "()Ljava/lang/String;" } : Jvm.MethodName)) ∈ ms_tb := ms_i1 237 (by decide +kernel) (by decide +kernel)
theorem ms_k239 : (Jvm.Cond.instanceMethod ({ cls := "MarkupStore", name := "useBuffer", desc := "()Ljava/lang/String;" } : Jvm.MethodName)) ∈ ms_tb := ms_i1 239 (by decide +kernel) (by decide +kernel)
theorem ms_k240 : (Jvm.Cond.code ({ cls := "MarkupStore", name := "useBuffer", desc := "()Ljava/lang/String;" } : Jvm.MethodName) prog_1_method_19_code (2 : Nat) (Option.some (Jvm.ClassFile.FieldType.object "java/lang/String"))) ∈ ms_tb := ms_i2 0 (by decide +kernel) (by decide +kernel)
theorem ms_k241 : (Jvm.Cond.methodLink "MarkupStore" (233 : Nat) ({ cls := "java/lang/StringBuilder", name := "toString", desc := "()Ljava/lang/String;" } : Jvm.MethodName)) ∈ ms_tb := ms_i2 1 (by decide +kernel) (by decide +kernel)
theorem ms_k242 : (Jvm.Cond.instanceMethod ({ cls := "java/lang/StringBuilder", name := "toString", desc := "()Ljava/lang/String;" } : Jvm.MethodName)) ∈ ms_tb := ms_i2 2 (by decide +kernel) (by decide +kernel)
theorem ms_k243 : (Jvm.Cond.selects "java/lang/StringBuilder" ({ cls := "java/lang/StringBuilder", name := "toString", desc := "()Ljava/lang/String;" } : Jvm.MethodName) ({ cls := "java/lang/StringBuilder", name := "toString", desc := "()Ljava/lang/String;" } : Jvm.MethodName)) ∈ ms_tb := ms_i2 3 (by decide +kernel) (by decide +kernel)
theorem ms_k244 : (Jvm.Cond.code ({ cls := "java/lang/StringBuilder", name := "toString", desc := "()Ljava/lang/String;" } : Jvm.MethodName) prog_24_method_42_code (1 : Nat) (Option.some (Jvm.ClassFile.FieldType.object "java/lang/String"))) ∈ ms_tb := ms_i2 4 (by decide +kernel) (by decide +kernel)
theorem ms_k295 : (Jvm.Cond.methodLink "MarkupStore" (190 : Nat) ({ cls := "java/lang/StringBuilder", name := "setLength", desc := "(I)V" } : Jvm.MethodName)) ∈ ms_tb := ms_i2 55 (by decide +kernel) (by decide +kernel)
theorem ms_k296 : (Jvm.Cond.instanceMethod ({ cls := "java/lang/StringBuilder", name := "setLength", desc := "(I)V" } : Jvm.MethodName)) ∈ ms_tb := ms_i2 56 (by decide +kernel) (by decide +kernel)
theorem ms_k297 : (Jvm.Cond.selects "java/lang/StringBuilder" ({ cls := "java/lang/StringBuilder", name := "setLength", desc := "(I)V" } : Jvm.MethodName) ({ cls := "java/lang/StringBuilder", name := "setLength", desc := "(I)V" } : Jvm.MethodName)) ∈ ms_tb := ms_i2 57 (by decide +kernel) (by decide +kernel)
theorem ms_k298 : (Jvm.Cond.code ({ cls := "java/lang/StringBuilder", name := "setLength", desc := "(I)V" } : Jvm.MethodName) prog_24_method_89_code (2 : Nat) (Option.none : Option Jvm.ClassFile.FieldType)) ∈ ms_tb := ms_i2 58 (by decide +kernel) (by decide +kernel)
theorem ms_k315 : (Jvm.Cond.methodLink "MarkupStore" (51 : Nat) ({ cls := "MarkupStore$MarkupReader", name := "<init>", desc := "(Ljava/lang/String;Ljava/lang/StringBuilder;)V" } : Jvm.MethodName)) ∈ ms_tb := ms_i2 75 (by decide +kernel) (by decide +kernel)
theorem ms_k316 : (Jvm.Cond.instanceMethod ({ cls := "MarkupStore$MarkupReader", name := "<init>", desc := "(Ljava/lang/String;Ljava/lang/StringBuilder;)V" } : Jvm.MethodName)) ∈ ms_tb := ms_i2 76 (by decide +kernel) (by decide +kernel)
theorem ms_k317 : (Jvm.Cond.code ({ cls := "MarkupStore$MarkupReader", name := "<init>", desc := "(Ljava/lang/String;Ljava/lang/StringBuilder;)V" } : Jvm.MethodName) prog_3_method_1_code (3 : Nat) (Option.none : Option Jvm.ClassFile.FieldType)) ∈ ms_tb := ms_i2 77 (by decide +kernel) (by decide +kernel)
theorem ms_k318 : (Jvm.Cond.methodLink "MarkupStore$MarkupReader" (3 : Nat) ({ cls := "MarkupStore$TextReader", name := "<init>", desc := "(Ljava/lang/String;)V" } : Jvm.MethodName)) ∈ ms_tb := ms_i2 78 (by decide +kernel) (by decide +kernel)
theorem ms_k319 : (Jvm.Cond.instanceMethod ({ cls := "MarkupStore$TextReader", name := "<init>", desc := "(Ljava/lang/String;)V" } : Jvm.MethodName)) ∈ ms_tb := ms_i2 79 (by decide +kernel) (by decide +kernel)
theorem ms_k320 : (Jvm.Cond.code ({ cls := "MarkupStore$TextReader", name := "<init>", desc := "(Ljava/lang/String;)V" } : Jvm.MethodName) prog_10_method_1_code (2 : Nat) (Option.none : Option Jvm.ClassFile.FieldType)) ∈ ms_tb := ms_i2 80 (by decide +kernel) (by decide +kernel)
theorem ms_k322 : (Jvm.Cond.classLink "MarkupStore$MarkupReader" (9 : Nat) "java/util/ArrayList") ∈ ms_tb := ms_i2 82 (by decide +kernel) (by decide +kernel)
theorem ms_k323 : (Jvm.Cond.instantiable "java/util/ArrayList" (3 : Nat)) ∈ ms_tb := ms_i2 83 (by decide +kernel) (by decide +kernel)
theorem ms_k324 : (Jvm.Cond.methodLink "MarkupStore$MarkupReader" (11 : Nat) ({ cls := "java/util/ArrayList", name := "<init>", desc := "()V" } : Jvm.MethodName)) ∈ ms_tb := ms_i2 84 (by decide +kernel) (by decide +kernel)
theorem ms_k325 : (Jvm.Cond.instanceMethod ({ cls := "java/util/ArrayList", name := "<init>", desc := "()V" } : Jvm.MethodName)) ∈ ms_tb := ms_i2 85 (by decide +kernel) (by decide +kernel)
theorem ms_k326 : (Jvm.Cond.code ({ cls := "java/util/ArrayList", name := "<init>", desc := "()V" } : Jvm.MethodName) prog_30_method_2_code (1 : Nat) (Option.none : Option Jvm.ClassFile.FieldType)) ∈ ms_tb := ms_i2 86 (by decide +kernel) (by decide +kernel)
theorem ms_k350 : (Jvm.Cond.fieldLink "MarkupStore$MarkupReader" (20 : Nat) "MarkupStore$MarkupReader" "scratch" "Ljava/lang/StringBuilder;") ∈ ms_tb := ms_i2 110 (by decide +kernel) (by decide +kernel)
theorem ms_k353 : (Jvm.Cond.fieldLink "MarkupStore$PathReader" (53 : Nat) "MarkupStore$PathReader" "text" "Ljava/lang/String;") ∈ ms_tb := ms_i2 113 (by decide +kernel) (by decide +kernel)
theorem ms_k354 : (Jvm.Cond.sameField "MarkupStore$PathReader" "MarkupStore$TextReader" "text" "Ljava/lang/String;") ∈ ms_tb := ms_i2 114 (by decide +kernel) (by decide +kernel)
theorem ms_k355 : (Jvm.Cond.fieldLink "MarkupStore$MarkupReader" (75 : Nat) "MarkupStore$MarkupReader" "text" "Ljava/lang/String;") ∈ ms_tb := ms_i2 115 (by decide +kernel) (by decide +kernel)
theorem ms_k356 : (Jvm.Cond.sameField "MarkupStore$MarkupReader" "MarkupStore$TextReader" "text" "Ljava/lang/String;") ∈ ms_tb := ms_i2 116 (by decide +kernel) (by decide +kernel)
theorem ms_k363 : (Jvm.Cond.fieldLink "MarkupStore" (61 : Nat) "MarkupStore$MarkupReader" "wrong" "I") ∈ ms_tb := ms_i2 123 (by decide +kernel) (by decide +kernel)
theorem ms_k364 : (Jvm.Cond.sameField "MarkupStore$MarkupReader" "MarkupStore$TextReader" "wrong" "I") ∈ ms_tb := ms_i2 124 (by decide +kernel) (by decide +kernel)
theorem ms_k365 : (Jvm.Cond.fieldLink "MarkupStore" (172 : Nat) "MarkupStore$PathReader" "wrong" "I") ∈ ms_tb := ms_i2 125 (by decide +kernel) (by decide +kernel)
theorem ms_k366 : (Jvm.Cond.sameField "MarkupStore$PathReader" "MarkupStore$TextReader" "wrong" "I") ∈ ms_tb := ms_i2 126 (by decide +kernel) (by decide +kernel)
theorem ms_k380 : (Jvm.Cond.methodLink "MarkupStore" (54 : Nat) ({ cls := "MarkupStore$MarkupReader", name := "readDocument", desc := "()Z" } : Jvm.MethodName)) ∈ ms_tb := ms_i2 140 (by decide +kernel) (by decide +kernel)
theorem ms_k381 : (Jvm.Cond.instanceMethod ({ cls := "MarkupStore$MarkupReader", name := "readDocument", desc := "()Z" } : Jvm.MethodName)) ∈ ms_tb := ms_i2 141 (by decide +kernel) (by decide +kernel)
theorem ms_k382 : (Jvm.Cond.selects "MarkupStore$MarkupReader" ({ cls := "MarkupStore$MarkupReader", name := "readDocument", desc := "()Z" } : Jvm.MethodName) ({ cls := "MarkupStore$MarkupReader", name := "readDocument", desc := "()Z" } : Jvm.MethodName)) ∈ ms_tb := ms_i2 142 (by decide +kernel) (by decide +kernel)
theorem ms_k383 : (Jvm.Cond.code ({ cls := "MarkupStore$MarkupReader", name := "readDocument", desc := "()Z" } : Jvm.MethodName) prog_3_method_5_code (2 : Nat) (Option.some Jvm.ClassFile.FieldType.boolean)) ∈ ms_tb := ms_i2 143 (by decide +kernel) (by decide +kernel)
theorem ms_k384 : (Jvm.Cond.methodLink "MarkupStore$MarkupReader" (56 : Nat) ({ cls := "MarkupStore$MarkupReader", name := "seen", desc := "(I)C" } : Jvm.MethodName)) ∈ ms_tb := ms_i2 144 (by decide +kernel) (by decide +kernel)
theorem ms_k385 : (Jvm.Cond.sameMethod "MarkupStore$MarkupReader" "MarkupStore$TextReader" "seen" "(I)C") ∈ ms_tb := ms_i2 145 (by decide +kernel) (by decide +kernel)
theorem ms_k387 : (Jvm.Cond.selects "MarkupStore$MarkupReader" ({ cls := "MarkupStore$MarkupReader", name := "seen", desc := "(I)C" } : Jvm.MethodName) ({ cls := "MarkupStore$TextReader", name := "seen", desc := "(I)C" } : Jvm.MethodName)) ∈ ms_tb := ms_i2 147 (by decide +kernel) (by decide +kernel)
theorem ms_k413 : (Jvm.Cond.methodLink "MarkupStore$MarkupReader" (60 : Nat) ({ cls := "MarkupStore$MarkupReader", name := "failAt", desc := "(I)Z" } : Jvm.MethodName)) ∈ ms_tb := ms_i2 173 (by decide +kernel) (by decide +kernel)
theorem ms_k414 : (Jvm.Cond.sameMethod "MarkupStore$MarkupReader" "MarkupStore$TextReader" "failAt" "(I)Z") ∈ ms_tb := ms_i2 174 (by decide +kernel) (by decide +kernel)
theorem ms_k416 : (Jvm.Cond.selects "MarkupStore$MarkupReader" ({ cls := "MarkupStore$MarkupReader", name := "failAt", desc := "(I)Z" } : Jvm.MethodName) ({ cls := "MarkupStore$TextReader", name := "failAt", desc := "(I)Z" } : Jvm.MethodName)) ∈ ms_tb := ms_i2 176 (by decide +kernel) (by decide +kernel)
theorem ms_k422 : (Jvm.Cond.methodLink "MarkupStore$MarkupReader" (68 : Nat) ({ cls := "MarkupStore$MarkupReader", name := "readElement", desc := "(LMarkupStore$Node;[I)Z" } : Jvm.MethodName)) ∈ ms_tb := ms_i2 182 (by decide +kernel) (by decide +kernel)
theorem ms_k424 : (Jvm.Cond.instanceMethod ({ cls := "MarkupStore$MarkupReader", name := "readElement", desc := "(LMarkupStore$Node;[I)Z" } : Jvm.MethodName)) ∈ ms_tb := ms_i2 184 (by decide +kernel) (by decide +kernel)
theorem ms_k425 : (Jvm.Cond.code ({ cls := "MarkupStore$MarkupReader", name := "readElement", desc := "(LMarkupStore$Node;[I)Z" } : Jvm.MethodName) prog_3_method_9_code (5 : Nat) (Option.some Jvm.ClassFile.FieldType.boolean)) ∈ ms_tb := ms_i2 185 (by decide +kernel) (by decide +kernel)
theorem ms_k426 : (Jvm.Cond.methodLink "MarkupStore$MarkupReader" (86 : Nat) ({ cls := "MarkupStore$MarkupReader", name := "make", desc := "(ILMarkupStore$Node;[I)LMarkupStore$Node;" } : Jvm.MethodName)) ∈ ms_tb := ms_i2 186 (by decide +kernel) (by decide +kernel)
theorem ms_k428 : (Jvm.Cond.instanceMethod ({ cls := "MarkupStore$MarkupReader", name := "make", desc := "(ILMarkupStore$Node;[I)LMarkupStore$Node;" } : Jvm.MethodName)) ∈ ms_tb := ms_i2 188 (by decide +kernel) (by decide +kernel)
theorem ms_k429 : (Jvm.Cond.code ({ cls := "MarkupStore$MarkupReader", name := "make", desc := "(ILMarkupStore$Node;[I)LMarkupStore$Node;" } : Jvm.MethodName) prog_3_method_8_code (5 : Nat) (Option.some (Jvm.ClassFile.FieldType.object "MarkupStore$Node"))) ∈ ms_tb := ms_i2 189 (by decide +kernel) (by decide +kernel)
theorem ms_k431 : (Jvm.Cond.instantiable "MarkupStore$Node" (9 : Nat)) ∈ ms_tb := ms_i2 191 (by decide +kernel) (by decide +kernel)
theorem ms_k432 : (Jvm.Cond.methodLink "MarkupStore$MarkupReader" (103 : Nat) ({ cls := "MarkupStore$Node", name := "<init>", desc := "(ILMarkupStore$Node;[I)V" } : Jvm.MethodName)) ∈ ms_tb := ms_i2 192 (by decide +kernel) (by decide +kernel)
theorem ms_k433 : (Jvm.Cond.instanceMethod ({ cls := "MarkupStore$Node", name := "<init>", desc := "(ILMarkupStore$Node;[I)V" } : Jvm.MethodName)) ∈ ms_tb := ms_i2 193 (by decide +kernel) (by decide +kernel)
theorem ms_k434 : (Jvm.Cond.code ({ cls := "MarkupStore$Node", name := "<init>", desc := "(ILMarkupStore$Node;[I)V" } : Jvm.MethodName) prog_4_method_1_code (4 : Nat) (Option.none : Option Jvm.ClassFile.FieldType)) ∈ ms_tb := ms_i2 194 (by decide +kernel) (by decide +kernel)
theorem ms_k435 : (Jvm.Cond.methodLink "MarkupStore$Node" (3 : Nat) ({ cls := "java/lang/Object", name := "<init>", desc := "()V" } : Jvm.MethodName)) ∈ ms_tb := ms_i2 195 (by decide +kernel) (by decide +kernel)
theorem ms_k436 : (Jvm.Cond.classLink "MarkupStore$Node" (26 : Nat) "java/util/ArrayList") ∈ ms_tb := ms_i2 196 (by decide +kernel) (by decide +kernel)
theorem ms_k437 : (Jvm.Cond.methodLink "MarkupStore$Node" (28 : Nat) ({ cls := "java/util/ArrayList", name := "<init>", desc := "()V" } : Jvm.MethodName)) ∈ ms_tb := ms_i2 197 (by decide +kernel) (by decide +kernel)
theorem ms_k439 : (Jvm.Cond.fieldLink "MarkupStore$Node" (9 : Nat) "MarkupStore$Node" "kind" "I") ∈ ms_tb := ms_i2 199 (by decide +kernel) (by decide +kernel)
theorem ms_k444 : (Jvm.Cond.fieldLink "MarkupStore$Node" (15 : Nat) "MarkupStore$Node" "parent" "LMarkupStore$Node;") ∈ ms_tb := ms_i2 204 (by decide +kernel) (by decide +kernel)
theorem ms_k449 : (Jvm.Cond.fieldLink "MarkupStore$Node" (19 : Nat) "MarkupStore$Node" "depth" "I") ∈ ms_tb := ms_i2 209 (by decide +kernel) (by decide +kernel)
theorem ms_k451 : (Jvm.Cond.fieldLink "MarkupStore$MarkupReader" (100 : Nat) "MarkupStore$Node" "depth" "I") ∈ ms_tb := ms_i2 211 (by decide +kernel) (by decide +kernel)
theorem ms_k452 : (Jvm.Cond.fieldLink "MarkupStore$Node" (22 : Nat) "MarkupStore$Node" "label" "[I") ∈ ms_tb := ms_i2 212 (by decide +kernel) (by decide +kernel)
theorem ms_k457 : (Jvm.Cond.fieldLink "MarkupStore$MarkupReader" (120 : Nat) "MarkupStore$Node" "attributes" "Ljava/util/ArrayList;") ∈ ms_tb := ms_i2 217 (by decide +kernel) (by decide +kernel)
theorem ms_k459 : (Jvm.Cond.fieldLink "MarkupStore$Node" (33 : Nat) "MarkupStore$Node" "number" "I") ∈ ms_tb := ms_i2 219 (by decide +kernel) (by decide +kernel)
theorem ms_k462 : (Jvm.Cond.fieldLink "MarkupStore$Node" (36 : Nat) "MarkupStore$Node" "place" "I") ∈ ms_tb := ms_i2 222 (by decide +kernel) (by decide +kernel)
theorem ms_k466 : (Jvm.Cond.fieldLink "MarkupStore$Node" (41 : Nat) "MarkupStore$Node" "text" "Ljava/lang/String;") ∈ ms_tb := ms_i2 226 (by decide +kernel) (by decide +kernel)
theorem ms_k473 : (Jvm.Cond.fieldLink "MarkupStore$Node" (45 : Nat) "MarkupStore$Node" "keptText" "Ljava/lang/String;") ∈ ms_tb := ms_i2 233 (by decide +kernel) (by decide +kernel)
theorem ms_k494 : (Jvm.Cond.methodLink "MarkupStore$MarkupReader" (106 : Nat) ({ cls := "java/util/ArrayList", name := "add", desc := "(Ljava/lang/Object;)Z" } : Jvm.MethodName)) ∈ ms_tb := ms_i3 14 (by decide +kernel) (by decide +kernel)
theorem ms_k495 : (Jvm.Cond.instanceMethod ({ cls := "java/util/ArrayList", name := "add", desc := "(Ljava/lang/Object;)Z" } : Jvm.MethodName)) ∈ ms_tb := ms_i3 15 (by decide +kernel) (by decide +kernel)
theorem ms_k496 : (Jvm.Cond.selects "java/util/ArrayList" ({ cls := "java/util/ArrayList", name := "add", desc := "(Ljava/lang/Object;)Z" } : Jvm.MethodName) ({ cls := "java/util/ArrayList", name := "add", desc := "(Ljava/lang/Object;)Z" } : Jvm.MethodName)) ∈ ms_tb := ms_i3 16 (by decide +kernel) (by decide +kernel)
theorem ms_k497 : (Jvm.Cond.code ({ cls := "java/util/ArrayList", name := "add", desc := "(Ljava/lang/Object;)Z" } : Jvm.MethodName) prog_30_method_25_code (2 : Nat) (Option.some Jvm.ClassFile.FieldType.boolean)) ∈ ms_tb := ms_i3 17 (by decide +kernel) (by decide +kernel)
theorem ms_k541 : (Jvm.Cond.methodLink "MarkupStore$MarkupReader" (110 : Nat) ({ cls := "MarkupStore$MarkupReader", name := "readName", desc := "()Ljava/lang/String;" } : Jvm.MethodName)) ∈ ms_tb := ms_i3 61 (by decide +kernel) (by decide +kernel)
theorem ms_k542 : (Jvm.Cond.sameMethod "MarkupStore$MarkupReader" "MarkupStore$TextReader" "readName" "()Ljava/lang/String;") ∈ ms_tb := ms_i3 62 (by decide +kernel) (by decide +kernel)
theorem ms_k544 : (Jvm.Cond.selects "MarkupStore$MarkupReader" ({ cls := "MarkupStore$MarkupReader", name := "readName", desc := "()Ljava/lang/String;" } : Jvm.MethodName) ({ cls := "MarkupStore$TextReader", name := "readName", desc := "()Ljava/lang/String;" } : Jvm.MethodName)) ∈ ms_tb := ms_i3 64 (by decide +kernel) (by decide +kernel)
theorem ms_k545 : (Jvm.Cond.instanceMethod ({ cls := "MarkupStore$TextReader", name := "readName", desc := "()Ljava/lang/String;" } : Jvm.MethodName)) ∈ ms_tb := ms_i3 65 (by decide +kernel) (by decide +kernel)
theorem ms_k546 : (Jvm.Cond.code ({ cls := "MarkupStore$TextReader", name := "readName", desc := "()Ljava/lang/String;" } : Jvm.MethodName) prog_10_method_6_code (2 : Nat) (Option.some (Jvm.ClassFile.FieldType.object "java/lang/String"))) ∈ ms_tb := ms_i3 66 (by decide +kernel) (by decide +kernel)
theorem ms_k550 : (Jvm.Cond.methodLink "MarkupStore$TextReader" (43 : Nat) ({ cls := "java/lang/String", name := "substring", desc := "(II)Ljava/lang/String;" } : Jvm.MethodName)) ∈ ms_tb := ms_i3 70 (by decide +kernel) (by decide +kernel)
theorem ms_k551 : (Jvm.Cond.instanceMethod ({ cls := "java/lang/String", name := "substring", desc := "(II)Ljava/lang/String;" } : Jvm.MethodName)) ∈ ms_tb := ms_i3 71 (by decide +kernel) (by decide +kernel)
theorem ms_k552 : (Jvm.Cond.selects "java/lang/String" ({ cls := "java/lang/String", name := "substring", desc := "(II)Ljava/lang/String;" } : Jvm.MethodName) ({ cls := "java/lang/String", name := "substring", desc := "(II)Ljava/lang/String;" } : Jvm.MethodName)) ∈ ms_tb := ms_i3 72 (by decide +kernel) (by decide +kernel)
theorem ms_k553 : (Jvm.Cond.code ({ cls := "java/lang/String", name := "substring", desc := "(II)Ljava/lang/String;" } : Jvm.MethodName) prog_23_method_92_code (5 : Nat) (Option.some (Jvm.ClassFile.FieldType.object "java/lang/String"))) ∈ ms_tb := ms_i3 73 (by decide +kernel) (by decide +kernel)
theorem ms_k580 : (Jvm.Cond.methodLink "MarkupStore$MarkupReader" (117 : Nat) ({ cls := "MarkupStore$MarkupReader", name := "readAttribute", desc := "(LMarkupStore$Node;)Z" } : Jvm.MethodName)) ∈ ms_tb := ms_i3 100 (by decide +kernel) (by decide +kernel)
theorem ms_k582 : (Jvm.Cond.instanceMethod ({ cls := "MarkupStore$MarkupReader", name := "readAttribute", desc := "(LMarkupStore$Node;)Z" } : Jvm.MethodName)) ∈ ms_tb := ms_i3 102 (by decide +kernel) (by decide +kernel)
theorem ms_k583 : (Jvm.Cond.code ({ cls := "MarkupStore$MarkupReader", name := "readAttribute", desc := "(LMarkupStore$Node;)Z" } : Jvm.MethodName) prog_3_method_10_code (5 : Nat) (Option.some Jvm.ClassFile.FieldType.boolean)) ∈ ms_tb := ms_i3 103 (by decide +kernel) (by decide +kernel)
theorem ms_k584 : (Jvm.Cond.methodLink "MarkupStore$MarkupReader" (94 : Nat) ({ cls := "MarkupStore$MarkupReader", name := "failed", desc := "()Z" } : Jvm.MethodName)) ∈ ms_tb := ms_i3 104 (by decide +kernel) (by decide +kernel)
theorem ms_k585 : (Jvm.Cond.sameMethod "MarkupStore$MarkupReader" "MarkupStore$TextReader" "failed" "()Z") ∈ ms_tb := ms_i3 105 (by decide +kernel) (by decide +kernel)
theorem ms_k587 : (Jvm.Cond.selects "MarkupStore$MarkupReader" ({ cls := "MarkupStore$MarkupReader", name := "failed", desc := "()Z" } : Jvm.MethodName) ({ cls := "MarkupStore$TextReader", name := "failed", desc := "()Z" } : Jvm.MethodName)) ∈ ms_tb := ms_i3 107 (by decide +kernel) (by decide +kernel)
theorem ms_k588 : (Jvm.Cond.instanceMethod ({ cls := "MarkupStore$TextReader", name := "failed", desc := "()Z" } : Jvm.MethodName)) ∈ ms_tb := ms_i3 108 (by decide +kernel) (by decide +kernel)
theorem ms_k589 : (Jvm.Cond.code ({ cls := "MarkupStore$TextReader", name := "failed", desc := "()Z" } : Jvm.MethodName) prog_10_method_2_code (1 : Nat) (Option.some Jvm.ClassFile.FieldType.boolean)) ∈ ms_tb := ms_i3 109 (by decide +kernel) (by decide +kernel)
theorem ms_k590 : (Jvm.Cond.methodLink "MarkupStore$MarkupReader" (132 : Nat) ({ cls := "MarkupStore$Node", name := "attributeNamed", desc := "(Ljava/lang/String;)LMarkupStore$Attribute;" } : Jvm.MethodName)) ∈ ms_tb := ms_i3 110 (by decide +kernel) (by decide +kernel)
theorem ms_k629 : (Jvm.Cond.methodLink "MarkupStore$MarkupReader" (90 : Nat) ({ cls := "MarkupStore$MarkupReader", name := "readValue", desc := "(C)Ljava/lang/String;" } : Jvm.MethodName)) ∈ ms_tb := ms_i3 149 (by decide +kernel) (by decide +kernel)
theorem ms_k631 : (Jvm.Cond.instanceMethod ({ cls := "MarkupStore$MarkupReader", name := "readValue", desc := "(C)Ljava/lang/String;" } : Jvm.MethodName)) ∈ ms_tb := ms_i3 151 (by decide +kernel) (by decide +kernel)
theorem ms_k632 : (Jvm.Cond.code ({ cls := "MarkupStore$MarkupReader", name := "readValue", desc := "(C)Ljava/lang/String;" } : Jvm.MethodName) prog_3_method_14_code (4 : Nat) (Option.some (Jvm.ClassFile.FieldType.object "java/lang/String"))) ∈ ms_tb := ms_i3 152 (by decide +kernel) (by decide +kernel)
theorem ms_k633 : (Jvm.Cond.methodLink "MarkupStore$MarkupReader" (152 : Nat) ({ cls := "java/lang/StringBuilder", name := "setLength", desc := "(I)V" } : Jvm.MethodName)) ∈ ms_tb := ms_i3 153 (by decide +kernel) (by decide +kernel)
theorem ms_k634 : (Jvm.Cond.methodLink "MarkupStore$MarkupReader" (158 : Nat) ({ cls := "MarkupStore$MarkupReader", name := "readEntity", desc := "()C" } : Jvm.MethodName)) ∈ ms_tb := ms_i3 154 (by decide +kernel) (by decide +kernel)
theorem ms_k636 : (Jvm.Cond.instanceMethod ({ cls := "MarkupStore$MarkupReader", name := "readEntity", desc := "()C" } : Jvm.MethodName)) ∈ ms_tb := ms_i3 156 (by decide +kernel) (by decide +kernel)
theorem ms_k637 : (Jvm.Cond.code ({ cls := "MarkupStore$MarkupReader", name := "readEntity", desc := "()C" } : Jvm.MethodName) prog_3_method_15_code (1 : Nat) (Option.some Jvm.ClassFile.FieldType.char)) ∈ ms_tb := ms_i3 157 (by decide +kernel) (by decide +kernel)
theorem ms_k639 : (Jvm.Cond.methodLink "MarkupStore$MarkupReader" (172 : Nat) ({ cls := "MarkupStore$MarkupReader", name := "skip", desc := "(Ljava/lang/String;)Z" } : Jvm.MethodName)) ∈ ms_tb := ms_i3 159 (by decide +kernel) (by decide +kernel)
theorem ms_k641 : (Jvm.Cond.instanceMethod ({ cls := "MarkupStore$MarkupReader", name := "skip", desc := "(Ljava/lang/String;)Z" } : Jvm.MethodName)) ∈ ms_tb := ms_i3 161 (by decide +kernel) (by decide +kernel)
theorem ms_k642 : (Jvm.Cond.code ({ cls := "MarkupStore$MarkupReader", name := "skip", desc := "(Ljava/lang/String;)Z" } : Jvm.MethodName) prog_3_method_16_code (3 : Nat) (Option.some Jvm.ClassFile.FieldType.boolean)) ∈ ms_tb := ms_i3 162 (by decide +kernel) (by decide +kernel)
theorem ms_k644 : (Jvm.Cond.methodLink "MarkupStore$MarkupReader" (148 : Nat) ({ cls := "java/lang/String", name := "substring", desc := "(II)Ljava/lang/String;" } : Jvm.MethodName)) ∈ ms_tb := ms_i3 164 (by decide +kernel) (by decide +kernel)
theorem ms_k645 : (Jvm.Cond.methodLink "MarkupStore$MarkupReader" (184 : Nat) ({ cls := "java/lang/String", name := "equals", desc := "(Ljava/lang/Object;)Z" } : Jvm.MethodName)) ∈ ms_tb := ms_i3 165 (by decide +kernel) (by decide +kernel)
theorem ms_k650 : (Jvm.Cond.methodLink "MarkupStore$MarkupReader" (162 : Nat) ({ cls := "java/lang/StringBuilder", name := "append", desc := "(C)Ljava/lang/StringBuilder;" } : Jvm.MethodName)) ∈ ms_tb := ms_i3 170 (by decide +kernel) (by decide +kernel)
theorem ms_k651 : (Jvm.Cond.methodLink "MarkupStore$MarkupReader" (166 : Nat) ({ cls := "java/lang/StringBuilder", name := "length", desc := "()I" } : Jvm.MethodName)) ∈ ms_tb := ms_i3 171 (by decide +kernel) (by decide +kernel)
theorem ms_k652 : (Jvm.Cond.methodLink "MarkupStore$MarkupReader" (167 : Nat) ({ cls := "java/lang/StringBuilder", name := "toString", desc := "()Ljava/lang/String;" } : Jvm.MethodName)) ∈ ms_tb := ms_i3 172 (by decide +kernel) (by decide +kernel)
theorem ms_k653 : (Jvm.Cond.classLink "MarkupStore$MarkupReader" (136 : Nat) "MarkupStore$Attribute") ∈ ms_tb := ms_i3 173 (by decide +kernel) (by decide +kernel)
theorem ms_k654 : (Jvm.Cond.instantiable "MarkupStore$Attribute" (2 : Nat)) ∈ ms_tb := ms_i3 174 (by decide +kernel) (by decide +kernel)
theorem ms_k656 : (Jvm.Cond.instanceMethod ({ cls := "MarkupStore$Attribute", name := "<init>", desc := "(Ljava/lang/String;Ljava/lang/String;)V" } : Jvm.MethodName)) ∈ ms_tb := ms_i3 176 (by decide +kernel) (by decide +kernel)
theorem ms_k657 : (Jvm.Cond.code ({ cls := "MarkupStore$Attribute", name := "<init>", desc := "(Ljava/lang/String;Ljava/lang/String;)V" } : Jvm.MethodName) prog_2_method_1_code (3 : Nat) (Option.none : Option Jvm.ClassFile.FieldType)) ∈ ms_tb := ms_i3 177 (by decide +kernel) (by decide +kernel)
theorem ms_k658 : (Jvm.Cond.methodLink "MarkupStore$Attribute" (1 : Nat) ({ cls := "java/lang/Record", name := "<init>", desc := "()V" } : Jvm.MethodName)) ∈ ms_tb := ms_i3 178 (by decide +kernel) (by decide +kernel)
theorem ms_k659 : (Jvm.Cond.instanceMethod ({ cls := "java/lang/Record", name := "<init>", desc := "()V" } : Jvm.MethodName)) ∈ ms_tb := ms_i3 179 (by decide +kernel) (by decide +kernel)
theorem ms_k660 : (Jvm.Cond.code ({ cls := "java/lang/Record", name := "<init>", desc := "()V" } : Jvm.MethodName) prog_22_method_1_code (1 : Nat) (Option.none : Option Jvm.ClassFile.FieldType)) ∈ ms_tb := ms_i3 180 (by decide +kernel) (by decide +kernel)
theorem ms_k670 : (Jvm.Cond.methodLink "MarkupStore$MarkupReader" (126 : Nat) ({ cls := "MarkupStore$MarkupReader", name := "readContent", desc := "(LMarkupStore$Node;)Z" } : Jvm.MethodName)) ∈ ms_tb := ms_i3 190 (by decide +kernel) (by decide +kernel)
theorem ms_k672 : (Jvm.Cond.instanceMethod ({ cls := "MarkupStore$MarkupReader", name := "readContent", desc := "(LMarkupStore$Node;)Z" } : Jvm.MethodName)) ∈ ms_tb := ms_i3 192 (by decide +kernel) (by decide +kernel)
theorem ms_k673 : (Jvm.Cond.code ({ cls := "MarkupStore$MarkupReader", name := "readContent", desc := "(LMarkupStore$Node;)Z" } : Jvm.MethodName) prog_3_method_11_code (3 : Nat) (Option.some Jvm.ClassFile.FieldType.boolean)) ∈ ms_tb := ms_i3 193 (by decide +kernel) (by decide +kernel)
theorem ms_k674 : (Jvm.Cond.methodLink "MarkupStore$MarkupReader" (141 : Nat) ({ cls := "MarkupStore$Node", name := "labelOfChild", desc := "(I)[I" } : Jvm.MethodName)) ∈ ms_tb := ms_i3 194 (by decide +kernel) (by decide +kernel)
theorem ms_k675 : (Jvm.Cond.instanceMethod ({ cls := "MarkupStore$Node", name := "labelOfChild", desc := "(I)[I" } : Jvm.MethodName)) ∈ ms_tb := ms_i3 195 (by decide +kernel) (by decide +kernel)
theorem ms_k676 : (Jvm.Cond.selects "MarkupStore$Node" ({ cls := "MarkupStore$Node", name := "labelOfChild", desc := "(I)[I" } : Jvm.MethodName) ({ cls := "MarkupStore$Node", name := "labelOfChild", desc := "(I)[I" } : Jvm.MethodName)) ∈ ms_tb := ms_i3 196 (by decide +kernel) (by decide +kernel)
theorem ms_k677 : (Jvm.Cond.code ({ cls := "MarkupStore$Node", name := "labelOfChild", desc := "(I)[I" } : Jvm.MethodName) prog_4_method_3_code (3 : Nat) (Option.some (Jvm.ClassFile.FieldType.array Jvm.ClassFile.FieldType.int))) ∈ ms_tb := ms_i3 197 (by decide +kernel) (by decide +kernel)
theorem ms_k678 : (Jvm.Cond.methodLink "MarkupStore$Node" (68 : Nat) ({ cls := "java/util/Arrays", name := "copyOf", desc := "([II)[I" } : Jvm.MethodName)) ∈ ms_tb := ms_i3 198 (by decide +kernel) (by decide +kernel)
theorem ms_k679 : (Jvm.Cond.static ({ cls := "java/util/Arrays", name := "copyOf", desc := "([II)[I" } : Jvm.MethodName)) ∈ ms_tb := ms_i3 199 (by decide +kernel) (by decide +kernel)
theorem ms_k680 : (Jvm.Cond.code ({ cls := "java/util/Arrays", name := "copyOf", desc := "([II)[I" } : Jvm.MethodName) prog_31_method_123_code (3 : Nat) (Option.some (Jvm.ClassFile.FieldType.array Jvm.ClassFile.FieldType.int))) ∈ ms_tb := ms_i3 200 (by decide +kernel) (by decide +kernel)
theorem ms_k686 : (Jvm.Cond.methodLink "MarkupStore$MarkupReader" (79 : Nat) ({ cls := "MarkupStore$MarkupReader", name := "readPiece", desc := "(LMarkupStore$Node;[I)Z" } : Jvm.MethodName)) ∈ ms_tb := ms_i3 206 (by decide +kernel) (by decide +kernel)
theorem ms_k688 : (Jvm.Cond.instanceMethod ({ cls := "MarkupStore$MarkupReader", name := "readPiece", desc := "(LMarkupStore$Node;[I)Z" } : Jvm.MethodName)) ∈ ms_tb := ms_i3 208 (by decide +kernel) (by decide +kernel)
theorem ms_k689 : (Jvm.Cond.code ({ cls := "MarkupStore$MarkupReader", name := "readPiece", desc := "(LMarkupStore$Node;[I)Z" } : Jvm.MethodName) prog_3_method_7_code (4 : Nat) (Option.some Jvm.ClassFile.FieldType.boolean)) ∈ ms_tb := ms_i3 209 (by decide +kernel) (by decide +kernel)
theorem ms_k690 : (Jvm.Cond.methodLink "MarkupStore$MarkupReader" (97 : Nat) ({ cls := "MarkupStore$MarkupReader", name := "readComment", desc := "(LMarkupStore$Node;[I)Z" } : Jvm.MethodName)) ∈ ms_tb := ms_i3 210 (by decide +kernel) (by decide +kernel)
theorem ms_k692 : (Jvm.Cond.instanceMethod ({ cls := "MarkupStore$MarkupReader", name := "readComment", desc := "(LMarkupStore$Node;[I)Z" } : Jvm.MethodName)) ∈ ms_tb := ms_i3 212 (by decide +kernel) (by decide +kernel)
theorem ms_k693 : (Jvm.Cond.code ({ cls := "MarkupStore$MarkupReader", name := "readComment", desc := "(LMarkupStore$Node;[I)Z" } : Jvm.MethodName) prog_3_method_13_code (5 : Nat) (Option.some Jvm.ClassFile.FieldType.boolean)) ∈ ms_tb := ms_i3 213 (by decide +kernel) (by decide +kernel)
theorem ms_k694 : (Jvm.Cond.methodLink "MarkupStore$MarkupReader" (129 : Nat) ({ cls := "MarkupStore$MarkupReader", name := "readEndTag", desc := "(LMarkupStore$Node;)Z" } : Jvm.MethodName)) ∈ ms_tb := ms_i3 214 (by decide +kernel) (by decide +kernel)
theorem ms_k696 : (Jvm.Cond.instanceMethod ({ cls := "MarkupStore$MarkupReader", name := "readEndTag", desc := "(LMarkupStore$Node;)Z" } : Jvm.MethodName)) ∈ ms_tb := ms_i3 216 (by decide +kernel) (by decide +kernel)
theorem ms_k697 : (Jvm.Cond.code ({ cls := "MarkupStore$MarkupReader", name := "readEndTag", desc := "(LMarkupStore$Node;)Z" } : Jvm.MethodName) prog_3_method_12_code (3 : Nat) (Option.some Jvm.ClassFile.FieldType.boolean)) ∈ ms_tb := ms_i3 217 (by decide +kernel) (by decide +kernel)
theorem ms_k698 : (Jvm.Cond.methodLink "MarkupStore$MarkupReader" (72 : Nat) ({ cls := "MarkupStore$MarkupReader", name := "readEnd", desc := "()Z" } : Jvm.MethodName)) ∈ ms_tb := ms_i3 218 (by decide +kernel) (by decide +kernel)
theorem ms_k699 : (Jvm.Cond.sameMethod "MarkupStore$MarkupReader" "MarkupStore$TextReader" "readEnd" "()Z") ∈ ms_tb := ms_i3 219 (by decide +kernel) (by decide +kernel)
theorem ms_k701 : (Jvm.Cond.selects "MarkupStore$MarkupReader" ({ cls := "MarkupStore$MarkupReader", name := "readEnd", desc := "()Z" } : Jvm.MethodName) ({ cls := "MarkupStore$TextReader", name := "readEnd", desc := "()Z" } : Jvm.MethodName)) ∈ ms_tb := ms_i3 221 (by decide +kernel) (by decide +kernel)
theorem ms_k702 : (Jvm.Cond.instanceMethod ({ cls := "MarkupStore$TextReader", name := "readEnd", desc := "()Z" } : Jvm.MethodName)) ∈ ms_tb := ms_i3 222 (by decide +kernel) (by decide +kernel)
theorem ms_k703 : (Jvm.Cond.code ({ cls := "MarkupStore$TextReader", name := "readEnd", desc := "()Z" } : Jvm.MethodName) prog_10_method_7_code (1 : Nat) (Option.some Jvm.ClassFile.FieldType.boolean)) ∈ ms_tb := ms_i3 223 (by decide +kernel) (by decide +kernel)
theorem ms_k704 : (Jvm.Cond.methodLink "MarkupStore" (58 : Nat) ({ cls := "MarkupStore$MarkupReader", name := "failed", desc := "()Z" } : Jvm.MethodName)) ∈ ms_tb := ms_i3 224 (by decide +kernel) (by decide +kernel)
theorem ms_k715 : (Jvm.Cond.methodLink "MarkupStore" (80 : Nat) ({ cls := "MarkupStore$Tree", name := "clear", desc := "()V" } : Jvm.MethodName)) ∈ ms_tb := ms_i3 235 (by decide +kernel) (by decide +kernel)
theorem ms_k749 : (Jvm.Cond.methodLink "MarkupStore" (106 : Nat) ({ cls := "MarkupStore$Tree", name := "endOf", desc := "(LMarkupStore$Node;)I" } : Jvm.MethodName)) ∈ ms_tb := ms_i4 29 (by decide +kernel) (by decide +kernel)
theorem ms_k753 : (Jvm.Cond.methodLink "MarkupStore" (110 : Nat) ({ cls := "MarkupStore$Tree", name := "childBefore", desc := "(LMarkupStore$Node;I)LMarkupStore$Node;" } : Jvm.MethodName)) ∈ ms_tb := ms_i4 33 (by decide +kernel) (by decide +kernel)
theorem ms_k754 : (Jvm.Cond.instanceMethod ({ cls := "MarkupStore$Tree", name := "childBefore", desc := "(LMarkupStore$Node;I)LMarkupStore$Node;" } : Jvm.MethodName)) ∈ ms_tb := ms_i4 34 (by decide +kernel) (by decide +kernel)
theorem ms_k755 : (Jvm.Cond.selects "MarkupStore$Tree" ({ cls := "MarkupStore$Tree", name := "childBefore", desc := "(LMarkupStore$Node;I)LMarkupStore$Node;" } : Jvm.MethodName) ({ cls := "MarkupStore$Tree", name := "childBefore", desc := "(LMarkupStore$Node;I)LMarkupStore$Node;" } : Jvm.MethodName)) ∈ ms_tb := ms_i4 35 (by decide +kernel) (by decide +kernel)
theorem ms_k756 : (Jvm.Cond.code ({ cls := "MarkupStore$Tree", name := "childBefore", desc := "(LMarkupStore$Node;I)LMarkupStore$Node;" } : Jvm.MethodName) prog_11_method_5_code (4 : Nat) (Option.some (Jvm.ClassFile.FieldType.object "MarkupStore$Node"))) ∈ ms_tb := ms_i4 36 (by decide +kernel) (by decide +kernel)
theorem ms_k757 : (Jvm.Cond.methodLink "MarkupStore" (114 : Nat) ({ cls := "MarkupStore$Tree", name := "childFrom", desc := "(LMarkupStore$Node;I)LMarkupStore$Node;" } : Jvm.MethodName)) ∈ ms_tb := ms_i4 37 (by decide +kernel) (by decide +kernel)
theorem ms_k758 : (Jvm.Cond.instanceMethod ({ cls := "MarkupStore$Tree", name := "childFrom", desc := "(LMarkupStore$Node;I)LMarkupStore$Node;" } : Jvm.MethodName)) ∈ ms_tb := ms_i4 38 (by decide +kernel) (by decide +kernel)
theorem ms_k759 : (Jvm.Cond.selects "MarkupStore$Tree" ({ cls := "MarkupStore$Tree", name := "childFrom", desc := "(LMarkupStore$Node;I)LMarkupStore$Node;" } : Jvm.MethodName) ({ cls := "MarkupStore$Tree", name := "childFrom", desc := "(LMarkupStore$Node;I)LMarkupStore$Node;" } : Jvm.MethodName)) ∈ ms_tb := ms_i4 39 (by decide +kernel) (by decide +kernel)
theorem ms_k760 : (Jvm.Cond.code ({ cls := "MarkupStore$Tree", name := "childFrom", desc := "(LMarkupStore$Node;I)LMarkupStore$Node;" } : Jvm.MethodName) prog_11_method_6_code (4 : Nat) (Option.some (Jvm.ClassFile.FieldType.object "MarkupStore$Node"))) ∈ ms_tb := ms_i4 40 (by decide +kernel) (by decide +kernel)
theorem ms_k761 : (Jvm.Cond.methodLink "MarkupStore" (117 : Nat) ({ cls := "MarkupStore$Node", name := "labelBetween", desc := "(LMarkupStore$Node;LMarkupStore$Node;LMarkupStore$Node;)[I" } : Jvm.MethodName)) ∈ ms_tb := ms_i4 41 (by decide +kernel) (by decide +kernel)
theorem ms_k762 : (Jvm.Cond.static ({ cls := "MarkupStore$Node", name := "labelBetween", desc := "(LMarkupStore$Node;LMarkupStore$Node;LMarkupStore$Node;)[I" } : Jvm.MethodName)) ∈ ms_tb := ms_i4 42 (by decide +kernel) (by decide +kernel)
theorem ms_k763 : (Jvm.Cond.code ({ cls := "MarkupStore$Node", name := "labelBetween", desc := "(LMarkupStore$Node;LMarkupStore$Node;LMarkupStore$Node;)[I" } : Jvm.MethodName) prog_4_method_4_code (13 : Nat) (Option.some (Jvm.ClassFile.FieldType.array Jvm.ClassFile.FieldType.int))) ∈ ms_tb := ms_i4 43 (by decide +kernel) (by decide +kernel)
theorem ms_k764 : (Jvm.Cond.methodLink "MarkupStore$Node" (74 : Nat) ({ cls := "MarkupStore$Node", name := "oddAbove", desc := "(I)I" } : Jvm.MethodName)) ∈ ms_tb := ms_i4 44 (by decide +kernel) (by decide +kernel)
theorem ms_k765 : (Jvm.Cond.static ({ cls := "MarkupStore$Node", name := "oddAbove", desc := "(I)I" } : Jvm.MethodName)) ∈ ms_tb := ms_i4 45 (by decide +kernel) (by decide +kernel)
theorem ms_k766 : (Jvm.Cond.code ({ cls := "MarkupStore$Node", name := "oddAbove", desc := "(I)I" } : Jvm.MethodName) prog_4_method_6_code (1 : Nat) (Option.some Jvm.ClassFile.FieldType.int)) ∈ ms_tb := ms_i4 46 (by decide +kernel) (by decide +kernel)
theorem ms_k770 : (Jvm.Cond.methodLink "MarkupStore$Node" (78 : Nat) ({ cls := "MarkupStore$Node", name := "oddBelow", desc := "(I)I" } : Jvm.MethodName)) ∈ ms_tb := ms_i4 50 (by decide +kernel) (by decide +kernel)
theorem ms_k771 : (Jvm.Cond.static ({ cls := "MarkupStore$Node", name := "oddBelow", desc := "(I)I" } : Jvm.MethodName)) ∈ ms_tb := ms_i4 51 (by decide +kernel) (by decide +kernel)
theorem ms_k772 : (Jvm.Cond.code ({ cls := "MarkupStore$Node", name := "oddBelow", desc := "(I)I" } : Jvm.MethodName) prog_4_method_7_code (1 : Nat) (Option.some Jvm.ClassFile.FieldType.int)) ∈ ms_tb := ms_i4 52 (by decide +kernel) (by decide +kernel)
theorem ms_k773 : (Jvm.Cond.methodLink "MarkupStore" (121 : Nat) ({ cls := "MarkupStore$MarkupReader", name := "readOne", desc := "(LMarkupStore$Node;[I)Z" } : Jvm.MethodName)) ∈ ms_tb := ms_i4 53 (by decide +kernel) (by decide +kernel)
theorem ms_k774 : (Jvm.Cond.instanceMethod ({ cls := "MarkupStore$MarkupReader", name := "readOne", desc := "(LMarkupStore$Node;[I)Z" } : Jvm.MethodName)) ∈ ms_tb := ms_i4 54 (by decide +kernel) (by decide +kernel)
theorem ms_k775 : (Jvm.Cond.selects "MarkupStore$MarkupReader" ({ cls := "MarkupStore$MarkupReader", name := "readOne", desc := "(LMarkupStore$Node;[I)Z" } : Jvm.MethodName) ({ cls := "MarkupStore$MarkupReader", name := "readOne", desc := "(LMarkupStore$Node;[I)Z" } : Jvm.MethodName)) ∈ ms_tb := ms_i4 55 (by decide +kernel) (by decide +kernel)
theorem ms_k776 : (Jvm.Cond.code ({ cls := "MarkupStore$MarkupReader", name := "readOne", desc := "(LMarkupStore$Node;[I)Z" } : Jvm.MethodName) prog_3_method_6_code (3 : Nat) (Option.some Jvm.ClassFile.FieldType.boolean)) ∈ ms_tb := ms_i4 56 (by decide +kernel) (by decide +kernel)
theorem ms_k777 : (Jvm.Cond.methodLink "MarkupStore$MarkupReader" (76 : Nat) ({ cls := "java/lang/String", name := "isEmpty", desc := "()Z" } : Jvm.MethodName)) ∈ ms_tb := ms_i4 57 (by decide +kernel) (by decide +kernel)
theorem ms_k781 : (Jvm.Cond.methodLink "MarkupStore" (125 : Nat) ({ cls := "MarkupStore$MarkupReader", name := "startsWithText", desc := "()Z" } : Jvm.MethodName)) ∈ ms_tb := ms_i4 61 (by decide +kernel) (by decide +kernel)
theorem ms_k782 : (Jvm.Cond.instanceMethod ({ cls := "MarkupStore$MarkupReader", name := "startsWithText", desc := "()Z" } : Jvm.MethodName)) ∈ ms_tb := ms_i4 62 (by decide +kernel) (by decide +kernel)
theorem ms_k783 : (Jvm.Cond.selects "MarkupStore$MarkupReader" ({ cls := "MarkupStore$MarkupReader", name := "startsWithText", desc := "()Z" } : Jvm.MethodName) ({ cls := "MarkupStore$MarkupReader", name := "startsWithText", desc := "()Z" } : Jvm.MethodName)) ∈ ms_tb := ms_i4 63 (by decide +kernel) (by decide +kernel)
theorem ms_k784 : (Jvm.Cond.code ({ cls := "MarkupStore$MarkupReader", name := "startsWithText", desc := "()Z" } : Jvm.MethodName) prog_3_method_3_code (1 : Nat) (Option.some Jvm.ClassFile.FieldType.boolean)) ∈ ms_tb := ms_i4 64 (by decide +kernel) (by decide +kernel)
theorem ms_k792 : (Jvm.Cond.methodLink "MarkupStore" (128 : Nat) ({ cls := "MarkupStore", name := "isText", desc := "(LMarkupStore$Node;)Z" } : Jvm.MethodName)) ∈ ms_tb := ms_i4 72 (by decide +kernel) (by decide +kernel)
theorem ms_k793 : (Jvm.Cond.methodLink "MarkupStore" (136 : Nat) ({ cls := "MarkupStore$MarkupReader", name := "firstText", desc := "()Ljava/lang/String;" } : Jvm.MethodName)) ∈ ms_tb := ms_i4 73 (by decide +kernel) (by decide +kernel)
theorem ms_k794 : (Jvm.Cond.instanceMethod ({ cls := "MarkupStore$MarkupReader", name := "firstText", desc := "()Ljava/lang/String;" } : Jvm.MethodName)) ∈ ms_tb := ms_i4 74 (by decide +kernel) (by decide +kernel)
theorem ms_k795 : (Jvm.Cond.selects "MarkupStore$MarkupReader" ({ cls := "MarkupStore$MarkupReader", name := "firstText", desc := "()Ljava/lang/String;" } : Jvm.MethodName) ({ cls := "MarkupStore$MarkupReader", name := "firstText", desc := "()Ljava/lang/String;" } : Jvm.MethodName)) ∈ ms_tb := ms_i4 75 (by decide +kernel) (by decide +kernel)
theorem ms_k796 : (Jvm.Cond.code ({ cls := "MarkupStore$MarkupReader", name := "firstText", desc := "()Ljava/lang/String;" } : Jvm.MethodName) prog_3_method_4_code (1 : Nat) (Option.some (Jvm.ClassFile.FieldType.object "java/lang/String"))) ∈ ms_tb := ms_i4 76 (by decide +kernel) (by decide +kernel)
theorem ms_k798 : (Jvm.Cond.methodLink "MarkupStore" (139 : Nat) ({ cls := "MarkupStore", name := "joinNew", desc := "(LMarkupStore$Node;Ljava/lang/String;Ljava/lang/String;)I" } : Jvm.MethodName)) ∈ ms_tb := ms_i4 78 (by decide +kernel) (by decide +kernel)
theorem ms_k800 : (Jvm.Cond.instanceMethod ({ cls := "MarkupStore", name := "joinNew", desc := "(LMarkupStore$Node;Ljava/lang/String;Ljava/lang/String;)I" } : Jvm.MethodName)) ∈ ms_tb := ms_i4 80 (by decide +kernel) (by decide +kernel)
theorem ms_k801 : (Jvm.Cond.code ({ cls := "MarkupStore", name := "joinNew", desc := "(LMarkupStore$Node;Ljava/lang/String;Ljava/lang/String;)I" } : Jvm.MethodName) prog_1_method_21_code (4 : Nat) (Option.some Jvm.ClassFile.FieldType.int)) ∈ ms_tb := ms_i4 81 (by decide +kernel) (by decide +kernel)
theorem ms_k803 : (Jvm.Cond.methodLink "MarkupStore" (150 : Nat) ({ cls := "MarkupStore", name := "joined", desc := "(Ljava/lang/String;Ljava/lang/String;)Ljava/lang/String;" } : Jvm.MethodName)) ∈ ms_tb := ms_i4 83 (by decide +kernel) (by decide +kernel)
theorem ms_k805 : (Jvm.Cond.instanceMethod ({ cls := "MarkupStore", name := "joined", desc := "(Ljava/lang/String;Ljava/lang/String;)Ljava/lang/String;" } : Jvm.MethodName)) ∈ ms_tb := ms_i4 85 (by decide +kernel) (by decide +kernel)
theorem ms_k806 : (Jvm.Cond.code ({ cls := "MarkupStore", name := "joined", desc := "(Ljava/lang/String;Ljava/lang/String;)Ljava/lang/String;" } : Jvm.MethodName) prog_1_method_29_code (3 : Nat) (Option.some (Jvm.ClassFile.FieldType.object "java/lang/String"))) ∈ ms_tb := ms_i4 86 (by decide +kernel) (by decide +kernel)
theorem ms_k807 : (Jvm.Cond.methodLink "MarkupStore" (257 : Nat) ({ cls := "java/lang/StringBuilder", name := "append", desc := "(Ljava/lang/String;)Ljava/lang/StringBuilder;" } : Jvm.MethodName)) ∈ ms_tb := ms_i4 87 (by decide +kernel) (by decide +kernel)
theorem ms_k808 : (Jvm.Cond.instanceMethod ({ cls := "java/lang/StringBuilder", name := "append", desc := "(Ljava/lang/String;)Ljava/lang/StringBuilder;" } : Jvm.MethodName)) ∈ ms_tb := ms_i4 88 (by decide +kernel) (by decide +kernel)
theorem ms_k809 : (Jvm.Cond.selects "java/lang/StringBuilder" ({ cls := "java/lang/StringBuilder", name := "append", desc := "(Ljava/lang/String;)Ljava/lang/StringBuilder;" } : Jvm.MethodName) ({ cls := "java/lang/StringBuilder", name := "append", desc := "(Ljava/lang/String;)Ljava/lang/StringBuilder;" } : Jvm.MethodName)) ∈ ms_tb := ms_i4 89 (by decide +kernel) (by decide +kernel)
theorem ms_k810 : (Jvm.Cond.code ({ cls := "java/lang/StringBuilder", name := "append", desc := "(Ljava/lang/String;)Ljava/lang/StringBuilder;" } : Jvm.MethodName) prog_24_method_7_code (2 : Nat) (Option.some (Jvm.ClassFile.FieldType.object "java/lang/StringBuilder"))) ∈ ms_tb := ms_i4 90 (by decide +kernel) (by decide +kernel)
theorem ms_k841 : (Jvm.Cond.methodLink "MarkupStore" (143 : Nat) ({ cls := "MarkupStore", name := "putNew", desc := "(LMarkupStore$MarkupReader;I)I" } : Jvm.MethodName)) ∈ ms_tb := ms_i4 121 (by decide +kernel) (by decide +kernel)
theorem ms_k843 : (Jvm.Cond.instanceMethod ({ cls := "MarkupStore", name := "putNew", desc := "(LMarkupStore$MarkupReader;I)I" } : Jvm.MethodName)) ∈ ms_tb := ms_i4 123 (by decide +kernel) (by decide +kernel)
theorem ms_k844 : (Jvm.Cond.code ({ cls := "MarkupStore", name := "putNew", desc := "(LMarkupStore$MarkupReader;I)I" } : Jvm.MethodName) prog_1_method_22_code (4 : Nat) (Option.some Jvm.ClassFile.FieldType.int)) ∈ ms_tb := ms_i4 124 (by decide +kernel) (by decide +kernel)
theorem ms_k849 : (Jvm.Cond.methodLink "MarkupStore" (154 : Nat) ({ cls := "MarkupStore$Tree", name := "takeOut", desc := "(II)V" } : Jvm.MethodName)) ∈ ms_tb := ms_i4 129 (by decide +kernel) (by decide +kernel)
theorem ms_k854 : (Jvm.Cond.methodLink "MarkupStore" (158 : Nat) ({ cls := "MarkupStore", name := "mayBecome", desc := "(ILjava/lang/String;)Z" } : Jvm.MethodName)) ∈ ms_tb := ms_i4 134 (by decide +kernel) (by decide +kernel)
theorem ms_k855 : (Jvm.Cond.static ({ cls := "MarkupStore", name := "mayBecome", desc := "(ILjava/lang/String;)Z" } : Jvm.MethodName)) ∈ ms_tb := ms_i4 135 (by decide +kernel) (by decide +kernel)
theorem ms_k856 : (Jvm.Cond.code ({ cls := "MarkupStore", name := "mayBecome", desc := "(ILjava/lang/String;)Z" } : Jvm.MethodName) prog_1_method_25_code (2 : Nat) (Option.some Jvm.ClassFile.FieldType.boolean)) ∈ ms_tb := ms_i4 136 (by decide +kernel) (by decide +kernel)
theorem ms_k870 : (Jvm.Cond.classLink "MarkupStore" (162 : Nat) "MarkupStore$PathReader") ∈ ms_tb := ms_i4 150 (by decide +kernel) (by decide +kernel)
theorem ms_k871 : (Jvm.Cond.instantiable "MarkupStore$PathReader" (3 : Nat)) ∈ ms_tb := ms_i4 151 (by decide +kernel) (by decide +kernel)
theorem ms_k872 : (Jvm.Cond.methodLink "MarkupStore" (164 : Nat) ({ cls := "MarkupStore$PathReader", name := "<init>", desc := "(Ljava/lang/String;)V" } : Jvm.MethodName)) ∈ ms_tb := ms_i4 152 (by decide +kernel) (by decide +kernel)
theorem ms_k873 : (Jvm.Cond.instanceMethod ({ cls := "MarkupStore$PathReader", name := "<init>", desc := "(Ljava/lang/String;)V" } : Jvm.MethodName)) ∈ ms_tb := ms_i4 153 (by decide +kernel) (by decide +kernel)
theorem ms_k874 : (Jvm.Cond.code ({ cls := "MarkupStore$PathReader", name := "<init>", desc := "(Ljava/lang/String;)V" } : Jvm.MethodName) prog_6_method_1_code (2 : Nat) (Option.none : Option Jvm.ClassFile.FieldType)) ∈ ms_tb := ms_i4 154 (by decide +kernel) (by decide +kernel)
theorem ms_k875 : (Jvm.Cond.methodLink "MarkupStore$PathReader" (3 : Nat) ({ cls := "MarkupStore$TextReader", name := "<init>", desc := "(Ljava/lang/String;)V" } : Jvm.MethodName)) ∈ ms_tb := ms_i4 155 (by decide +kernel) (by decide +kernel)
theorem ms_k880 : (Jvm.Cond.methodLink "MarkupStore" (167 : Nat) ({ cls := "MarkupStore$PathReader", name := "readWhole", desc := "()LMarkupStore$Path;" } : Jvm.MethodName)) ∈ ms_tb := ms_i4 160 (by decide +kernel) (by decide +kernel)
theorem ms_k881 : (Jvm.Cond.instanceMethod ({ cls := "MarkupStore$PathReader", name := "readWhole", desc := "()LMarkupStore$Path;" } : Jvm.MethodName)) ∈ ms_tb := ms_i4 161 (by decide +kernel) (by decide +kernel)
theorem ms_k882 : (Jvm.Cond.selects "MarkupStore$PathReader" ({ cls := "MarkupStore$PathReader", name := "readWhole", desc := "()LMarkupStore$Path;" } : Jvm.MethodName) ({ cls := "MarkupStore$PathReader", name := "readWhole", desc := "()LMarkupStore$Path;" } : Jvm.MethodName)) ∈ ms_tb := ms_i4 162 (by decide +kernel) (by decide +kernel)
theorem ms_k883 : (Jvm.Cond.code ({ cls := "MarkupStore$PathReader", name := "readWhole", desc := "()LMarkupStore$Path;" } : Jvm.MethodName) prog_6_method_2_code (2 : Nat) (Option.some (Jvm.ClassFile.FieldType.object "MarkupStore$Path"))) ∈ ms_tb := ms_i4 163 (by decide +kernel) (by decide +kernel)
theorem ms_k884 : (Jvm.Cond.methodLink "MarkupStore$PathReader" (9 : Nat) ({ cls := "MarkupStore$PathReader", name := "readPath", desc := "(I)LMarkupStore$Path;" } : Jvm.MethodName)) ∈ ms_tb := ms_i4 164 (by decide +kernel) (by decide +kernel)
theorem ms_k886 : (Jvm.Cond.instanceMethod ({ cls := "MarkupStore$PathReader", name := "readPath", desc := "(I)LMarkupStore$Path;" } : Jvm.MethodName)) ∈ ms_tb := ms_i4 166 (by decide +kernel) (by decide +kernel)
theorem ms_k887 : (Jvm.Cond.code ({ cls := "MarkupStore$PathReader", name := "readPath", desc := "(I)LMarkupStore$Path;" } : Jvm.MethodName) prog_6_method_3_code (4 : Nat) (Option.some (Jvm.ClassFile.FieldType.object "MarkupStore$Path"))) ∈ ms_tb := ms_i4 167 (by decide +kernel) (by decide +kernel)
theorem ms_k888 : (Jvm.Cond.classLink "MarkupStore$PathReader" (22 : Nat) "MarkupStore$Path") ∈ ms_tb := ms_i4 168 (by decide +kernel) (by decide +kernel)
theorem ms_k889 : (Jvm.Cond.instantiable "MarkupStore$Path" (2 : Nat)) ∈ ms_tb := ms_i4 169 (by decide +kernel) (by decide +kernel)
theorem ms_k893 : (Jvm.Cond.methodLink "MarkupStore$PathReader" (32 : Nat) ({ cls := "MarkupStore$Path", name := "<init>", desc := "(Z)V" } : Jvm.MethodName)) ∈ ms_tb := ms_i4 173 (by decide +kernel) (by decide +kernel)
theorem ms_k894 : (Jvm.Cond.instanceMethod ({ cls := "MarkupStore$Path", name := "<init>", desc := "(Z)V" } : Jvm.MethodName)) ∈ ms_tb := ms_i4 174 (by decide +kernel) (by decide +kernel)
theorem ms_k895 : (Jvm.Cond.code ({ cls := "MarkupStore$Path", name := "<init>", desc := "(Z)V" } : Jvm.MethodName) prog_5_method_1_code (2 : Nat) (Option.none : Option Jvm.ClassFile.FieldType)) ∈ ms_tb := ms_i4 175 (by decide +kernel) (by decide +kernel)
theorem ms_k896 : (Jvm.Cond.methodLink "MarkupStore$Path" (1 : Nat) ({ cls := "java/lang/Object", name := "<init>", desc := "()V" } : Jvm.MethodName)) ∈ ms_tb := ms_i4 176 (by decide +kernel) (by decide +kernel)
theorem ms_k897 : (Jvm.Cond.classLink "MarkupStore$Path" (13 : Nat) "java/util/ArrayList") ∈ ms_tb := ms_i4 177 (by decide +kernel) (by decide +kernel)
theorem ms_k898 : (Jvm.Cond.methodLink "MarkupStore$Path" (15 : Nat) ({ cls := "java/util/ArrayList", name := "<init>", desc := "()V" } : Jvm.MethodName)) ∈ ms_tb := ms_i4 178 (by decide +kernel) (by decide +kernel)
theorem ms_k899 : (Jvm.Cond.fieldLink "MarkupStore$Path" (7 : Nat) "MarkupStore$Path" "fromDocument" "Z") ∈ ms_tb := ms_i4 179 (by decide +kernel) (by decide +kernel)
theorem ms_k900 : (Jvm.Cond.fieldLink "MarkupStore$PathReader" (35 : Nat) "MarkupStore$Path" "fromDocument" "Z") ∈ ms_tb := ms_i4 180 (by decide +kernel) (by decide +kernel)
theorem ms_k902 : (Jvm.Cond.fieldLink "MarkupStore$Path" (16 : Nat) "MarkupStore$Path" "steps" "Ljava/util/ArrayList;") ∈ ms_tb := ms_i4 182 (by decide +kernel) (by decide +kernel)
theorem ms_k904 : (Jvm.Cond.fieldLink "MarkupStore$PathReader" (39 : Nat) "MarkupStore$Path" "steps" "Ljava/util/ArrayList;") ∈ ms_tb := ms_i4 184 (by decide +kernel) (by decide +kernel)
theorem ms_k910 : (Jvm.Cond.methodLink "MarkupStore$PathReader" (43 : Nat) ({ cls := "MarkupStore$PathReader", name := "readStep", desc := "(I)LMarkupStore$Step;" } : Jvm.MethodName)) ∈ ms_tb := ms_i4 190 (by decide +kernel) (by decide +kernel)
theorem ms_k912 : (Jvm.Cond.instanceMethod ({ cls := "MarkupStore$PathReader", name := "readStep", desc := "(I)LMarkupStore$Step;" } : Jvm.MethodName)) ∈ ms_tb := ms_i4 192 (by decide +kernel) (by decide +kernel)
theorem ms_k913 : (Jvm.Cond.code ({ cls := "MarkupStore$PathReader", name := "readStep", desc := "(I)LMarkupStore$Step;" } : Jvm.MethodName) prog_6_method_4_code (4 : Nat) (Option.some (Jvm.ClassFile.FieldType.object "MarkupStore$Step"))) ∈ ms_tb := ms_i4 193 (by decide +kernel) (by decide +kernel)
theorem ms_k914 : (Jvm.Cond.classLink "MarkupStore$PathReader" (63 : Nat) "MarkupStore$Step") ∈ ms_tb := ms_i4 194 (by decide +kernel) (by decide +kernel)
theorem ms_k915 : (Jvm.Cond.instantiable "MarkupStore$Step" (5 : Nat)) ∈ ms_tb := ms_i4 195 (by decide +kernel) (by decide +kernel)
theorem ms_k916 : (Jvm.Cond.methodLink "MarkupStore$PathReader" (65 : Nat) ({ cls := "MarkupStore$Step", name := "<init>", desc := "()V" } : Jvm.MethodName)) ∈ ms_tb := ms_i4 196 (by decide +kernel) (by decide +kernel)
theorem ms_k917 : (Jvm.Cond.instanceMethod ({ cls := "MarkupStore$Step", name := "<init>", desc := "()V" } : Jvm.MethodName)) ∈ ms_tb := ms_i4 197 (by decide +kernel) (by decide +kernel)
theorem ms_k918 : (Jvm.Cond.code ({ cls := "MarkupStore$Step", name := "<init>", desc := "()V" } : Jvm.MethodName) prog_9_method_1_code (1 : Nat) (Option.none : Option Jvm.ClassFile.FieldType)) ∈ ms_tb := ms_i4 198 (by decide +kernel) (by decide +kernel)
theorem ms_k919 : (Jvm.Cond.methodLink "MarkupStore$Step" (3 : Nat) ({ cls := "java/lang/Object", name := "<init>", desc := "()V" } : Jvm.MethodName)) ∈ ms_tb := ms_i4 199 (by decide +kernel) (by decide +kernel)
theorem ms_k921 : (Jvm.Cond.classLink "MarkupStore$Step" (24 : Nat) "java/util/ArrayList") ∈ ms_tb := ms_i4 201 (by decide +kernel) (by decide +kernel)
theorem ms_k922 : (Jvm.Cond.methodLink "MarkupStore$Step" (26 : Nat) ({ cls := "java/util/ArrayList", name := "<init>", desc := "()V" } : Jvm.MethodName)) ∈ ms_tb := ms_i4 202 (by decide +kernel) (by decide +kernel)
theorem ms_k924 : (Jvm.Cond.fieldLink "MarkupStore$PathReader" (72 : Nat) "MarkupStore$Step" "axis" "C") ∈ ms_tb := ms_i4 204 (by decide +kernel) (by decide +kernel)
theorem ms_k927 : (Jvm.Cond.fieldLink "MarkupStore$PathReader" (79 : Nat) "MarkupStore$Step" "sort" "C") ∈ ms_tb := ms_i4 207 (by decide +kernel) (by decide +kernel)
theorem ms_k929 : (Jvm.Cond.fieldLink "MarkupStore$PathReader" (86 : Nat) "MarkupStore$Step" "name" "Ljava/lang/String;") ∈ ms_tb := ms_i4 209 (by decide +kernel) (by decide +kernel)
theorem ms_k930 : (Jvm.Cond.fieldLink "MarkupStore$Step" (27 : Nat) "MarkupStore$Step" "predicates" "Ljava/util/ArrayList;") ∈ ms_tb := ms_i4 210 (by decide +kernel) (by decide +kernel)
theorem ms_k932 : (Jvm.Cond.fieldLink "MarkupStore$PathReader" (93 : Nat) "MarkupStore$Step" "predicates" "Ljava/util/ArrayList;") ∈ ms_tb := ms_i4 212 (by decide +kernel) (by decide +kernel)
theorem ms_k933 : (Jvm.Cond.fieldLink "MarkupStore$Step" (31 : Nat) "MarkupStore$Step" "ofKind" "J") ∈ ms_tb := ms_i4 213 (by decide +kernel) (by decide +kernel)
theorem ms_k946 : (Jvm.Cond.methodLink "MarkupStore$PathReader" (68 : Nat) ({ cls := "MarkupStore$PathReader", name := "isAxis", desc := "(C)Z" } : Jvm.MethodName)) ∈ ms_tb := ms_i4 226 (by decide +kernel) (by decide +kernel)
theorem ms_k947 : (Jvm.Cond.static ({ cls := "MarkupStore$PathReader", name := "isAxis", desc := "(C)Z" } : Jvm.MethodName)) ∈ ms_tb := ms_i4 227 (by decide +kernel) (by decide +kernel)
theorem ms_k948 : (Jvm.Cond.code ({ cls := "MarkupStore$PathReader", name := "isAxis", desc := "(C)Z" } : Jvm.MethodName) prog_6_method_5_code (1 : Nat) (Option.some Jvm.ClassFile.FieldType.boolean)) ∈ ms_tb := ms_i4 228 (by decide +kernel) (by decide +kernel)
theorem ms_k995 : (Jvm.Cond.methodLink "MarkupStore$PathReader" (76 : Nat) ({ cls := "MarkupStore$PathReader", name := "isKindSign", desc := "(C)Z" } : Jvm.MethodName)) ∈ ms_tb := ms_i5 35 (by decide +kernel) (by decide +kernel)
theorem ms_k996 : (Jvm.Cond.static ({ cls := "MarkupStore$PathReader", name := "isKindSign", desc := "(C)Z" } : Jvm.MethodName)) ∈ ms_tb := ms_i5 36 (by decide +kernel) (by decide +kernel)
theorem ms_k997 : (Jvm.Cond.code ({ cls := "MarkupStore$PathReader", name := "isKindSign", desc := "(C)Z" } : Jvm.MethodName) prog_6_method_6_code (1 : Nat) (Option.some Jvm.ClassFile.FieldType.boolean)) ∈ ms_tb := ms_i5 37 (by decide +kernel) (by decide +kernel)
theorem ms_k999 : (Jvm.Cond.methodLink "MarkupStore$PathReader" (82 : Nat) ({ cls := "MarkupStore$PathReader", name := "readName", desc := "()Ljava/lang/String;" } : Jvm.MethodName)) ∈ ms_tb := ms_i5 39 (by decide +kernel) (by decide +kernel)
theorem ms_k1000 : (Jvm.Cond.sameMethod "MarkupStore$PathReader" "MarkupStore$TextReader" "readName" "()Ljava/lang/String;") ∈ ms_tb := ms_i5 40 (by decide +kernel) (by decide +kernel)
theorem ms_k1001 : (Jvm.Cond.selects "MarkupStore$PathReader" ({ cls := "MarkupStore$PathReader", name := "readName", desc := "()Ljava/lang/String;" } : Jvm.MethodName) ({ cls := "MarkupStore$TextReader", name := "readName", desc := "()Ljava/lang/String;" } : Jvm.MethodName)) ∈ ms_tb := ms_i5 41 (by decide +kernel) (by decide +kernel)
theorem ms_k1002 : (Jvm.Cond.methodLink "MarkupStore$PathReader" (57 : Nat) ({ cls := "java/lang/String", name := "length", desc := "()I" } : Jvm.MethodName)) ∈ ms_tb := ms_i5 42 (by decide +kernel) (by decide +kernel)
theorem ms_k1003 : (Jvm.Cond.methodLink "MarkupStore$PathReader" (15 : Nat) ({ cls := "MarkupStore$PathReader", name := "failed", desc := "()Z" } : Jvm.MethodName)) ∈ ms_tb := ms_i5 43 (by decide +kernel) (by decide +kernel)
theorem ms_k1004 : (Jvm.Cond.sameMethod "MarkupStore$PathReader" "MarkupStore$TextReader" "failed" "()Z") ∈ ms_tb := ms_i5 44 (by decide +kernel) (by decide +kernel)
theorem ms_k1005 : (Jvm.Cond.selects "MarkupStore$PathReader" ({ cls := "MarkupStore$PathReader", name := "failed", desc := "()Z" } : Jvm.MethodName) ({ cls := "MarkupStore$TextReader", name := "failed", desc := "()Z" } : Jvm.MethodName)) ∈ ms_tb := ms_i5 45 (by decide +kernel) (by decide +kernel)
theorem ms_k1006 : (Jvm.Cond.methodLink "MarkupStore$PathReader" (89 : Nat) ({ cls := "MarkupStore$PathReader", name := "failAt", desc := "(I)Z" } : Jvm.MethodName)) ∈ ms_tb := ms_i5 46 (by decide +kernel) (by decide +kernel)
theorem ms_k1007 : (Jvm.Cond.sameMethod "MarkupStore$PathReader" "MarkupStore$TextReader" "failAt" "(I)Z") ∈ ms_tb := ms_i5 47 (by decide +kernel) (by decide +kernel)
theorem ms_k1008 : (Jvm.Cond.selects "MarkupStore$PathReader" ({ cls := "MarkupStore$PathReader", name := "failAt", desc := "(I)Z" } : Jvm.MethodName) ({ cls := "MarkupStore$TextReader", name := "failAt", desc := "(I)Z" } : Jvm.MethodName)) ∈ ms_tb := ms_i5 48 (by decide +kernel) (by decide +kernel)
theorem ms_k1009 : (Jvm.Cond.methodLink "MarkupStore$PathReader" (96 : Nat) ({ cls := "MarkupStore$PathReader", name := "readPredicate", desc := "(I)LMarkupStore$Predicate;" } : Jvm.MethodName)) ∈ ms_tb := ms_i5 49 (by decide +kernel) (by decide +kernel)
theorem ms_k1011 : (Jvm.Cond.instanceMethod ({ cls := "MarkupStore$PathReader", name := "readPredicate", desc := "(I)LMarkupStore$Predicate;" } : Jvm.MethodName)) ∈ ms_tb := ms_i5 51 (by decide +kernel) (by decide +kernel)
theorem ms_k1012 : (Jvm.Cond.code ({ cls := "MarkupStore$PathReader", name := "readPredicate", desc := "(I)LMarkupStore$Predicate;" } : Jvm.MethodName) prog_6_method_7_code (4 : Nat) (Option.some (Jvm.ClassFile.FieldType.object "MarkupStore$Predicate"))) ∈ ms_tb := ms_i5 52 (by decide +kernel) (by decide +kernel)
theorem ms_k1013 : (Jvm.Cond.classLink "MarkupStore$PathReader" (111 : Nat) "MarkupStore$Predicate") ∈ ms_tb := ms_i5 53 (by decide +kernel) (by decide +kernel)
theorem ms_k1014 : (Jvm.Cond.instantiable "MarkupStore$Predicate" (8 : Nat)) ∈ ms_tb := ms_i5 54 (by decide +kernel) (by decide +kernel)
theorem ms_k1015 : (Jvm.Cond.methodLink "MarkupStore$PathReader" (113 : Nat) ({ cls := "MarkupStore$Predicate", name := "<init>", desc := "()V" } : Jvm.MethodName)) ∈ ms_tb := ms_i5 55 (by decide +kernel) (by decide +kernel)
theorem ms_k1016 : (Jvm.Cond.instanceMethod ({ cls := "MarkupStore$Predicate", name := "<init>", desc := "()V" } : Jvm.MethodName)) ∈ ms_tb := ms_i5 56 (by decide +kernel) (by decide +kernel)
theorem ms_k1017 : (Jvm.Cond.code ({ cls := "MarkupStore$Predicate", name := "<init>", desc := "()V" } : Jvm.MethodName) prog_7_method_1_code (1 : Nat) (Option.none : Option Jvm.ClassFile.FieldType)) ∈ ms_tb := ms_i5 57 (by decide +kernel) (by decide +kernel)
theorem ms_k1022 : (Jvm.Cond.fieldLink "MarkupStore$PathReader" (120 : Nat) "MarkupStore$Predicate" "sort" "C") ∈ ms_tb := ms_i5 62 (by decide +kernel) (by decide +kernel)
theorem ms_k1024 : (Jvm.Cond.fieldLink "MarkupStore$PathReader" (114 : Nat) "MarkupStore$Predicate" "negated" "Z") ∈ ms_tb := ms_i5 64 (by decide +kernel) (by decide +kernel)
theorem ms_k1027 : (Jvm.Cond.fieldLink "MarkupStore$PathReader" (124 : Nat) "MarkupStore$Predicate" "position" "I") ∈ ms_tb := ms_i5 67 (by decide +kernel) (by decide +kernel)
theorem ms_k1031 : (Jvm.Cond.fieldLink "MarkupStore$PathReader" (127 : Nat) "MarkupStore$Predicate" "name" "Ljava/lang/String;") ∈ ms_tb := ms_i5 71 (by decide +kernel) (by decide +kernel)
theorem ms_k1033 : (Jvm.Cond.fieldLink "MarkupStore$Walker" (82 : Nat) "MarkupStore$Predicate" "path" "LMarkupStore$Path;") ∈ ms_tb := ms_i5 73 (by decide +kernel) (by decide +kernel)
theorem ms_k1034 : (Jvm.Cond.fieldLink "MarkupStore$PathReader" (134 : Nat) "MarkupStore$Predicate" "path" "LMarkupStore$Path;") ∈ ms_tb := ms_i5 74 (by decide +kernel) (by decide +kernel)
theorem ms_k1037 : (Jvm.Cond.fieldLink "MarkupStore$PathReader" (140 : Nat) "MarkupStore$Predicate" "comparison" "C") ∈ ms_tb := ms_i5 77 (by decide +kernel) (by decide +kernel)
theorem ms_k1040 : (Jvm.Cond.fieldLink "MarkupStore$PathReader" (147 : Nat) "MarkupStore$Predicate" "string" "Ljava/lang/String;") ∈ ms_tb := ms_i5 80 (by decide +kernel) (by decide +kernel)
theorem ms_k1063 : (Jvm.Cond.methodLink "MarkupStore$PathReader" (121 : Nat) ({ cls := "MarkupStore$PathReader", name := "readPosition", desc := "()I" } : Jvm.MethodName)) ∈ ms_tb := ms_i5 103 (by decide +kernel) (by decide +kernel)
theorem ms_k1065 : (Jvm.Cond.instanceMethod ({ cls := "MarkupStore$PathReader", name := "readPosition", desc := "()I" } : Jvm.MethodName)) ∈ ms_tb := ms_i5 105 (by decide +kernel) (by decide +kernel)
theorem ms_k1066 : (Jvm.Cond.code ({ cls := "MarkupStore$PathReader", name := "readPosition", desc := "()I" } : Jvm.MethodName) prog_6_method_9_code (3 : Nat) (Option.some Jvm.ClassFile.FieldType.int)) ∈ ms_tb := ms_i5 106 (by decide +kernel) (by decide +kernel)
theorem ms_k1068 : (Jvm.Cond.methodLink "MarkupStore$PathReader" (130 : Nat) ({ cls := "MarkupStore$PathReader", name := "readComparison", desc := "(LMarkupStore$Predicate;Ljava/lang/String;)V" } : Jvm.MethodName)) ∈ ms_tb := ms_i5 108 (by decide +kernel) (by decide +kernel)
theorem ms_k1070 : (Jvm.Cond.instanceMethod ({ cls := "MarkupStore$PathReader", name := "readComparison", desc := "(LMarkupStore$Predicate;Ljava/lang/String;)V" } : Jvm.MethodName)) ∈ ms_tb := ms_i5 110 (by decide +kernel) (by decide +kernel)
theorem ms_k1071 : (Jvm.Cond.code ({ cls := "MarkupStore$PathReader", name := "readComparison", desc := "(LMarkupStore$Predicate;Ljava/lang/String;)V" } : Jvm.MethodName) prog_6_method_10_code (4 : Nat) (Option.none : Option Jvm.ClassFile.FieldType)) ∈ ms_tb := ms_i5 111 (by decide +kernel) (by decide +kernel)
theorem ms_k1072 : (Jvm.Cond.methodLink "MarkupStore$PathReader" (100 : Nat) ({ cls := "MarkupStore$PathReader", name := "take", desc := "(C)Z" } : Jvm.MethodName)) ∈ ms_tb := ms_i5 112 (by decide +kernel) (by decide +kernel)
theorem ms_k1073 : (Jvm.Cond.sameMethod "MarkupStore$PathReader" "MarkupStore$TextReader" "take" "(C)Z") ∈ ms_tb := ms_i5 113 (by decide +kernel) (by decide +kernel)
theorem ms_k1074 : (Jvm.Cond.selects "MarkupStore$PathReader" ({ cls := "MarkupStore$PathReader", name := "take", desc := "(C)Z" } : Jvm.MethodName) ({ cls := "MarkupStore$TextReader", name := "take", desc := "(C)Z" } : Jvm.MethodName)) ∈ ms_tb := ms_i5 114 (by decide +kernel) (by decide +kernel)
theorem ms_k1075 : (Jvm.Cond.methodLink "MarkupStore$PathReader" (143 : Nat) ({ cls := "java/lang/String", name := "substring", desc := "(II)Ljava/lang/String;" } : Jvm.MethodName)) ∈ ms_tb := ms_i5 115 (by decide +kernel) (by decide +kernel)
theorem ms_k1077 : (Jvm.Cond.methodLink "MarkupStore$PathReader" (47 : Nat) ({ cls := "java/util/ArrayList", name := "add", desc := "(Ljava/lang/Object;)Z" } : Jvm.MethodName)) ∈ ms_tb := ms_i5 117 (by decide +kernel) (by decide +kernel)
theorem ms_k1078 : (Jvm.Cond.methodLink "MarkupStore$PathReader" (19 : Nat) ({ cls := "MarkupStore$PathReader", name := "readEnd", desc := "()Z" } : Jvm.MethodName)) ∈ ms_tb := ms_i5 118 (by decide +kernel) (by decide +kernel)
theorem ms_k1079 : (Jvm.Cond.sameMethod "MarkupStore$PathReader" "MarkupStore$TextReader" "readEnd" "()Z") ∈ ms_tb := ms_i5 119 (by decide +kernel) (by decide +kernel)
theorem ms_k1080 : (Jvm.Cond.selects "MarkupStore$PathReader" ({ cls := "MarkupStore$PathReader", name := "readEnd", desc := "()Z" } : Jvm.MethodName) ({ cls := "MarkupStore$TextReader", name := "readEnd", desc := "()Z" } : Jvm.MethodName)) ∈ ms_tb := ms_i5 120 (by decide +kernel) (by decide +kernel)
theorem ms_k1081 : (Jvm.Cond.methodLink "MarkupStore" (171 : Nat) ({ cls := "MarkupStore$PathReader", name := "failed", desc := "()Z" } : Jvm.MethodName)) ∈ ms_tb := ms_i5 121 (by decide +kernel) (by decide +kernel)
theorem ms_k1082 : (Jvm.Cond.classLink "MarkupStore" (173 : Nat) "MarkupStore$Walker") ∈ ms_tb := ms_i5 122 (by decide +kernel) (by decide +kernel)
theorem ms_k1083 : (Jvm.Cond.instantiable "MarkupStore$Walker" (1 : Nat)) ∈ ms_tb := ms_i5 123 (by decide +kernel) (by decide +kernel)
theorem ms_k1084 : (Jvm.Cond.methodLink "MarkupStore" (175 : Nat) ({ cls := "MarkupStore$Walker", name := "<init>", desc := "(LMarkupStore$Tree;)V" } : Jvm.MethodName)) ∈ ms_tb := ms_i5 124 (by decide +kernel) (by decide +kernel)
theorem ms_k1085 : (Jvm.Cond.instanceMethod ({ cls := "MarkupStore$Walker", name := "<init>", desc := "(LMarkupStore$Tree;)V" } : Jvm.MethodName)) ∈ ms_tb := ms_i5 125 (by decide +kernel) (by decide +kernel)
theorem ms_k1086 : (Jvm.Cond.code ({ cls := "MarkupStore$Walker", name := "<init>", desc := "(LMarkupStore$Tree;)V" } : Jvm.MethodName) prog_12_method_1_code (2 : Nat) (Option.none : Option Jvm.ClassFile.FieldType)) ∈ ms_tb := ms_i5 126 (by decide +kernel) (by decide +kernel)
theorem ms_k1092 : (Jvm.Cond.methodLink "MarkupStore" (178 : Nat) ({ cls := "MarkupStore$Walker", name := "prepare", desc := "(LMarkupStore$Path;)V" } : Jvm.MethodName)) ∈ ms_tb := ms_i5 132 (by decide +kernel) (by decide +kernel)
theorem ms_k1093 : (Jvm.Cond.instanceMethod ({ cls := "MarkupStore$Walker", name := "prepare", desc := "(LMarkupStore$Path;)V" } : Jvm.MethodName)) ∈ ms_tb := ms_i5 133 (by decide +kernel) (by decide +kernel)
theorem ms_k1094 : (Jvm.Cond.selects "MarkupStore$Walker" ({ cls := "MarkupStore$Walker", name := "prepare", desc := "(LMarkupStore$Path;)V" } : Jvm.MethodName) ({ cls := "MarkupStore$Walker", name := "prepare", desc := "(LMarkupStore$Path;)V" } : Jvm.MethodName)) ∈ ms_tb := ms_i5 134 (by decide +kernel) (by decide +kernel)
theorem ms_k1095 : (Jvm.Cond.code ({ cls := "MarkupStore$Walker", name := "prepare", desc := "(LMarkupStore$Path;)V" } : Jvm.MethodName) prog_12_method_4_code (5 : Nat) (Option.none : Option Jvm.ClassFile.FieldType)) ∈ ms_tb := ms_i5 135 (by decide +kernel) (by decide +kernel)
theorem ms_k1099 : (Jvm.Cond.methodLink "MarkupStore$Walker" (58 : Nat) ({ cls := "MarkupStore$Step", name := "takes", desc := "(LMarkupStore$Node;)Z" } : Jvm.MethodName)) ∈ ms_tb := ms_i5 139 (by decide +kernel) (by decide +kernel)
theorem ms_k1100 : (Jvm.Cond.instanceMethod ({ cls := "MarkupStore$Step", name := "takes", desc := "(LMarkupStore$Node;)Z" } : Jvm.MethodName)) ∈ ms_tb := ms_i5 140 (by decide +kernel) (by decide +kernel)
theorem ms_k1101 : (Jvm.Cond.selects "MarkupStore$Step" ({ cls := "MarkupStore$Step", name := "takes", desc := "(LMarkupStore$Node;)Z" } : Jvm.MethodName) ({ cls := "MarkupStore$Step", name := "takes", desc := "(LMarkupStore$Node;)Z" } : Jvm.MethodName)) ∈ ms_tb := ms_i5 141 (by decide +kernel) (by decide +kernel)
theorem ms_k1102 : (Jvm.Cond.code ({ cls := "MarkupStore$Step", name := "takes", desc := "(LMarkupStore$Node;)Z" } : Jvm.MethodName) prog_9_method_3_code (2 : Nat) (Option.some Jvm.ClassFile.FieldType.boolean)) ∈ ms_tb := ms_i5 142 (by decide +kernel) (by decide +kernel)
theorem ms_k1105 : (Jvm.Cond.methodLink "MarkupStore$Walker" (67 : Nat) ({ cls := "MarkupStore$Walker", name := "settle", desc := "(LMarkupStore$Predicate;)V" } : Jvm.MethodName)) ∈ ms_tb := ms_i5 145 (by decide +kernel) (by decide +kernel)
theorem ms_k1107 : (Jvm.Cond.instanceMethod ({ cls := "MarkupStore$Walker", name := "settle", desc := "(LMarkupStore$Predicate;)V" } : Jvm.MethodName)) ∈ ms_tb := ms_i5 147 (by decide +kernel) (by decide +kernel)
theorem ms_k1108 : (Jvm.Cond.code ({ cls := "MarkupStore$Walker", name := "settle", desc := "(LMarkupStore$Predicate;)V" } : Jvm.MethodName) prog_12_method_5_code (2 : Nat) (Option.none : Option Jvm.ClassFile.FieldType)) ∈ ms_tb := ms_i5 148 (by decide +kernel) (by decide +kernel)
theorem ms_k1109 : (Jvm.Cond.methodLink "MarkupStore$Walker" (75 : Nat) ({ cls := "MarkupStore$Walker", name := "withAttribute", desc := "(LMarkupStore$Predicate;)J" } : Jvm.MethodName)) ∈ ms_tb := ms_i5 149 (by decide +kernel) (by decide +kernel)
theorem ms_k1111 : (Jvm.Cond.instanceMethod ({ cls := "MarkupStore$Walker", name := "withAttribute", desc := "(LMarkupStore$Predicate;)J" } : Jvm.MethodName)) ∈ ms_tb := ms_i5 151 (by decide +kernel) (by decide +kernel)
theorem ms_k1112 : (Jvm.Cond.code ({ cls := "MarkupStore$Walker", name := "withAttribute", desc := "(LMarkupStore$Predicate;)J" } : Jvm.MethodName) prog_12_method_6_code (7 : Nat) (Option.some Jvm.ClassFile.FieldType.long)) ∈ ms_tb := ms_i5 152 (by decide +kernel) (by decide +kernel)
theorem ms_k1119 : (Jvm.Cond.methodLink "MarkupStore$Walker" (86 : Nat) ({ cls := "MarkupStore$Walker", name := "prepare", desc := "(LMarkupStore$Path;)V" } : Jvm.MethodName)) ∈ ms_tb := ms_i5 159 (by decide +kernel) (by decide +kernel)
theorem ms_k1120 : (Jvm.Cond.methodLink "MarkupStore$Walker" (90 : Nat) ({ cls := "MarkupStore$Walker", name := "goals", desc := "(LMarkupStore$Predicate;)J" } : Jvm.MethodName)) ∈ ms_tb := ms_i5 160 (by decide +kernel) (by decide +kernel)
theorem ms_k1122 : (Jvm.Cond.instanceMethod ({ cls := "MarkupStore$Walker", name := "goals", desc := "(LMarkupStore$Predicate;)J" } : Jvm.MethodName)) ∈ ms_tb := ms_i5 162 (by decide +kernel) (by decide +kernel)
theorem ms_k1123 : (Jvm.Cond.code ({ cls := "MarkupStore$Walker", name := "goals", desc := "(LMarkupStore$Predicate;)J" } : Jvm.MethodName) prog_12_method_7_code (5 : Nat) (Option.some Jvm.ClassFile.FieldType.long)) ∈ ms_tb := ms_i5 163 (by decide +kernel) (by decide +kernel)
theorem ms_k1134 : (Jvm.Cond.methodLink "MarkupStore$Walker" (93 : Nat) ({ cls := "MarkupStore$Walker", name := "origins", desc := "(LMarkupStore$Path;J)J" } : Jvm.MethodName)) ∈ ms_tb := ms_i5 174 (by decide +kernel) (by decide +kernel)
theorem ms_k1136 : (Jvm.Cond.instanceMethod ({ cls := "MarkupStore$Walker", name := "origins", desc := "(LMarkupStore$Path;J)J" } : Jvm.MethodName)) ∈ ms_tb := ms_i5 176 (by decide +kernel) (by decide +kernel)
theorem ms_k1137 : (Jvm.Cond.code ({ cls := "MarkupStore$Walker", name := "origins", desc := "(LMarkupStore$Path;J)J" } : Jvm.MethodName) prog_12_method_9_code (8 : Nat) (Option.some Jvm.ClassFile.FieldType.long)) ∈ ms_tb := ms_i5 177 (by decide +kernel) (by decide +kernel)
theorem ms_k1181 : (Jvm.Cond.methodLink "MarkupStore" (182 : Nat) ({ cls := "MarkupStore$Walker", name := "goFrom", desc := "(ILMarkupStore$Path;)J" } : Jvm.MethodName)) ∈ ms_tb := ms_i5 221 (by decide +kernel) (by decide +kernel)
theorem ms_k1182 : (Jvm.Cond.instanceMethod ({ cls := "MarkupStore$Walker", name := "goFrom", desc := "(ILMarkupStore$Path;)J" } : Jvm.MethodName)) ∈ ms_tb := ms_i5 222 (by decide +kernel) (by decide +kernel)
theorem ms_k1183 : (Jvm.Cond.selects "MarkupStore$Walker" ({ cls := "MarkupStore$Walker", name := "goFrom", desc := "(ILMarkupStore$Path;)J" } : Jvm.MethodName) ({ cls := "MarkupStore$Walker", name := "goFrom", desc := "(ILMarkupStore$Path;)J" } : Jvm.MethodName)) ∈ ms_tb := ms_i5 223 (by decide +kernel) (by decide +kernel)
theorem ms_k1184 : (Jvm.Cond.code ({ cls := "MarkupStore$Walker", name := "goFrom", desc := "(ILMarkupStore$Path;)J" } : Jvm.MethodName) prog_12_method_3_code (7 : Nat) (Option.some Jvm.ClassFile.FieldType.long)) ∈ ms_tb := ms_i5 224 (by decide +kernel) (by decide +kernel)
theorem ms_k1192 : (Jvm.Cond.methodLink "MarkupStore" (186 : Nat) ({ cls := "MarkupStore", name := "keepFound", desc := "(J)V" } : Jvm.MethodName)) ∈ ms_tb := ms_i5 232 (by decide +kernel) (by decide +kernel)
theorem ms_k1194 : (Jvm.Cond.instanceMethod ({ cls := "MarkupStore", name := "keepFound", desc := "(J)V" } : Jvm.MethodName)) ∈ ms_tb := ms_i5 234 (by decide +kernel) (by decide +kernel)
theorem ms_k1195 : (Jvm.Cond.code ({ cls := "MarkupStore", name := "keepFound", desc := "(J)V" } : Jvm.MethodName) prog_1_method_23_code (4 : Nat) (Option.none : Option Jvm.ClassFile.FieldType)) ∈ ms_tb := ms_i5 235 (by decide +kernel) (by decide +kernel)
theorem ms_k1209 : (Jvm.Cond.methodLink "MarkupStore" (194 : Nat) ({ cls := "MarkupStore$Tree", name := "giveBack", desc := "()V" } : Jvm.MethodName)) ∈ ms_tb := ms_i6 9 (by decide +kernel) (by decide +kernel)
theorem ms_k1210 : (Jvm.Cond.instanceMethod ({ cls := "MarkupStore$Tree", name := "giveBack", desc := "()V" } : Jvm.MethodName)) ∈ ms_tb := ms_i6 10 (by decide +kernel) (by decide +kernel)
theorem ms_k1211 : (Jvm.Cond.selects "MarkupStore$Tree" ({ cls := "MarkupStore$Tree", name := "giveBack", desc := "()V" } : Jvm.MethodName) ({ cls := "MarkupStore$Tree", name := "giveBack", desc := "()V" } : Jvm.MethodName)) ∈ ms_tb := ms_i6 11 (by decide +kernel) (by decide +kernel)
theorem ms_k1212 : (Jvm.Cond.code ({ cls := "MarkupStore$Tree", name := "giveBack", desc := "()V" } : Jvm.MethodName) prog_11_method_12_code (2 : Nat) (Option.none : Option Jvm.ClassFile.FieldType)) ∈ ms_tb := ms_i6 12 (by decide +kernel) (by decide +kernel)
theorem ms_k1246 : (Jvm.Cond.classLink "MarkupStore" (220 : Nat) "MarkupStore$Scribe") ∈ ms_tb := ms_i6 46 (by decide +kernel) (by decide +kernel)
theorem ms_k1247 : (Jvm.Cond.instantiable "MarkupStore$Scribe" (3 : Nat)) ∈ ms_tb := ms_i6 47 (by decide +kernel) (by decide +kernel)
theorem ms_k1248 : (Jvm.Cond.methodLink "MarkupStore" (222 : Nat) ({ cls := "MarkupStore$Scribe", name := "<init>", desc := "(I)V" } : Jvm.MethodName)) ∈ ms_tb := ms_i6 48 (by decide +kernel) (by decide +kernel)
theorem ms_k1249 : (Jvm.Cond.instanceMethod ({ cls := "MarkupStore$Scribe", name := "<init>", desc := "(I)V" } : Jvm.MethodName)) ∈ ms_tb := ms_i6 49 (by decide +kernel) (by decide +kernel)
theorem ms_k1250 : (Jvm.Cond.code ({ cls := "MarkupStore$Scribe", name := "<init>", desc := "(I)V" } : Jvm.MethodName) prog_8_method_1_code (2 : Nat) (Option.none : Option Jvm.ClassFile.FieldType)) ∈ ms_tb := ms_i6 50 (by decide +kernel) (by decide +kernel)
theorem ms_k1254 : (Jvm.Cond.fieldLink "MarkupStore" (227 : Nat) "MarkupStore$Scribe" "count" "I") ∈ ms_tb := ms_i6 54 (by decide +kernel) (by decide +kernel)
theorem ms_k1256 : (Jvm.Cond.fieldLink "MarkupStore" (230 : Nat) "MarkupStore$Scribe" "seen" "I") ∈ ms_tb := ms_i6 56 (by decide +kernel) (by decide +kernel)
theorem ms_k1264 : (Jvm.Cond.methodLink "MarkupStore" (224 : Nat) ({ cls := "MarkupStore$Scribe", name := "write", desc := "(LMarkupStore$Tree;)V" } : Jvm.MethodName)) ∈ ms_tb := ms_i6 64 (by decide +kernel) (by decide +kernel)
theorem ms_k1265 : (Jvm.Cond.instanceMethod ({ cls := "MarkupStore$Scribe", name := "write", desc := "(LMarkupStore$Tree;)V" } : Jvm.MethodName)) ∈ ms_tb := ms_i6 65 (by decide +kernel) (by decide +kernel)
theorem ms_k1266 : (Jvm.Cond.selects "MarkupStore$Scribe" ({ cls := "MarkupStore$Scribe", name := "write", desc := "(LMarkupStore$Tree;)V" } : Jvm.MethodName) ({ cls := "MarkupStore$Scribe", name := "write", desc := "(LMarkupStore$Tree;)V" } : Jvm.MethodName)) ∈ ms_tb := ms_i6 66 (by decide +kernel) (by decide +kernel)
theorem ms_k1267 : (Jvm.Cond.code ({ cls := "MarkupStore$Scribe", name := "write", desc := "(LMarkupStore$Tree;)V" } : Jvm.MethodName) prog_8_method_2_code (6 : Nat) (Option.none : Option Jvm.ClassFile.FieldType)) ∈ ms_tb := ms_i6 67 (by decide +kernel) (by decide +kernel)
theorem ms_p0 : Cond.selects "MarkupStore" (⟨"MarkupStore", "useBuffer", "()Ljava/lang/String;"⟩ : MethodName) (⟨"MarkupStore", "useBuffer", "()Ljava/lang/String;"⟩ : MethodName) ∈ ms_tb := ms_inP 0 (by decide +kernel) (by decide +kernel)
theorem ms_p1 : Cond.selects "MarkupStore$MarkupReader" (⟨"MarkupStore$MarkupReader", "readElement", "(LMarkupStore$Node;[I)Z"⟩ : MethodName) (⟨"MarkupStore$MarkupReader", "readElement", "(LMarkupStore$Node;[I)Z"⟩ : MethodName) ∈ ms_tb := ms_inP 1 (by decide +kernel) (by decide +kernel)
theorem ms_p2 : Cond.selects "MarkupStore$MarkupReader" (⟨"MarkupStore$MarkupReader", "make", "(ILMarkupStore$Node;[I)LMarkupStore$Node;"⟩ : MethodName) (⟨"MarkupStore$MarkupReader", "make", "(ILMarkupStore$Node;[I)LMarkupStore$Node;"⟩ : MethodName) ∈ ms_tb := ms_inP 2 (by decide +kernel) (by decide +kernel)
theorem ms_p6 : Cond.selects "MarkupStore$MarkupReader" (⟨"MarkupStore$MarkupReader", "readAttribute", "(LMarkupStore$Node;)Z"⟩ : MethodName) (⟨"MarkupStore$MarkupReader", "readAttribute", "(LMarkupStore$Node;)Z"⟩ : MethodName) ∈ ms_tb := ms_inP 6 (by decide +kernel) (by decide +kernel)
theorem ms_p7 : Cond.selects "MarkupStore$MarkupReader" (⟨"MarkupStore$MarkupReader", "readValue", "(C)Ljava/lang/String;"⟩ : MethodName) (⟨"MarkupStore$MarkupReader", "readValue", "(C)Ljava/lang/String;"⟩ : MethodName) ∈ ms_tb := ms_inP 7 (by decide +kernel) (by decide +kernel)
theorem ms_p8 : Cond.selects "MarkupStore$MarkupReader" (⟨"MarkupStore$MarkupReader", "readEntity", "()C"⟩ : MethodName) (⟨"MarkupStore$MarkupReader", "readEntity", "()C"⟩ : MethodName) ∈ ms_tb := ms_inP 8 (by decide +kernel) (by decide +kernel)
theorem ms_p9 : Cond.selects "MarkupStore$MarkupReader" (⟨"MarkupStore$MarkupReader", "skip", "(Ljava/lang/String;)Z"⟩ : MethodName) (⟨"MarkupStore$MarkupReader", "skip", "(Ljava/lang/String;)Z"⟩ : MethodName) ∈ ms_tb := ms_inP 9 (by decide +kernel) (by decide +kernel)
theorem ms_p10 : Cond.selects "MarkupStore$MarkupReader" (⟨"MarkupStore$MarkupReader", "readContent", "(LMarkupStore$Node;)Z"⟩ : MethodName) (⟨"MarkupStore$MarkupReader", "readContent", "(LMarkupStore$Node;)Z"⟩ : MethodName) ∈ ms_tb := ms_inP 10 (by decide +kernel) (by decide +kernel)
theorem ms_p11 : Cond.selects "MarkupStore$MarkupReader" (⟨"MarkupStore$MarkupReader", "readPiece", "(LMarkupStore$Node;[I)Z"⟩ : MethodName) (⟨"MarkupStore$MarkupReader", "readPiece", "(LMarkupStore$Node;[I)Z"⟩ : MethodName) ∈ ms_tb := ms_inP 11 (by decide +kernel) (by decide +kernel)
theorem ms_p12 : Cond.selects "MarkupStore$MarkupReader" (⟨"MarkupStore$MarkupReader", "readComment", "(LMarkupStore$Node;[I)Z"⟩ : MethodName) (⟨"MarkupStore$MarkupReader", "readComment", "(LMarkupStore$Node;[I)Z"⟩ : MethodName) ∈ ms_tb := ms_inP 12 (by decide +kernel) (by decide +kernel)
theorem ms_p13 : Cond.selects "MarkupStore$MarkupReader" (⟨"MarkupStore$MarkupReader", "readEndTag", "(LMarkupStore$Node;)Z"⟩ : MethodName) (⟨"MarkupStore$MarkupReader", "readEndTag", "(LMarkupStore$Node;)Z"⟩ : MethodName) ∈ ms_tb := ms_inP 13 (by decide +kernel) (by decide +kernel)
theorem ms_p16 : Cond.selects "MarkupStore" (⟨"MarkupStore", "joinNew", "(LMarkupStore$Node;Ljava/lang/String;Ljava/lang/String;)I"⟩ : MethodName) (⟨"MarkupStore", "joinNew", "(LMarkupStore$Node;Ljava/lang/String;Ljava/lang/String;)I"⟩ : MethodName) ∈ ms_tb := ms_inP 16 (by decide +kernel) (by decide +kernel)
theorem ms_p17 : Cond.selects "MarkupStore" (⟨"MarkupStore", "joined", "(Ljava/lang/String;Ljava/lang/String;)Ljava/lang/String;"⟩ : MethodName) (⟨"MarkupStore", "joined", "(Ljava/lang/String;Ljava/lang/String;)Ljava/lang/String;"⟩ : MethodName) ∈ ms_tb := ms_inP 17 (by decide +kernel) (by decide +kernel)
theorem ms_p18 : Cond.selects "MarkupStore" (⟨"MarkupStore", "putNew", "(LMarkupStore$MarkupReader;I)I"⟩ : MethodName) (⟨"MarkupStore", "putNew", "(LMarkupStore$MarkupReader;I)I"⟩ : MethodName) ∈ ms_tb := ms_inP 18 (by decide +kernel) (by decide +kernel)
theorem ms_p19 : Cond.selects "MarkupStore$PathReader" (⟨"MarkupStore$PathReader", "readPath", "(I)LMarkupStore$Path;"⟩ : MethodName) (⟨"MarkupStore$PathReader", "readPath", "(I)LMarkupStore$Path;"⟩ : MethodName) ∈ ms_tb := ms_inP 19 (by decide +kernel) (by decide +kernel)
theorem ms_p20 : Cond.selects "MarkupStore$PathReader" (⟨"MarkupStore$PathReader", "readStep", "(I)LMarkupStore$Step;"⟩ : MethodName) (⟨"MarkupStore$PathReader", "readStep", "(I)LMarkupStore$Step;"⟩ : MethodName) ∈ ms_tb := ms_inP 20 (by decide +kernel) (by decide +kernel)
theorem ms_p21 : Cond.selects "MarkupStore$PathReader" (⟨"MarkupStore$PathReader", "readPredicate", "(I)LMarkupStore$Predicate;"⟩ : MethodName) (⟨"MarkupStore$PathReader", "readPredicate", "(I)LMarkupStore$Predicate;"⟩ : MethodName) ∈ ms_tb := ms_inP 21 (by decide +kernel) (by decide +kernel)
theorem ms_p22 : Cond.selects "MarkupStore$PathReader" (⟨"MarkupStore$PathReader", "readPosition", "()I"⟩ : MethodName) (⟨"MarkupStore$PathReader", "readPosition", "()I"⟩ : MethodName) ∈ ms_tb := ms_inP 22 (by decide +kernel) (by decide +kernel)
theorem ms_p23 : Cond.selects "MarkupStore$PathReader" (⟨"MarkupStore$PathReader", "readComparison", "(LMarkupStore$Predicate;Ljava/lang/String;)V"⟩ : MethodName) (⟨"MarkupStore$PathReader", "readComparison", "(LMarkupStore$Predicate;Ljava/lang/String;)V"⟩ : MethodName) ∈ ms_tb := ms_inP 23 (by decide +kernel) (by decide +kernel)
theorem ms_p24 : Cond.selects "MarkupStore$Walker" (⟨"MarkupStore$Walker", "settle", "(LMarkupStore$Predicate;)V"⟩ : MethodName) (⟨"MarkupStore$Walker", "settle", "(LMarkupStore$Predicate;)V"⟩ : MethodName) ∈ ms_tb := ms_inP 24 (by decide +kernel) (by decide +kernel)
theorem ms_p25 : Cond.selects "MarkupStore$Walker" (⟨"MarkupStore$Walker", "withAttribute", "(LMarkupStore$Predicate;)J"⟩ : MethodName) (⟨"MarkupStore$Walker", "withAttribute", "(LMarkupStore$Predicate;)J"⟩ : MethodName) ∈ ms_tb := ms_inP 25 (by decide +kernel) (by decide +kernel)
theorem ms_p26 : Cond.selects "MarkupStore$Walker" (⟨"MarkupStore$Walker", "goals", "(LMarkupStore$Predicate;)J"⟩ : MethodName) (⟨"MarkupStore$Walker", "goals", "(LMarkupStore$Predicate;)J"⟩ : MethodName) ∈ ms_tb := ms_inP 26 (by decide +kernel) (by decide +kernel)
theorem ms_p28 : Cond.selects "MarkupStore$Walker" (⟨"MarkupStore$Walker", "origins", "(LMarkupStore$Path;J)J"⟩ : MethodName) (⟨"MarkupStore$Walker", "origins", "(LMarkupStore$Path;J)J"⟩ : MethodName) ∈ ms_tb := ms_inP 28 (by decide +kernel) (by decide +kernel)
theorem ms_p38 : Cond.selects "MarkupStore" (⟨"MarkupStore", "keepFound", "(J)V"⟩ : MethodName) (⟨"MarkupStore", "keepFound", "(J)V"⟩ : MethodName) ∈ ms_tb := ms_inP 38 (by decide +kernel) (by decide +kernel)
abbrev bM222 : ByteArray := prog_1_method_2_code
def yM222 : MethodName := ⟨"MarkupStore", "type", "(C)Z"⟩
abbrev bM223 : ByteArray := prog_1_method_10_code
def yM223 : MethodName := ⟨"MarkupStore", "crash", "()I"⟩
abbrev bM224 : ByteArray := prog_1_method_17_code
def yM224 : MethodName := ⟨"MarkupStore", "length", "()I"⟩
abbrev bM225 : ByteArray := prog_1_method_18_code
def yM225 : MethodName := ⟨"MarkupStore", "written", "(I)I"⟩
abbrev bM226 : ByteArray := prog_1_method_19_code
def yM226 : MethodName := ⟨"MarkupStore", "useBuffer", "()Ljava/lang/String;"⟩
abbrev bM227 : ByteArray := prog_1_method_29_code
def yM227 : MethodName := ⟨"MarkupStore", "joined", "(Ljava/lang/String;Ljava/lang/String;)Ljava/lang/String;"⟩
abbrev bM228 : ByteArray := prog_2_method_1_code
def yM228 : MethodName := ⟨"MarkupStore$Attribute", "<init>", "(Ljava/lang/String;Ljava/lang/String;)V"⟩
abbrev bM229 : ByteArray := prog_3_method_1_code
def yM229 : MethodName := ⟨"MarkupStore$MarkupReader", "<init>", "(Ljava/lang/String;Ljava/lang/StringBuilder;)V"⟩
abbrev bM230 : ByteArray := prog_3_method_16_code
def yM230 : MethodName := ⟨"MarkupStore$MarkupReader", "skip", "(Ljava/lang/String;)Z"⟩
abbrev bM231 : ByteArray := prog_4_method_1_code
def yM231 : MethodName := ⟨"MarkupStore$Node", "<init>", "(ILMarkupStore$Node;[I)V"⟩
abbrev bM232 : ByteArray := prog_4_method_3_code
def yM232 : MethodName := ⟨"MarkupStore$Node", "labelOfChild", "(I)[I"⟩
abbrev bM233 : ByteArray := prog_4_method_4_code
def yM233 : MethodName := ⟨"MarkupStore$Node", "labelBetween", "(LMarkupStore$Node;LMarkupStore$Node;LMarkupStore$Node;)[I"⟩
abbrev bM234 : ByteArray := prog_5_method_1_code
def yM234 : MethodName := ⟨"MarkupStore$Path", "<init>", "(Z)V"⟩
abbrev bM235 : ByteArray := prog_6_method_1_code
def yM235 : MethodName := ⟨"MarkupStore$PathReader", "<init>", "(Ljava/lang/String;)V"⟩
abbrev bM236 : ByteArray := prog_6_method_3_code
def yM236 : MethodName := ⟨"MarkupStore$PathReader", "readPath", "(I)LMarkupStore$Path;"⟩
abbrev bM237 : ByteArray := prog_6_method_4_code
def yM237 : MethodName := ⟨"MarkupStore$PathReader", "readStep", "(I)LMarkupStore$Step;"⟩
abbrev bM238 : ByteArray := prog_6_method_10_code
def yM238 : MethodName := ⟨"MarkupStore$PathReader", "readComparison", "(LMarkupStore$Predicate;Ljava/lang/String;)V"⟩
abbrev bM239 : ByteArray := prog_9_method_1_code
def yM239 : MethodName := ⟨"MarkupStore$Step", "<init>", "()V"⟩
abbrev bM240 : ByteArray := prog_10_method_6_code
def yM240 : MethodName := ⟨"MarkupStore$TextReader", "readName", "()Ljava/lang/String;"⟩
abbrev bM241 : ByteArray := prog_11_method_1_code
def yM241 : MethodName := ⟨"MarkupStore$Tree", "<init>", "()V"⟩
abbrev bM242 : ByteArray := prog_12_method_4_code
def yM242 : MethodName := ⟨"MarkupStore$Walker", "prepare", "(LMarkupStore$Path;)V"⟩
abbrev bM243 : ByteArray := prog_12_method_5_code
def yM243 : MethodName := ⟨"MarkupStore$Walker", "settle", "(LMarkupStore$Predicate;)V"⟩
abbrev bM244 : ByteArray := prog_1_method_1_code
def yM244 : MethodName := ⟨"MarkupStore", "<init>", "()V"⟩
abbrev bM245 : ByteArray := prog_1_method_5_code
def yM245 : MethodName := ⟨"MarkupStore", "remove", "(I)I"⟩
abbrev bM246 : ByteArray := prog_1_method_6_code
def yM246 : MethodName := ⟨"MarkupStore", "replace", "(I)Z"⟩
abbrev bM247 : ByteArray := prog_1_method_21_code
def yM247 : MethodName := ⟨"MarkupStore", "joinNew", "(LMarkupStore$Node;Ljava/lang/String;Ljava/lang/String;)I"⟩
abbrev bM248 : ByteArray := prog_3_method_8_code
def yM248 : MethodName := ⟨"MarkupStore$MarkupReader", "make", "(ILMarkupStore$Node;[I)LMarkupStore$Node;"⟩
abbrev bM249 : ByteArray := prog_3_method_11_code
def yM249 : MethodName := ⟨"MarkupStore$MarkupReader", "readContent", "(LMarkupStore$Node;)Z"⟩
abbrev bM250 : ByteArray := prog_3_method_7_code
def yM250 : MethodName := ⟨"MarkupStore$MarkupReader", "readPiece", "(LMarkupStore$Node;[I)Z"⟩
abbrev bM251 : ByteArray := prog_3_method_13_code
def yM251 : MethodName := ⟨"MarkupStore$MarkupReader", "readComment", "(LMarkupStore$Node;[I)Z"⟩
abbrev bM252 : ByteArray := prog_3_method_15_code
def yM252 : MethodName := ⟨"MarkupStore$MarkupReader", "readEntity", "()C"⟩
abbrev bM253 : ByteArray := prog_6_method_7_code
def yM253 : MethodName := ⟨"MarkupStore$PathReader", "readPredicate", "(I)LMarkupStore$Predicate;"⟩
abbrev bM254 : ByteArray := prog_3_method_14_code
def yM254 : MethodName := ⟨"MarkupStore$MarkupReader", "readValue", "(C)Ljava/lang/String;"⟩
abbrev bM255 : ByteArray := prog_6_method_2_code
def yM255 : MethodName := ⟨"MarkupStore$PathReader", "readWhole", "()LMarkupStore$Path;"⟩
abbrev bM256 : ByteArray := prog_1_method_7_code
def yM256 : MethodName := ⟨"MarkupStore", "query", "(I)I"⟩
abbrev bM257 : ByteArray := prog_3_method_9_code
def yM257 : MethodName := ⟨"MarkupStore$MarkupReader", "readElement", "(LMarkupStore$Node;[I)Z"⟩
abbrev bM258 : ByteArray := prog_3_method_10_code
def yM258 : MethodName := ⟨"MarkupStore$MarkupReader", "readAttribute", "(LMarkupStore$Node;)Z"⟩
abbrev bM259 : ByteArray := prog_3_method_5_code
def yM259 : MethodName := ⟨"MarkupStore$MarkupReader", "readDocument", "()Z"⟩
abbrev bM260 : ByteArray := prog_3_method_6_code
def yM260 : MethodName := ⟨"MarkupStore$MarkupReader", "readOne", "(LMarkupStore$Node;[I)Z"⟩
abbrev bM261 : ByteArray := prog_1_method_3_code
def yM261 : MethodName := ⟨"MarkupStore", "load", "()I"⟩
abbrev bM262 : ByteArray := prog_1_method_4_code
def yM262 : MethodName := ⟨"MarkupStore", "insert", "(II)I"⟩
theorem d222_0 : decode bM222 0 = .ok (.iload_n 1, 1) := by decide +kernel
theorem d222_1 : decode bM222 1 = .ok (.bipush 32, 2) := by decide +kernel
theorem d222_3 : decode bM222 3 = .ok (.if_icmp .lt 21, 3) := by decide +kernel
theorem d222_6 : decode bM222 6 = .ok (.iload_n 1, 1) := by decide +kernel
theorem d222_7 : decode bM222 7 = .ok (.bipush 126, 2) := by decide +kernel
theorem d222_9 : decode bM222 9 = .ok (.if_icmp .gt 15, 3) := by decide +kernel
theorem d222_12 : decode bM222 12 = .ok (.aload_n 0, 1) := by decide +kernel
theorem d222_13 : decode bM222 13 = .ok (.getfield 10, 3) := by decide +kernel
theorem d222_16 : decode bM222 16 = .ok (.invokevirtual 37, 3) := by decide +kernel
theorem d222_19 : decode bM222 19 = .ok (.bipush 120, 2) := by decide +kernel
theorem d222_21 : decode bM222 21 = .ok (.if_icmp .lt 5, 3) := by decide +kernel
theorem d222_24 : decode bM222 24 = .ok (.iconst 0, 1) := by decide +kernel
theorem d222_25 : decode bM222 25 = .ok (.ireturn, 1) := by decide +kernel
theorem d222_26 : decode bM222 26 = .ok (.aload_n 0, 1) := by decide +kernel
theorem d222_27 : decode bM222 27 = .ok (.getfield 10, 3) := by decide +kernel
theorem d222_30 : decode bM222 30 = .ok (.iload_n 1, 1) := by decide +kernel
theorem d222_31 : decode bM222 31 = .ok (.invokevirtual 41, 3) := by decide +kernel
theorem d222_34 : decode bM222 34 = .ok (.pop, 1) := by decide +kernel
theorem d222_35 : decode bM222 35 = .ok (.iconst 1, 1) := by decide +kernel
theorem d222_36 : decode bM222 36 = .ok (.ireturn, 1) := by decide +kernel
theorem d223_0 : decode bM223 0 = .ok (.aload_n 0, 1) := by decide +kernel
theorem d223_1 : decode bM223 1 = .ok (.getfield 34, 3) := by decide +kernel
theorem d223_4 : decode bM223 4 = .ok (.istore_n 1, 1) := by decide +kernel
theorem d223_5 : decode bM223 5 = .ok (.aload_n 0, 1) := by decide +kernel
theorem d223_6 : decode bM223 6 = .ok (.getfield 10, 3) := by decide +kernel
theorem d223_9 : decode bM223 9 = .ok (.iconst 0, 1) := by decide +kernel
theorem d223_10 : decode bM223 10 = .ok (.invokevirtual 190, 3) := by decide +kernel
theorem d223_13 : decode bM223 13 = .ok (.aload_n 0, 1) := by decide +kernel
theorem d223_14 : decode bM223 14 = .ok (.getfield 22, 3) := by decide +kernel
theorem d223_17 : decode bM223 17 = .ok (.invokevirtual 194, 3) := by decide +kernel
theorem d223_20 : decode bM223 20 = .ok (.aload_n 0, 1) := by decide +kernel
theorem d223_21 : decode bM223 21 = .ok (.invokevirtual 87, 3) := by decide +kernel
theorem d223_24 : decode bM223 24 = .ok (.iload_n 1, 1) := by decide +kernel
theorem d223_25 : decode bM223 25 = .ok (.ireturn, 1) := by decide +kernel
theorem d224_0 : decode bM224 0 = .ok (.new 220, 3) := by decide +kernel
theorem d224_3 : decode bM224 3 = .ok (.dup, 1) := by decide +kernel
theorem d224_4 : decode bM224 4 = .ok (.iconst (-1), 1) := by decide +kernel
theorem d224_5 : decode bM224 5 = .ok (.invokespecial 222, 3) := by decide +kernel
theorem d224_8 : decode bM224 8 = .ok (.astore_n 1, 1) := by decide +kernel
theorem d224_9 : decode bM224 9 = .ok (.aload_n 1, 1) := by decide +kernel
theorem d224_10 : decode bM224 10 = .ok (.aload_n 0, 1) := by decide +kernel
theorem d224_11 : decode bM224 11 = .ok (.getfield 22, 3) := by decide +kernel
theorem d224_14 : decode bM224 14 = .ok (.invokevirtual 224, 3) := by decide +kernel
theorem d224_17 : decode bM224 17 = .ok (.aload_n 1, 1) := by decide +kernel
theorem d224_18 : decode bM224 18 = .ok (.getfield 227, 3) := by decide +kernel
theorem d224_21 : decode bM224 21 = .ok (.ireturn, 1) := by decide +kernel
theorem d225_0 : decode bM225 0 = .ok (.new 220, 3) := by decide +kernel
theorem d225_3 : decode bM225 3 = .ok (.dup, 1) := by decide +kernel
theorem d225_4 : decode bM225 4 = .ok (.iload_n 1, 1) := by decide +kernel
theorem d225_5 : decode bM225 5 = .ok (.invokespecial 222, 3) := by decide +kernel
theorem d225_8 : decode bM225 8 = .ok (.astore_n 2, 1) := by decide +kernel
theorem d225_9 : decode bM225 9 = .ok (.aload_n 2, 1) := by decide +kernel
theorem d225_10 : decode bM225 10 = .ok (.aload_n 0, 1) := by decide +kernel
theorem d225_11 : decode bM225 11 = .ok (.getfield 22, 3) := by decide +kernel
theorem d225_14 : decode bM225 14 = .ok (.invokevirtual 224, 3) := by decide +kernel
theorem d225_17 : decode bM225 17 = .ok (.aload_n 2, 1) := by decide +kernel
theorem d225_18 : decode bM225 18 = .ok (.getfield 230, 3) := by decide +kernel
theorem d225_21 : decode bM225 21 = .ok (.ireturn, 1) := by decide +kernel
theorem d226_0 : decode bM226 0 = .ok (.aload_n 0, 1) := by decide +kernel
theorem d226_1 : decode bM226 1 = .ok (.getfield 10, 3) := by decide +kernel
theorem d226_4 : decode bM226 4 = .ok (.invokevirtual 233, 3) := by decide +kernel
theorem d226_7 : decode bM226 7 = .ok (.astore_n 1, 1) := by decide +kernel
theorem d226_8 : decode bM226 8 = .ok (.aload_n 0, 1) := by decide +kernel
theorem d226_9 : decode bM226 9 = .ok (.getfield 10, 3) := by decide +kernel
theorem d226_12 : decode bM226 12 = .ok (.iconst 0, 1) := by decide +kernel
theorem d226_13 : decode bM226 13 = .ok (.invokevirtual 190, 3) := by decide +kernel
theorem d226_16 : decode bM226 16 = .ok (.aload_n 1, 1) := by decide +kernel
theorem d226_17 : decode bM226 17 = .ok (.areturn, 1) := by decide +kernel
theorem d227_0 : decode bM227 0 = .ok (.aload_n 0, 1) := by decide +kernel
theorem d227_1 : decode bM227 1 = .ok (.getfield 16, 3) := by decide +kernel
theorem d227_4 : decode bM227 4 = .ok (.iconst 0, 1) := by decide +kernel
theorem d227_5 : decode bM227 5 = .ok (.invokevirtual 190, 3) := by decide +kernel
theorem d227_8 : decode bM227 8 = .ok (.aload_n 0, 1) := by decide +kernel
theorem d227_9 : decode bM227 9 = .ok (.getfield 16, 3) := by decide +kernel
theorem d227_12 : decode bM227 12 = .ok (.aload_n 1, 1) := by decide +kernel
theorem d227_13 : decode bM227 13 = .ok (.invokevirtual 257, 3) := by decide +kernel
theorem d227_16 : decode bM227 16 = .ok (.pop, 1) := by decide +kernel
theorem d227_17 : decode bM227 17 = .ok (.aload_n 0, 1) := by decide +kernel
theorem d227_18 : decode bM227 18 = .ok (.getfield 16, 3) := by decide +kernel
theorem d227_21 : decode bM227 21 = .ok (.aload_n 2, 1) := by decide +kernel
theorem d227_22 : decode bM227 22 = .ok (.invokevirtual 257, 3) := by decide +kernel
theorem d227_25 : decode bM227 25 = .ok (.pop, 1) := by decide +kernel
theorem d227_26 : decode bM227 26 = .ok (.aload_n 0, 1) := by decide +kernel
theorem d227_27 : decode bM227 27 = .ok (.getfield 16, 3) := by decide +kernel
theorem d227_30 : decode bM227 30 = .ok (.invokevirtual 233, 3) := by decide +kernel
theorem d227_33 : decode bM227 33 = .ok (.areturn, 1) := by decide +kernel
theorem d228_0 : decode bM228 0 = .ok (.aload_n 0, 1) := by decide +kernel
theorem d228_1 : decode bM228 1 = .ok (.invokespecial 1, 3) := by decide +kernel
theorem d228_4 : decode bM228 4 = .ok (.aload_n 0, 1) := by decide +kernel
theorem d228_5 : decode bM228 5 = .ok (.aload_n 1, 1) := by decide +kernel
theorem d228_6 : decode bM228 6 = .ok (.putfield 7, 3) := by decide +kernel
theorem d228_9 : decode bM228 9 = .ok (.aload_n 0, 1) := by decide +kernel
theorem d228_10 : decode bM228 10 = .ok (.aload_n 2, 1) := by decide +kernel
theorem d228_11 : decode bM228 11 = .ok (.putfield 13, 3) := by decide +kernel
theorem d228_14 : decode bM228 14 = .ok (.return_, 1) := by decide +kernel
theorem d229_0 : decode bM229 0 = .ok (.aload_n 0, 1) := by decide +kernel
theorem d229_1 : decode bM229 1 = .ok (.aload_n 1, 1) := by decide +kernel
theorem d229_2 : decode bM229 2 = .ok (.invokespecial 3, 3) := by decide +kernel
theorem d229_5 : decode bM229 5 = .ok (.aload_n 0, 1) := by decide +kernel
theorem d229_6 : decode bM229 6 = .ok (.new 9, 3) := by decide +kernel
theorem d229_9 : decode bM229 9 = .ok (.dup, 1) := by decide +kernel
theorem d229_10 : decode bM229 10 = .ok (.invokespecial 11, 3) := by decide +kernel
theorem d229_13 : decode bM229 13 = .ok (.putfield 14, 3) := by decide +kernel
theorem d229_16 : decode bM229 16 = .ok (.aload_n 0, 1) := by decide +kernel
theorem d229_17 : decode bM229 17 = .ok (.aload_n 2, 1) := by decide +kernel
theorem d229_18 : decode bM229 18 = .ok (.putfield 20, 3) := by decide +kernel
theorem d229_21 : decode bM229 21 = .ok (.aload_n 0, 1) := by decide +kernel
theorem d229_22 : decode bM229 22 = .ok (.iconst 0, 1) := by decide +kernel
theorem d229_23 : decode bM229 23 = .ok (.putfield 24, 3) := by decide +kernel
theorem d229_26 : decode bM229 26 = .ok (.return_, 1) := by decide +kernel
theorem d230_0 : decode bM230 0 = .ok (.aload_n 0, 1) := by decide +kernel
theorem d230_1 : decode bM230 1 = .ok (.getfield 82, 3) := by decide +kernel
theorem d230_4 : decode bM230 4 = .ok (.aload_n 1, 1) := by decide +kernel
theorem d230_5 : decode bM230 5 = .ok (.invokevirtual 114, 3) := by decide +kernel
theorem d230_8 : decode bM230 8 = .ok (.iadd, 1) := by decide +kernel
theorem d230_9 : decode bM230 9 = .ok (.istore_n 2, 1) := by decide +kernel
theorem d230_10 : decode bM230 10 = .ok (.iload_n 2, 1) := by decide +kernel
theorem d230_11 : decode bM230 11 = .ok (.aload_n 0, 1) := by decide +kernel
theorem d230_12 : decode bM230 12 = .ok (.getfield 75, 3) := by decide +kernel
theorem d230_15 : decode bM230 15 = .ok (.invokevirtual 114, 3) := by decide +kernel
theorem d230_18 : decode bM230 18 = .ok (.if_icmp .ge 16, 3) := by decide +kernel
theorem d230_21 : decode bM230 21 = .ok (.aload_n 0, 1) := by decide +kernel
theorem d230_22 : decode bM230 22 = .ok (.getfield 75, 3) := by decide +kernel
theorem d230_25 : decode bM230 25 = .ok (.iload_n 2, 1) := by decide +kernel
theorem d230_26 : decode bM230 26 = .ok (.invokevirtual 145, 3) := by decide +kernel
theorem d230_29 : decode bM230 29 = .ok (.bipush 59, 2) := by decide +kernel
theorem d230_31 : decode bM230 31 = .ok (.if_icmp .eq 5, 3) := by decide +kernel
theorem d230_34 : decode bM230 34 = .ok (.iconst 0, 1) := by decide +kernel
theorem d230_35 : decode bM230 35 = .ok (.ireturn, 1) := by decide +kernel
theorem d230_36 : decode bM230 36 = .ok (.aload_n 0, 1) := by decide +kernel
theorem d230_37 : decode bM230 37 = .ok (.getfield 75, 3) := by decide +kernel
theorem d230_40 : decode bM230 40 = .ok (.aload_n 0, 1) := by decide +kernel
theorem d230_41 : decode bM230 41 = .ok (.getfield 82, 3) := by decide +kernel
theorem d230_44 : decode bM230 44 = .ok (.iload_n 2, 1) := by decide +kernel
theorem d230_45 : decode bM230 45 = .ok (.invokevirtual 148, 3) := by decide +kernel
theorem d230_48 : decode bM230 48 = .ok (.aload_n 1, 1) := by decide +kernel
theorem d230_49 : decode bM230 49 = .ok (.invokevirtual 184, 3) := by decide +kernel
theorem d230_52 : decode bM230 52 = .ok (.ifCond .ne 5, 3) := by decide +kernel
theorem d230_55 : decode bM230 55 = .ok (.iconst 0, 1) := by decide +kernel
theorem d230_56 : decode bM230 56 = .ok (.ireturn, 1) := by decide +kernel
theorem d230_57 : decode bM230 57 = .ok (.aload_n 0, 1) := by decide +kernel
theorem d230_58 : decode bM230 58 = .ok (.iload_n 2, 1) := by decide +kernel
theorem d230_59 : decode bM230 59 = .ok (.putfield 82, 3) := by decide +kernel
theorem d230_62 : decode bM230 62 = .ok (.iconst 1, 1) := by decide +kernel
theorem d230_63 : decode bM230 63 = .ok (.ireturn, 1) := by decide +kernel
theorem d231_0 : decode bM231 0 = .ok (.aload_n 0, 1) := by decide +kernel
theorem d231_1 : decode bM231 1 = .ok (.invokespecial 3, 3) := by decide +kernel
theorem d231_4 : decode bM231 4 = .ok (.aload_n 0, 1) := by decide +kernel
theorem d231_5 : decode bM231 5 = .ok (.iload_n 1, 1) := by decide +kernel
theorem d231_6 : decode bM231 6 = .ok (.putfield 9, 3) := by decide +kernel
theorem d231_9 : decode bM231 9 = .ok (.aload_n 0, 1) := by decide +kernel
theorem d231_10 : decode bM231 10 = .ok (.aload_n 2, 1) := by decide +kernel
theorem d231_11 : decode bM231 11 = .ok (.putfield 15, 3) := by decide +kernel
theorem d231_14 : decode bM231 14 = .ok (.aload_n 0, 1) := by decide +kernel
theorem d231_15 : decode bM231 15 = .ok (.aload_n 2, 1) := by decide +kernel
theorem d231_16 : decode bM231 16 = .ok (.ifnonnull 7, 3) := by decide +kernel
theorem d231_19 : decode bM231 19 = .ok (.iconst 0, 1) := by decide +kernel
theorem d231_20 : decode bM231 20 = .ok (.goto 9, 3) := by decide +kernel
theorem d231_23 : decode bM231 23 = .ok (.aload_n 2, 1) := by decide +kernel
theorem d231_24 : decode bM231 24 = .ok (.getfield 19, 3) := by decide +kernel
theorem d231_27 : decode bM231 27 = .ok (.iconst 1, 1) := by decide +kernel
theorem d231_28 : decode bM231 28 = .ok (.iadd, 1) := by decide +kernel
theorem d231_29 : decode bM231 29 = .ok (.putfield 19, 3) := by decide +kernel
theorem d231_32 : decode bM231 32 = .ok (.aload_n 0, 1) := by decide +kernel
theorem d231_33 : decode bM231 33 = .ok (.aload_n 3, 1) := by decide +kernel
theorem d231_34 : decode bM231 34 = .ok (.putfield 22, 3) := by decide +kernel
theorem d231_37 : decode bM231 37 = .ok (.aload_n 0, 1) := by decide +kernel
theorem d231_38 : decode bM231 38 = .ok (.new 26, 3) := by decide +kernel
theorem d231_41 : decode bM231 41 = .ok (.dup, 1) := by decide +kernel
theorem d231_42 : decode bM231 42 = .ok (.invokespecial 28, 3) := by decide +kernel
theorem d231_45 : decode bM231 45 = .ok (.putfield 29, 3) := by decide +kernel
theorem d231_48 : decode bM231 48 = .ok (.aload_n 0, 1) := by decide +kernel
theorem d231_49 : decode bM231 49 = .ok (.iconst (-1), 1) := by decide +kernel
theorem d231_50 : decode bM231 50 = .ok (.putfield 33, 3) := by decide +kernel
theorem d231_53 : decode bM231 53 = .ok (.aload_n 0, 1) := by decide +kernel
theorem d231_54 : decode bM231 54 = .ok (.iconst (-1), 1) := by decide +kernel
theorem d231_55 : decode bM231 55 = .ok (.putfield 36, 3) := by decide +kernel
theorem d231_58 : decode bM231 58 = .ok (.aload_n 0, 1) := by decide +kernel
theorem d231_59 : decode bM231 59 = .ok (.ldc 39, 2) := by decide +kernel
theorem d231_61 : decode bM231 61 = .ok (.putfield 41, 3) := by decide +kernel
theorem d231_64 : decode bM231 64 = .ok (.aload_n 0, 1) := by decide +kernel
theorem d231_65 : decode bM231 65 = .ok (.ldc 39, 2) := by decide +kernel
theorem d231_67 : decode bM231 67 = .ok (.putfield 45, 3) := by decide +kernel
theorem d231_70 : decode bM231 70 = .ok (.return_, 1) := by decide +kernel
theorem d232_0 : decode bM232 0 = .ok (.aload_n 0, 1) := by decide +kernel
theorem d232_1 : decode bM232 1 = .ok (.getfield 22, 3) := by decide +kernel
theorem d232_4 : decode bM232 4 = .ok (.aload_n 0, 1) := by decide +kernel
theorem d232_5 : decode bM232 5 = .ok (.getfield 22, 3) := by decide +kernel
theorem d232_8 : decode bM232 8 = .ok (.arraylength, 1) := by decide +kernel
theorem d232_9 : decode bM232 9 = .ok (.iconst 1, 1) := by decide +kernel
theorem d232_10 : decode bM232 10 = .ok (.iadd, 1) := by decide +kernel
theorem d232_11 : decode bM232 11 = .ok (.invokestatic 68, 3) := by decide +kernel
theorem d232_14 : decode bM232 14 = .ok (.astore_n 2, 1) := by decide +kernel
theorem d232_15 : decode bM232 15 = .ok (.aload_n 2, 1) := by decide +kernel
theorem d232_16 : decode bM232 16 = .ok (.aload_n 0, 1) := by decide +kernel
theorem d232_17 : decode bM232 17 = .ok (.getfield 22, 3) := by decide +kernel
theorem d232_20 : decode bM232 20 = .ok (.arraylength, 1) := by decide +kernel
theorem d232_21 : decode bM232 21 = .ok (.iconst 2, 1) := by decide +kernel
theorem d232_22 : decode bM232 22 = .ok (.iload_n 1, 1) := by decide +kernel
theorem d232_23 : decode bM232 23 = .ok (.imul, 1) := by decide +kernel
theorem d232_24 : decode bM232 24 = .ok (.iconst 1, 1) := by decide +kernel
theorem d232_25 : decode bM232 25 = .ok (.iadd, 1) := by decide +kernel
theorem d232_26 : decode bM232 26 = .ok (.iastore, 1) := by decide +kernel
theorem d232_27 : decode bM232 27 = .ok (.aload_n 2, 1) := by decide +kernel
theorem d232_28 : decode bM232 28 = .ok (.areturn, 1) := by decide +kernel
theorem d233_0 : decode bM233 0 = .ok (.aload_n 1, 1) := by decide +kernel
theorem d233_1 : decode bM233 1 = .ok (.ifnonnull 7, 3) := by decide +kernel
theorem d233_4 : decode bM233 4 = .ok (.aconst_null, 1) := by decide +kernel
theorem d233_5 : decode bM233 5 = .ok (.goto 7, 3) := by decide +kernel
theorem d233_8 : decode bM233 8 = .ok (.aload_n 1, 1) := by decide +kernel
theorem d233_9 : decode bM233 9 = .ok (.getfield 22, 3) := by decide +kernel
theorem d233_12 : decode bM233 12 = .ok (.astore_n 3, 1) := by decide +kernel
theorem d233_13 : decode bM233 13 = .ok (.aload_n 2, 1) := by decide +kernel
theorem d233_14 : decode bM233 14 = .ok (.ifnonnull 7, 3) := by decide +kernel
theorem d233_17 : decode bM233 17 = .ok (.aconst_null, 1) := by decide +kernel
theorem d233_18 : decode bM233 18 = .ok (.goto 7, 3) := by decide +kernel
theorem d233_21 : decode bM233 21 = .ok (.aload_n 2, 1) := by decide +kernel
theorem d233_22 : decode bM233 22 = .ok (.getfield 22, 3) := by decide +kernel
theorem d233_25 : decode bM233 25 = .ok (.astore 4, 2) := by decide +kernel
theorem d233_27 : decode bM233 27 = .ok (.aload_n 0, 1) := by decide +kernel
theorem d233_28 : decode bM233 28 = .ok (.getfield 22, 3) := by decide +kernel
theorem d233_31 : decode bM233 31 = .ok (.bipush 18, 2) := by decide +kernel
theorem d233_33 : decode bM233 33 = .ok (.invokestatic 68, 3) := by decide +kernel
theorem d233_36 : decode bM233 36 = .ok (.astore 5, 2) := by decide +kernel
theorem d233_38 : decode bM233 38 = .ok (.aload_n 0, 1) := by decide +kernel
theorem d233_39 : decode bM233 39 = .ok (.getfield 22, 3) := by decide +kernel
theorem d233_42 : decode bM233 42 = .ok (.arraylength, 1) := by decide +kernel
theorem d233_43 : decode bM233 43 = .ok (.istore 6, 2) := by decide +kernel
theorem d233_45 : decode bM233 45 = .ok (.iconst 1, 1) := by decide +kernel
theorem d233_46 : decode bM233 46 = .ok (.istore 7, 2) := by decide +kernel
theorem d233_48 : decode bM233 48 = .ok (.iload 7, 2) := by decide +kernel
theorem d233_50 : decode bM233 50 = .ok (.ifCond .eq 231, 3) := by decide +kernel
theorem d233_53 : decode bM233 53 = .ok (.iload 6, 2) := by decide +kernel
theorem d233_55 : decode bM233 55 = .ok (.bipush 16, 2) := by decide +kernel
theorem d233_57 : decode bM233 57 = .ok (.if_icmp .gt 224, 3) := by decide +kernel
theorem d233_60 : decode bM233 60 = .ok (.aload_n 3, 1) := by decide +kernel
theorem d233_61 : decode bM233 61 = .ok (.ifnull 14, 3) := by decide +kernel
theorem d233_64 : decode bM233 64 = .ok (.iload 6, 2) := by decide +kernel
theorem d233_66 : decode bM233 66 = .ok (.aload_n 3, 1) := by decide +kernel
theorem d233_67 : decode bM233 67 = .ok (.arraylength, 1) := by decide +kernel
theorem d233_68 : decode bM233 68 = .ok (.if_icmp .ge 7, 3) := by decide +kernel
theorem d233_71 : decode bM233 71 = .ok (.iconst 1, 1) := by decide +kernel
theorem d233_72 : decode bM233 72 = .ok (.goto 4, 3) := by decide +kernel
theorem d233_75 : decode bM233 75 = .ok (.iconst 0, 1) := by decide +kernel
theorem d233_76 : decode bM233 76 = .ok (.istore 8, 2) := by decide +kernel
theorem d233_78 : decode bM233 78 = .ok (.aload 4, 2) := by decide +kernel
theorem d233_80 : decode bM233 80 = .ok (.ifnull 15, 3) := by decide +kernel
theorem d233_83 : decode bM233 83 = .ok (.iload 6, 2) := by decide +kernel
theorem d233_85 : decode bM233 85 = .ok (.aload 4, 2) := by decide +kernel
theorem d233_87 : decode bM233 87 = .ok (.arraylength, 1) := by decide +kernel
theorem d233_88 : decode bM233 88 = .ok (.if_icmp .ge 7, 3) := by decide +kernel
theorem d233_91 : decode bM233 91 = .ok (.iconst 1, 1) := by decide +kernel
theorem d233_92 : decode bM233 92 = .ok (.goto 4, 3) := by decide +kernel
theorem d233_95 : decode bM233 95 = .ok (.iconst 0, 1) := by decide +kernel
theorem d233_96 : decode bM233 96 = .ok (.istore 9, 2) := by decide +kernel
theorem d233_98 : decode bM233 98 = .ok (.iload 8, 2) := by decide +kernel
theorem d233_100 : decode bM233 100 = .ok (.ifCond .eq 10, 3) := by decide +kernel
theorem d233_103 : decode bM233 103 = .ok (.aload_n 3, 1) := by decide +kernel
theorem d233_104 : decode bM233 104 = .ok (.iload 6, 2) := by decide +kernel
theorem d233_106 : decode bM233 106 = .ok (.iaload, 1) := by decide +kernel
theorem d233_107 : decode bM233 107 = .ok (.goto 4, 3) := by decide +kernel
theorem d233_110 : decode bM233 110 = .ok (.iconst 0, 1) := by decide +kernel
theorem d233_111 : decode bM233 111 = .ok (.istore 10, 2) := by decide +kernel
theorem d233_113 : decode bM233 113 = .ok (.iload 9, 2) := by decide +kernel
theorem d233_115 : decode bM233 115 = .ok (.ifCond .eq 11, 3) := by decide +kernel
theorem d233_118 : decode bM233 118 = .ok (.aload 4, 2) := by decide +kernel
theorem d233_120 : decode bM233 120 = .ok (.iload 6, 2) := by decide +kernel
theorem d233_122 : decode bM233 122 = .ok (.iaload, 1) := by decide +kernel
theorem d233_123 : decode bM233 123 = .ok (.goto 4, 3) := by decide +kernel
theorem d233_126 : decode bM233 126 = .ok (.iconst 0, 1) := by decide +kernel
theorem d233_127 : decode bM233 127 = .ok (.istore 11, 2) := by decide +kernel
theorem d233_129 : decode bM233 129 = .ok (.iload 8, 2) := by decide +kernel
theorem d233_131 : decode bM233 131 = .ok (.ifCond .eq 11, 3) := by decide +kernel
theorem d233_134 : decode bM233 134 = .ok (.iload 10, 2) := by decide +kernel
theorem d233_136 : decode bM233 136 = .ok (.invokestatic 74, 3) := by decide +kernel
theorem d233_139 : decode bM233 139 = .ok (.goto 17, 3) := by decide +kernel
theorem d233_142 : decode bM233 142 = .ok (.iload 9, 2) := by decide +kernel
theorem d233_144 : decode bM233 144 = .ok (.ifCond .eq 11, 3) := by decide +kernel
theorem d233_147 : decode bM233 147 = .ok (.iload 11, 2) := by decide +kernel
theorem d233_149 : decode bM233 149 = .ok (.invokestatic 78, 3) := by decide +kernel
theorem d233_152 : decode bM233 152 = .ok (.goto 4, 3) := by decide +kernel
theorem d233_155 : decode bM233 155 = .ok (.iconst 1, 1) := by decide +kernel
theorem d233_156 : decode bM233 156 = .ok (.istore 12, 2) := by decide +kernel
theorem d233_158 : decode bM233 158 = .ok (.iload 8, 2) := by decide +kernel
theorem d233_160 : decode bM233 160 = .ok (.ifCond .eq 15, 3) := by decide +kernel
theorem d233_163 : decode bM233 163 = .ok (.iload 9, 2) := by decide +kernel
theorem d233_165 : decode bM233 165 = .ok (.ifCond .eq 10, 3) := by decide +kernel
theorem d233_168 : decode bM233 168 = .ok (.iload 12, 2) := by decide +kernel
theorem d233_170 : decode bM233 170 = .ok (.iload 11, 2) := by decide +kernel
theorem d233_172 : decode bM233 172 = .ok (.if_icmp .ge 16, 3) := by decide +kernel
theorem d233_175 : decode bM233 175 = .ok (.aload 5, 2) := by decide +kernel
theorem d233_177 : decode bM233 177 = .ok (.iload 6, 2) := by decide +kernel
theorem d233_179 : decode bM233 179 = .ok (.iload 12, 2) := by decide +kernel
theorem d233_181 : decode bM233 181 = .ok (.iastore, 1) := by decide +kernel
theorem d233_182 : decode bM233 182 = .ok (.iconst 0, 1) := by decide +kernel
theorem d233_183 : decode bM233 183 = .ok (.istore 7, 2) := by decide +kernel
theorem d233_185 : decode bM233 185 = .ok (.goto 90, 3) := by decide +kernel
theorem d233_188 : decode bM233 188 = .ok (.iload 10, 2) := by decide +kernel
theorem d233_190 : decode bM233 190 = .ok (.invokestatic 81, 3) := by decide +kernel
theorem d233_193 : decode bM233 193 = .ok (.ifCond .eq 35, 3) := by decide +kernel
theorem d233_196 : decode bM233 196 = .ok (.iload 11, 2) := by decide +kernel
theorem d233_198 : decode bM233 198 = .ok (.invokestatic 81, 3) := by decide +kernel
theorem d233_201 : decode bM233 201 = .ok (.ifCond .eq 27, 3) := by decide +kernel
theorem d233_204 : decode bM233 204 = .ok (.aload 5, 2) := by decide +kernel
theorem d233_206 : decode bM233 206 = .ok (.iload 6, 2) := by decide +kernel
theorem d233_208 : decode bM233 208 = .ok (.iload 10, 2) := by decide +kernel
theorem d233_210 : decode bM233 210 = .ok (.iconst 1, 1) := by decide +kernel
theorem d233_211 : decode bM233 211 = .ok (.iadd, 1) := by decide +kernel
theorem d233_212 : decode bM233 212 = .ok (.iastore, 1) := by decide +kernel
theorem d233_213 : decode bM233 213 = .ok (.iinc 6 1, 3) := by decide +kernel
theorem d233_216 : decode bM233 216 = .ok (.aload 5, 2) := by decide +kernel
theorem d233_218 : decode bM233 218 = .ok (.iload 6, 2) := by decide +kernel
theorem d233_220 : decode bM233 220 = .ok (.iconst 1, 1) := by decide +kernel
theorem d233_221 : decode bM233 221 = .ok (.iastore, 1) := by decide +kernel
theorem d233_222 : decode bM233 222 = .ok (.iconst 0, 1) := by decide +kernel
theorem d233_223 : decode bM233 223 = .ok (.istore 7, 2) := by decide +kernel
theorem d233_225 : decode bM233 225 = .ok (.goto 50, 3) := by decide +kernel
theorem d233_228 : decode bM233 228 = .ok (.iload 10, 2) := by decide +kernel
theorem d233_230 : decode bM233 230 = .ok (.iload 11, 2) := by decide +kernel
theorem d233_232 : decode bM233 232 = .ok (.if_icmp .ne 13, 3) := by decide +kernel
theorem d233_235 : decode bM233 235 = .ok (.aload 5, 2) := by decide +kernel
theorem d233_237 : decode bM233 237 = .ok (.iload 6, 2) := by decide +kernel
theorem d233_239 : decode bM233 239 = .ok (.iload 10, 2) := by decide +kernel
theorem d233_241 : decode bM233 241 = .ok (.iastore, 1) := by decide +kernel
theorem d233_242 : decode bM233 242 = .ok (.goto 33, 3) := by decide +kernel
theorem d233_245 : decode bM233 245 = .ok (.iload 10, 2) := by decide +kernel
theorem d233_247 : decode bM233 247 = .ok (.invokestatic 81, 3) := by decide +kernel
theorem d233_250 : decode bM233 250 = .ok (.ifCond .ne 16, 3) := by decide +kernel
theorem d233_253 : decode bM233 253 = .ok (.aload 5, 2) := by decide +kernel
theorem d233_255 : decode bM233 255 = .ok (.iload 6, 2) := by decide +kernel
theorem d233_257 : decode bM233 257 = .ok (.iload 10, 2) := by decide +kernel
theorem d233_259 : decode bM233 259 = .ok (.iastore, 1) := by decide +kernel
theorem d233_260 : decode bM233 260 = .ok (.aconst_null, 1) := by decide +kernel
theorem d233_261 : decode bM233 261 = .ok (.astore 4, 2) := by decide +kernel
theorem d233_263 : decode bM233 263 = .ok (.goto 12, 3) := by decide +kernel
theorem d233_266 : decode bM233 266 = .ok (.aload 5, 2) := by decide +kernel
theorem d233_268 : decode bM233 268 = .ok (.iload 6, 2) := by decide +kernel
theorem d233_270 : decode bM233 270 = .ok (.iload 11, 2) := by decide +kernel
theorem d233_272 : decode bM233 272 = .ok (.iastore, 1) := by decide +kernel
theorem d233_273 : decode bM233 273 = .ok (.aconst_null, 1) := by decide +kernel
theorem d233_274 : decode bM233 274 = .ok (.astore_n 3, 1) := by decide +kernel
theorem d233_275 : decode bM233 275 = .ok (.iinc 6 1, 3) := by decide +kernel
theorem d233_278 : decode bM233 278 = .ok (.goto (-230), 3) := by decide +kernel
theorem d233_281 : decode bM233 281 = .ok (.aload 5, 2) := by decide +kernel
theorem d233_283 : decode bM233 283 = .ok (.iload 6, 2) := by decide +kernel
theorem d233_285 : decode bM233 285 = .ok (.invokestatic 68, 3) := by decide +kernel
theorem d233_288 : decode bM233 288 = .ok (.areturn, 1) := by decide +kernel
theorem d234_0 : decode bM234 0 = .ok (.aload_n 0, 1) := by decide +kernel
theorem d234_1 : decode bM234 1 = .ok (.invokespecial 1, 3) := by decide +kernel
theorem d234_4 : decode bM234 4 = .ok (.aload_n 0, 1) := by decide +kernel
theorem d234_5 : decode bM234 5 = .ok (.iload_n 1, 1) := by decide +kernel
theorem d234_6 : decode bM234 6 = .ok (.putfield 7, 3) := by decide +kernel
theorem d234_9 : decode bM234 9 = .ok (.aload_n 0, 1) := by decide +kernel
theorem d234_10 : decode bM234 10 = .ok (.new 13, 3) := by decide +kernel
theorem d234_13 : decode bM234 13 = .ok (.dup, 1) := by decide +kernel
theorem d234_14 : decode bM234 14 = .ok (.invokespecial 15, 3) := by decide +kernel
theorem d234_17 : decode bM234 17 = .ok (.putfield 16, 3) := by decide +kernel
theorem d234_20 : decode bM234 20 = .ok (.return_, 1) := by decide +kernel
theorem d235_0 : decode bM235 0 = .ok (.aload_n 0, 1) := by decide +kernel
theorem d235_1 : decode bM235 1 = .ok (.aload_n 1, 1) := by decide +kernel
theorem d235_2 : decode bM235 2 = .ok (.invokespecial 3, 3) := by decide +kernel
theorem d235_5 : decode bM235 5 = .ok (.return_, 1) := by decide +kernel
theorem d236_0 : decode bM236 0 = .ok (.new 22, 3) := by decide +kernel
theorem d236_3 : decode bM236 3 = .ok (.dup, 1) := by decide +kernel
theorem d236_4 : decode bM236 4 = .ok (.aload_n 0, 1) := by decide +kernel
theorem d236_5 : decode bM236 5 = .ok (.aload_n 0, 1) := by decide +kernel
theorem d236_6 : decode bM236 6 = .ok (.getfield 24, 3) := by decide +kernel
theorem d236_9 : decode bM236 9 = .ok (.invokevirtual 28, 3) := by decide +kernel
theorem d236_12 : decode bM236 12 = .ok (.bipush 47, 2) := by decide +kernel
theorem d236_14 : decode bM236 14 = .ok (.if_icmp .ne 7, 3) := by decide +kernel
theorem d236_17 : decode bM236 17 = .ok (.iconst 1, 1) := by decide +kernel
theorem d236_18 : decode bM236 18 = .ok (.goto 4, 3) := by decide +kernel
theorem d236_21 : decode bM236 21 = .ok (.iconst 0, 1) := by decide +kernel
theorem d236_22 : decode bM236 22 = .ok (.invokespecial 32, 3) := by decide +kernel
theorem d236_25 : decode bM236 25 = .ok (.astore_n 2, 1) := by decide +kernel
theorem d236_26 : decode bM236 26 = .ok (.aload_n 2, 1) := by decide +kernel
theorem d236_27 : decode bM236 27 = .ok (.getfield 35, 3) := by decide +kernel
theorem d236_30 : decode bM236 30 = .ok (.ifCond .eq 13, 3) := by decide +kernel
theorem d236_33 : decode bM236 33 = .ok (.aload_n 0, 1) := by decide +kernel
theorem d236_34 : decode bM236 34 = .ok (.dup, 1) := by decide +kernel
theorem d236_35 : decode bM236 35 = .ok (.getfield 24, 3) := by decide +kernel
theorem d236_38 : decode bM236 38 = .ok (.iconst 1, 1) := by decide +kernel
theorem d236_39 : decode bM236 39 = .ok (.iadd, 1) := by decide +kernel
theorem d236_40 : decode bM236 40 = .ok (.putfield 24, 3) := by decide +kernel
theorem d236_43 : decode bM236 43 = .ok (.aload_n 2, 1) := by decide +kernel
theorem d236_44 : decode bM236 44 = .ok (.getfield 39, 3) := by decide +kernel
theorem d236_47 : decode bM236 47 = .ok (.aload_n 0, 1) := by decide +kernel
theorem d236_48 : decode bM236 48 = .ok (.iload_n 1, 1) := by decide +kernel
theorem d236_49 : decode bM236 49 = .ok (.invokevirtual 43, 3) := by decide +kernel
theorem d236_52 : decode bM236 52 = .ok (.invokevirtual 47, 3) := by decide +kernel
theorem d236_55 : decode bM236 55 = .ok (.pop, 1) := by decide +kernel
theorem d236_56 : decode bM236 56 = .ok (.iconst 0, 1) := by decide +kernel
theorem d236_57 : decode bM236 57 = .ok (.istore_n 3, 1) := by decide +kernel
theorem d236_58 : decode bM236 58 = .ok (.iload_n 3, 1) := by decide +kernel
theorem d236_59 : decode bM236 59 = .ok (.aload_n 0, 1) := by decide +kernel
theorem d236_60 : decode bM236 60 = .ok (.getfield 53, 3) := by decide +kernel
theorem d236_63 : decode bM236 63 = .ok (.invokevirtual 57, 3) := by decide +kernel
theorem d236_66 : decode bM236 66 = .ok (.if_icmp .ge 52, 3) := by decide +kernel
theorem d236_69 : decode bM236 69 = .ok (.aload_n 0, 1) := by decide +kernel
theorem d236_70 : decode bM236 70 = .ok (.invokevirtual 15, 3) := by decide +kernel
theorem d236_73 : decode bM236 73 = .ok (.ifCond .ne 45, 3) := by decide +kernel
theorem d236_76 : decode bM236 76 = .ok (.aload_n 0, 1) := by decide +kernel
theorem d236_77 : decode bM236 77 = .ok (.aload_n 0, 1) := by decide +kernel
theorem d236_78 : decode bM236 78 = .ok (.getfield 24, 3) := by decide +kernel
theorem d236_81 : decode bM236 81 = .ok (.invokevirtual 28, 3) := by decide +kernel
theorem d236_84 : decode bM236 84 = .ok (.bipush 47, 2) := by decide +kernel
theorem d236_86 : decode bM236 86 = .ok (.if_icmp .ne 32, 3) := by decide +kernel
theorem d236_89 : decode bM236 89 = .ok (.aload_n 0, 1) := by decide +kernel
theorem d236_90 : decode bM236 90 = .ok (.dup, 1) := by decide +kernel
theorem d236_91 : decode bM236 91 = .ok (.getfield 24, 3) := by decide +kernel
theorem d236_94 : decode bM236 94 = .ok (.iconst 1, 1) := by decide +kernel
theorem d236_95 : decode bM236 95 = .ok (.iadd, 1) := by decide +kernel
theorem d236_96 : decode bM236 96 = .ok (.putfield 24, 3) := by decide +kernel
theorem d236_99 : decode bM236 99 = .ok (.aload_n 2, 1) := by decide +kernel
theorem d236_100 : decode bM236 100 = .ok (.getfield 39, 3) := by decide +kernel
theorem d236_103 : decode bM236 103 = .ok (.aload_n 0, 1) := by decide +kernel
theorem d236_104 : decode bM236 104 = .ok (.iload_n 1, 1) := by decide +kernel
theorem d236_105 : decode bM236 105 = .ok (.invokevirtual 43, 3) := by decide +kernel
theorem d236_108 : decode bM236 108 = .ok (.invokevirtual 47, 3) := by decide +kernel
theorem d236_111 : decode bM236 111 = .ok (.pop, 1) := by decide +kernel
theorem d236_112 : decode bM236 112 = .ok (.iinc 3 1, 3) := by decide +kernel
theorem d236_115 : decode bM236 115 = .ok (.goto (-57), 3) := by decide +kernel
theorem d236_118 : decode bM236 118 = .ok (.aload_n 2, 1) := by decide +kernel
theorem d236_119 : decode bM236 119 = .ok (.areturn, 1) := by decide +kernel
theorem d237_0 : decode bM237 0 = .ok (.new 63, 3) := by decide +kernel
theorem d237_3 : decode bM237 3 = .ok (.dup, 1) := by decide +kernel
theorem d237_4 : decode bM237 4 = .ok (.invokespecial 65, 3) := by decide +kernel
theorem d237_7 : decode bM237 7 = .ok (.astore_n 2, 1) := by decide +kernel
theorem d237_8 : decode bM237 8 = .ok (.aload_n 0, 1) := by decide +kernel
theorem d237_9 : decode bM237 9 = .ok (.aload_n 0, 1) := by decide +kernel
theorem d237_10 : decode bM237 10 = .ok (.getfield 24, 3) := by decide +kernel
theorem d237_13 : decode bM237 13 = .ok (.invokevirtual 28, 3) := by decide +kernel
theorem d237_16 : decode bM237 16 = .ok (.invokestatic 68, 3) := by decide +kernel
theorem d237_19 : decode bM237 19 = .ok (.ifCond .eq 25, 3) := by decide +kernel
theorem d237_22 : decode bM237 22 = .ok (.aload_n 2, 1) := by decide +kernel
theorem d237_23 : decode bM237 23 = .ok (.aload_n 0, 1) := by decide +kernel
theorem d237_24 : decode bM237 24 = .ok (.aload_n 0, 1) := by decide +kernel
theorem d237_25 : decode bM237 25 = .ok (.getfield 24, 3) := by decide +kernel
theorem d237_28 : decode bM237 28 = .ok (.invokevirtual 28, 3) := by decide +kernel
theorem d237_31 : decode bM237 31 = .ok (.putfield 72, 3) := by decide +kernel
theorem d237_34 : decode bM237 34 = .ok (.aload_n 0, 1) := by decide +kernel
theorem d237_35 : decode bM237 35 = .ok (.dup, 1) := by decide +kernel
theorem d237_36 : decode bM237 36 = .ok (.getfield 24, 3) := by decide +kernel
theorem d237_39 : decode bM237 39 = .ok (.iconst 1, 1) := by decide +kernel
theorem d237_40 : decode bM237 40 = .ok (.iadd, 1) := by decide +kernel
theorem d237_41 : decode bM237 41 = .ok (.putfield 24, 3) := by decide +kernel
theorem d237_44 : decode bM237 44 = .ok (.aload_n 0, 1) := by decide +kernel
theorem d237_45 : decode bM237 45 = .ok (.aload_n 0, 1) := by decide +kernel
theorem d237_46 : decode bM237 46 = .ok (.getfield 24, 3) := by decide +kernel
theorem d237_49 : decode bM237 49 = .ok (.invokevirtual 28, 3) := by decide +kernel
theorem d237_52 : decode bM237 52 = .ok (.invokestatic 76, 3) := by decide +kernel
theorem d237_55 : decode bM237 55 = .ok (.ifCond .eq 28, 3) := by decide +kernel
theorem d237_58 : decode bM237 58 = .ok (.aload_n 2, 1) := by decide +kernel
theorem d237_59 : decode bM237 59 = .ok (.aload_n 0, 1) := by decide +kernel
theorem d237_60 : decode bM237 60 = .ok (.aload_n 0, 1) := by decide +kernel
theorem d237_61 : decode bM237 61 = .ok (.getfield 24, 3) := by decide +kernel
theorem d237_64 : decode bM237 64 = .ok (.invokevirtual 28, 3) := by decide +kernel
theorem d237_67 : decode bM237 67 = .ok (.putfield 79, 3) := by decide +kernel
theorem d237_70 : decode bM237 70 = .ok (.aload_n 0, 1) := by decide +kernel
theorem d237_71 : decode bM237 71 = .ok (.dup, 1) := by decide +kernel
theorem d237_72 : decode bM237 72 = .ok (.getfield 24, 3) := by decide +kernel
theorem d237_75 : decode bM237 75 = .ok (.iconst 1, 1) := by decide +kernel
theorem d237_76 : decode bM237 76 = .ok (.iadd, 1) := by decide +kernel
theorem d237_77 : decode bM237 77 = .ok (.putfield 24, 3) := by decide +kernel
theorem d237_80 : decode bM237 80 = .ok (.goto 11, 3) := by decide +kernel
theorem d237_83 : decode bM237 83 = .ok (.aload_n 2, 1) := by decide +kernel
theorem d237_84 : decode bM237 84 = .ok (.aload_n 0, 1) := by decide +kernel
theorem d237_85 : decode bM237 85 = .ok (.invokevirtual 82, 3) := by decide +kernel
theorem d237_88 : decode bM237 88 = .ok (.putfield 86, 3) := by decide +kernel
theorem d237_91 : decode bM237 91 = .ok (.iconst 0, 1) := by decide +kernel
theorem d237_92 : decode bM237 92 = .ok (.istore_n 3, 1) := by decide +kernel
theorem d237_93 : decode bM237 93 = .ok (.iload_n 3, 1) := by decide +kernel
theorem d237_94 : decode bM237 94 = .ok (.aload_n 0, 1) := by decide +kernel
theorem d237_95 : decode bM237 95 = .ok (.getfield 53, 3) := by decide +kernel
theorem d237_98 : decode bM237 98 = .ok (.invokevirtual 57, 3) := by decide +kernel
theorem d237_101 : decode bM237 101 = .ok (.if_icmp .ge 84, 3) := by decide +kernel
theorem d237_104 : decode bM237 104 = .ok (.aload_n 0, 1) := by decide +kernel
theorem d237_105 : decode bM237 105 = .ok (.invokevirtual 15, 3) := by decide +kernel
theorem d237_108 : decode bM237 108 = .ok (.ifCond .ne 77, 3) := by decide +kernel
theorem d237_111 : decode bM237 111 = .ok (.aload_n 0, 1) := by decide +kernel
theorem d237_112 : decode bM237 112 = .ok (.aload_n 0, 1) := by decide +kernel
theorem d237_113 : decode bM237 113 = .ok (.getfield 24, 3) := by decide +kernel
theorem d237_116 : decode bM237 116 = .ok (.invokevirtual 28, 3) := by decide +kernel
theorem d237_119 : decode bM237 119 = .ok (.bipush 91, 2) := by decide +kernel
theorem d237_121 : decode bM237 121 = .ok (.if_icmp .ne 64, 3) := by decide +kernel
theorem d237_124 : decode bM237 124 = .ok (.iload_n 1, 1) := by decide +kernel
theorem d237_125 : decode bM237 125 = .ok (.iconst 3, 1) := by decide +kernel
theorem d237_126 : decode bM237 126 = .ok (.if_icmp .lt 14, 3) := by decide +kernel
theorem d237_129 : decode bM237 129 = .ok (.aload_n 0, 1) := by decide +kernel
theorem d237_130 : decode bM237 130 = .ok (.aload_n 0, 1) := by decide +kernel
theorem d237_131 : decode bM237 131 = .ok (.getfield 24, 3) := by decide +kernel
theorem d237_134 : decode bM237 134 = .ok (.invokevirtual 89, 3) := by decide +kernel
theorem d237_137 : decode bM237 137 = .ok (.pop, 1) := by decide +kernel
theorem d237_138 : decode bM237 138 = .ok (.aload_n 2, 1) := by decide +kernel
theorem d237_139 : decode bM237 139 = .ok (.areturn, 1) := by decide +kernel
theorem d237_140 : decode bM237 140 = .ok (.aload_n 0, 1) := by decide +kernel
theorem d237_141 : decode bM237 141 = .ok (.dup, 1) := by decide +kernel
theorem d237_142 : decode bM237 142 = .ok (.getfield 24, 3) := by decide +kernel
theorem d237_145 : decode bM237 145 = .ok (.iconst 1, 1) := by decide +kernel
theorem d237_146 : decode bM237 146 = .ok (.iadd, 1) := by decide +kernel
theorem d237_147 : decode bM237 147 = .ok (.putfield 24, 3) := by decide +kernel
theorem d237_150 : decode bM237 150 = .ok (.aload_n 2, 1) := by decide +kernel
theorem d237_151 : decode bM237 151 = .ok (.getfield 93, 3) := by decide +kernel
theorem d237_154 : decode bM237 154 = .ok (.aload_n 0, 1) := by decide +kernel
theorem d237_155 : decode bM237 155 = .ok (.iload_n 1, 1) := by decide +kernel
theorem d237_156 : decode bM237 156 = .ok (.iconst 1, 1) := by decide +kernel
theorem d237_157 : decode bM237 157 = .ok (.iadd, 1) := by decide +kernel
theorem d237_158 : decode bM237 158 = .ok (.invokevirtual 96, 3) := by decide +kernel
theorem d237_161 : decode bM237 161 = .ok (.invokevirtual 47, 3) := by decide +kernel
theorem d237_164 : decode bM237 164 = .ok (.pop, 1) := by decide +kernel
theorem d237_165 : decode bM237 165 = .ok (.aload_n 0, 1) := by decide +kernel
theorem d237_166 : decode bM237 166 = .ok (.invokevirtual 15, 3) := by decide +kernel
theorem d237_169 : decode bM237 169 = .ok (.ifCond .ne 10, 3) := by decide +kernel
theorem d237_172 : decode bM237 172 = .ok (.aload_n 0, 1) := by decide +kernel
theorem d237_173 : decode bM237 173 = .ok (.bipush 93, 2) := by decide +kernel
theorem d237_175 : decode bM237 175 = .ok (.invokevirtual 100, 3) := by decide +kernel
theorem d237_178 : decode bM237 178 = .ok (.pop, 1) := by decide +kernel
theorem d237_179 : decode bM237 179 = .ok (.iinc 3 1, 3) := by decide +kernel
theorem d237_182 : decode bM237 182 = .ok (.goto (-89), 3) := by decide +kernel
theorem d237_185 : decode bM237 185 = .ok (.aload_n 2, 1) := by decide +kernel
theorem d237_186 : decode bM237 186 = .ok (.areturn, 1) := by decide +kernel
theorem d238_0 : decode bM238 0 = .ok (.aload_n 0, 1) := by decide +kernel
theorem d238_1 : decode bM238 1 = .ok (.invokevirtual 15, 3) := by decide +kernel
theorem d238_4 : decode bM238 4 = .ok (.ifCond .ne 18, 3) := by decide +kernel
theorem d238_7 : decode bM238 7 = .ok (.aload_n 2, 1) := by decide +kernel
theorem d238_8 : decode bM238 8 = .ok (.aload_n 0, 1) := by decide +kernel
theorem d238_9 : decode bM238 9 = .ok (.aload_n 0, 1) := by decide +kernel
theorem d238_10 : decode bM238 10 = .ok (.getfield 24, 3) := by decide +kernel
theorem d238_13 : decode bM238 13 = .ok (.invokevirtual 28, 3) := by decide +kernel
theorem d238_16 : decode bM238 16 = .ok (.invokevirtual 105, 3) := by decide +kernel
theorem d238_19 : decode bM238 19 = .ok (.ifCond .ge 4, 3) := by decide +kernel
theorem d238_22 : decode bM238 22 = .ok (.return_, 1) := by decide +kernel
theorem d238_23 : decode bM238 23 = .ok (.aload_n 1, 1) := by decide +kernel
theorem d238_24 : decode bM238 24 = .ok (.aload_n 0, 1) := by decide +kernel
theorem d238_25 : decode bM238 25 = .ok (.aload_n 0, 1) := by decide +kernel
theorem d238_26 : decode bM238 26 = .ok (.getfield 24, 3) := by decide +kernel
theorem d238_29 : decode bM238 29 = .ok (.invokevirtual 28, 3) := by decide +kernel
theorem d238_32 : decode bM238 32 = .ok (.putfield 140, 3) := by decide +kernel
theorem d238_35 : decode bM238 35 = .ok (.aload_n 0, 1) := by decide +kernel
theorem d238_36 : decode bM238 36 = .ok (.dup, 1) := by decide +kernel
theorem d238_37 : decode bM238 37 = .ok (.getfield 24, 3) := by decide +kernel
theorem d238_40 : decode bM238 40 = .ok (.iconst 1, 1) := by decide +kernel
theorem d238_41 : decode bM238 41 = .ok (.iadd, 1) := by decide +kernel
theorem d238_42 : decode bM238 42 = .ok (.putfield 24, 3) := by decide +kernel
theorem d238_45 : decode bM238 45 = .ok (.aload_n 0, 1) := by decide +kernel
theorem d238_46 : decode bM238 46 = .ok (.bipush 39, 2) := by decide +kernel
theorem d238_48 : decode bM238 48 = .ok (.invokevirtual 100, 3) := by decide +kernel
theorem d238_51 : decode bM238 51 = .ok (.ifCond .ne 4, 3) := by decide +kernel
theorem d238_54 : decode bM238 54 = .ok (.return_, 1) := by decide +kernel
theorem d238_55 : decode bM238 55 = .ok (.aload_n 0, 1) := by decide +kernel
theorem d238_56 : decode bM238 56 = .ok (.getfield 24, 3) := by decide +kernel
theorem d238_59 : decode bM238 59 = .ok (.istore_n 3, 1) := by decide +kernel
theorem d238_60 : decode bM238 60 = .ok (.aload_n 0, 1) := by decide +kernel
theorem d238_61 : decode bM238 61 = .ok (.getfield 24, 3) := by decide +kernel
theorem d238_64 : decode bM238 64 = .ok (.aload_n 0, 1) := by decide +kernel
theorem d238_65 : decode bM238 65 = .ok (.getfield 53, 3) := by decide +kernel
theorem d238_68 : decode bM238 68 = .ok (.invokevirtual 57, 3) := by decide +kernel
theorem d238_71 : decode bM238 71 = .ok (.if_icmp .ge 29, 3) := by decide +kernel
theorem d238_74 : decode bM238 74 = .ok (.aload_n 0, 1) := by decide +kernel
theorem d238_75 : decode bM238 75 = .ok (.aload_n 0, 1) := by decide +kernel
theorem d238_76 : decode bM238 76 = .ok (.getfield 24, 3) := by decide +kernel
theorem d238_79 : decode bM238 79 = .ok (.invokevirtual 28, 3) := by decide +kernel
theorem d238_82 : decode bM238 82 = .ok (.bipush 39, 2) := by decide +kernel
theorem d238_84 : decode bM238 84 = .ok (.if_icmp .eq 16, 3) := by decide +kernel
theorem d238_87 : decode bM238 87 = .ok (.aload_n 0, 1) := by decide +kernel
theorem d238_88 : decode bM238 88 = .ok (.dup, 1) := by decide +kernel
theorem d238_89 : decode bM238 89 = .ok (.getfield 24, 3) := by decide +kernel
theorem d238_92 : decode bM238 92 = .ok (.iconst 1, 1) := by decide +kernel
theorem d238_93 : decode bM238 93 = .ok (.iadd, 1) := by decide +kernel
theorem d238_94 : decode bM238 94 = .ok (.putfield 24, 3) := by decide +kernel
theorem d238_97 : decode bM238 97 = .ok (.goto (-37), 3) := by decide +kernel
theorem d238_100 : decode bM238 100 = .ok (.aload_n 1, 1) := by decide +kernel
theorem d238_101 : decode bM238 101 = .ok (.aload_n 0, 1) := by decide +kernel
theorem d238_102 : decode bM238 102 = .ok (.getfield 53, 3) := by decide +kernel
theorem d238_105 : decode bM238 105 = .ok (.iload_n 3, 1) := by decide +kernel
theorem d238_106 : decode bM238 106 = .ok (.aload_n 0, 1) := by decide +kernel
theorem d238_107 : decode bM238 107 = .ok (.getfield 24, 3) := by decide +kernel
theorem d238_110 : decode bM238 110 = .ok (.invokevirtual 143, 3) := by decide +kernel
theorem d238_113 : decode bM238 113 = .ok (.putfield 147, 3) := by decide +kernel
theorem d238_116 : decode bM238 116 = .ok (.aload_n 0, 1) := by decide +kernel
theorem d238_117 : decode bM238 117 = .ok (.bipush 39, 2) := by decide +kernel
theorem d238_119 : decode bM238 119 = .ok (.invokevirtual 100, 3) := by decide +kernel
theorem d238_122 : decode bM238 122 = .ok (.pop, 1) := by decide +kernel
theorem d238_123 : decode bM238 123 = .ok (.return_, 1) := by decide +kernel
theorem d239_0 : decode bM239 0 = .ok (.aload_n 0, 1) := by decide +kernel
theorem d239_1 : decode bM239 1 = .ok (.invokespecial 3, 3) := by decide +kernel
theorem d239_4 : decode bM239 4 = .ok (.aload_n 0, 1) := by decide +kernel
theorem d239_5 : decode bM239 5 = .ok (.bipush 67, 2) := by decide +kernel
theorem d239_7 : decode bM239 7 = .ok (.putfield 11, 3) := by decide +kernel
theorem d239_10 : decode bM239 10 = .ok (.aload_n 0, 1) := by decide +kernel
theorem d239_11 : decode bM239 11 = .ok (.bipush 110, 2) := by decide +kernel
theorem d239_13 : decode bM239 13 = .ok (.putfield 15, 3) := by decide +kernel
theorem d239_16 : decode bM239 16 = .ok (.aload_n 0, 1) := by decide +kernel
theorem d239_17 : decode bM239 17 = .ok (.ldc 18, 2) := by decide +kernel
theorem d239_19 : decode bM239 19 = .ok (.putfield 20, 3) := by decide +kernel
theorem d239_22 : decode bM239 22 = .ok (.aload_n 0, 1) := by decide +kernel
theorem d239_23 : decode bM239 23 = .ok (.new 24, 3) := by decide +kernel
theorem d239_26 : decode bM239 26 = .ok (.dup, 1) := by decide +kernel
theorem d239_27 : decode bM239 27 = .ok (.invokespecial 26, 3) := by decide +kernel
theorem d239_30 : decode bM239 30 = .ok (.putfield 27, 3) := by decide +kernel
theorem d239_33 : decode bM239 33 = .ok (.aload_n 0, 1) := by decide +kernel
theorem d239_34 : decode bM239 34 = .ok (.lconst 0, 1) := by decide +kernel
theorem d239_35 : decode bM239 35 = .ok (.putfield 31, 3) := by decide +kernel
theorem d239_38 : decode bM239 38 = .ok (.return_, 1) := by decide +kernel
theorem d240_0 : decode bM240 0 = .ok (.aload_n 0, 1) := by decide +kernel
theorem d240_1 : decode bM240 1 = .ok (.getfield 15, 3) := by decide +kernel
theorem d240_4 : decode bM240 4 = .ok (.istore_n 1, 1) := by decide +kernel
theorem d240_5 : decode bM240 5 = .ok (.aload_n 0, 1) := by decide +kernel
theorem d240_6 : decode bM240 6 = .ok (.getfield 15, 3) := by decide +kernel
theorem d240_9 : decode bM240 9 = .ok (.iload_n 1, 1) := by decide +kernel
theorem d240_10 : decode bM240 10 = .ok (.isub, 1) := by decide +kernel
theorem d240_11 : decode bM240 11 = .ok (.bipush 6, 2) := by decide +kernel
theorem d240_13 : decode bM240 13 = .ok (.if_icmp .ge 30, 3) := by decide +kernel
theorem d240_16 : decode bM240 16 = .ok (.aload_n 0, 1) := by decide +kernel
theorem d240_17 : decode bM240 17 = .ok (.aload_n 0, 1) := by decide +kernel
theorem d240_18 : decode bM240 18 = .ok (.getfield 15, 3) := by decide +kernel
theorem d240_21 : decode bM240 21 = .ok (.invokevirtual 32, 3) := by decide +kernel
theorem d240_24 : decode bM240 24 = .ok (.invokestatic 39, 3) := by decide +kernel
theorem d240_27 : decode bM240 27 = .ok (.ifCond .eq 16, 3) := by decide +kernel
theorem d240_30 : decode bM240 30 = .ok (.aload_n 0, 1) := by decide +kernel
theorem d240_31 : decode bM240 31 = .ok (.dup, 1) := by decide +kernel
theorem d240_32 : decode bM240 32 = .ok (.getfield 15, 3) := by decide +kernel
theorem d240_35 : decode bM240 35 = .ok (.iconst 1, 1) := by decide +kernel
theorem d240_36 : decode bM240 36 = .ok (.iadd, 1) := by decide +kernel
theorem d240_37 : decode bM240 37 = .ok (.putfield 15, 3) := by decide +kernel
theorem d240_40 : decode bM240 40 = .ok (.goto (-35), 3) := by decide +kernel
theorem d240_43 : decode bM240 43 = .ok (.aload_n 0, 1) := by decide +kernel
theorem d240_44 : decode bM240 44 = .ok (.getfield 15, 3) := by decide +kernel
theorem d240_47 : decode bM240 47 = .ok (.iload_n 1, 1) := by decide +kernel
theorem d240_48 : decode bM240 48 = .ok (.if_icmp .ne 12, 3) := by decide +kernel
theorem d240_51 : decode bM240 51 = .ok (.aload_n 0, 1) := by decide +kernel
theorem d240_52 : decode bM240 52 = .ok (.aload_n 0, 1) := by decide +kernel
theorem d240_53 : decode bM240 53 = .ok (.getfield 15, 3) := by decide +kernel
theorem d240_56 : decode bM240 56 = .ok (.invokevirtual 35, 3) := by decide +kernel
theorem d240_59 : decode bM240 59 = .ok (.pop, 1) := by decide +kernel
theorem d240_60 : decode bM240 60 = .ok (.aload_n 0, 1) := by decide +kernel
theorem d240_61 : decode bM240 61 = .ok (.getfield 9, 3) := by decide +kernel
theorem d240_64 : decode bM240 64 = .ok (.iload_n 1, 1) := by decide +kernel
theorem d240_65 : decode bM240 65 = .ok (.aload_n 0, 1) := by decide +kernel
theorem d240_66 : decode bM240 66 = .ok (.getfield 15, 3) := by decide +kernel
theorem d240_69 : decode bM240 69 = .ok (.invokevirtual 43, 3) := by decide +kernel
theorem d240_72 : decode bM240 72 = .ok (.areturn, 1) := by decide +kernel
theorem d241_0 : decode bM241 0 = .ok (.aload_n 0, 1) := by decide +kernel
theorem d241_1 : decode bM241 1 = .ok (.invokespecial 3, 3) := by decide +kernel
theorem d241_4 : decode bM241 4 = .ok (.aload_n 0, 1) := by decide +kernel
theorem d241_5 : decode bM241 5 = .ok (.sipush 200, 3) := by decide +kernel
theorem d241_8 : decode bM241 8 = .ok (.anewarray 9, 3) := by decide +kernel
theorem d241_11 : decode bM241 11 = .ok (.putfield 11, 3) := by decide +kernel
theorem d241_14 : decode bM241 14 = .ok (.aload_n 0, 1) := by decide +kernel
theorem d241_15 : decode bM241 15 = .ok (.bipush 40, 2) := by decide +kernel
theorem d241_17 : decode bM241 17 = .ok (.anewarray 9, 3) := by decide +kernel
theorem d241_20 : decode bM241 20 = .ok (.putfield 17, 3) := by decide +kernel
theorem d241_23 : decode bM241 23 = .ok (.aload_n 0, 1) := by decide +kernel
theorem d241_24 : decode bM241 24 = .ok (.bipush 40, 2) := by decide +kernel
theorem d241_26 : decode bM241 26 = .ok (.anewarray 9, 3) := by decide +kernel
theorem d241_29 : decode bM241 29 = .ok (.putfield 20, 3) := by decide +kernel
theorem d241_32 : decode bM241 32 = .ok (.return_, 1) := by decide +kernel
theorem d242_0 : decode bM242 0 = .ok (.iconst 0, 1) := by decide +kernel
theorem d242_1 : decode bM242 1 = .ok (.istore_n 2, 1) := by decide +kernel
theorem d242_2 : decode bM242 2 = .ok (.iload_n 2, 1) := by decide +kernel
theorem d242_3 : decode bM242 3 = .ok (.aload_n 1, 1) := by decide +kernel
theorem d242_4 : decode bM242 4 = .ok (.getfield 15, 3) := by decide +kernel
theorem d242_7 : decode bM242 7 = .ok (.invokevirtual 21, 3) := by decide +kernel
theorem d242_10 : decode bM242 10 = .ok (.if_icmp .ge 113, 3) := by decide +kernel
theorem d242_13 : decode bM242 13 = .ok (.aload_n 1, 1) := by decide +kernel
theorem d242_14 : decode bM242 14 = .ok (.getfield 15, 3) := by decide +kernel
theorem d242_17 : decode bM242 17 = .ok (.iload_n 2, 1) := by decide +kernel
theorem d242_18 : decode bM242 18 = .ok (.invokevirtual 27, 3) := by decide +kernel
theorem d242_21 : decode bM242 21 = .ok (.checkcast 31, 3) := by decide +kernel
theorem d242_24 : decode bM242 24 = .ok (.astore_n 3, 1) := by decide +kernel
theorem d242_25 : decode bM242 25 = .ok (.iconst 0, 1) := by decide +kernel
theorem d242_26 : decode bM242 26 = .ok (.istore 4, 2) := by decide +kernel
theorem d242_28 : decode bM242 28 = .ok (.iload 4, 2) := by decide +kernel
theorem d242_30 : decode bM242 30 = .ok (.aload_n 0, 1) := by decide +kernel
theorem d242_31 : decode bM242 31 = .ok (.getfield 9, 3) := by decide +kernel
theorem d242_34 : decode bM242 34 = .ok (.getfield 45, 3) := by decide +kernel
theorem d242_37 : decode bM242 37 = .ok (.if_icmp .ge 43, 3) := by decide +kernel
theorem d242_40 : decode bM242 40 = .ok (.aload_n 3, 1) := by decide +kernel
theorem d242_41 : decode bM242 41 = .ok (.dup, 1) := by decide +kernel
theorem d242_42 : decode bM242 42 = .ok (.getfield 50, 3) := by decide +kernel
theorem d242_45 : decode bM242 45 = .ok (.aload_n 3, 1) := by decide +kernel
theorem d242_46 : decode bM242 46 = .ok (.aload_n 0, 1) := by decide +kernel
theorem d242_47 : decode bM242 47 = .ok (.getfield 9, 3) := by decide +kernel
theorem d242_50 : decode bM242 50 = .ok (.getfield 54, 3) := by decide +kernel
theorem d242_53 : decode bM242 53 = .ok (.iload 4, 2) := by decide +kernel
theorem d242_55 : decode bM242 55 = .ok (.aaload, 1) := by decide +kernel
theorem d242_56 : decode bM242 56 = .ok (.invokevirtual 58, 3) := by decide +kernel
theorem d242_59 : decode bM242 59 = .ok (.ifCond .eq 10, 3) := by decide +kernel
theorem d242_62 : decode bM242 62 = .ok (.lconst 1, 1) := by decide +kernel
theorem d242_63 : decode bM242 63 = .ok (.iload 4, 2) := by decide +kernel
theorem d242_65 : decode bM242 65 = .ok (.lshl, 1) := by decide +kernel
theorem d242_66 : decode bM242 66 = .ok (.goto 4, 3) := by decide +kernel
theorem d242_69 : decode bM242 69 = .ok (.lconst 0, 1) := by decide +kernel
theorem d242_70 : decode bM242 70 = .ok (.lor, 1) := by decide +kernel
theorem d242_71 : decode bM242 71 = .ok (.putfield 50, 3) := by decide +kernel
theorem d242_74 : decode bM242 74 = .ok (.iinc 4 1, 3) := by decide +kernel
theorem d242_77 : decode bM242 77 = .ok (.goto (-49), 3) := by decide +kernel
theorem d242_80 : decode bM242 80 = .ok (.iconst 0, 1) := by decide +kernel
theorem d242_81 : decode bM242 81 = .ok (.istore 4, 2) := by decide +kernel
theorem d242_83 : decode bM242 83 = .ok (.iload 4, 2) := by decide +kernel
theorem d242_85 : decode bM242 85 = .ok (.aload_n 3, 1) := by decide +kernel
theorem d242_86 : decode bM242 86 = .ok (.getfield 62, 3) := by decide +kernel
theorem d242_89 : decode bM242 89 = .ok (.invokevirtual 21, 3) := by decide +kernel
theorem d242_92 : decode bM242 92 = .ok (.if_icmp .ge 25, 3) := by decide +kernel
theorem d242_95 : decode bM242 95 = .ok (.aload_n 0, 1) := by decide +kernel
theorem d242_96 : decode bM242 96 = .ok (.aload_n 3, 1) := by decide +kernel
theorem d242_97 : decode bM242 97 = .ok (.getfield 62, 3) := by decide +kernel
theorem d242_100 : decode bM242 100 = .ok (.iload 4, 2) := by decide +kernel
theorem d242_102 : decode bM242 102 = .ok (.invokevirtual 27, 3) := by decide +kernel
theorem d242_105 : decode bM242 105 = .ok (.checkcast 65, 3) := by decide +kernel
theorem d242_108 : decode bM242 108 = .ok (.invokevirtual 67, 3) := by decide +kernel
theorem d242_111 : decode bM242 111 = .ok (.iinc 4 1, 3) := by decide +kernel
theorem d242_114 : decode bM242 114 = .ok (.goto (-31), 3) := by decide +kernel
theorem d242_117 : decode bM242 117 = .ok (.iinc 2 1, 3) := by decide +kernel
theorem d242_120 : decode bM242 120 = .ok (.goto (-118), 3) := by decide +kernel
theorem d242_123 : decode bM242 123 = .ok (.return_, 1) := by decide +kernel
theorem d243_0 : decode bM243 0 = .ok (.aload_n 1, 1) := by decide +kernel
theorem d243_1 : decode bM243 1 = .ok (.getfield 71, 3) := by decide +kernel
theorem d243_4 : decode bM243 4 = .ok (.bipush 64, 2) := by decide +kernel
theorem d243_6 : decode bM243 6 = .ok (.if_icmp .ne 15, 3) := by decide +kernel
theorem d243_9 : decode bM243 9 = .ok (.aload_n 1, 1) := by decide +kernel
theorem d243_10 : decode bM243 10 = .ok (.aload_n 0, 1) := by decide +kernel
theorem d243_11 : decode bM243 11 = .ok (.aload_n 1, 1) := by decide +kernel
theorem d243_12 : decode bM243 12 = .ok (.invokevirtual 75, 3) := by decide +kernel
theorem d243_15 : decode bM243 15 = .ok (.putfield 79, 3) := by decide +kernel
theorem d243_18 : decode bM243 18 = .ok (.goto 35, 3) := by decide +kernel
theorem d243_21 : decode bM243 21 = .ok (.aload_n 1, 1) := by decide +kernel
theorem d243_22 : decode bM243 22 = .ok (.getfield 82, 3) := by decide +kernel
theorem d243_25 : decode bM243 25 = .ok (.ifnull 28, 3) := by decide +kernel
theorem d243_28 : decode bM243 28 = .ok (.aload_n 0, 1) := by decide +kernel
theorem d243_29 : decode bM243 29 = .ok (.aload_n 1, 1) := by decide +kernel
theorem d243_30 : decode bM243 30 = .ok (.getfield 82, 3) := by decide +kernel
theorem d243_33 : decode bM243 33 = .ok (.invokevirtual 86, 3) := by decide +kernel
theorem d243_36 : decode bM243 36 = .ok (.aload_n 1, 1) := by decide +kernel
theorem d243_37 : decode bM243 37 = .ok (.aload_n 0, 1) := by decide +kernel
theorem d243_38 : decode bM243 38 = .ok (.aload_n 1, 1) := by decide +kernel
theorem d243_39 : decode bM243 39 = .ok (.getfield 82, 3) := by decide +kernel
theorem d243_42 : decode bM243 42 = .ok (.aload_n 0, 1) := by decide +kernel
theorem d243_43 : decode bM243 43 = .ok (.aload_n 1, 1) := by decide +kernel
theorem d243_44 : decode bM243 44 = .ok (.invokevirtual 90, 3) := by decide +kernel
theorem d243_47 : decode bM243 47 = .ok (.invokevirtual 93, 3) := by decide +kernel
theorem d243_50 : decode bM243 50 = .ok (.putfield 79, 3) := by decide +kernel
theorem d243_53 : decode bM243 53 = .ok (.return_, 1) := by decide +kernel
theorem d244_0 : decode bM244 0 = .ok (.aload_n 0, 1) := by decide +kernel
theorem d244_1 : decode bM244 1 = .ok (.invokespecial 1, 3) := by decide +kernel
theorem d244_4 : decode bM244 4 = .ok (.aload_n 0, 1) := by decide +kernel
theorem d244_5 : decode bM244 5 = .ok (.new 7, 3) := by decide +kernel
theorem d244_8 : decode bM244 8 = .ok (.dup, 1) := by decide +kernel
theorem d244_9 : decode bM244 9 = .ok (.invokespecial 9, 3) := by decide +kernel
theorem d244_12 : decode bM244 12 = .ok (.putfield 10, 3) := by decide +kernel
theorem d244_15 : decode bM244 15 = .ok (.aload_n 0, 1) := by decide +kernel
theorem d244_16 : decode bM244 16 = .ok (.new 7, 3) := by decide +kernel
theorem d244_19 : decode bM244 19 = .ok (.dup, 1) := by decide +kernel
theorem d244_20 : decode bM244 20 = .ok (.invokespecial 9, 3) := by decide +kernel
theorem d244_23 : decode bM244 23 = .ok (.putfield 16, 3) := by decide +kernel
theorem d244_26 : decode bM244 26 = .ok (.aload_n 0, 1) := by decide +kernel
theorem d244_27 : decode bM244 27 = .ok (.new 19, 3) := by decide +kernel
theorem d244_30 : decode bM244 30 = .ok (.dup, 1) := by decide +kernel
theorem d244_31 : decode bM244 31 = .ok (.invokespecial 21, 3) := by decide +kernel
theorem d244_34 : decode bM244 34 = .ok (.putfield 22, 3) := by decide +kernel
theorem d244_37 : decode bM244 37 = .ok (.aload_n 0, 1) := by decide +kernel
theorem d244_38 : decode bM244 38 = .ok (.bipush 40, 2) := by decide +kernel
theorem d244_40 : decode bM244 40 = .ok (.newarray .int, 2) := by decide +kernel
theorem d244_42 : decode bM244 42 = .ok (.putfield 26, 3) := by decide +kernel
theorem d244_45 : decode bM244 45 = .ok (.aload_n 0, 1) := by decide +kernel
theorem d244_46 : decode bM244 46 = .ok (.iconst 0, 1) := by decide +kernel
theorem d244_47 : decode bM244 47 = .ok (.putfield 30, 3) := by decide +kernel
theorem d244_50 : decode bM244 50 = .ok (.aload_n 0, 1) := by decide +kernel
theorem d244_51 : decode bM244 51 = .ok (.iconst 0, 1) := by decide +kernel
theorem d244_52 : decode bM244 52 = .ok (.putfield 34, 3) := by decide +kernel
theorem d244_55 : decode bM244 55 = .ok (.return_, 1) := by decide +kernel
theorem d245_0 : decode bM245 0 = .ok (.aload_n 0, 1) := by decide +kernel
theorem d245_1 : decode bM245 1 = .ok (.getfield 22, 3) := by decide +kernel
theorem d245_4 : decode bM245 4 = .ok (.iload_n 1, 1) := by decide +kernel
theorem d245_5 : decode bM245 5 = .ok (.invokevirtual 90, 3) := by decide +kernel
theorem d245_8 : decode bM245 8 = .ok (.astore_n 2, 1) := by decide +kernel
theorem d245_9 : decode bM245 9 = .ok (.aload_n 2, 1) := by decide +kernel
theorem d245_10 : decode bM245 10 = .ok (.ifnonnull 7, 3) := by decide +kernel
theorem d245_13 : decode bM245 13 = .ok (.sipush (-1000), 3) := by decide +kernel
theorem d245_16 : decode bM245 16 = .ok (.ireturn, 1) := by decide +kernel
theorem d245_17 : decode bM245 17 = .ok (.aload_n 2, 1) := by decide +kernel
theorem d245_18 : decode bM245 18 = .ok (.getfield 94, 3) := by decide +kernel
theorem d245_21 : decode bM245 21 = .ok (.ifnonnull 7, 3) := by decide +kernel
theorem d245_24 : decode bM245 24 = .ok (.sipush (-2000), 3) := by decide +kernel
theorem d245_27 : decode bM245 27 = .ok (.ireturn, 1) := by decide +kernel
theorem d245_28 : decode bM245 28 = .ok (.aload_n 0, 1) := by decide +kernel
theorem d245_29 : decode bM245 29 = .ok (.getfield 22, 3) := by decide +kernel
theorem d245_32 : decode bM245 32 = .ok (.aload_n 2, 1) := by decide +kernel
theorem d245_33 : decode bM245 33 = .ok (.invokevirtual 106, 3) := by decide +kernel
theorem d245_36 : decode bM245 36 = .ok (.istore_n 3, 1) := by decide +kernel
theorem d245_37 : decode bM245 37 = .ok (.aload_n 0, 1) := by decide +kernel
theorem d245_38 : decode bM245 38 = .ok (.getfield 22, 3) := by decide +kernel
theorem d245_41 : decode bM245 41 = .ok (.aload_n 2, 1) := by decide +kernel
theorem d245_42 : decode bM245 42 = .ok (.getfield 94, 3) := by decide +kernel
theorem d245_45 : decode bM245 45 = .ok (.aload_n 2, 1) := by decide +kernel
theorem d245_46 : decode bM245 46 = .ok (.getfield 103, 3) := by decide +kernel
theorem d245_49 : decode bM245 49 = .ok (.invokevirtual 110, 3) := by decide +kernel
theorem d245_52 : decode bM245 52 = .ok (.astore 4, 2) := by decide +kernel
theorem d245_54 : decode bM245 54 = .ok (.aload_n 0, 1) := by decide +kernel
theorem d245_55 : decode bM245 55 = .ok (.getfield 22, 3) := by decide +kernel
theorem d245_58 : decode bM245 58 = .ok (.aload_n 2, 1) := by decide +kernel
theorem d245_59 : decode bM245 59 = .ok (.getfield 94, 3) := by decide +kernel
theorem d245_62 : decode bM245 62 = .ok (.iload_n 3, 1) := by decide +kernel
theorem d245_63 : decode bM245 63 = .ok (.invokevirtual 114, 3) := by decide +kernel
theorem d245_66 : decode bM245 66 = .ok (.astore 5, 2) := by decide +kernel
theorem d245_68 : decode bM245 68 = .ok (.aload 4, 2) := by decide +kernel
theorem d245_70 : decode bM245 70 = .ok (.invokestatic 128, 3) := by decide +kernel
theorem d245_73 : decode bM245 73 = .ok (.ifCond .eq 64, 3) := by decide +kernel
theorem d245_76 : decode bM245 76 = .ok (.aload 5, 2) := by decide +kernel
theorem d245_78 : decode bM245 78 = .ok (.invokestatic 128, 3) := by decide +kernel
theorem d245_81 : decode bM245 81 = .ok (.ifCond .eq 56, 3) := by decide +kernel
theorem d245_84 : decode bM245 84 = .ok (.aload 4, 2) := by decide +kernel
theorem d245_86 : decode bM245 86 = .ok (.getfield 132, 3) := by decide +kernel
theorem d245_89 : decode bM245 89 = .ok (.invokevirtual 147, 3) := by decide +kernel
theorem d245_92 : decode bM245 92 = .ok (.aload 5, 2) := by decide +kernel
theorem d245_94 : decode bM245 94 = .ok (.getfield 132, 3) := by decide +kernel
theorem d245_97 : decode bM245 97 = .ok (.invokevirtual 147, 3) := by decide +kernel
theorem d245_100 : decode bM245 100 = .ok (.iadd, 1) := by decide +kernel
theorem d245_101 : decode bM245 101 = .ok (.bipush 20, 2) := by decide +kernel
theorem d245_103 : decode bM245 103 = .ok (.if_icmp .le 7, 3) := by decide +kernel
theorem d245_106 : decode bM245 106 = .ok (.sipush (-2000), 3) := by decide +kernel
theorem d245_109 : decode bM245 109 = .ok (.ireturn, 1) := by decide +kernel
theorem d245_110 : decode bM245 110 = .ok (.aload 4, 2) := by decide +kernel
theorem d245_112 : decode bM245 112 = .ok (.aload_n 0, 1) := by decide +kernel
theorem d245_113 : decode bM245 113 = .ok (.aload 4, 2) := by decide +kernel
theorem d245_115 : decode bM245 115 = .ok (.getfield 132, 3) := by decide +kernel
theorem d245_118 : decode bM245 118 = .ok (.aload 5, 2) := by decide +kernel
theorem d245_120 : decode bM245 120 = .ok (.getfield 132, 3) := by decide +kernel
theorem d245_123 : decode bM245 123 = .ok (.invokevirtual 150, 3) := by decide +kernel
theorem d245_126 : decode bM245 126 = .ok (.putfield 132, 3) := by decide +kernel
theorem d245_129 : decode bM245 129 = .ok (.aload 5, 2) := by decide +kernel
theorem d245_131 : decode bM245 131 = .ok (.getfield 103, 3) := by decide +kernel
theorem d245_134 : decode bM245 134 = .ok (.iconst 1, 1) := by decide +kernel
theorem d245_135 : decode bM245 135 = .ok (.iadd, 1) := by decide +kernel
theorem d245_136 : decode bM245 136 = .ok (.istore_n 3, 1) := by decide +kernel
theorem d245_137 : decode bM245 137 = .ok (.iload_n 3, 1) := by decide +kernel
theorem d245_138 : decode bM245 138 = .ok (.aload_n 2, 1) := by decide +kernel
theorem d245_139 : decode bM245 139 = .ok (.getfield 103, 3) := by decide +kernel
theorem d245_142 : decode bM245 142 = .ok (.isub, 1) := by decide +kernel
theorem d245_143 : decode bM245 143 = .ok (.istore 6, 2) := by decide +kernel
theorem d245_145 : decode bM245 145 = .ok (.aload_n 0, 1) := by decide +kernel
theorem d245_146 : decode bM245 146 = .ok (.getfield 22, 3) := by decide +kernel
theorem d245_149 : decode bM245 149 = .ok (.aload_n 2, 1) := by decide +kernel
theorem d245_150 : decode bM245 150 = .ok (.getfield 103, 3) := by decide +kernel
theorem d245_153 : decode bM245 153 = .ok (.iload_n 3, 1) := by decide +kernel
theorem d245_154 : decode bM245 154 = .ok (.invokevirtual 154, 3) := by decide +kernel
theorem d245_157 : decode bM245 157 = .ok (.aload_n 0, 1) := by decide +kernel
theorem d245_158 : decode bM245 158 = .ok (.dup, 1) := by decide +kernel
theorem d245_159 : decode bM245 159 = .ok (.getfield 34, 3) := by decide +kernel
theorem d245_162 : decode bM245 162 = .ok (.iconst 1, 1) := by decide +kernel
theorem d245_163 : decode bM245 163 = .ok (.iadd, 1) := by decide +kernel
theorem d245_164 : decode bM245 164 = .ok (.putfield 34, 3) := by decide +kernel
theorem d245_167 : decode bM245 167 = .ok (.iload 6, 2) := by decide +kernel
theorem d245_169 : decode bM245 169 = .ok (.ireturn, 1) := by decide +kernel
theorem d246_0 : decode bM246 0 = .ok (.aload_n 0, 1) := by decide +kernel
theorem d246_1 : decode bM246 1 = .ok (.invokevirtual 47, 3) := by decide +kernel
theorem d246_4 : decode bM246 4 = .ok (.astore_n 2, 1) := by decide +kernel
theorem d246_5 : decode bM246 5 = .ok (.aload_n 0, 1) := by decide +kernel
theorem d246_6 : decode bM246 6 = .ok (.getfield 22, 3) := by decide +kernel
theorem d246_9 : decode bM246 9 = .ok (.iload_n 1, 1) := by decide +kernel
theorem d246_10 : decode bM246 10 = .ok (.invokevirtual 90, 3) := by decide +kernel
theorem d246_13 : decode bM246 13 = .ok (.astore_n 3, 1) := by decide +kernel
theorem d246_14 : decode bM246 14 = .ok (.aload_n 3, 1) := by decide +kernel
theorem d246_15 : decode bM246 15 = .ok (.ifnull 14, 3) := by decide +kernel
theorem d246_18 : decode bM246 18 = .ok (.aload_n 3, 1) := by decide +kernel
theorem d246_19 : decode bM246 19 = .ok (.getfield 100, 3) := by decide +kernel
theorem d246_22 : decode bM246 22 = .ok (.aload_n 2, 1) := by decide +kernel
theorem d246_23 : decode bM246 23 = .ok (.invokestatic 158, 3) := by decide +kernel
theorem d246_26 : decode bM246 26 = .ok (.ifCond .ne 5, 3) := by decide +kernel
theorem d246_29 : decode bM246 29 = .ok (.iconst 0, 1) := by decide +kernel
theorem d246_30 : decode bM246 30 = .ok (.ireturn, 1) := by decide +kernel
theorem d246_31 : decode bM246 31 = .ok (.aload_n 3, 1) := by decide +kernel
theorem d246_32 : decode bM246 32 = .ok (.aload_n 2, 1) := by decide +kernel
theorem d246_33 : decode bM246 33 = .ok (.putfield 132, 3) := by decide +kernel
theorem d246_36 : decode bM246 36 = .ok (.aload_n 0, 1) := by decide +kernel
theorem d246_37 : decode bM246 37 = .ok (.dup, 1) := by decide +kernel
theorem d246_38 : decode bM246 38 = .ok (.getfield 34, 3) := by decide +kernel
theorem d246_41 : decode bM246 41 = .ok (.iconst 1, 1) := by decide +kernel
theorem d246_42 : decode bM246 42 = .ok (.iadd, 1) := by decide +kernel
theorem d246_43 : decode bM246 43 = .ok (.putfield 34, 3) := by decide +kernel
theorem d246_46 : decode bM246 46 = .ok (.iconst 1, 1) := by decide +kernel
theorem d246_47 : decode bM246 47 = .ok (.ireturn, 1) := by decide +kernel
theorem d247_0 : decode bM247 0 = .ok (.aload_n 2, 1) := by decide +kernel
theorem d247_1 : decode bM247 1 = .ok (.invokevirtual 147, 3) := by decide +kernel
theorem d247_4 : decode bM247 4 = .ok (.aload_n 3, 1) := by decide +kernel
theorem d247_5 : decode bM247 5 = .ok (.invokevirtual 147, 3) := by decide +kernel
theorem d247_8 : decode bM247 8 = .ok (.iadd, 1) := by decide +kernel
theorem d247_9 : decode bM247 9 = .ok (.bipush 20, 2) := by decide +kernel
theorem d247_11 : decode bM247 11 = .ok (.if_icmp .le 7, 3) := by decide +kernel
theorem d247_14 : decode bM247 14 = .ok (.sipush (-2000), 3) := by decide +kernel
theorem d247_17 : decode bM247 17 = .ok (.ireturn, 1) := by decide +kernel
theorem d247_18 : decode bM247 18 = .ok (.aload_n 1, 1) := by decide +kernel
theorem d247_19 : decode bM247 19 = .ok (.aload_n 0, 1) := by decide +kernel
theorem d247_20 : decode bM247 20 = .ok (.aload_n 2, 1) := by decide +kernel
theorem d247_21 : decode bM247 21 = .ok (.aload_n 3, 1) := by decide +kernel
theorem d247_22 : decode bM247 22 = .ok (.invokevirtual 150, 3) := by decide +kernel
theorem d247_25 : decode bM247 25 = .ok (.putfield 132, 3) := by decide +kernel
theorem d247_28 : decode bM247 28 = .ok (.aload_n 0, 1) := by decide +kernel
theorem d247_29 : decode bM247 29 = .ok (.dup, 1) := by decide +kernel
theorem d247_30 : decode bM247 30 = .ok (.getfield 34, 3) := by decide +kernel
theorem d247_33 : decode bM247 33 = .ok (.iconst 1, 1) := by decide +kernel
theorem d247_34 : decode bM247 34 = .ok (.iadd, 1) := by decide +kernel
theorem d247_35 : decode bM247 35 = .ok (.putfield 34, 3) := by decide +kernel
theorem d247_38 : decode bM247 38 = .ok (.aload_n 1, 1) := by decide +kernel
theorem d247_39 : decode bM247 39 = .ok (.getfield 197, 3) := by decide +kernel
theorem d247_42 : decode bM247 42 = .ok (.ireturn, 1) := by decide +kernel
theorem d248_0 : decode bM248 0 = .ok (.new 36, 3) := by decide +kernel
theorem d248_3 : decode bM248 3 = .ok (.dup, 1) := by decide +kernel
theorem d248_4 : decode bM248 4 = .ok (.iload_n 1, 1) := by decide +kernel
theorem d248_5 : decode bM248 5 = .ok (.aload_n 2, 1) := by decide +kernel
theorem d248_6 : decode bM248 6 = .ok (.aload_n 3, 1) := by decide +kernel
theorem d248_7 : decode bM248 7 = .ok (.invokespecial 103, 3) := by decide +kernel
theorem d248_10 : decode bM248 10 = .ok (.astore 4, 2) := by decide +kernel
theorem d248_12 : decode bM248 12 = .ok (.aload_n 0, 1) := by decide +kernel
theorem d248_13 : decode bM248 13 = .ok (.getfield 14, 3) := by decide +kernel
theorem d248_16 : decode bM248 16 = .ok (.aload 4, 2) := by decide +kernel
theorem d248_18 : decode bM248 18 = .ok (.invokevirtual 106, 3) := by decide +kernel
theorem d248_21 : decode bM248 21 = .ok (.pop, 1) := by decide +kernel
theorem d248_22 : decode bM248 22 = .ok (.aload 4, 2) := by decide +kernel
theorem d248_24 : decode bM248 24 = .ok (.areturn, 1) := by decide +kernel
theorem d249_0 : decode bM249 0 = .ok (.iconst 0, 1) := by decide +kernel
theorem d249_1 : decode bM249 1 = .ok (.istore_n 2, 1) := by decide +kernel
theorem d249_2 : decode bM249 2 = .ok (.iload_n 2, 1) := by decide +kernel
theorem d249_3 : decode bM249 3 = .ok (.aload_n 0, 1) := by decide +kernel
theorem d249_4 : decode bM249 4 = .ok (.getfield 75, 3) := by decide +kernel
theorem d249_7 : decode bM249 7 = .ok (.invokevirtual 114, 3) := by decide +kernel
theorem d249_10 : decode bM249 10 = .ok (.if_icmp .ge 77, 3) := by decide +kernel
theorem d249_13 : decode bM249 13 = .ok (.aload_n 0, 1) := by decide +kernel
theorem d249_14 : decode bM249 14 = .ok (.getfield 82, 3) := by decide +kernel
theorem d249_17 : decode bM249 17 = .ok (.aload_n 0, 1) := by decide +kernel
theorem d249_18 : decode bM249 18 = .ok (.getfield 75, 3) := by decide +kernel
theorem d249_21 : decode bM249 21 = .ok (.invokevirtual 114, 3) := by decide +kernel
theorem d249_24 : decode bM249 24 = .ok (.if_icmp .ne 12, 3) := by decide +kernel
theorem d249_27 : decode bM249 27 = .ok (.aload_n 0, 1) := by decide +kernel
theorem d249_28 : decode bM249 28 = .ok (.aload_n 0, 1) := by decide +kernel
theorem d249_29 : decode bM249 29 = .ok (.getfield 82, 3) := by decide +kernel
theorem d249_32 : decode bM249 32 = .ok (.invokevirtual 60, 3) := by decide +kernel
theorem d249_35 : decode bM249 35 = .ok (.ireturn, 1) := by decide +kernel
theorem d249_36 : decode bM249 36 = .ok (.aload_n 0, 1) := by decide +kernel
theorem d249_37 : decode bM249 37 = .ok (.aload_n 0, 1) := by decide +kernel
theorem d249_38 : decode bM249 38 = .ok (.getfield 82, 3) := by decide +kernel
theorem d249_41 : decode bM249 41 = .ok (.invokevirtual 56, 3) := by decide +kernel
theorem d249_44 : decode bM249 44 = .ok (.bipush 60, 2) := by decide +kernel
theorem d249_46 : decode bM249 46 = .ok (.if_icmp .ne 20, 3) := by decide +kernel
theorem d249_49 : decode bM249 49 = .ok (.aload_n 0, 1) := by decide +kernel
theorem d249_50 : decode bM249 50 = .ok (.aload_n 0, 1) := by decide +kernel
theorem d249_51 : decode bM249 51 = .ok (.getfield 82, 3) := by decide +kernel
theorem d249_54 : decode bM249 54 = .ok (.iconst 1, 1) := by decide +kernel
theorem d249_55 : decode bM249 55 = .ok (.iadd, 1) := by decide +kernel
theorem d249_56 : decode bM249 56 = .ok (.invokevirtual 56, 3) := by decide +kernel
theorem d249_59 : decode bM249 59 = .ok (.bipush 47, 2) := by decide +kernel
theorem d249_61 : decode bM249 61 = .ok (.if_icmp .ne 5, 3) := by decide +kernel
theorem d249_64 : decode bM249 64 = .ok (.iconst 1, 1) := by decide +kernel
theorem d249_65 : decode bM249 65 = .ok (.ireturn, 1) := by decide +kernel
theorem d249_66 : decode bM249 66 = .ok (.aload_n 0, 1) := by decide +kernel
theorem d249_67 : decode bM249 67 = .ok (.aload_n 1, 1) := by decide +kernel
theorem d249_68 : decode bM249 68 = .ok (.aload_n 1, 1) := by decide +kernel
theorem d249_69 : decode bM249 69 = .ok (.iload_n 2, 1) := by decide +kernel
theorem d249_70 : decode bM249 70 = .ok (.invokevirtual 141, 3) := by decide +kernel
theorem d249_73 : decode bM249 73 = .ok (.invokevirtual 79, 3) := by decide +kernel
theorem d249_76 : decode bM249 76 = .ok (.ifCond .ne 5, 3) := by decide +kernel
theorem d249_79 : decode bM249 79 = .ok (.iconst 0, 1) := by decide +kernel
theorem d249_80 : decode bM249 80 = .ok (.ireturn, 1) := by decide +kernel
theorem d249_81 : decode bM249 81 = .ok (.iinc 2 1, 3) := by decide +kernel
theorem d249_84 : decode bM249 84 = .ok (.goto (-82), 3) := by decide +kernel
theorem d249_87 : decode bM249 87 = .ok (.aload_n 0, 1) := by decide +kernel
theorem d249_88 : decode bM249 88 = .ok (.aload_n 0, 1) := by decide +kernel
theorem d249_89 : decode bM249 89 = .ok (.getfield 82, 3) := by decide +kernel
theorem d249_92 : decode bM249 92 = .ok (.invokevirtual 60, 3) := by decide +kernel
theorem d249_95 : decode bM249 95 = .ok (.ireturn, 1) := by decide +kernel
theorem d250_0 : decode bM250 0 = .ok (.aload_n 0, 1) := by decide +kernel
theorem d250_1 : decode bM250 1 = .ok (.aload_n 0, 1) := by decide +kernel
theorem d250_2 : decode bM250 2 = .ok (.getfield 82, 3) := by decide +kernel
theorem d250_5 : decode bM250 5 = .ok (.invokevirtual 56, 3) := by decide +kernel
theorem d250_8 : decode bM250 8 = .ok (.bipush 60, 2) := by decide +kernel
theorem d250_10 : decode bM250 10 = .ok (.if_icmp .eq 32, 3) := by decide +kernel
theorem d250_13 : decode bM250 13 = .ok (.aload_n 0, 1) := by decide +kernel
theorem d250_14 : decode bM250 14 = .ok (.iconst 2, 1) := by decide +kernel
theorem d250_15 : decode bM250 15 = .ok (.aload_n 1, 1) := by decide +kernel
theorem d250_16 : decode bM250 16 = .ok (.aload_n 2, 1) := by decide +kernel
theorem d250_17 : decode bM250 17 = .ok (.invokevirtual 86, 3) := by decide +kernel
theorem d250_20 : decode bM250 20 = .ok (.aload_n 0, 1) := by decide +kernel
theorem d250_21 : decode bM250 21 = .ok (.bipush 60, 2) := by decide +kernel
theorem d250_23 : decode bM250 23 = .ok (.invokevirtual 90, 3) := by decide +kernel
theorem d250_26 : decode bM250 26 = .ok (.putfield 52, 3) := by decide +kernel
theorem d250_29 : decode bM250 29 = .ok (.aload_n 0, 1) := by decide +kernel
theorem d250_30 : decode bM250 30 = .ok (.invokevirtual 94, 3) := by decide +kernel
theorem d250_33 : decode bM250 33 = .ok (.ifCond .ne 7, 3) := by decide +kernel
theorem d250_36 : decode bM250 36 = .ok (.iconst 1, 1) := by decide +kernel
theorem d250_37 : decode bM250 37 = .ok (.goto 4, 3) := by decide +kernel
theorem d250_40 : decode bM250 40 = .ok (.iconst 0, 1) := by decide +kernel
theorem d250_41 : decode bM250 41 = .ok (.ireturn, 1) := by decide +kernel
theorem d250_42 : decode bM250 42 = .ok (.aload_n 0, 1) := by decide +kernel
theorem d250_43 : decode bM250 43 = .ok (.aload_n 0, 1) := by decide +kernel
theorem d250_44 : decode bM250 44 = .ok (.getfield 82, 3) := by decide +kernel
theorem d250_47 : decode bM250 47 = .ok (.iconst 1, 1) := by decide +kernel
theorem d250_48 : decode bM250 48 = .ok (.iadd, 1) := by decide +kernel
theorem d250_49 : decode bM250 49 = .ok (.invokevirtual 56, 3) := by decide +kernel
theorem d250_52 : decode bM250 52 = .ok (.istore_n 3, 1) := by decide +kernel
theorem d250_53 : decode bM250 53 = .ok (.iload_n 3, 1) := by decide +kernel
theorem d250_54 : decode bM250 54 = .ok (.bipush 33, 2) := by decide +kernel
theorem d250_56 : decode bM250 56 = .ok (.if_icmp .ne 10, 3) := by decide +kernel
theorem d250_59 : decode bM250 59 = .ok (.aload_n 0, 1) := by decide +kernel
theorem d250_60 : decode bM250 60 = .ok (.aload_n 1, 1) := by decide +kernel
theorem d250_61 : decode bM250 61 = .ok (.aload_n 2, 1) := by decide +kernel
theorem d250_62 : decode bM250 62 = .ok (.invokevirtual 97, 3) := by decide +kernel
theorem d250_65 : decode bM250 65 = .ok (.ireturn, 1) := by decide +kernel
theorem d250_66 : decode bM250 66 = .ok (.iload_n 3, 1) := by decide +kernel
theorem d250_67 : decode bM250 67 = .ok (.invokestatic 64, 3) := by decide +kernel
theorem d250_70 : decode bM250 70 = .ok (.ifCond .ne 14, 3) := by decide +kernel
theorem d250_73 : decode bM250 73 = .ok (.aload_n 0, 1) := by decide +kernel
theorem d250_74 : decode bM250 74 = .ok (.aload_n 0, 1) := by decide +kernel
theorem d250_75 : decode bM250 75 = .ok (.getfield 82, 3) := by decide +kernel
theorem d250_78 : decode bM250 78 = .ok (.iconst 1, 1) := by decide +kernel
theorem d250_79 : decode bM250 79 = .ok (.iadd, 1) := by decide +kernel
theorem d250_80 : decode bM250 80 = .ok (.invokevirtual 60, 3) := by decide +kernel
theorem d250_83 : decode bM250 83 = .ok (.ireturn, 1) := by decide +kernel
theorem d250_84 : decode bM250 84 = .ok (.aload_n 1, 1) := by decide +kernel
theorem d250_85 : decode bM250 85 = .ok (.getfield 100, 3) := by decide +kernel
theorem d250_88 : decode bM250 88 = .ok (.iconst 5, 1) := by decide +kernel
theorem d250_89 : decode bM250 89 = .ok (.if_icmp .lt 12, 3) := by decide +kernel
theorem d250_92 : decode bM250 92 = .ok (.aload_n 0, 1) := by decide +kernel
theorem d250_93 : decode bM250 93 = .ok (.aload_n 0, 1) := by decide +kernel
theorem d250_94 : decode bM250 94 = .ok (.getfield 82, 3) := by decide +kernel
theorem d250_97 : decode bM250 97 = .ok (.invokevirtual 60, 3) := by decide +kernel
theorem d250_100 : decode bM250 100 = .ok (.ireturn, 1) := by decide +kernel
theorem d250_101 : decode bM250 101 = .ok (.aload_n 0, 1) := by decide +kernel
theorem d250_102 : decode bM250 102 = .ok (.aload_n 1, 1) := by decide +kernel
theorem d250_103 : decode bM250 103 = .ok (.aload_n 2, 1) := by decide +kernel
theorem d250_104 : decode bM250 104 = .ok (.invokevirtual 68, 3) := by decide +kernel
theorem d250_107 : decode bM250 107 = .ok (.ireturn, 1) := by decide +kernel
theorem d251_0 : decode bM251 0 = .ok (.aload_n 0, 1) := by decide +kernel
theorem d251_1 : decode bM251 1 = .ok (.bipush 60, 2) := by decide +kernel
theorem d251_3 : decode bM251 3 = .ok (.invokevirtual 123, 3) := by decide +kernel
theorem d251_6 : decode bM251 6 = .ok (.ifCond .eq 30, 3) := by decide +kernel
theorem d251_9 : decode bM251 9 = .ok (.aload_n 0, 1) := by decide +kernel
theorem d251_10 : decode bM251 10 = .ok (.bipush 33, 2) := by decide +kernel
theorem d251_12 : decode bM251 12 = .ok (.invokevirtual 123, 3) := by decide +kernel
theorem d251_15 : decode bM251 15 = .ok (.ifCond .eq 21, 3) := by decide +kernel
theorem d251_18 : decode bM251 18 = .ok (.aload_n 0, 1) := by decide +kernel
theorem d251_19 : decode bM251 19 = .ok (.bipush 45, 2) := by decide +kernel
theorem d251_21 : decode bM251 21 = .ok (.invokevirtual 123, 3) := by decide +kernel
theorem d251_24 : decode bM251 24 = .ok (.ifCond .eq 12, 3) := by decide +kernel
theorem d251_27 : decode bM251 27 = .ok (.aload_n 0, 1) := by decide +kernel
theorem d251_28 : decode bM251 28 = .ok (.bipush 45, 2) := by decide +kernel
theorem d251_30 : decode bM251 30 = .ok (.invokevirtual 123, 3) := by decide +kernel
theorem d251_33 : decode bM251 33 = .ok (.ifCond .ne 5, 3) := by decide +kernel
theorem d251_36 : decode bM251 36 = .ok (.iconst 0, 1) := by decide +kernel
theorem d251_37 : decode bM251 37 = .ok (.ireturn, 1) := by decide +kernel
theorem d251_38 : decode bM251 38 = .ok (.aload_n 0, 1) := by decide +kernel
theorem d251_39 : decode bM251 39 = .ok (.getfield 82, 3) := by decide +kernel
theorem d251_42 : decode bM251 42 = .ok (.istore_n 3, 1) := by decide +kernel
theorem d251_43 : decode bM251 43 = .ok (.aload_n 0, 1) := by decide +kernel
theorem d251_44 : decode bM251 44 = .ok (.getfield 82, 3) := by decide +kernel
theorem d251_47 : decode bM251 47 = .ok (.aload_n 0, 1) := by decide +kernel
theorem d251_48 : decode bM251 48 = .ok (.getfield 75, 3) := by decide +kernel
theorem d251_51 : decode bM251 51 = .ok (.invokevirtual 114, 3) := by decide +kernel
theorem d251_54 : decode bM251 54 = .ok (.if_icmp .ge 44, 3) := by decide +kernel
theorem d251_57 : decode bM251 57 = .ok (.aload_n 0, 1) := by decide +kernel
theorem d251_58 : decode bM251 58 = .ok (.aload_n 0, 1) := by decide +kernel
theorem d251_59 : decode bM251 59 = .ok (.getfield 82, 3) := by decide +kernel
theorem d251_62 : decode bM251 62 = .ok (.invokevirtual 56, 3) := by decide +kernel
theorem d251_65 : decode bM251 65 = .ok (.bipush 45, 2) := by decide +kernel
theorem d251_67 : decode bM251 67 = .ok (.if_icmp .ne 18, 3) := by decide +kernel
theorem d251_70 : decode bM251 70 = .ok (.aload_n 0, 1) := by decide +kernel
theorem d251_71 : decode bM251 71 = .ok (.aload_n 0, 1) := by decide +kernel
theorem d251_72 : decode bM251 72 = .ok (.getfield 82, 3) := by decide +kernel
theorem d251_75 : decode bM251 75 = .ok (.iconst 1, 1) := by decide +kernel
theorem d251_76 : decode bM251 76 = .ok (.iadd, 1) := by decide +kernel
theorem d251_77 : decode bM251 77 = .ok (.invokevirtual 56, 3) := by decide +kernel
theorem d251_80 : decode bM251 80 = .ok (.bipush 45, 2) := by decide +kernel
theorem d251_82 : decode bM251 82 = .ok (.if_icmp .eq 16, 3) := by decide +kernel
theorem d251_85 : decode bM251 85 = .ok (.aload_n 0, 1) := by decide +kernel
theorem d251_86 : decode bM251 86 = .ok (.dup, 1) := by decide +kernel
theorem d251_87 : decode bM251 87 = .ok (.getfield 82, 3) := by decide +kernel
theorem d251_90 : decode bM251 90 = .ok (.iconst 1, 1) := by decide +kernel
theorem d251_91 : decode bM251 91 = .ok (.iadd, 1) := by decide +kernel
theorem d251_92 : decode bM251 92 = .ok (.putfield 82, 3) := by decide +kernel
theorem d251_95 : decode bM251 95 = .ok (.goto (-52), 3) := by decide +kernel
theorem d251_98 : decode bM251 98 = .ok (.aload_n 0, 1) := by decide +kernel
theorem d251_99 : decode bM251 99 = .ok (.iconst 3, 1) := by decide +kernel
theorem d251_100 : decode bM251 100 = .ok (.aload_n 1, 1) := by decide +kernel
theorem d251_101 : decode bM251 101 = .ok (.aload_n 2, 1) := by decide +kernel
theorem d251_102 : decode bM251 102 = .ok (.invokevirtual 86, 3) := by decide +kernel
theorem d251_105 : decode bM251 105 = .ok (.astore 4, 2) := by decide +kernel
theorem d251_107 : decode bM251 107 = .ok (.aload 4, 2) := by decide +kernel
theorem d251_109 : decode bM251 109 = .ok (.aload_n 0, 1) := by decide +kernel
theorem d251_110 : decode bM251 110 = .ok (.getfield 75, 3) := by decide +kernel
theorem d251_113 : decode bM251 113 = .ok (.iload_n 3, 1) := by decide +kernel
theorem d251_114 : decode bM251 114 = .ok (.aload_n 0, 1) := by decide +kernel
theorem d251_115 : decode bM251 115 = .ok (.getfield 82, 3) := by decide +kernel
theorem d251_118 : decode bM251 118 = .ok (.invokevirtual 148, 3) := by decide +kernel
theorem d251_121 : decode bM251 121 = .ok (.putfield 52, 3) := by decide +kernel
theorem d251_124 : decode bM251 124 = .ok (.aload_n 0, 1) := by decide +kernel
theorem d251_125 : decode bM251 125 = .ok (.aload_n 0, 1) := by decide +kernel
theorem d251_126 : decode bM251 126 = .ok (.getfield 24, 3) := by decide +kernel
theorem d251_129 : decode bM251 129 = .ok (.ifCond .ne 16, 3) := by decide +kernel
theorem d251_132 : decode bM251 132 = .ok (.aload 4, 2) := by decide +kernel
theorem d251_134 : decode bM251 134 = .ok (.getfield 52, 3) := by decide +kernel
theorem d251_137 : decode bM251 137 = .ok (.invokevirtual 114, 3) := by decide +kernel
theorem d251_140 : decode bM251 140 = .ok (.bipush 20, 2) := by decide +kernel
theorem d251_142 : decode bM251 142 = .ok (.if_icmp .le 7, 3) := by decide +kernel
theorem d251_145 : decode bM251 145 = .ok (.iconst 1, 1) := by decide +kernel
theorem d251_146 : decode bM251 146 = .ok (.goto 4, 3) := by decide +kernel
theorem d251_149 : decode bM251 149 = .ok (.iconst 0, 1) := by decide +kernel
theorem d251_150 : decode bM251 150 = .ok (.putfield 24, 3) := by decide +kernel
theorem d251_153 : decode bM251 153 = .ok (.aload_n 0, 1) := by decide +kernel
theorem d251_154 : decode bM251 154 = .ok (.bipush 45, 2) := by decide +kernel
theorem d251_156 : decode bM251 156 = .ok (.invokevirtual 123, 3) := by decide +kernel
theorem d251_159 : decode bM251 159 = .ok (.ifCond .eq 25, 3) := by decide +kernel
theorem d251_162 : decode bM251 162 = .ok (.aload_n 0, 1) := by decide +kernel
theorem d251_163 : decode bM251 163 = .ok (.bipush 45, 2) := by decide +kernel
theorem d251_165 : decode bM251 165 = .ok (.invokevirtual 123, 3) := by decide +kernel
theorem d251_168 : decode bM251 168 = .ok (.ifCond .eq 16, 3) := by decide +kernel
theorem d251_171 : decode bM251 171 = .ok (.aload_n 0, 1) := by decide +kernel
theorem d251_172 : decode bM251 172 = .ok (.bipush 62, 2) := by decide +kernel
theorem d251_174 : decode bM251 174 = .ok (.invokevirtual 123, 3) := by decide +kernel
theorem d251_177 : decode bM251 177 = .ok (.ifCond .eq 7, 3) := by decide +kernel
theorem d251_180 : decode bM251 180 = .ok (.iconst 1, 1) := by decide +kernel
theorem d251_181 : decode bM251 181 = .ok (.goto 4, 3) := by decide +kernel
theorem d251_184 : decode bM251 184 = .ok (.iconst 0, 1) := by decide +kernel
theorem d251_185 : decode bM251 185 = .ok (.ireturn, 1) := by decide +kernel
theorem d252_0 : decode bM252 0 = .ok (.aload_n 0, 1) := by decide +kernel
theorem d252_1 : decode bM252 1 = .ok (.ldc 170, 2) := by decide +kernel
theorem d252_3 : decode bM252 3 = .ok (.invokevirtual 172, 3) := by decide +kernel
theorem d252_6 : decode bM252 6 = .ok (.ifCond .eq 6, 3) := by decide +kernel
theorem d252_9 : decode bM252 9 = .ok (.bipush 60, 2) := by decide +kernel
theorem d252_11 : decode bM252 11 = .ok (.ireturn, 1) := by decide +kernel
theorem d252_12 : decode bM252 12 = .ok (.aload_n 0, 1) := by decide +kernel
theorem d252_13 : decode bM252 13 = .ok (.ldc 176, 2) := by decide +kernel
theorem d252_15 : decode bM252 15 = .ok (.invokevirtual 172, 3) := by decide +kernel
theorem d252_18 : decode bM252 18 = .ok (.ifCond .eq 6, 3) := by decide +kernel
theorem d252_21 : decode bM252 21 = .ok (.bipush 62, 2) := by decide +kernel
theorem d252_23 : decode bM252 23 = .ok (.ireturn, 1) := by decide +kernel
theorem d252_24 : decode bM252 24 = .ok (.aload_n 0, 1) := by decide +kernel
theorem d252_25 : decode bM252 25 = .ok (.ldc 178, 2) := by decide +kernel
theorem d252_27 : decode bM252 27 = .ok (.invokevirtual 172, 3) := by decide +kernel
theorem d252_30 : decode bM252 30 = .ok (.ifCond .eq 6, 3) := by decide +kernel
theorem d252_33 : decode bM252 33 = .ok (.bipush 38, 2) := by decide +kernel
theorem d252_35 : decode bM252 35 = .ok (.ireturn, 1) := by decide +kernel
theorem d252_36 : decode bM252 36 = .ok (.aload_n 0, 1) := by decide +kernel
theorem d252_37 : decode bM252 37 = .ok (.ldc 180, 2) := by decide +kernel
theorem d252_39 : decode bM252 39 = .ok (.invokevirtual 172, 3) := by decide +kernel
theorem d252_42 : decode bM252 42 = .ok (.ifCond .eq 6, 3) := by decide +kernel
theorem d252_45 : decode bM252 45 = .ok (.bipush 34, 2) := by decide +kernel
theorem d252_47 : decode bM252 47 = .ok (.ireturn, 1) := by decide +kernel
theorem d252_48 : decode bM252 48 = .ok (.aload_n 0, 1) := by decide +kernel
theorem d252_49 : decode bM252 49 = .ok (.ldc 182, 2) := by decide +kernel
theorem d252_51 : decode bM252 51 = .ok (.invokevirtual 172, 3) := by decide +kernel
theorem d252_54 : decode bM252 54 = .ok (.ifCond .eq 6, 3) := by decide +kernel
theorem d252_57 : decode bM252 57 = .ok (.bipush 39, 2) := by decide +kernel
theorem d252_59 : decode bM252 59 = .ok (.ireturn, 1) := by decide +kernel
theorem d252_60 : decode bM252 60 = .ok (.aload_n 0, 1) := by decide +kernel
theorem d252_61 : decode bM252 61 = .ok (.aload_n 0, 1) := by decide +kernel
theorem d252_62 : decode bM252 62 = .ok (.getfield 82, 3) := by decide +kernel
theorem d252_65 : decode bM252 65 = .ok (.invokevirtual 60, 3) := by decide +kernel
theorem d252_68 : decode bM252 68 = .ok (.pop, 1) := by decide +kernel
theorem d252_69 : decode bM252 69 = .ok (.iconst 0, 1) := by decide +kernel
theorem d252_70 : decode bM252 70 = .ok (.ireturn, 1) := by decide +kernel
theorem d253_0 : decode bM253 0 = .ok (.new 111, 3) := by decide +kernel
theorem d253_3 : decode bM253 3 = .ok (.dup, 1) := by decide +kernel
theorem d253_4 : decode bM253 4 = .ok (.invokespecial 113, 3) := by decide +kernel
theorem d253_7 : decode bM253 7 = .ok (.astore_n 2, 1) := by decide +kernel
theorem d253_8 : decode bM253 8 = .ok (.iconst 0, 1) := by decide +kernel
theorem d253_9 : decode bM253 9 = .ok (.istore_n 3, 1) := by decide +kernel
theorem d253_10 : decode bM253 10 = .ok (.iload_n 3, 1) := by decide +kernel
theorem d253_11 : decode bM253 11 = .ok (.aload_n 0, 1) := by decide +kernel
theorem d253_12 : decode bM253 12 = .ok (.getfield 53, 3) := by decide +kernel
theorem d253_15 : decode bM253 15 = .ok (.invokevirtual 57, 3) := by decide +kernel
theorem d253_18 : decode bM253 18 = .ok (.if_icmp .ge 48, 3) := by decide +kernel
theorem d253_21 : decode bM253 21 = .ok (.aload_n 0, 1) := by decide +kernel
theorem d253_22 : decode bM253 22 = .ok (.aload_n 0, 1) := by decide +kernel
theorem d253_23 : decode bM253 23 = .ok (.getfield 24, 3) := by decide +kernel
theorem d253_26 : decode bM253 26 = .ok (.invokevirtual 28, 3) := by decide +kernel
theorem d253_29 : decode bM253 29 = .ok (.bipush 33, 2) := by decide +kernel
theorem d253_31 : decode bM253 31 = .ok (.if_icmp .ne 35, 3) := by decide +kernel
theorem d253_34 : decode bM253 34 = .ok (.aload_n 2, 1) := by decide +kernel
theorem d253_35 : decode bM253 35 = .ok (.aload_n 2, 1) := by decide +kernel
theorem d253_36 : decode bM253 36 = .ok (.getfield 114, 3) := by decide +kernel
theorem d253_39 : decode bM253 39 = .ok (.ifCond .ne 7, 3) := by decide +kernel
theorem d253_42 : decode bM253 42 = .ok (.iconst 1, 1) := by decide +kernel
theorem d253_43 : decode bM253 43 = .ok (.goto 4, 3) := by decide +kernel
theorem d253_46 : decode bM253 46 = .ok (.iconst 0, 1) := by decide +kernel
theorem d253_47 : decode bM253 47 = .ok (.putfield 114, 3) := by decide +kernel
theorem d253_50 : decode bM253 50 = .ok (.aload_n 0, 1) := by decide +kernel
theorem d253_51 : decode bM253 51 = .ok (.dup, 1) := by decide +kernel
theorem d253_52 : decode bM253 52 = .ok (.getfield 24, 3) := by decide +kernel
theorem d253_55 : decode bM253 55 = .ok (.iconst 1, 1) := by decide +kernel
theorem d253_56 : decode bM253 56 = .ok (.iadd, 1) := by decide +kernel
theorem d253_57 : decode bM253 57 = .ok (.putfield 24, 3) := by decide +kernel
theorem d253_60 : decode bM253 60 = .ok (.iinc 3 1, 3) := by decide +kernel
theorem d253_63 : decode bM253 63 = .ok (.goto (-53), 3) := by decide +kernel
theorem d253_66 : decode bM253 66 = .ok (.aload_n 0, 1) := by decide +kernel
theorem d253_67 : decode bM253 67 = .ok (.aload_n 0, 1) := by decide +kernel
theorem d253_68 : decode bM253 68 = .ok (.getfield 24, 3) := by decide +kernel
theorem d253_71 : decode bM253 71 = .ok (.invokevirtual 28, 3) := by decide +kernel
theorem d253_74 : decode bM253 74 = .ok (.istore_n 3, 1) := by decide +kernel
theorem d253_75 : decode bM253 75 = .ok (.iload_n 3, 1) := by decide +kernel
theorem d253_76 : decode bM253 76 = .ok (.invokestatic 117, 3) := by decide +kernel
theorem d253_79 : decode bM253 79 = .ok (.ifCond .eq 20, 3) := by decide +kernel
theorem d253_82 : decode bM253 82 = .ok (.aload_n 2, 1) := by decide +kernel
theorem d253_83 : decode bM253 83 = .ok (.bipush 49, 2) := by decide +kernel
theorem d253_85 : decode bM253 85 = .ok (.putfield 120, 3) := by decide +kernel
theorem d253_88 : decode bM253 88 = .ok (.aload_n 2, 1) := by decide +kernel
theorem d253_89 : decode bM253 89 = .ok (.aload_n 0, 1) := by decide +kernel
theorem d253_90 : decode bM253 90 = .ok (.invokevirtual 121, 3) := by decide +kernel
theorem d253_93 : decode bM253 93 = .ok (.putfield 124, 3) := by decide +kernel
theorem d253_96 : decode bM253 96 = .ok (.goto 84, 3) := by decide +kernel
theorem d253_99 : decode bM253 99 = .ok (.iload_n 3, 1) := by decide +kernel
theorem d253_100 : decode bM253 100 = .ok (.bipush 36, 2) := by decide +kernel
theorem d253_102 : decode bM253 102 = .ok (.if_icmp .ne 22, 3) := by decide +kernel
theorem d253_105 : decode bM253 105 = .ok (.aload_n 2, 1) := by decide +kernel
theorem d253_106 : decode bM253 106 = .ok (.bipush 36, 2) := by decide +kernel
theorem d253_108 : decode bM253 108 = .ok (.putfield 120, 3) := by decide +kernel
theorem d253_111 : decode bM253 111 = .ok (.aload_n 0, 1) := by decide +kernel
theorem d253_112 : decode bM253 112 = .ok (.dup, 1) := by decide +kernel
theorem d253_113 : decode bM253 113 = .ok (.getfield 24, 3) := by decide +kernel
theorem d253_116 : decode bM253 116 = .ok (.iconst 1, 1) := by decide +kernel
theorem d253_117 : decode bM253 117 = .ok (.iadd, 1) := by decide +kernel
theorem d253_118 : decode bM253 118 = .ok (.putfield 24, 3) := by decide +kernel
theorem d253_121 : decode bM253 121 = .ok (.goto 59, 3) := by decide +kernel
theorem d253_124 : decode bM253 124 = .ok (.iload_n 3, 1) := by decide +kernel
theorem d253_125 : decode bM253 125 = .ok (.bipush 64, 2) := by decide +kernel
theorem d253_127 : decode bM253 127 = .ok (.if_icmp .ne 37, 3) := by decide +kernel
theorem d253_130 : decode bM253 130 = .ok (.aload_n 2, 1) := by decide +kernel
theorem d253_131 : decode bM253 131 = .ok (.bipush 64, 2) := by decide +kernel
theorem d253_133 : decode bM253 133 = .ok (.putfield 120, 3) := by decide +kernel
theorem d253_136 : decode bM253 136 = .ok (.aload_n 0, 1) := by decide +kernel
theorem d253_137 : decode bM253 137 = .ok (.dup, 1) := by decide +kernel
theorem d253_138 : decode bM253 138 = .ok (.getfield 24, 3) := by decide +kernel
theorem d253_141 : decode bM253 141 = .ok (.iconst 1, 1) := by decide +kernel
theorem d253_142 : decode bM253 142 = .ok (.iadd, 1) := by decide +kernel
theorem d253_143 : decode bM253 143 = .ok (.putfield 24, 3) := by decide +kernel
theorem d253_146 : decode bM253 146 = .ok (.aload_n 2, 1) := by decide +kernel
theorem d253_147 : decode bM253 147 = .ok (.aload_n 0, 1) := by decide +kernel
theorem d253_148 : decode bM253 148 = .ok (.invokevirtual 82, 3) := by decide +kernel
theorem d253_151 : decode bM253 151 = .ok (.putfield 127, 3) := by decide +kernel
theorem d253_154 : decode bM253 154 = .ok (.aload_n 0, 1) := by decide +kernel
theorem d253_155 : decode bM253 155 = .ok (.aload_n 2, 1) := by decide +kernel
theorem d253_156 : decode bM253 156 = .ok (.ldc 128, 2) := by decide +kernel
theorem d253_158 : decode bM253 158 = .ok (.invokevirtual 130, 3) := by decide +kernel
theorem d253_161 : decode bM253 161 = .ok (.goto 19, 3) := by decide +kernel
theorem d253_164 : decode bM253 164 = .ok (.aload_n 2, 1) := by decide +kernel
theorem d253_165 : decode bM253 165 = .ok (.aload_n 0, 1) := by decide +kernel
theorem d253_166 : decode bM253 166 = .ok (.iload_n 1, 1) := by decide +kernel
theorem d253_167 : decode bM253 167 = .ok (.invokevirtual 9, 3) := by decide +kernel
theorem d253_170 : decode bM253 170 = .ok (.putfield 134, 3) := by decide +kernel
theorem d253_173 : decode bM253 173 = .ok (.aload_n 0, 1) := by decide +kernel
theorem d253_174 : decode bM253 174 = .ok (.aload_n 2, 1) := by decide +kernel
theorem d253_175 : decode bM253 175 = .ok (.ldc 138, 2) := by decide +kernel
theorem d253_177 : decode bM253 177 = .ok (.invokevirtual 130, 3) := by decide +kernel
theorem d253_180 : decode bM253 180 = .ok (.aload_n 2, 1) := by decide +kernel
theorem d253_181 : decode bM253 181 = .ok (.areturn, 1) := by decide +kernel
theorem d254_0 : decode bM254 0 = .ok (.aload_n 0, 1) := by decide +kernel
theorem d254_1 : decode bM254 1 = .ok (.getfield 20, 3) := by decide +kernel
theorem d254_4 : decode bM254 4 = .ok (.iconst 0, 1) := by decide +kernel
theorem d254_5 : decode bM254 5 = .ok (.invokevirtual 152, 3) := by decide +kernel
theorem d254_8 : decode bM254 8 = .ok (.iconst 0, 1) := by decide +kernel
theorem d254_9 : decode bM254 9 = .ok (.istore_n 2, 1) := by decide +kernel
theorem d254_10 : decode bM254 10 = .ok (.iload_n 2, 1) := by decide +kernel
theorem d254_11 : decode bM254 11 = .ok (.aload_n 0, 1) := by decide +kernel
theorem d254_12 : decode bM254 12 = .ok (.getfield 75, 3) := by decide +kernel
theorem d254_15 : decode bM254 15 = .ok (.invokevirtual 114, 3) := by decide +kernel
theorem d254_18 : decode bM254 18 = .ok (.if_icmp .ge 88, 3) := by decide +kernel
theorem d254_21 : decode bM254 21 = .ok (.aload_n 0, 1) := by decide +kernel
theorem d254_22 : decode bM254 22 = .ok (.getfield 82, 3) := by decide +kernel
theorem d254_25 : decode bM254 25 = .ok (.aload_n 0, 1) := by decide +kernel
theorem d254_26 : decode bM254 26 = .ok (.getfield 75, 3) := by decide +kernel
theorem d254_29 : decode bM254 29 = .ok (.invokevirtual 114, 3) := by decide +kernel
theorem d254_32 : decode bM254 32 = .ok (.if_icmp .ge 74, 3) := by decide +kernel
theorem d254_35 : decode bM254 35 = .ok (.aload_n 0, 1) := by decide +kernel
theorem d254_36 : decode bM254 36 = .ok (.aload_n 0, 1) := by decide +kernel
theorem d254_37 : decode bM254 37 = .ok (.getfield 82, 3) := by decide +kernel
theorem d254_40 : decode bM254 40 = .ok (.invokevirtual 56, 3) := by decide +kernel
theorem d254_43 : decode bM254 43 = .ok (.istore_n 3, 1) := by decide +kernel
theorem d254_44 : decode bM254 44 = .ok (.iload_n 3, 1) := by decide +kernel
theorem d254_45 : decode bM254 45 = .ok (.bipush 60, 2) := by decide +kernel
theorem d254_47 : decode bM254 47 = .ok (.if_icmp .eq 59, 3) := by decide +kernel
theorem d254_50 : decode bM254 50 = .ok (.iload_n 3, 1) := by decide +kernel
theorem d254_51 : decode bM254 51 = .ok (.iload_n 1, 1) := by decide +kernel
theorem d254_52 : decode bM254 52 = .ok (.if_icmp .ne 6, 3) := by decide +kernel
theorem d254_55 : decode bM254 55 = .ok (.goto 51, 3) := by decide +kernel
theorem d254_58 : decode bM254 58 = .ok (.aload_n 0, 1) := by decide +kernel
theorem d254_59 : decode bM254 59 = .ok (.getfield 20, 3) := by decide +kernel
theorem d254_62 : decode bM254 62 = .ok (.iload_n 3, 1) := by decide +kernel
theorem d254_63 : decode bM254 63 = .ok (.bipush 38, 2) := by decide +kernel
theorem d254_65 : decode bM254 65 = .ok (.if_icmp .ne 10, 3) := by decide +kernel
theorem d254_68 : decode bM254 68 = .ok (.aload_n 0, 1) := by decide +kernel
theorem d254_69 : decode bM254 69 = .ok (.invokevirtual 158, 3) := by decide +kernel
theorem d254_72 : decode bM254 72 = .ok (.goto 4, 3) := by decide +kernel
theorem d254_75 : decode bM254 75 = .ok (.iload_n 3, 1) := by decide +kernel
theorem d254_76 : decode bM254 76 = .ok (.invokevirtual 162, 3) := by decide +kernel
theorem d254_79 : decode bM254 79 = .ok (.pop, 1) := by decide +kernel
theorem d254_80 : decode bM254 80 = .ok (.aload_n 0, 1) := by decide +kernel
theorem d254_81 : decode bM254 81 = .ok (.invokevirtual 94, 3) := by decide +kernel
theorem d254_84 : decode bM254 84 = .ok (.ifCond .eq 6, 3) := by decide +kernel
theorem d254_87 : decode bM254 87 = .ok (.goto 19, 3) := by decide +kernel
theorem d254_90 : decode bM254 90 = .ok (.aload_n 0, 1) := by decide +kernel
theorem d254_91 : decode bM254 91 = .ok (.dup, 1) := by decide +kernel
theorem d254_92 : decode bM254 92 = .ok (.getfield 82, 3) := by decide +kernel
theorem d254_95 : decode bM254 95 = .ok (.iconst 1, 1) := by decide +kernel
theorem d254_96 : decode bM254 96 = .ok (.iadd, 1) := by decide +kernel
theorem d254_97 : decode bM254 97 = .ok (.putfield 82, 3) := by decide +kernel
theorem d254_100 : decode bM254 100 = .ok (.iinc 2 1, 3) := by decide +kernel
theorem d254_103 : decode bM254 103 = .ok (.goto (-93), 3) := by decide +kernel
theorem d254_106 : decode bM254 106 = .ok (.aload_n 0, 1) := by decide +kernel
theorem d254_107 : decode bM254 107 = .ok (.aload_n 0, 1) := by decide +kernel
theorem d254_108 : decode bM254 108 = .ok (.getfield 24, 3) := by decide +kernel
theorem d254_111 : decode bM254 111 = .ok (.ifCond .ne 15, 3) := by decide +kernel
theorem d254_114 : decode bM254 114 = .ok (.aload_n 0, 1) := by decide +kernel
theorem d254_115 : decode bM254 115 = .ok (.getfield 20, 3) := by decide +kernel
theorem d254_118 : decode bM254 118 = .ok (.invokevirtual 166, 3) := by decide +kernel
theorem d254_121 : decode bM254 121 = .ok (.bipush 20, 2) := by decide +kernel
theorem d254_123 : decode bM254 123 = .ok (.if_icmp .le 7, 3) := by decide +kernel
theorem d254_126 : decode bM254 126 = .ok (.iconst 1, 1) := by decide +kernel
theorem d254_127 : decode bM254 127 = .ok (.goto 4, 3) := by decide +kernel
theorem d254_130 : decode bM254 130 = .ok (.iconst 0, 1) := by decide +kernel
theorem d254_131 : decode bM254 131 = .ok (.putfield 24, 3) := by decide +kernel
theorem d254_134 : decode bM254 134 = .ok (.aload_n 0, 1) := by decide +kernel
theorem d254_135 : decode bM254 135 = .ok (.getfield 20, 3) := by decide +kernel
theorem d254_138 : decode bM254 138 = .ok (.invokevirtual 167, 3) := by decide +kernel
theorem d254_141 : decode bM254 141 = .ok (.areturn, 1) := by decide +kernel
theorem d255_0 : decode bM255 0 = .ok (.aload_n 0, 1) := by decide +kernel
theorem d255_1 : decode bM255 1 = .ok (.iconst 0, 1) := by decide +kernel
theorem d255_2 : decode bM255 2 = .ok (.invokevirtual 9, 3) := by decide +kernel
theorem d255_5 : decode bM255 5 = .ok (.astore_n 1, 1) := by decide +kernel
theorem d255_6 : decode bM255 6 = .ok (.aload_n 0, 1) := by decide +kernel
theorem d255_7 : decode bM255 7 = .ok (.invokevirtual 15, 3) := by decide +kernel
theorem d255_10 : decode bM255 10 = .ok (.ifCond .ne 8, 3) := by decide +kernel
theorem d255_13 : decode bM255 13 = .ok (.aload_n 0, 1) := by decide +kernel
theorem d255_14 : decode bM255 14 = .ok (.invokevirtual 19, 3) := by decide +kernel
theorem d255_17 : decode bM255 17 = .ok (.pop, 1) := by decide +kernel
theorem d255_18 : decode bM255 18 = .ok (.aload_n 1, 1) := by decide +kernel
theorem d255_19 : decode bM255 19 = .ok (.areturn, 1) := by decide +kernel
theorem d256_0 : decode bM256 0 = .ok (.aload_n 0, 1) := by decide +kernel
theorem d256_1 : decode bM256 1 = .ok (.invokevirtual 47, 3) := by decide +kernel
theorem d256_4 : decode bM256 4 = .ok (.astore_n 2, 1) := by decide +kernel
theorem d256_5 : decode bM256 5 = .ok (.aload_n 0, 1) := by decide +kernel
theorem d256_6 : decode bM256 6 = .ok (.getfield 22, 3) := by decide +kernel
theorem d256_9 : decode bM256 9 = .ok (.iload_n 1, 1) := by decide +kernel
theorem d256_10 : decode bM256 10 = .ok (.invokevirtual 90, 3) := by decide +kernel
theorem d256_13 : decode bM256 13 = .ok (.astore_n 3, 1) := by decide +kernel
theorem d256_14 : decode bM256 14 = .ok (.aload_n 3, 1) := by decide +kernel
theorem d256_15 : decode bM256 15 = .ok (.ifnonnull 7, 3) := by decide +kernel
theorem d256_18 : decode bM256 18 = .ok (.sipush (-1000), 3) := by decide +kernel
theorem d256_21 : decode bM256 21 = .ok (.ireturn, 1) := by decide +kernel
theorem d256_22 : decode bM256 22 = .ok (.new 162, 3) := by decide +kernel
theorem d256_25 : decode bM256 25 = .ok (.dup, 1) := by decide +kernel
theorem d256_26 : decode bM256 26 = .ok (.aload_n 2, 1) := by decide +kernel
theorem d256_27 : decode bM256 27 = .ok (.invokespecial 164, 3) := by decide +kernel
theorem d256_30 : decode bM256 30 = .ok (.astore 4, 2) := by decide +kernel
theorem d256_32 : decode bM256 32 = .ok (.aload 4, 2) := by decide +kernel
theorem d256_34 : decode bM256 34 = .ok (.invokevirtual 167, 3) := by decide +kernel
theorem d256_37 : decode bM256 37 = .ok (.astore 5, 2) := by decide +kernel
theorem d256_39 : decode bM256 39 = .ok (.aload 4, 2) := by decide +kernel
theorem d256_41 : decode bM256 41 = .ok (.invokevirtual 171, 3) := by decide +kernel
theorem d256_44 : decode bM256 44 = .ok (.ifCond .eq 11, 3) := by decide +kernel
theorem d256_47 : decode bM256 47 = .ok (.iconst (-1), 1) := by decide +kernel
theorem d256_48 : decode bM256 48 = .ok (.aload 4, 2) := by decide +kernel
theorem d256_50 : decode bM256 50 = .ok (.getfield 172, 3) := by decide +kernel
theorem d256_53 : decode bM256 53 = .ok (.isub, 1) := by decide +kernel
theorem d256_54 : decode bM256 54 = .ok (.ireturn, 1) := by decide +kernel
theorem d256_55 : decode bM256 55 = .ok (.new 173, 3) := by decide +kernel
theorem d256_58 : decode bM256 58 = .ok (.dup, 1) := by decide +kernel
theorem d256_59 : decode bM256 59 = .ok (.aload_n 0, 1) := by decide +kernel
theorem d256_60 : decode bM256 60 = .ok (.getfield 22, 3) := by decide +kernel
theorem d256_63 : decode bM256 63 = .ok (.invokespecial 175, 3) := by decide +kernel
theorem d256_66 : decode bM256 66 = .ok (.astore 6, 2) := by decide +kernel
theorem d256_68 : decode bM256 68 = .ok (.aload 6, 2) := by decide +kernel
theorem d256_70 : decode bM256 70 = .ok (.aload 5, 2) := by decide +kernel
theorem d256_72 : decode bM256 72 = .ok (.invokevirtual 178, 3) := by decide +kernel
theorem d256_75 : decode bM256 75 = .ok (.aload_n 0, 1) := by decide +kernel
theorem d256_76 : decode bM256 76 = .ok (.aload 6, 2) := by decide +kernel
theorem d256_78 : decode bM256 78 = .ok (.aload_n 3, 1) := by decide +kernel
theorem d256_79 : decode bM256 79 = .ok (.getfield 103, 3) := by decide +kernel
theorem d256_82 : decode bM256 82 = .ok (.aload 5, 2) := by decide +kernel
theorem d256_84 : decode bM256 84 = .ok (.invokevirtual 182, 3) := by decide +kernel
theorem d256_87 : decode bM256 87 = .ok (.invokevirtual 186, 3) := by decide +kernel
theorem d256_90 : decode bM256 90 = .ok (.aload_n 0, 1) := by decide +kernel
theorem d256_91 : decode bM256 91 = .ok (.getfield 30, 3) := by decide +kernel
theorem d256_94 : decode bM256 94 = .ok (.ireturn, 1) := by decide +kernel
theorem d257_0 : decode bM257 0 = .ok (.aload_n 0, 1) := by decide +kernel
theorem d257_1 : decode bM257 1 = .ok (.dup, 1) := by decide +kernel
theorem d257_2 : decode bM257 2 = .ok (.getfield 82, 3) := by decide +kernel
theorem d257_5 : decode bM257 5 = .ok (.iconst 1, 1) := by decide +kernel
theorem d257_6 : decode bM257 6 = .ok (.iadd, 1) := by decide +kernel
theorem d257_7 : decode bM257 7 = .ok (.putfield 82, 3) := by decide +kernel
theorem d257_10 : decode bM257 10 = .ok (.aload_n 0, 1) := by decide +kernel
theorem d257_11 : decode bM257 11 = .ok (.iconst 1, 1) := by decide +kernel
theorem d257_12 : decode bM257 12 = .ok (.aload_n 1, 1) := by decide +kernel
theorem d257_13 : decode bM257 13 = .ok (.aload_n 2, 1) := by decide +kernel
theorem d257_14 : decode bM257 14 = .ok (.invokevirtual 86, 3) := by decide +kernel
theorem d257_17 : decode bM257 17 = .ok (.astore_n 3, 1) := by decide +kernel
theorem d257_18 : decode bM257 18 = .ok (.aload_n 3, 1) := by decide +kernel
theorem d257_19 : decode bM257 19 = .ok (.aload_n 0, 1) := by decide +kernel
theorem d257_20 : decode bM257 20 = .ok (.invokevirtual 110, 3) := by decide +kernel
theorem d257_23 : decode bM257 23 = .ok (.putfield 52, 3) := by decide +kernel
theorem d257_26 : decode bM257 26 = .ok (.iconst 0, 1) := by decide +kernel
theorem d257_27 : decode bM257 27 = .ok (.istore 4, 2) := by decide +kernel
theorem d257_29 : decode bM257 29 = .ok (.iload 4, 2) := by decide +kernel
theorem d257_31 : decode bM257 31 = .ok (.aload_n 0, 1) := by decide +kernel
theorem d257_32 : decode bM257 32 = .ok (.getfield 75, 3) := by decide +kernel
theorem d257_35 : decode bM257 35 = .ok (.invokevirtual 114, 3) := by decide +kernel
theorem d257_38 : decode bM257 38 = .ok (.if_icmp .ge 32, 3) := by decide +kernel
theorem d257_41 : decode bM257 41 = .ok (.aload_n 0, 1) := by decide +kernel
theorem d257_42 : decode bM257 42 = .ok (.aload_n 0, 1) := by decide +kernel
theorem d257_43 : decode bM257 43 = .ok (.getfield 82, 3) := by decide +kernel
theorem d257_46 : decode bM257 46 = .ok (.invokevirtual 56, 3) := by decide +kernel
theorem d257_49 : decode bM257 49 = .ok (.bipush 32, 2) := by decide +kernel
theorem d257_51 : decode bM257 51 = .ok (.if_icmp .ne 19, 3) := by decide +kernel
theorem d257_54 : decode bM257 54 = .ok (.aload_n 0, 1) := by decide +kernel
theorem d257_55 : decode bM257 55 = .ok (.aload_n 3, 1) := by decide +kernel
theorem d257_56 : decode bM257 56 = .ok (.invokevirtual 117, 3) := by decide +kernel
theorem d257_59 : decode bM257 59 = .ok (.ifCond .ne 5, 3) := by decide +kernel
theorem d257_62 : decode bM257 62 = .ok (.iconst 0, 1) := by decide +kernel
theorem d257_63 : decode bM257 63 = .ok (.ireturn, 1) := by decide +kernel
theorem d257_64 : decode bM257 64 = .ok (.iinc 4 1, 3) := by decide +kernel
theorem d257_67 : decode bM257 67 = .ok (.goto (-38), 3) := by decide +kernel
theorem d257_70 : decode bM257 70 = .ok (.aload_n 0, 1) := by decide +kernel
theorem d257_71 : decode bM257 71 = .ok (.aload_n 0, 1) := by decide +kernel
theorem d257_72 : decode bM257 72 = .ok (.getfield 24, 3) := by decide +kernel
theorem d257_75 : decode bM257 75 = .ok (.ifCond .ne 14, 3) := by decide +kernel
theorem d257_78 : decode bM257 78 = .ok (.aload_n 3, 1) := by decide +kernel
theorem d257_79 : decode bM257 79 = .ok (.getfield 120, 3) := by decide +kernel
theorem d257_82 : decode bM257 82 = .ok (.invokevirtual 28, 3) := by decide +kernel
theorem d257_85 : decode bM257 85 = .ok (.iconst 3, 1) := by decide +kernel
theorem d257_86 : decode bM257 86 = .ok (.if_icmp .le 7, 3) := by decide +kernel
theorem d257_89 : decode bM257 89 = .ok (.iconst 1, 1) := by decide +kernel
theorem d257_90 : decode bM257 90 = .ok (.goto 4, 3) := by decide +kernel
theorem d257_93 : decode bM257 93 = .ok (.iconst 0, 1) := by decide +kernel
theorem d257_94 : decode bM257 94 = .ok (.putfield 24, 3) := by decide +kernel
theorem d257_97 : decode bM257 97 = .ok (.aload_n 0, 1) := by decide +kernel
theorem d257_98 : decode bM257 98 = .ok (.aload_n 0, 1) := by decide +kernel
theorem d257_99 : decode bM257 99 = .ok (.getfield 82, 3) := by decide +kernel
theorem d257_102 : decode bM257 102 = .ok (.invokevirtual 56, 3) := by decide +kernel
theorem d257_105 : decode bM257 105 = .ok (.bipush 47, 2) := by decide +kernel
theorem d257_107 : decode bM257 107 = .ok (.if_icmp .ne 20, 3) := by decide +kernel
theorem d257_110 : decode bM257 110 = .ok (.aload_n 0, 1) := by decide +kernel
theorem d257_111 : decode bM257 111 = .ok (.dup, 1) := by decide +kernel
theorem d257_112 : decode bM257 112 = .ok (.getfield 82, 3) := by decide +kernel
theorem d257_115 : decode bM257 115 = .ok (.iconst 1, 1) := by decide +kernel
theorem d257_116 : decode bM257 116 = .ok (.iadd, 1) := by decide +kernel
theorem d257_117 : decode bM257 117 = .ok (.putfield 82, 3) := by decide +kernel
theorem d257_120 : decode bM257 120 = .ok (.aload_n 0, 1) := by decide +kernel
theorem d257_121 : decode bM257 121 = .ok (.bipush 62, 2) := by decide +kernel
theorem d257_123 : decode bM257 123 = .ok (.invokevirtual 123, 3) := by decide +kernel
theorem d257_126 : decode bM257 126 = .ok (.ireturn, 1) := by decide +kernel
theorem d257_127 : decode bM257 127 = .ok (.aload_n 0, 1) := by decide +kernel
theorem d257_128 : decode bM257 128 = .ok (.bipush 62, 2) := by decide +kernel
theorem d257_130 : decode bM257 130 = .ok (.invokevirtual 123, 3) := by decide +kernel
theorem d257_133 : decode bM257 133 = .ok (.ifCond .eq 23, 3) := by decide +kernel
theorem d257_136 : decode bM257 136 = .ok (.aload_n 0, 1) := by decide +kernel
theorem d257_137 : decode bM257 137 = .ok (.aload_n 3, 1) := by decide +kernel
theorem d257_138 : decode bM257 138 = .ok (.invokevirtual 126, 3) := by decide +kernel
theorem d257_141 : decode bM257 141 = .ok (.ifCond .eq 15, 3) := by decide +kernel
theorem d257_144 : decode bM257 144 = .ok (.aload_n 0, 1) := by decide +kernel
theorem d257_145 : decode bM257 145 = .ok (.aload_n 3, 1) := by decide +kernel
theorem d257_146 : decode bM257 146 = .ok (.invokevirtual 129, 3) := by decide +kernel
theorem d257_149 : decode bM257 149 = .ok (.ifCond .eq 7, 3) := by decide +kernel
theorem d257_152 : decode bM257 152 = .ok (.iconst 1, 1) := by decide +kernel
theorem d257_153 : decode bM257 153 = .ok (.goto 4, 3) := by decide +kernel
theorem d257_156 : decode bM257 156 = .ok (.iconst 0, 1) := by decide +kernel
theorem d257_157 : decode bM257 157 = .ok (.ireturn, 1) := by decide +kernel
theorem d258_0 : decode bM258 0 = .ok (.aload_n 0, 1) := by decide +kernel
theorem d258_1 : decode bM258 1 = .ok (.dup, 1) := by decide +kernel
theorem d258_2 : decode bM258 2 = .ok (.getfield 82, 3) := by decide +kernel
theorem d258_5 : decode bM258 5 = .ok (.iconst 1, 1) := by decide +kernel
theorem d258_6 : decode bM258 6 = .ok (.iadd, 1) := by decide +kernel
theorem d258_7 : decode bM258 7 = .ok (.putfield 82, 3) := by decide +kernel
theorem d258_10 : decode bM258 10 = .ok (.aload_n 0, 1) := by decide +kernel
theorem d258_11 : decode bM258 11 = .ok (.getfield 82, 3) := by decide +kernel
theorem d258_14 : decode bM258 14 = .ok (.istore_n 2, 1) := by decide +kernel
theorem d258_15 : decode bM258 15 = .ok (.aload_n 0, 1) := by decide +kernel
theorem d258_16 : decode bM258 16 = .ok (.invokevirtual 110, 3) := by decide +kernel
theorem d258_19 : decode bM258 19 = .ok (.astore_n 3, 1) := by decide +kernel
theorem d258_20 : decode bM258 20 = .ok (.aload_n 0, 1) := by decide +kernel
theorem d258_21 : decode bM258 21 = .ok (.invokevirtual 94, 3) := by decide +kernel
theorem d258_24 : decode bM258 24 = .ok (.ifCond .eq 5, 3) := by decide +kernel
theorem d258_27 : decode bM258 27 = .ok (.iconst 0, 1) := by decide +kernel
theorem d258_28 : decode bM258 28 = .ok (.ireturn, 1) := by decide +kernel
theorem d258_29 : decode bM258 29 = .ok (.aload_n 1, 1) := by decide +kernel
theorem d258_30 : decode bM258 30 = .ok (.aload_n 3, 1) := by decide +kernel
theorem d258_31 : decode bM258 31 = .ok (.invokevirtual 132, 3) := by decide +kernel
theorem d258_34 : decode bM258 34 = .ok (.ifnull 9, 3) := by decide +kernel
theorem d258_37 : decode bM258 37 = .ok (.aload_n 0, 1) := by decide +kernel
theorem d258_38 : decode bM258 38 = .ok (.iload_n 2, 1) := by decide +kernel
theorem d258_39 : decode bM258 39 = .ok (.invokevirtual 60, 3) := by decide +kernel
theorem d258_42 : decode bM258 42 = .ok (.ireturn, 1) := by decide +kernel
theorem d258_43 : decode bM258 43 = .ok (.aload_n 0, 1) := by decide +kernel
theorem d258_44 : decode bM258 44 = .ok (.bipush 61, 2) := by decide +kernel
theorem d258_46 : decode bM258 46 = .ok (.invokevirtual 123, 3) := by decide +kernel
theorem d258_49 : decode bM258 49 = .ok (.ifCond .eq 12, 3) := by decide +kernel
theorem d258_52 : decode bM258 52 = .ok (.aload_n 0, 1) := by decide +kernel
theorem d258_53 : decode bM258 53 = .ok (.bipush 34, 2) := by decide +kernel
theorem d258_55 : decode bM258 55 = .ok (.invokevirtual 123, 3) := by decide +kernel
theorem d258_58 : decode bM258 58 = .ok (.ifCond .ne 5, 3) := by decide +kernel
theorem d258_61 : decode bM258 61 = .ok (.iconst 0, 1) := by decide +kernel
theorem d258_62 : decode bM258 62 = .ok (.ireturn, 1) := by decide +kernel
theorem d258_63 : decode bM258 63 = .ok (.aload_n 0, 1) := by decide +kernel
theorem d258_64 : decode bM258 64 = .ok (.bipush 34, 2) := by decide +kernel
theorem d258_66 : decode bM258 66 = .ok (.invokevirtual 90, 3) := by decide +kernel
theorem d258_69 : decode bM258 69 = .ok (.astore 4, 2) := by decide +kernel
theorem d258_71 : decode bM258 71 = .ok (.aload_n 0, 1) := by decide +kernel
theorem d258_72 : decode bM258 72 = .ok (.invokevirtual 94, 3) := by decide +kernel
theorem d258_75 : decode bM258 75 = .ok (.ifCond .ne 12, 3) := by decide +kernel
theorem d258_78 : decode bM258 78 = .ok (.aload_n 0, 1) := by decide +kernel
theorem d258_79 : decode bM258 79 = .ok (.bipush 34, 2) := by decide +kernel
theorem d258_81 : decode bM258 81 = .ok (.invokevirtual 123, 3) := by decide +kernel
theorem d258_84 : decode bM258 84 = .ok (.ifCond .ne 5, 3) := by decide +kernel
theorem d258_87 : decode bM258 87 = .ok (.iconst 0, 1) := by decide +kernel
theorem d258_88 : decode bM258 88 = .ok (.ireturn, 1) := by decide +kernel
theorem d258_89 : decode bM258 89 = .ok (.aload_n 1, 1) := by decide +kernel
theorem d258_90 : decode bM258 90 = .ok (.getfield 120, 3) := by decide +kernel
theorem d258_93 : decode bM258 93 = .ok (.new 136, 3) := by decide +kernel
theorem d258_96 : decode bM258 96 = .ok (.dup, 1) := by decide +kernel
theorem d258_97 : decode bM258 97 = .ok (.aload_n 3, 1) := by decide +kernel
theorem d258_98 : decode bM258 98 = .ok (.aload 4, 2) := by decide +kernel
theorem d258_100 : decode bM258 100 = .ok (.invokespecial 138, 3) := by decide +kernel
theorem d258_103 : decode bM258 103 = .ok (.invokevirtual 106, 3) := by decide +kernel
theorem d258_106 : decode bM258 106 = .ok (.pop, 1) := by decide +kernel
theorem d258_107 : decode bM258 107 = .ok (.iconst 1, 1) := by decide +kernel
theorem d258_108 : decode bM258 108 = .ok (.ireturn, 1) := by decide +kernel
theorem d259_0 : decode bM259 0 = .ok (.aload_n 0, 1) := by decide +kernel
theorem d259_1 : decode bM259 1 = .ok (.iconst 0, 1) := by decide +kernel
theorem d259_2 : decode bM259 2 = .ok (.invokevirtual 56, 3) := by decide +kernel
theorem d259_5 : decode bM259 5 = .ok (.bipush 60, 2) := by decide +kernel
theorem d259_7 : decode bM259 7 = .ok (.if_icmp .eq 9, 3) := by decide +kernel
theorem d259_10 : decode bM259 10 = .ok (.aload_n 0, 1) := by decide +kernel
theorem d259_11 : decode bM259 11 = .ok (.iconst 0, 1) := by decide +kernel
theorem d259_12 : decode bM259 12 = .ok (.invokevirtual 60, 3) := by decide +kernel
theorem d259_15 : decode bM259 15 = .ok (.ireturn, 1) := by decide +kernel
theorem d259_16 : decode bM259 16 = .ok (.aload_n 0, 1) := by decide +kernel
theorem d259_17 : decode bM259 17 = .ok (.iconst 1, 1) := by decide +kernel
theorem d259_18 : decode bM259 18 = .ok (.invokevirtual 56, 3) := by decide +kernel
theorem d259_21 : decode bM259 21 = .ok (.invokestatic 64, 3) := by decide +kernel
theorem d259_24 : decode bM259 24 = .ok (.ifCond .ne 9, 3) := by decide +kernel
theorem d259_27 : decode bM259 27 = .ok (.aload_n 0, 1) := by decide +kernel
theorem d259_28 : decode bM259 28 = .ok (.iconst 1, 1) := by decide +kernel
theorem d259_29 : decode bM259 29 = .ok (.invokevirtual 60, 3) := by decide +kernel
theorem d259_32 : decode bM259 32 = .ok (.ireturn, 1) := by decide +kernel
theorem d259_33 : decode bM259 33 = .ok (.iconst 1, 1) := by decide +kernel
theorem d259_34 : decode bM259 34 = .ok (.newarray .int, 2) := by decide +kernel
theorem d259_36 : decode bM259 36 = .ok (.dup, 1) := by decide +kernel
theorem d259_37 : decode bM259 37 = .ok (.iconst 0, 1) := by decide +kernel
theorem d259_38 : decode bM259 38 = .ok (.iconst 1, 1) := by decide +kernel
theorem d259_39 : decode bM259 39 = .ok (.iastore, 1) := by decide +kernel
theorem d259_40 : decode bM259 40 = .ok (.astore_n 1, 1) := by decide +kernel
theorem d259_41 : decode bM259 41 = .ok (.aload_n 0, 1) := by decide +kernel
theorem d259_42 : decode bM259 42 = .ok (.aconst_null, 1) := by decide +kernel
theorem d259_43 : decode bM259 43 = .ok (.aload_n 1, 1) := by decide +kernel
theorem d259_44 : decode bM259 44 = .ok (.invokevirtual 68, 3) := by decide +kernel
theorem d259_47 : decode bM259 47 = .ok (.ifCond .eq 14, 3) := by decide +kernel
theorem d259_50 : decode bM259 50 = .ok (.aload_n 0, 1) := by decide +kernel
theorem d259_51 : decode bM259 51 = .ok (.invokevirtual 72, 3) := by decide +kernel
theorem d259_54 : decode bM259 54 = .ok (.ifCond .eq 7, 3) := by decide +kernel
theorem d259_57 : decode bM259 57 = .ok (.iconst 1, 1) := by decide +kernel
theorem d259_58 : decode bM259 58 = .ok (.goto 4, 3) := by decide +kernel
theorem d259_61 : decode bM259 61 = .ok (.iconst 0, 1) := by decide +kernel
theorem d259_62 : decode bM259 62 = .ok (.ireturn, 1) := by decide +kernel
theorem d260_0 : decode bM260 0 = .ok (.aload_n 0, 1) := by decide +kernel
theorem d260_1 : decode bM260 1 = .ok (.getfield 75, 3) := by decide +kernel
theorem d260_4 : decode bM260 4 = .ok (.invokevirtual 76, 3) := by decide +kernel
theorem d260_7 : decode bM260 7 = .ok (.ifCond .eq 9, 3) := by decide +kernel
theorem d260_10 : decode bM260 10 = .ok (.aload_n 0, 1) := by decide +kernel
theorem d260_11 : decode bM260 11 = .ok (.iconst 0, 1) := by decide +kernel
theorem d260_12 : decode bM260 12 = .ok (.invokevirtual 60, 3) := by decide +kernel
theorem d260_15 : decode bM260 15 = .ok (.ireturn, 1) := by decide +kernel
theorem d260_16 : decode bM260 16 = .ok (.aload_n 0, 1) := by decide +kernel
theorem d260_17 : decode bM260 17 = .ok (.aload_n 1, 1) := by decide +kernel
theorem d260_18 : decode bM260 18 = .ok (.aload_n 2, 1) := by decide +kernel
theorem d260_19 : decode bM260 19 = .ok (.invokevirtual 79, 3) := by decide +kernel
theorem d260_22 : decode bM260 22 = .ok (.ifCond .eq 14, 3) := by decide +kernel
theorem d260_25 : decode bM260 25 = .ok (.aload_n 0, 1) := by decide +kernel
theorem d260_26 : decode bM260 26 = .ok (.invokevirtual 72, 3) := by decide +kernel
theorem d260_29 : decode bM260 29 = .ok (.ifCond .eq 7, 3) := by decide +kernel
theorem d260_32 : decode bM260 32 = .ok (.iconst 1, 1) := by decide +kernel
theorem d260_33 : decode bM260 33 = .ok (.goto 4, 3) := by decide +kernel
theorem d260_36 : decode bM260 36 = .ok (.iconst 0, 1) := by decide +kernel
theorem d260_37 : decode bM260 37 = .ok (.ireturn, 1) := by decide +kernel
theorem d261_0 : decode bM261 0 = .ok (.new 45, 3) := by decide +kernel
theorem d261_3 : decode bM261 3 = .ok (.dup, 1) := by decide +kernel
theorem d261_4 : decode bM261 4 = .ok (.aload_n 0, 1) := by decide +kernel
theorem d261_5 : decode bM261 5 = .ok (.invokevirtual 47, 3) := by decide +kernel
theorem d261_8 : decode bM261 8 = .ok (.aload_n 0, 1) := by decide +kernel
theorem d261_9 : decode bM261 9 = .ok (.getfield 16, 3) := by decide +kernel
theorem d261_12 : decode bM261 12 = .ok (.invokespecial 51, 3) := by decide +kernel
theorem d261_15 : decode bM261 15 = .ok (.astore_n 1, 1) := by decide +kernel
theorem d261_16 : decode bM261 16 = .ok (.aload_n 1, 1) := by decide +kernel
theorem d261_17 : decode bM261 17 = .ok (.invokevirtual 54, 3) := by decide +kernel
theorem d261_20 : decode bM261 20 = .ok (.pop, 1) := by decide +kernel
theorem d261_21 : decode bM261 21 = .ok (.aload_n 1, 1) := by decide +kernel
theorem d261_22 : decode bM261 22 = .ok (.invokevirtual 58, 3) := by decide +kernel
theorem d261_25 : decode bM261 25 = .ok (.ifCond .eq 10, 3) := by decide +kernel
theorem d261_28 : decode bM261 28 = .ok (.iconst (-1), 1) := by decide +kernel
theorem d261_29 : decode bM261 29 = .ok (.aload_n 1, 1) := by decide +kernel
theorem d261_30 : decode bM261 30 = .ok (.getfield 61, 3) := by decide +kernel
theorem d261_33 : decode bM261 33 = .ok (.isub, 1) := by decide +kernel
theorem d261_34 : decode bM261 34 = .ok (.ireturn, 1) := by decide +kernel
theorem d261_35 : decode bM261 35 = .ok (.aload_n 1, 1) := by decide +kernel
theorem d261_36 : decode bM261 36 = .ok (.getfield 64, 3) := by decide +kernel
theorem d261_39 : decode bM261 39 = .ok (.invokevirtual 68, 3) := by decide +kernel
theorem d261_42 : decode bM261 42 = .ok (.istore_n 2, 1) := by decide +kernel
theorem d261_43 : decode bM261 43 = .ok (.aload_n 1, 1) := by decide +kernel
theorem d261_44 : decode bM261 44 = .ok (.invokevirtual 73, 3) := by decide +kernel
theorem d261_47 : decode bM261 47 = .ok (.ifCond .ne 20, 3) := by decide +kernel
theorem d261_50 : decode bM261 50 = .ok (.iload_n 2, 1) := by decide +kernel
theorem d261_51 : decode bM261 51 = .ok (.bipush 40, 2) := by decide +kernel
theorem d261_53 : decode bM261 53 = .ok (.if_icmp .gt 14, 3) := by decide +kernel
theorem d261_56 : decode bM261 56 = .ok (.aload_n 0, 1) := by decide +kernel
theorem d261_57 : decode bM261 57 = .ok (.getfield 22, 3) := by decide +kernel
theorem d261_60 : decode bM261 60 = .ok (.iload_n 2, 1) := by decide +kernel
theorem d261_61 : decode bM261 61 = .ok (.invokevirtual 76, 3) := by decide +kernel
theorem d261_64 : decode bM261 64 = .ok (.ifCond .ne 7, 3) := by decide +kernel
theorem d261_67 : decode bM261 67 = .ok (.sipush (-2000), 3) := by decide +kernel
theorem d261_70 : decode bM261 70 = .ok (.ireturn, 1) := by decide +kernel
theorem d261_71 : decode bM261 71 = .ok (.aload_n 0, 1) := by decide +kernel
theorem d261_72 : decode bM261 72 = .ok (.getfield 22, 3) := by decide +kernel
theorem d261_75 : decode bM261 75 = .ok (.invokevirtual 80, 3) := by decide +kernel
theorem d261_78 : decode bM261 78 = .ok (.aload_n 0, 1) := by decide +kernel
theorem d261_79 : decode bM261 79 = .ok (.getfield 22, 3) := by decide +kernel
theorem d261_82 : decode bM261 82 = .ok (.aload_n 1, 1) := by decide +kernel
theorem d261_83 : decode bM261 83 = .ok (.getfield 64, 3) := by decide +kernel
theorem d261_86 : decode bM261 86 = .ok (.iconst 0, 1) := by decide +kernel
theorem d261_87 : decode bM261 87 = .ok (.invokevirtual 83, 3) := by decide +kernel
theorem d261_90 : decode bM261 90 = .ok (.aload_n 0, 1) := by decide +kernel
theorem d261_91 : decode bM261 91 = .ok (.invokevirtual 87, 3) := by decide +kernel
theorem d261_94 : decode bM261 94 = .ok (.iload_n 2, 1) := by decide +kernel
theorem d261_95 : decode bM261 95 = .ok (.ireturn, 1) := by decide +kernel
theorem d262_0 : decode bM262 0 = .ok (.aload_n 0, 1) := by decide +kernel
theorem d262_1 : decode bM262 1 = .ok (.invokevirtual 47, 3) := by decide +kernel
theorem d262_4 : decode bM262 4 = .ok (.astore_n 3, 1) := by decide +kernel
theorem d262_5 : decode bM262 5 = .ok (.aload_n 0, 1) := by decide +kernel
theorem d262_6 : decode bM262 6 = .ok (.getfield 22, 3) := by decide +kernel
theorem d262_9 : decode bM262 9 = .ok (.iload_n 1, 1) := by decide +kernel
theorem d262_10 : decode bM262 10 = .ok (.invokevirtual 90, 3) := by decide +kernel
theorem d262_13 : decode bM262 13 = .ok (.astore 4, 2) := by decide +kernel
theorem d262_15 : decode bM262 15 = .ok (.aload 4, 2) := by decide +kernel
theorem d262_17 : decode bM262 17 = .ok (.ifnonnull 7, 3) := by decide +kernel
theorem d262_20 : decode bM262 20 = .ok (.sipush (-1000), 3) := by decide +kernel
theorem d262_23 : decode bM262 23 = .ok (.ireturn, 1) := by decide +kernel
theorem d262_24 : decode bM262 24 = .ok (.iload_n 2, 1) := by decide +kernel
theorem d262_25 : decode bM262 25 = .ok (.ifCond .eq 8, 3) := by decide +kernel
theorem d262_28 : decode bM262 28 = .ok (.iload_n 2, 1) := by decide +kernel
theorem d262_29 : decode bM262 29 = .ok (.iconst 1, 1) := by decide +kernel
theorem d262_30 : decode bM262 30 = .ok (.if_icmp .ne 11, 3) := by decide +kernel
theorem d262_33 : decode bM262 33 = .ok (.aload 4, 2) := by decide +kernel
theorem d262_35 : decode bM262 35 = .ok (.getfield 94, 3) := by decide +kernel
theorem d262_38 : decode bM262 38 = .ok (.goto 5, 3) := by decide +kernel
theorem d262_41 : decode bM262 41 = .ok (.aload 4, 2) := by decide +kernel
theorem d262_43 : decode bM262 43 = .ok (.astore 5, 2) := by decide +kernel
theorem d262_45 : decode bM262 45 = .ok (.iload_n 2, 1) := by decide +kernel
theorem d262_46 : decode bM262 46 = .ok (.ifCond .lt 22, 3) := by decide +kernel
theorem d262_49 : decode bM262 49 = .ok (.iload_n 2, 1) := by decide +kernel
theorem d262_50 : decode bM262 50 = .ok (.iconst 3, 1) := by decide +kernel
theorem d262_51 : decode bM262 51 = .ok (.if_icmp .gt 17, 3) := by decide +kernel
theorem d262_54 : decode bM262 54 = .ok (.aload 5, 2) := by decide +kernel
theorem d262_56 : decode bM262 56 = .ok (.ifnull 12, 3) := by decide +kernel
theorem d262_59 : decode bM262 59 = .ok (.aload 5, 2) := by decide +kernel
theorem d262_61 : decode bM262 61 = .ok (.getfield 100, 3) := by decide +kernel
theorem d262_64 : decode bM262 64 = .ok (.iconst 1, 1) := by decide +kernel
theorem d262_65 : decode bM262 65 = .ok (.if_icmp .eq 7, 3) := by decide +kernel
theorem d262_68 : decode bM262 68 = .ok (.sipush (-2000), 3) := by decide +kernel
theorem d262_71 : decode bM262 71 = .ok (.ireturn, 1) := by decide +kernel
theorem d262_72 : decode bM262 72 = .ok (.iload_n 2, 1) := by decide +kernel
theorem d262_73 : decode bM262 73 = .ok (.ifCond .ne 11, 3) := by decide +kernel
theorem d262_76 : decode bM262 76 = .ok (.aload 4, 2) := by decide +kernel
theorem d262_78 : decode bM262 78 = .ok (.getfield 103, 3) := by decide +kernel
theorem d262_81 : decode bM262 81 = .ok (.goto 27, 3) := by decide +kernel
theorem d262_84 : decode bM262 84 = .ok (.iload_n 2, 1) := by decide +kernel
theorem d262_85 : decode bM262 85 = .ok (.iconst 2, 1) := by decide +kernel
theorem d262_86 : decode bM262 86 = .ok (.if_icmp .ne 13, 3) := by decide +kernel
theorem d262_89 : decode bM262 89 = .ok (.aload 4, 2) := by decide +kernel
theorem d262_91 : decode bM262 91 = .ok (.getfield 103, 3) := by decide +kernel
theorem d262_94 : decode bM262 94 = .ok (.iconst 1, 1) := by decide +kernel
theorem d262_95 : decode bM262 95 = .ok (.iadd, 1) := by decide +kernel
theorem d262_96 : decode bM262 96 = .ok (.goto 12, 3) := by decide +kernel
theorem d262_99 : decode bM262 99 = .ok (.aload_n 0, 1) := by decide +kernel
theorem d262_100 : decode bM262 100 = .ok (.getfield 22, 3) := by decide +kernel
theorem d262_103 : decode bM262 103 = .ok (.aload 4, 2) := by decide +kernel
theorem d262_105 : decode bM262 105 = .ok (.invokevirtual 106, 3) := by decide +kernel
theorem d262_108 : decode bM262 108 = .ok (.istore 6, 2) := by decide +kernel
theorem d262_110 : decode bM262 110 = .ok (.aload_n 0, 1) := by decide +kernel
theorem d262_111 : decode bM262 111 = .ok (.getfield 22, 3) := by decide +kernel
theorem d262_114 : decode bM262 114 = .ok (.aload 5, 2) := by decide +kernel
theorem d262_116 : decode bM262 116 = .ok (.iload 6, 2) := by decide +kernel
theorem d262_118 : decode bM262 118 = .ok (.invokevirtual 110, 3) := by decide +kernel
theorem d262_121 : decode bM262 121 = .ok (.astore 7, 2) := by decide +kernel
theorem d262_123 : decode bM262 123 = .ok (.aload_n 0, 1) := by decide +kernel
theorem d262_124 : decode bM262 124 = .ok (.getfield 22, 3) := by decide +kernel
theorem d262_127 : decode bM262 127 = .ok (.aload 5, 2) := by decide +kernel
theorem d262_129 : decode bM262 129 = .ok (.iload 6, 2) := by decide +kernel
theorem d262_131 : decode bM262 131 = .ok (.invokevirtual 114, 3) := by decide +kernel
theorem d262_134 : decode bM262 134 = .ok (.astore 8, 2) := by decide +kernel
theorem d262_136 : decode bM262 136 = .ok (.new 45, 3) := by decide +kernel
theorem d262_139 : decode bM262 139 = .ok (.dup, 1) := by decide +kernel
theorem d262_140 : decode bM262 140 = .ok (.aload_n 3, 1) := by decide +kernel
theorem d262_141 : decode bM262 141 = .ok (.aload_n 0, 1) := by decide +kernel
theorem d262_142 : decode bM262 142 = .ok (.getfield 16, 3) := by decide +kernel
theorem d262_145 : decode bM262 145 = .ok (.invokespecial 51, 3) := by decide +kernel
theorem d262_148 : decode bM262 148 = .ok (.astore 9, 2) := by decide +kernel
theorem d262_150 : decode bM262 150 = .ok (.aload 9, 2) := by decide +kernel
theorem d262_152 : decode bM262 152 = .ok (.aload 5, 2) := by decide +kernel
theorem d262_154 : decode bM262 154 = .ok (.aload 5, 2) := by decide +kernel
theorem d262_156 : decode bM262 156 = .ok (.aload 7, 2) := by decide +kernel
theorem d262_158 : decode bM262 158 = .ok (.aload 8, 2) := by decide +kernel
theorem d262_160 : decode bM262 160 = .ok (.invokestatic 117, 3) := by decide +kernel
theorem d262_163 : decode bM262 163 = .ok (.invokevirtual 121, 3) := by decide +kernel
theorem d262_166 : decode bM262 166 = .ok (.pop, 1) := by decide +kernel
theorem d262_167 : decode bM262 167 = .ok (.aload 9, 2) := by decide +kernel
theorem d262_169 : decode bM262 169 = .ok (.invokevirtual 58, 3) := by decide +kernel
theorem d262_172 : decode bM262 172 = .ok (.ifCond .eq 11, 3) := by decide +kernel
theorem d262_175 : decode bM262 175 = .ok (.iconst (-1), 1) := by decide +kernel
theorem d262_176 : decode bM262 176 = .ok (.aload 9, 2) := by decide +kernel
theorem d262_178 : decode bM262 178 = .ok (.getfield 61, 3) := by decide +kernel
theorem d262_181 : decode bM262 181 = .ok (.isub, 1) := by decide +kernel
theorem d262_182 : decode bM262 182 = .ok (.ireturn, 1) := by decide +kernel
theorem d262_183 : decode bM262 183 = .ok (.aload 9, 2) := by decide +kernel
theorem d262_185 : decode bM262 185 = .ok (.invokevirtual 125, 3) := by decide +kernel
theorem d262_188 : decode bM262 188 = .ok (.ifCond .eq 28, 3) := by decide +kernel
theorem d262_191 : decode bM262 191 = .ok (.aload 7, 2) := by decide +kernel
theorem d262_193 : decode bM262 193 = .ok (.invokestatic 128, 3) := by decide +kernel
theorem d262_196 : decode bM262 196 = .ok (.ifCond .eq 20, 3) := by decide +kernel
theorem d262_199 : decode bM262 199 = .ok (.aload_n 0, 1) := by decide +kernel
theorem d262_200 : decode bM262 200 = .ok (.aload 7, 2) := by decide +kernel
theorem d262_202 : decode bM262 202 = .ok (.aload 7, 2) := by decide +kernel
theorem d262_204 : decode bM262 204 = .ok (.getfield 132, 3) := by decide +kernel
theorem d262_207 : decode bM262 207 = .ok (.aload 9, 2) := by decide +kernel
theorem d262_209 : decode bM262 209 = .ok (.invokevirtual 136, 3) := by decide +kernel
theorem d262_212 : decode bM262 212 = .ok (.invokevirtual 139, 3) := by decide +kernel
theorem d262_215 : decode bM262 215 = .ok (.ireturn, 1) := by decide +kernel
theorem d262_216 : decode bM262 216 = .ok (.aload 9, 2) := by decide +kernel
theorem d262_218 : decode bM262 218 = .ok (.invokevirtual 125, 3) := by decide +kernel
theorem d262_221 : decode bM262 221 = .ok (.ifCond .eq 28, 3) := by decide +kernel
theorem d262_224 : decode bM262 224 = .ok (.aload 8, 2) := by decide +kernel
theorem d262_226 : decode bM262 226 = .ok (.invokestatic 128, 3) := by decide +kernel
theorem d262_229 : decode bM262 229 = .ok (.ifCond .eq 20, 3) := by decide +kernel
theorem d262_232 : decode bM262 232 = .ok (.aload_n 0, 1) := by decide +kernel
theorem d262_233 : decode bM262 233 = .ok (.aload 8, 2) := by decide +kernel
theorem d262_235 : decode bM262 235 = .ok (.aload 9, 2) := by decide +kernel
theorem d262_237 : decode bM262 237 = .ok (.invokevirtual 136, 3) := by decide +kernel
theorem d262_240 : decode bM262 240 = .ok (.aload 8, 2) := by decide +kernel
theorem d262_242 : decode bM262 242 = .ok (.getfield 132, 3) := by decide +kernel
theorem d262_245 : decode bM262 245 = .ok (.invokevirtual 139, 3) := by decide +kernel
theorem d262_248 : decode bM262 248 = .ok (.ireturn, 1) := by decide +kernel
theorem d262_249 : decode bM262 249 = .ok (.aload_n 0, 1) := by decide +kernel
theorem d262_250 : decode bM262 250 = .ok (.aload 9, 2) := by decide +kernel
theorem d262_252 : decode bM262 252 = .ok (.iload 6, 2) := by decide +kernel
theorem d262_254 : decode bM262 254 = .ok (.invokevirtual 143, 3) := by decide +kernel
theorem d262_257 : decode bM262 257 = .ok (.ireturn, 1) := by decide +kernel
def w_Store_type_24 (dA : Nat → ClassId) (y0 : Nat) (K : Int32 → hm_T → hz_T → Prop) (cr sr : Nat) (h : hm_T) (z : hz_T) : Prop := (K 0 h z)
def w_Store_type (dA : Nat → ClassId) (y0 : Nat) (y1 : Int32) (rc rs : Nat) (K : Int32 → hm_T → hz_T → Prop) (h0 : hm_T) (z0 : hz_T) : Prop := (if y1 < 32 then (w_Store_type_24 dA y0 K rc rs h0 z0) else (if 126 < y1 then (w_Store_type_24 dA y0 K rc rs h0 z0) else (cg_R h0 0 0 y0 (fun v21 => (cg_d v21 (fun a22 => (cg_c h0 3 a22 (cg_rm rc rs (fun c26 s27 c28 s29 => w_SB_length dA a22 c26 s27 (fun v23 h24 z25 => (if v23 < 120 then (cg_R h24 0 0 y0 (fun v30 => (cg_d v30 (fun a31 => (cg_c h24 3 a31 (cg_k c28 s29 1 142 (fun c35 s36 => w_SB_app dA a31 y1 (fun v32 h33 z34 => (K 1 h33 z34)) h24 z25))))))) else (w_Store_type_24 dA y0 K c28 s29 h24 z25))) h0 z0)))))))))
set_option maxRecDepth 100000 in
set_option maxHeartbeats 8000000 in
theorem cw_Store_type (l : Launch) (D : va_G) (dA : Nat → ClassId) (s0 : State) (hW : ms_EW D dA s0) (y0 : Nat) (y1 : Int32) (rc rs : Nat) (h0 : hm_T) (z0 : hz_T) (K : Int32 → hm_T → hz_T → Prop) (hg : w_Store_type dA y0 y1 rc rs K h0 z0) : ht_C l D s0 yM222 bM222 2 (Option.some Jvm.ClassFile.FieldType.boolean) (6) (186) rc rs [.ref y0, .int y1] (fun h z => h = h0 ∧ z = z0) (fun h z vv h1 z1 => ∃ v, vv = some (.int v) ∧ K v h1 z1) := by
  have hE := hW.1
  refine ht_C.mk hE.1 (by decide) (Nat.le_of_ble_eq_true rfl) [(0, .ref y0), (1, .int y1)] rfl ?_
  intro p e s m below meth c ls h z X hin hpre I hl
  have hx := X.1
  have hb := X.2.1
  have hml := X.2.2.1
  have hown : s.vm.findClass "MarkupStore" = some m.cls := X.2.2.2.1
  have hts := X.2.2.2.2.2.2.1
  have hK := X.2.2.2.2.2.2.2.2.1
  rw [hpre.1, hpre.2] at I
  clear hpre
  have b24 : ∀ (ls : Array Slot) (cr sr cu su : Nat) (h : hm_T) (z : hz_T) (H : Heap) (locs : List Loc), w_Store_type_24 dA y0 K cr sr h z → cu + cr ≤ rc → su + sr ≤ rs → lv_has ls 2 [] → hm_I D s0 s h z H locs → W p l e { frames := 6, cells := rc, slots := rs, locals := 186 } s m ([.ref y0, .int y1] : List Value).toArray below meth c H locs cu su (MQ below (ht_Q D s0 (fun vv h1 z1 => ∃ v, vv = some (.int v) ∧ K v h1 z1)) ([.ref y0, .int y1] : List Value).toArray s rc rs (fun q => s0.heap.size ≤ q)) (F0 m 24 ls []) := by
    intro ls cr sr cu su h z H locs hF hc hs hl I
    unfold w_Store_type_24 at hF
    refine lv_iconst (v := 0) hx hb d222_24 (by decide) ?_
    exact ht_zret X d222_25 I (rm_r hc) (rm_r hs) ⟨_, rfl, hF⟩ rfl
  have hF := hg
  unfold w_Store_type at hF
  clear h z
  have hc : 0 + rc ≤ rc := by omega
  have hs : 0 + rs ≤ rs := by omega
  refine lv_iload_n hx hb d222_0 rfl (lv_at hl 1 rfl) ?_
  refine lv_bipush (v := 32) hx hb d222_1 (by decide) ?_
  refine lv_icmp_lt hx hb d222_3 rfl (fun h9 => ?_) (fun h9 => ?_)
  · have hF := Eq.mp (if_pos h9) hF
    exact b24 ls rc rs _ _ h0 z0 _ _ hF hc hs (hl.sub [] rfl) I
  · have hF := Eq.mp (if_neg h9) hF
    refine lv_iload_n hx hb d222_6 rfl (lv_at hl 1 rfl) ?_
    refine lv_bipush (v := 126) hx hb d222_7 (by decide) ?_
    refine lv_icmp_gt hx hb d222_9 rfl (fun h9 => ?_) (fun h9 => ?_)
    · have hF := Eq.mp (if_pos h9) hF
      exact b24 ls rc rs _ _ h0 z0 _ _ hF hc hs (hl.sub [] rfl) I
    · have hF := Eq.mp (if_neg h9) hF
      refine lv_aload_n hx hb d222_12 rfl (lv_at hl 0 rfl) ?_
      obtain ⟨fs9, v21, c9, e9, hF⟩ := hF
      refine va_get (D := D) (ci := 0) (v := va_rf v21) (C := kR0) (T := kT0) (N := 6) hx hb hts ku0 hown hK (hm_one I.1 c9) 0 rfl rfl 0 (by decide) (hts _ ms_k105) (fun _ h => h) e9 d222_13 ?_
      clear e9 c9 fs9
      obtain ⟨a22, e9, hF⟩ := hF
      refine W.eq (g2 := F0 m 16 ls [.ref a22]) (by rw [e9]; rfl) ?_
      clear e9
      obtain ⟨fs9, c9, hF⟩ := hF
      obtain ⟨c26, s27, c28, s29, ec, es, hF⟩ := hF
      refine ht_V (C := "java/lang/StringBuilder") (rest := []) (as := []) X hl (cw_SB_length l D dA s0 hW a22 c26 s27 h0 z0 _ hF) (List.forall_mem_cons.mpr ⟨ms_k129, List.forall_mem_cons.mpr ⟨ms_k130, List.forall_mem_cons.mpr ⟨ms_k131, List.forall_mem_cons.mpr ⟨ms_k3, List.forall_mem_cons.mpr ⟨ms_k132, fun _ h => absurd h List.not_mem_nil⟩⟩⟩⟩⟩) ⟨rfl, by decide +kernel, by decide +kernel, (by decide +kernel : (parseMethodDescriptor "()I").map (fun d => d.parameters.length) = some 0)⟩ (hm_recv hK I rfl c9) I ⟨rfl, rfl⟩ ⟨⟨Nat.le_of_ble_eq_true rfl, Nat.le_of_ble_eq_true rfl⟩, (rm_u hc ec).1, (rm_u hs es).1⟩ rfl (Nat.le_of_ble_eq_true rfl) d222_16 (fun vv h24 z25 H locs hR I9 => ?_)
      obtain ⟨v23, e1, hF⟩ := hR
      subst e1
      clear I
      have I := I9
      clear I9 c9 fs9
      have hc := (rm_u hc ec).2
      have hs := (rm_u hs es).2
      clear ec es
      refine W.eq (g2 := F0 m 19 ls [.int v23]) rfl ?_
      refine lv_bipush (v := 120) hx hb d222_19 (by decide) ?_
      refine lv_icmp_lt hx hb d222_21 rfl (fun h9 => ?_) (fun h9 => ?_)
      · have hF := Eq.mp (if_pos h9) hF
        refine lv_aload_n hx hb d222_26 rfl (lv_at hl 0 rfl) ?_
        obtain ⟨fs9, v30, c9, e9, hF⟩ := hF
        refine va_get (D := D) (ci := 0) (v := va_rf v30) (C := kR0) (T := kT0) (N := 6) hx hb hts ku0 hown hK (hm_one I.1 c9) 0 rfl rfl 0 (by decide) (hts _ ms_k105) (fun _ h => h) e9 d222_27 ?_
        clear e9 c9 fs9
        refine lv_iload_n hx hb d222_30 rfl (lv_at hl 1 rfl) ?_
        obtain ⟨a31, e9, hF⟩ := hF
        refine W.eq (g2 := F0 m 31 ls [.int y1, .ref a31]) (by rw [e9]; rfl) ?_
        clear e9
        obtain ⟨fs9, c9, hF⟩ := hF
        obtain ⟨c35, s36, ec, es, hF⟩ := hF
        refine ht_V (C := "java/lang/StringBuilder") (rest := []) (as := [.int y1]) X hl (cw_SB_app l D dA s0 hE a31 y1 h24 z25 _ hF) (List.forall_mem_cons.mpr ⟨ms_k136, List.forall_mem_cons.mpr ⟨ms_k137, List.forall_mem_cons.mpr ⟨ms_k138, List.forall_mem_cons.mpr ⟨ms_k3, List.forall_mem_cons.mpr ⟨ms_k139, fun _ h => absurd h List.not_mem_nil⟩⟩⟩⟩⟩) ⟨rfl, by decide +kernel, by decide +kernel, (by decide +kernel : (parseMethodDescriptor "(C)Ljava/lang/StringBuilder;").map (fun d => d.parameters.length) = some 1)⟩ (hm_recv hK I rfl c9) I ⟨rfl, rfl⟩ ⟨⟨Nat.le_of_ble_eq_true rfl, Nat.le_of_ble_eq_true rfl⟩, (rm_u hc ec).1, (rm_u hs es).1⟩ rfl (Nat.le_of_ble_eq_true rfl) d222_31 (fun vv h33 z34 H locs hR I9 => ?_)
        obtain ⟨v32, e1, hF⟩ := hR
        subst e1
        clear I
        have I := I9
        clear I9 c9 fs9
        have hc := (rm_u hc ec).2
        have hs := (rm_u hs es).2
        clear ec es
        refine W.eq (g2 := F0 m 34 ls [va_rf v32]) rfl ?_
        refine lv_pop hx hb d222_34 (cat_rf _) ?_
        refine lv_iconst (v := 1) hx hb d222_35 (by decide) ?_
        exact ht_zret X d222_36 I (rm_r hc) (rm_r hs) ⟨_, rfl, hF⟩ rfl
      · have hF := Eq.mp (if_neg h9) hF
        exact b24 ls c28 s29 _ _ h24 z25 _ _ hF hc hs (hl.sub [] rfl) I

def w_Store_crash (dA : Nat → ClassId) (y0 : Nat) (rc rs : Nat) (K : Int32 → hm_T → hz_T → Prop) (h0 : hm_T) (z0 : hz_T) : Prop := (cg_I h0 0 5 y0 (fun v21 => (cg_R h0 0 0 y0 (fun v22 => (cg_d v22 (fun a23 => (cg_c h0 3 a23 (cg_k rc rs 1 142 (fun c27 s28 => w_SB_set dA a23 0 (fun h25 z26 => (cg_R h25 0 2 y0 (fun v29 => (cg_d v29 (fun a30 => (cg_c h25 1 a30 (w_Tree_giveBack dA a30 (fun h32 z33 => (cg_c h32 0 y0 (w_Store_beginBatch dA y0 (fun h35 z36 => (K v21 h35 z36)) h32 z33))) h25 z26))))))) h0 z0)))))))))
set_option maxRecDepth 100000 in
set_option maxHeartbeats 8000000 in
theorem cw_Store_crash (l : Launch) (D : va_G) (dA : Nat → ClassId) (s0 : State) (hW : ms_EW D dA s0) (y0 : Nat) (rc rs : Nat) (h0 : hm_T) (z0 : hz_T) (K : Int32 → hm_T → hz_T → Prop) (hg : w_Store_crash dA y0 rc rs K h0 z0) : ht_C l D s0 yM223 bM223 2 (Option.some Jvm.ClassFile.FieldType.int) (6) (186) rc rs [.ref y0] (fun h z => h = h0 ∧ z = z0) (fun h z vv h1 z1 => ∃ v, vv = some (.int v) ∧ K v h1 z1) := by
  have hE := hW.1
  refine ht_C.mk hE.1 (by decide) (Nat.le_of_ble_eq_true rfl) [(0, .ref y0)] rfl ?_
  intro p e s m below meth c ls h z X hin hpre I hl
  have hx := X.1
  have hb := X.2.1
  have hml := X.2.2.1
  have hown : s.vm.findClass "MarkupStore" = some m.cls := X.2.2.2.1
  have hts := X.2.2.2.2.2.2.1
  have hK := X.2.2.2.2.2.2.2.2.1
  rw [hpre.1, hpre.2] at I
  clear hpre
  have hF := hg
  unfold w_Store_crash at hF
  clear h z
  have hc : 0 + rc ≤ rc := by omega
  have hs : 0 + rs ≤ rs := by omega
  refine lv_aload_n hx hb d223_0 rfl (lv_at hl 0 rfl) ?_
  obtain ⟨fs9, v21, c9, e9, hF⟩ := hF
  refine va_get (D := D) (ci := 0) (v := .int v21) (C := kR0) (T := kT0) (N := 6) hx hb hts ku0 hown hK (hm_one I.1 c9) 0 rfl rfl 5 (by decide) (hts _ ms_k110) (fun _ h => h) e9 d223_1 ?_
  clear e9 c9 fs9
  refine lv_istore_n hx hb d223_4 rfl hl (by decide) rfl (fun ls hl => ?_)
  have hl : lv_has ls 2 [(1, .int v21), (0, .ref y0)] := hl
  refine lv_aload_n hx hb d223_5 rfl (lv_at hl 1 rfl) ?_
  obtain ⟨fs9, v22, c9, e9, hF⟩ := hF
  refine va_get (D := D) (ci := 0) (v := va_rf v22) (C := kR0) (T := kT0) (N := 6) hx hb hts ku0 hown hK (hm_one I.1 c9) 0 rfl rfl 0 (by decide) (hts _ ms_k105) (fun _ h => h) e9 d223_6 ?_
  clear e9 c9 fs9
  refine lv_iconst (v := 0) hx hb d223_9 (by decide) ?_
  obtain ⟨a23, e9, hF⟩ := hF
  refine W.eq (g2 := F0 m 10 ls [.int 0, .ref a23]) (by rw [e9]; rfl) ?_
  clear e9
  obtain ⟨fs9, c9, hF⟩ := hF
  obtain ⟨c27, s28, ec, es, hF⟩ := hF
  refine ht_V (C := "java/lang/StringBuilder") (rest := []) (as := [.int 0]) X hl (cw_SB_set l D dA s0 hE a23 0 h0 z0 _ hF) (List.forall_mem_cons.mpr ⟨ms_k295, List.forall_mem_cons.mpr ⟨ms_k296, List.forall_mem_cons.mpr ⟨ms_k297, List.forall_mem_cons.mpr ⟨ms_k3, List.forall_mem_cons.mpr ⟨ms_k298, fun _ h => absurd h List.not_mem_nil⟩⟩⟩⟩⟩) ⟨rfl, by decide +kernel, by decide +kernel, (by decide +kernel : (parseMethodDescriptor "(I)V").map (fun d => d.parameters.length) = some 1)⟩ (hm_recv hK I rfl c9) I ⟨rfl, rfl⟩ ⟨⟨Nat.le_of_ble_eq_true rfl, Nat.le_of_ble_eq_true rfl⟩, (rm_u hc ec).1, (rm_u hs es).1⟩ rfl (Nat.le_of_ble_eq_true rfl) d223_10 (fun vv h25 z26 H locs hR I9 => ?_)
  obtain ⟨e1, hF⟩ := hR
  subst e1
  clear I
  have I := I9
  clear I9 c9 fs9
  have hc := (rm_u hc ec).2
  have hs := (rm_u hs es).2
  clear ec es
  refine W.eq (g2 := F0 m 13 ls []) rfl ?_
  refine lv_aload_n hx hb d223_13 rfl (lv_at hl 1 rfl) ?_
  obtain ⟨fs9, v29, c9, e9, hF⟩ := hF
  refine va_get (D := D) (ci := 0) (v := va_rf v29) (C := kR0) (T := kT0) (N := 6) hx hb hts ku0 hown hK (hm_one I.1 c9) 0 rfl rfl 2 (by decide) (hts _ ms_k107) (fun _ h => h) e9 d223_14 ?_
  clear e9 c9 fs9
  obtain ⟨a30, e9, hF⟩ := hF
  refine W.eq (g2 := F0 m 17 ls [.ref a30]) (by rw [e9]; rfl) ?_
  clear e9
  obtain ⟨fs9, c9, hF⟩ := hF
  refine ht_V (C := "MarkupStore$Tree") (rest := []) (as := []) X hl (cw_Tree_giveBack l D dA s0 hE a30 h25 z26 _ hF) (List.forall_mem_cons.mpr ⟨ms_k1209, List.forall_mem_cons.mpr ⟨ms_k1210, List.forall_mem_cons.mpr ⟨ms_k1211, List.forall_mem_cons.mpr ⟨ms_k6, List.forall_mem_cons.mpr ⟨ms_k1212, fun _ h => absurd h List.not_mem_nil⟩⟩⟩⟩⟩) ⟨rfl, by decide +kernel, by decide +kernel, (by decide +kernel : (parseMethodDescriptor "()V").map (fun d => d.parameters.length) = some 0)⟩ (hm_recv hK I rfl c9) I ⟨rfl, rfl⟩ ⟨⟨Nat.le_of_ble_eq_true rfl, Nat.le_of_ble_eq_true rfl⟩, rm_0 hc, rm_0 hs⟩ rfl (Nat.le_of_ble_eq_true rfl) d223_17 (fun vv h32 z33 H locs hR I9 => ?_)
  obtain ⟨e1, hF⟩ := hR
  subst e1
  clear I
  have I := I9
  clear I9 c9 fs9
  refine W.eq (g2 := F0 m 20 ls []) rfl ?_
  refine lv_aload_n hx hb d223_20 rfl (lv_at hl 1 rfl) ?_
  obtain ⟨fs9, c9, hF⟩ := hF
  refine ht_V (C := "MarkupStore") (rest := []) (as := []) X hl (cw_Store_beginBatch l D dA s0 hE y0 h32 z33 _ hF) (List.forall_mem_cons.mpr ⟨ms_k733, List.forall_mem_cons.mpr ⟨ms_k735, List.forall_mem_cons.mpr ⟨ms_p15, List.forall_mem_cons.mpr ⟨ms_k1, List.forall_mem_cons.mpr ⟨ms_k736, fun _ h => absurd h List.not_mem_nil⟩⟩⟩⟩⟩) ⟨rfl, by decide +kernel, by decide +kernel, (by decide +kernel : (parseMethodDescriptor "()V").map (fun d => d.parameters.length) = some 0)⟩ (hm_recv hK I rfl c9) I ⟨rfl, rfl⟩ ⟨⟨Nat.le_of_ble_eq_true rfl, Nat.le_of_ble_eq_true rfl⟩, rm_0 hc, rm_0 hs⟩ rfl (Nat.le_of_ble_eq_true rfl) d223_21 (fun vv h35 z36 H locs hR I9 => ?_)
  obtain ⟨e1, hF⟩ := hR
  subst e1
  clear I
  have I := I9
  clear I9 c9 fs9
  refine W.eq (g2 := F0 m 24 ls []) rfl ?_
  refine lv_iload_n hx hb d223_24 rfl (lv_at hl 0 rfl) ?_
  exact ht_iret X d223_25 I (rm_r hc) (rm_r hs) ⟨_, rfl, hF⟩

def w_Store_length (dA : Nat → ClassId) (y0 : Nat) (rc rs : Nat) (K : Int32 → hm_T → hz_T → Prop) (h0 : hm_T) (z0 : hz_T) : Prop := (cg_new h0 rc rs 7 3 [.int 0, .int 0, .int 0] (fun q21 c23 s24 h22 => (cg_c h22 7 q21 (w_Scribe_init dA q21 (-1) (fun h26 z27 => (cg_R h26 0 2 y0 (fun v28 => (cg_c h26 7 q21 (w_Scribe_write dA q21 v28 (fun h30 z31 => (cg_I h30 7 1 q21 (fun v32 => (K v32 h30 z31)))) h26 z27))))) h22 z0))))
set_option maxRecDepth 100000 in
set_option maxHeartbeats 8000000 in
theorem cw_Store_length (l : Launch) (D : va_G) (dA : Nat → ClassId) (s0 : State) (hW : ms_EW D dA s0) (y0 : Nat) (rc rs : Nat) (h0 : hm_T) (z0 : hz_T) (K : Int32 → hm_T → hz_T → Prop) (hg : w_Store_length dA y0 rc rs K h0 z0) : ht_C l D s0 yM224 bM224 2 (Option.some Jvm.ClassFile.FieldType.int) (8) (180) rc rs [.ref y0] (fun h z => h = h0 ∧ z = z0) (fun h z vv h1 z1 => ∃ v, vv = some (.int v) ∧ K v h1 z1) := by
  have hE := hW.1
  refine ht_C.mk hE.1 (by decide) (Nat.le_of_ble_eq_true rfl) [(0, .ref y0)] rfl ?_
  intro p e s m below meth c ls h z X hin hpre I hl
  have hx := X.1
  have hb := X.2.1
  have hml := X.2.2.1
  have hown : s.vm.findClass "MarkupStore" = some m.cls := X.2.2.2.1
  have hts := X.2.2.2.2.2.2.1
  have hK := X.2.2.2.2.2.2.2.2.1
  rw [hpre.1, hpre.2] at I
  clear hpre
  have hF := hg
  unfold w_Store_length at hF
  clear h z
  have hc : 0 + rc ≤ rc := by omega
  have hs : 0 + rs ≤ rs := by omega
  obtain ⟨c23, s24, ec, es, hF⟩ := hF
  refine hm_mk (ci := 7) (fs := [.int 0, .int 0, .int 0]) (C := kR7) (T := kT7) (N := 3) X I ku7 kt7 kp7 (List.forall_mem_cons.mpr ⟨ms_k1246, List.forall_mem_cons.mpr ⟨ms_k1247, List.forall_mem_cons.mpr ⟨ms_k30, fun _ h => absurd h List.not_mem_nil⟩⟩⟩) rfl kz7 (rm_u hc ec).1 (rm_u hs es).1 d224_0 (fun q21 h22 H v9 e9 f9 I => ?_)
  have hF := hF q21 v9
  rw [← hm_eqU e9 f9] at hF
  clear e9 f9 v9
  have hc := (rm_u hc ec).2
  have hs := (rm_u hs es).2
  clear ec es
  refine lv_dup hx hb d224_3 rfl ?_
  refine lv_iconst (v := (-1)) hx hb d224_4 (by decide) ?_
  obtain ⟨fs9, c9, hF⟩ := hF
  refine ht_I (rest := [.ref q21]) (as := [.int (-1)]) X hl (cw_Scribe_init l D dA s0 hE q21 (-1) h22 z0 _ hF) (List.forall_mem_cons.mpr ⟨ms_k1248, List.forall_mem_cons.mpr ⟨ms_k1249, List.forall_mem_cons.mpr ⟨ms_k30, List.forall_mem_cons.mpr ⟨ms_k1250, fun _ h => absurd h List.not_mem_nil⟩⟩⟩⟩) rfl ⟨by decide +kernel, by decide +kernel, (by decide +kernel : (parseMethodDescriptor "(I)V").map (fun d => d.parameters.length) = some 1)⟩ I ⟨rfl, rfl⟩ ⟨⟨Nat.le_of_ble_eq_true rfl, Nat.le_of_ble_eq_true rfl⟩, rm_0 hc, rm_0 hs⟩ rfl (Nat.le_of_ble_eq_true rfl) d224_5 (fun vv h26 z27 H locs hR I9 => ?_)
  obtain ⟨e1, hF⟩ := hR
  subst e1
  clear I
  have I := I9
  clear I9 c9 fs9
  refine W.eq (g2 := F0 m 8 ls [.ref q21]) rfl ?_
  refine lv_astore_n hx hb d224_8 rfl hl (by decide) rfl (fun ls hl => ?_)
  have hl : lv_has ls 2 [(1, .ref q21), (0, .ref y0)] := hl
  refine lv_aload_n hx hb d224_9 rfl (lv_at hl 0 rfl) ?_
  refine lv_aload_n hx hb d224_10 rfl (lv_at hl 1 rfl) ?_
  obtain ⟨fs9, v28, c9, e9, hF⟩ := hF
  refine va_get (D := D) (ci := 0) (v := va_rf v28) (C := kR0) (T := kT0) (N := 6) hx hb hts ku0 hown hK (hm_one I.1 c9) 0 rfl rfl 2 (by decide) (hts _ ms_k107) (fun _ h => h) e9 d224_11 ?_
  clear e9 c9 fs9
  obtain ⟨fs9, c9, hF⟩ := hF
  refine ht_V (C := "MarkupStore$Scribe") (rest := []) (as := [va_rf v28]) X hl (cw_Scribe_write l D dA s0 hE q21 v28 h26 z27 _ hF) (List.forall_mem_cons.mpr ⟨ms_k1264, List.forall_mem_cons.mpr ⟨ms_k1265, List.forall_mem_cons.mpr ⟨ms_k1266, List.forall_mem_cons.mpr ⟨ms_k30, List.forall_mem_cons.mpr ⟨ms_k1267, fun _ h => absurd h List.not_mem_nil⟩⟩⟩⟩⟩) ⟨rfl, by decide +kernel, by decide +kernel, (by decide +kernel : (parseMethodDescriptor "(LMarkupStore$Tree;)V").map (fun d => d.parameters.length) = some 1)⟩ (hm_recv hK I rfl c9) I ⟨rfl, rfl⟩ ⟨⟨Nat.le_of_ble_eq_true rfl, Nat.le_of_ble_eq_true rfl⟩, rm_0 hc, rm_0 hs⟩ rfl (Nat.le_of_ble_eq_true rfl) d224_14 (fun vv h30 z31 H locs hR I9 => ?_)
  obtain ⟨e1, hF⟩ := hR
  subst e1
  clear I
  have I := I9
  clear I9 c9 fs9
  refine W.eq (g2 := F0 m 17 ls []) rfl ?_
  refine lv_aload_n hx hb d224_17 rfl (lv_at hl 0 rfl) ?_
  obtain ⟨fs9, v32, c9, e9, hF⟩ := hF
  refine va_get (D := D) (ci := 7) (v := .int v32) (C := kR7) (T := kT7) (N := 3) hx hb hts ku7 hown hK (hm_one I.1 c9) 0 rfl rfl 1 (by decide) (hts _ ms_k1254) (fun _ h => h) e9 d224_18 ?_
  clear e9 c9 fs9
  exact ht_iret X d224_21 I (rm_r hc) (rm_r hs) ⟨_, rfl, hF⟩

def w_Store_written (dA : Nat → ClassId) (y0 : Nat) (y1 : Int32) (rc rs : Nat) (K : Int32 → hm_T → hz_T → Prop) (h0 : hm_T) (z0 : hz_T) : Prop := (cg_new h0 rc rs 7 3 [.int 0, .int 0, .int 0] (fun q21 c23 s24 h22 => (cg_c h22 7 q21 (w_Scribe_init dA q21 y1 (fun h26 z27 => (cg_R h26 0 2 y0 (fun v28 => (cg_c h26 7 q21 (w_Scribe_write dA q21 v28 (fun h30 z31 => (cg_I h30 7 2 q21 (fun v32 => (K v32 h30 z31)))) h26 z27))))) h22 z0))))
set_option maxRecDepth 100000 in
set_option maxHeartbeats 8000000 in
theorem cw_Store_written (l : Launch) (D : va_G) (dA : Nat → ClassId) (s0 : State) (hW : ms_EW D dA s0) (y0 : Nat) (y1 : Int32) (rc rs : Nat) (h0 : hm_T) (z0 : hz_T) (K : Int32 → hm_T → hz_T → Prop) (hg : w_Store_written dA y0 y1 rc rs K h0 z0) : ht_C l D s0 yM225 bM225 3 (Option.some Jvm.ClassFile.FieldType.int) (8) (180) rc rs [.ref y0, .int y1] (fun h z => h = h0 ∧ z = z0) (fun h z vv h1 z1 => ∃ v, vv = some (.int v) ∧ K v h1 z1) := by
  have hE := hW.1
  refine ht_C.mk hE.1 (by decide) (Nat.le_of_ble_eq_true rfl) [(0, .ref y0), (1, .int y1)] rfl ?_
  intro p e s m below meth c ls h z X hin hpre I hl
  have hx := X.1
  have hb := X.2.1
  have hml := X.2.2.1
  have hown : s.vm.findClass "MarkupStore" = some m.cls := X.2.2.2.1
  have hts := X.2.2.2.2.2.2.1
  have hK := X.2.2.2.2.2.2.2.2.1
  rw [hpre.1, hpre.2] at I
  clear hpre
  have hF := hg
  unfold w_Store_written at hF
  clear h z
  have hc : 0 + rc ≤ rc := by omega
  have hs : 0 + rs ≤ rs := by omega
  obtain ⟨c23, s24, ec, es, hF⟩ := hF
  refine hm_mk (ci := 7) (fs := [.int 0, .int 0, .int 0]) (C := kR7) (T := kT7) (N := 3) X I ku7 kt7 kp7 (List.forall_mem_cons.mpr ⟨ms_k1246, List.forall_mem_cons.mpr ⟨ms_k1247, List.forall_mem_cons.mpr ⟨ms_k30, fun _ h => absurd h List.not_mem_nil⟩⟩⟩) rfl kz7 (rm_u hc ec).1 (rm_u hs es).1 d225_0 (fun q21 h22 H v9 e9 f9 I => ?_)
  have hF := hF q21 v9
  rw [← hm_eqU e9 f9] at hF
  clear e9 f9 v9
  have hc := (rm_u hc ec).2
  have hs := (rm_u hs es).2
  clear ec es
  refine lv_dup hx hb d225_3 rfl ?_
  refine lv_iload_n hx hb d225_4 rfl (lv_at hl 1 rfl) ?_
  obtain ⟨fs9, c9, hF⟩ := hF
  refine ht_I (rest := [.ref q21]) (as := [.int y1]) X hl (cw_Scribe_init l D dA s0 hE q21 y1 h22 z0 _ hF) (List.forall_mem_cons.mpr ⟨ms_k1248, List.forall_mem_cons.mpr ⟨ms_k1249, List.forall_mem_cons.mpr ⟨ms_k30, List.forall_mem_cons.mpr ⟨ms_k1250, fun _ h => absurd h List.not_mem_nil⟩⟩⟩⟩) rfl ⟨by decide +kernel, by decide +kernel, (by decide +kernel : (parseMethodDescriptor "(I)V").map (fun d => d.parameters.length) = some 1)⟩ I ⟨rfl, rfl⟩ ⟨⟨Nat.le_of_ble_eq_true rfl, Nat.le_of_ble_eq_true rfl⟩, rm_0 hc, rm_0 hs⟩ rfl (Nat.le_of_ble_eq_true rfl) d225_5 (fun vv h26 z27 H locs hR I9 => ?_)
  obtain ⟨e1, hF⟩ := hR
  subst e1
  clear I
  have I := I9
  clear I9 c9 fs9
  refine W.eq (g2 := F0 m 8 ls [.ref q21]) rfl ?_
  refine lv_astore_n hx hb d225_8 rfl hl (by decide) rfl (fun ls hl => ?_)
  have hl : lv_has ls 3 [(2, .ref q21), (0, .ref y0), (1, .int y1)] := hl
  refine lv_aload_n hx hb d225_9 rfl (lv_at hl 0 rfl) ?_
  refine lv_aload_n hx hb d225_10 rfl (lv_at hl 1 rfl) ?_
  obtain ⟨fs9, v28, c9, e9, hF⟩ := hF
  refine va_get (D := D) (ci := 0) (v := va_rf v28) (C := kR0) (T := kT0) (N := 6) hx hb hts ku0 hown hK (hm_one I.1 c9) 0 rfl rfl 2 (by decide) (hts _ ms_k107) (fun _ h => h) e9 d225_11 ?_
  clear e9 c9 fs9
  obtain ⟨fs9, c9, hF⟩ := hF
  refine ht_V (C := "MarkupStore$Scribe") (rest := []) (as := [va_rf v28]) X hl (cw_Scribe_write l D dA s0 hE q21 v28 h26 z27 _ hF) (List.forall_mem_cons.mpr ⟨ms_k1264, List.forall_mem_cons.mpr ⟨ms_k1265, List.forall_mem_cons.mpr ⟨ms_k1266, List.forall_mem_cons.mpr ⟨ms_k30, List.forall_mem_cons.mpr ⟨ms_k1267, fun _ h => absurd h List.not_mem_nil⟩⟩⟩⟩⟩) ⟨rfl, by decide +kernel, by decide +kernel, (by decide +kernel : (parseMethodDescriptor "(LMarkupStore$Tree;)V").map (fun d => d.parameters.length) = some 1)⟩ (hm_recv hK I rfl c9) I ⟨rfl, rfl⟩ ⟨⟨Nat.le_of_ble_eq_true rfl, Nat.le_of_ble_eq_true rfl⟩, rm_0 hc, rm_0 hs⟩ rfl (Nat.le_of_ble_eq_true rfl) d225_14 (fun vv h30 z31 H locs hR I9 => ?_)
  obtain ⟨e1, hF⟩ := hR
  subst e1
  clear I
  have I := I9
  clear I9 c9 fs9
  refine W.eq (g2 := F0 m 17 ls []) rfl ?_
  refine lv_aload_n hx hb d225_17 rfl (lv_at hl 0 rfl) ?_
  obtain ⟨fs9, v32, c9, e9, hF⟩ := hF
  refine va_get (D := D) (ci := 7) (v := .int v32) (C := kR7) (T := kT7) (N := 3) hx hb hts ku7 hown hK (hm_one I.1 c9) 0 rfl rfl 2 (by decide) (hts _ ms_k1256) (fun _ h => h) e9 d225_18 ?_
  clear e9 c9 fs9
  exact ht_iret X d225_21 I (rm_r hc) (rm_r hs) ⟨_, rfl, hF⟩
