theorem ms_k1 : (Jvm.Cond.initialized "MarkupStore") ∈ ms_tb := ms_i1 1 (by decide +kernel) (by decide +kernel)
theorem ms_k6 : (Jvm.Cond.initialized "MarkupStore$Tree") ∈ ms_tb := ms_i1 6 (by decide +kernel) (by decide +kernel)
theorem ms_k14 : (Jvm.Cond.initialized "MarkupStore$TextReader") ∈ ms_tb := ms_i1 14 (by decide +kernel) (by decide +kernel)
theorem ms_k19 : (Jvm.Cond.initialized "MarkupStore$Node") ∈ ms_tb := ms_i1 19 (by decide +kernel) (by decide +kernel)
theorem ms_k22 : (Jvm.Cond.initialized "MarkupStore$Attribute") ∈ ms_tb := ms_i1 22 (by decide +kernel) (by decide +kernel)
theorem ms_k23 : (Jvm.Cond.initialized "MarkupStore$PathReader") ∈ ms_tb := ms_i1 23 (by decide +kernel) (by decide +kernel)
theorem ms_k28 : (Jvm.Cond.initialized "MarkupStore$Walker") ∈ ms_tb := ms_i1 28 (by decide +kernel) (by decide +kernel)
theorem ms_k30 : (Jvm.Cond.initialized "MarkupStore$Scribe") ∈ ms_tb := ms_i1 30 (by decide +kernel) (by decide +kernel)
theorem ms_k80 : (Jvm.Cond.fieldLink "MarkupStore$Tree" (11 : Nat) "MarkupStore$Tree" "made" "[LMarkupStore$Node;") ∈ ms_tb := ms_i1 80 (by decide +kernel) (by decide +kernel)
theorem ms_k81 : (Jvm.Cond.fieldLink "MarkupStore$Tree" (23 : Nat) "MarkupStore$Tree" "madeSize" "I") ∈ ms_tb := ms_i1 81 (by decide +kernel) (by decide +kernel)
theorem ms_k82 : (Jvm.Cond.fieldLink "MarkupStore$Tree" (17 : Nat) "MarkupStore$Tree" "order" "[LMarkupStore$Node;") ∈ ms_tb := ms_i1 82 (by decide +kernel) (by decide +kernel)
theorem ms_k83 : (Jvm.Cond.fieldLink "MarkupStore$Scribe" (26 : Nat) "MarkupStore$Tree" "order" "[LMarkupStore$Node;") ∈ ms_tb := ms_i1 83 (by decide +kernel) (by decide +kernel)
theorem ms_k84 : (Jvm.Cond.fieldLink "MarkupStore$Walker" (54 : Nat) "MarkupStore$Tree" "order" "[LMarkupStore$Node;") ∈ ms_tb := ms_i1 84 (by decide +kernel) (by decide +kernel)
theorem ms_k85 : (Jvm.Cond.fieldLink "MarkupStore" (216 : Nat) "MarkupStore$Tree" "order" "[LMarkupStore$Node;") ∈ ms_tb := ms_i1 85 (by decide +kernel) (by decide +kernel)
theorem ms_k86 : (Jvm.Cond.fieldLink "MarkupStore$Scribe" (21 : Nat) "MarkupStore$Tree" "size" "I") ∈ ms_tb := ms_i1 86 (by decide +kernel) (by decide +kernel)
theorem ms_k87 : (Jvm.Cond.fieldLink "MarkupStore$Tree" (30 : Nat) "MarkupStore$Tree" "size" "I") ∈ ms_tb := ms_i1 87 (by decide +kernel) (by decide +kernel)
theorem ms_k88 : (Jvm.Cond.fieldLink "MarkupStore$Walker" (45 : Nat) "MarkupStore$Tree" "size" "I") ∈ ms_tb := ms_i1 88 (by decide +kernel) (by decide +kernel)
theorem ms_k89 : (Jvm.Cond.fieldLink "MarkupStore" (200 : Nat) "MarkupStore$Tree" "size" "I") ∈ ms_tb := ms_i1 89 (by decide +kernel) (by decide +kernel)
theorem ms_k107 : (Jvm.Cond.fieldLink "MarkupStore" (22 : Nat) "MarkupStore" "tree" "LMarkupStore$Tree;") ∈ ms_tb := ms_i1 107 (by decide +kernel) (by decide +kernel)
theorem ms_k108 : (Jvm.Cond.fieldLink "MarkupStore" (26 : Nat) "MarkupStore" "found" "[I") ∈ ms_tb := ms_i1 108 (by decide +kernel) (by decide +kernel)
theorem ms_k109 : (Jvm.Cond.fieldLink "MarkupStore" (30 : Nat) "MarkupStore" "foundSize" "I") ∈ ms_tb := ms_i1 109 (by decide +kernel) (by decide +kernel)
theorem ms_k348 : (Jvm.Cond.fieldLink "MarkupStore$MarkupReader" (14 : Nat) "MarkupStore$MarkupReader" "read" "Ljava/util/ArrayList;") ∈ ms_tb := ms_i2 108 (by decide +kernel) (by decide +kernel)
theorem ms_k351 : (Jvm.Cond.fieldLink "MarkupStore$MarkupReader" (24 : Nat) "MarkupStore$MarkupReader" "tooMuch" "Z") ∈ ms_tb := ms_i2 111 (by decide +kernel) (by decide +kernel)
theorem ms_k352 : (Jvm.Cond.fieldLink "MarkupStore$TextReader" (9 : Nat) "MarkupStore$TextReader" "text" "Ljava/lang/String;") ∈ ms_tb := ms_i2 112 (by decide +kernel) (by decide +kernel)
theorem ms_k357 : (Jvm.Cond.fieldLink "MarkupStore$TextReader" (15 : Nat) "MarkupStore$TextReader" "at" "I") ∈ ms_tb := ms_i2 117 (by decide +kernel) (by decide +kernel)
theorem ms_k358 : (Jvm.Cond.fieldLink "MarkupStore$PathReader" (24 : Nat) "MarkupStore$PathReader" "at" "I") ∈ ms_tb := ms_i2 118 (by decide +kernel) (by decide +kernel)
theorem ms_k359 : (Jvm.Cond.sameField "MarkupStore$PathReader" "MarkupStore$TextReader" "at" "I") ∈ ms_tb := ms_i2 119 (by decide +kernel) (by decide +kernel)
theorem ms_k360 : (Jvm.Cond.fieldLink "MarkupStore$MarkupReader" (82 : Nat) "MarkupStore$MarkupReader" "at" "I") ∈ ms_tb := ms_i2 120 (by decide +kernel) (by decide +kernel)
theorem ms_k361 : (Jvm.Cond.sameField "MarkupStore$MarkupReader" "MarkupStore$TextReader" "at" "I") ∈ ms_tb := ms_i2 121 (by decide +kernel) (by decide +kernel)
theorem ms_k362 : (Jvm.Cond.fieldLink "MarkupStore$TextReader" (19 : Nat) "MarkupStore$TextReader" "wrong" "I") ∈ ms_tb := ms_i2 122 (by decide +kernel) (by decide +kernel)
theorem ms_k388 : (Jvm.Cond.instanceMethod ({ cls := "MarkupStore$TextReader", name := "seen", desc := "(I)C" } : Jvm.MethodName)) ∈ ms_tb := ms_i2 148 (by decide +kernel) (by decide +kernel)
theorem ms_k389 : (Jvm.Cond.code ({ cls := "MarkupStore$TextReader", name := "seen", desc := "(I)C" } : Jvm.MethodName) prog_10_method_4_code (2 : Nat) (Option.some Jvm.ClassFile.FieldType.char)) ∈ ms_tb := ms_i2 149 (by decide +kernel) (by decide +kernel)
theorem ms_k390 : (Jvm.Cond.methodLink "MarkupStore$TextReader" (22 : Nat) ({ cls := "java/lang/String", name := "length", desc := "()I" } : Jvm.MethodName)) ∈ ms_tb := ms_i2 150 (by decide +kernel) (by decide +kernel)
theorem ms_k398 : (Jvm.Cond.methodLink "MarkupStore$TextReader" (28 : Nat) ({ cls := "java/lang/String", name := "charAt", desc := "(I)C" } : Jvm.MethodName)) ∈ ms_tb := ms_i2 158 (by decide +kernel) (by decide +kernel)
theorem ms_k399 : (Jvm.Cond.instanceMethod ({ cls := "java/lang/String", name := "charAt", desc := "(I)C" } : Jvm.MethodName)) ∈ ms_tb := ms_i2 159 (by decide +kernel) (by decide +kernel)
theorem ms_k400 : (Jvm.Cond.selects "java/lang/String" ({ cls := "java/lang/String", name := "charAt", desc := "(I)C" } : Jvm.MethodName) ({ cls := "java/lang/String", name := "charAt", desc := "(I)C" } : Jvm.MethodName)) ∈ ms_tb := ms_i2 160 (by decide +kernel) (by decide +kernel)
theorem ms_k401 : (Jvm.Cond.code ({ cls := "java/lang/String", name := "charAt", desc := "(I)C" } : Jvm.MethodName) prog_23_method_56_code (2 : Nat) (Option.some Jvm.ClassFile.FieldType.char)) ∈ ms_tb := ms_i2 161 (by decide +kernel) (by decide +kernel)
theorem ms_k417 : (Jvm.Cond.instanceMethod ({ cls := "MarkupStore$TextReader", name := "failAt", desc := "(I)Z" } : Jvm.MethodName)) ∈ ms_tb := ms_i2 177 (by decide +kernel) (by decide +kernel)
theorem ms_k418 : (Jvm.Cond.code ({ cls := "MarkupStore$TextReader", name := "failAt", desc := "(I)Z" } : Jvm.MethodName) prog_10_method_3_code (2 : Nat) (Option.some Jvm.ClassFile.FieldType.boolean)) ∈ ms_tb := ms_i2 178 (by decide +kernel) (by decide +kernel)
theorem ms_k420 : (Jvm.Cond.static ({ cls := "MarkupStore", name := "isSmallLetter", desc := "(C)Z" } : Jvm.MethodName)) ∈ ms_tb := ms_i2 180 (by decide +kernel) (by decide +kernel)
theorem ms_k421 : (Jvm.Cond.code ({ cls := "MarkupStore", name := "isSmallLetter", desc := "(C)Z" } : Jvm.MethodName) prog_1_method_28_code (1 : Nat) (Option.some Jvm.ClassFile.FieldType.boolean)) ∈ ms_tb := ms_i2 181 (by decide +kernel) (by decide +kernel)
theorem ms_k430 : (Jvm.Cond.classLink "MarkupStore$MarkupReader" (36 : Nat) "MarkupStore$Node") ∈ ms_tb := ms_i2 190 (by decide +kernel) (by decide +kernel)
theorem ms_k440 : (Jvm.Cond.fieldLink "MarkupStore$Scribe" (40 : Nat) "MarkupStore$Node" "kind" "I") ∈ ms_tb := ms_i2 200 (by decide +kernel) (by decide +kernel)
theorem ms_k441 : (Jvm.Cond.fieldLink "MarkupStore$Step" (35 : Nat) "MarkupStore$Node" "kind" "I") ∈ ms_tb := ms_i2 201 (by decide +kernel) (by decide +kernel)
theorem ms_k442 : (Jvm.Cond.fieldLink "MarkupStore" (100 : Nat) "MarkupStore$Node" "kind" "I") ∈ ms_tb := ms_i2 202 (by decide +kernel) (by decide +kernel)
theorem ms_k443 : (Jvm.Cond.fieldLink "MarkupStore$Walker" (140 : Nat) "MarkupStore$Node" "kind" "I") ∈ ms_tb := ms_i2 203 (by decide +kernel) (by decide +kernel)
theorem ms_k445 : (Jvm.Cond.fieldLink "MarkupStore$Scribe" (30 : Nat) "MarkupStore$Node" "parent" "LMarkupStore$Node;") ∈ ms_tb := ms_i2 205 (by decide +kernel) (by decide +kernel)
theorem ms_k446 : (Jvm.Cond.fieldLink "MarkupStore" (94 : Nat) "MarkupStore$Node" "parent" "LMarkupStore$Node;") ∈ ms_tb := ms_i2 206 (by decide +kernel) (by decide +kernel)
theorem ms_k447 : (Jvm.Cond.fieldLink "MarkupStore$Tree" (36 : Nat) "MarkupStore$Node" "parent" "LMarkupStore$Node;") ∈ ms_tb := ms_i2 207 (by decide +kernel) (by decide +kernel)
theorem ms_k448 : (Jvm.Cond.fieldLink "MarkupStore$Walker" (196 : Nat) "MarkupStore$Node" "parent" "LMarkupStore$Node;") ∈ ms_tb := ms_i2 208 (by decide +kernel) (by decide +kernel)
theorem ms_k450 : (Jvm.Cond.fieldLink "MarkupStore$Tree" (33 : Nat) "MarkupStore$Node" "depth" "I") ∈ ms_tb := ms_i2 210 (by decide +kernel) (by decide +kernel)
theorem ms_k453 : (Jvm.Cond.fieldLink "MarkupStore$MarkupReader" (38 : Nat) "MarkupStore$Node" "label" "[I") ∈ ms_tb := ms_i2 213 (by decide +kernel) (by decide +kernel)
theorem ms_k454 : (Jvm.Cond.fieldLink "MarkupStore" (209 : Nat) "MarkupStore$Node" "label" "[I") ∈ ms_tb := ms_i2 214 (by decide +kernel) (by decide +kernel)
theorem ms_k455 : (Jvm.Cond.fieldLink "MarkupStore$Node" (29 : Nat) "MarkupStore$Node" "attributes" "Ljava/util/ArrayList;") ∈ ms_tb := ms_i2 215 (by decide +kernel) (by decide +kernel)
theorem ms_k456 : (Jvm.Cond.fieldLink "MarkupStore$Scribe" (75 : Nat) "MarkupStore$Node" "attributes" "Ljava/util/ArrayList;") ∈ ms_tb := ms_i2 216 (by decide +kernel) (by decide +kernel)
theorem ms_k458 : (Jvm.Cond.fieldLink "MarkupStore" (206 : Nat) "MarkupStore$Node" "attributes" "Ljava/util/ArrayList;") ∈ ms_tb := ms_i2 218 (by decide +kernel) (by decide +kernel)
theorem ms_k461 : (Jvm.Cond.fieldLink "MarkupStore" (197 : Nat) "MarkupStore$Node" "number" "I") ∈ ms_tb := ms_i2 221 (by decide +kernel) (by decide +kernel)
theorem ms_k463 : (Jvm.Cond.fieldLink "MarkupStore$Tree" (27 : Nat) "MarkupStore$Node" "place" "I") ∈ ms_tb := ms_i2 223 (by decide +kernel) (by decide +kernel)
theorem ms_k464 : (Jvm.Cond.fieldLink "MarkupStore" (103 : Nat) "MarkupStore$Node" "place" "I") ∈ ms_tb := ms_i2 224 (by decide +kernel) (by decide +kernel)
theorem ms_k465 : (Jvm.Cond.fieldLink "MarkupStore$Walker" (137 : Nat) "MarkupStore$Node" "place" "I") ∈ ms_tb := ms_i2 225 (by decide +kernel) (by decide +kernel)
theorem ms_k467 : (Jvm.Cond.fieldLink "MarkupStore$Scribe" (51 : Nat) "MarkupStore$Node" "text" "Ljava/lang/String;") ∈ ms_tb := ms_i2 227 (by decide +kernel) (by decide +kernel)
theorem ms_k468 : (Jvm.Cond.fieldLink "MarkupStore$Step" (41 : Nat) "MarkupStore$Node" "text" "Ljava/lang/String;") ∈ ms_tb := ms_i2 228 (by decide +kernel) (by decide +kernel)
theorem ms_k469 : (Jvm.Cond.fieldLink "MarkupStore$MarkupReader" (52 : Nat) "MarkupStore$Node" "text" "Ljava/lang/String;") ∈ ms_tb := ms_i2 229 (by decide +kernel) (by decide +kernel)
theorem ms_k470 : (Jvm.Cond.fieldLink "MarkupStore" (132 : Nat) "MarkupStore$Node" "text" "Ljava/lang/String;") ∈ ms_tb := ms_i2 230 (by decide +kernel) (by decide +kernel)
theorem ms_k471 : (Jvm.Cond.fieldLink "MarkupStore$Walker" (143 : Nat) "MarkupStore$Node" "text" "Ljava/lang/String;") ∈ ms_tb := ms_i2 231 (by decide +kernel) (by decide +kernel)
theorem ms_k547 : (Jvm.Cond.methodLink "MarkupStore$TextReader" (32 : Nat) ({ cls := "MarkupStore$TextReader", name := "seen", desc := "(I)C" } : Jvm.MethodName)) ∈ ms_tb := ms_i3 67 (by decide +kernel) (by decide +kernel)
theorem ms_k549 : (Jvm.Cond.methodLink "MarkupStore$TextReader" (35 : Nat) ({ cls := "MarkupStore$TextReader", name := "failAt", desc := "(I)Z" } : Jvm.MethodName)) ∈ ms_tb := ms_i3 69 (by decide +kernel) (by decide +kernel)
theorem ms_k579 : (Jvm.Cond.methodLink "MarkupStore$MarkupReader" (114 : Nat) ({ cls := "java/lang/String", name := "length", desc := "()I" } : Jvm.MethodName)) ∈ ms_tb := ms_i3 99 (by decide +kernel) (by decide +kernel)
theorem ms_k591 : (Jvm.Cond.instanceMethod ({ cls := "MarkupStore$Node", name := "attributeNamed", desc := "(Ljava/lang/String;)LMarkupStore$Attribute;" } : Jvm.MethodName)) ∈ ms_tb := ms_i3 111 (by decide +kernel) (by decide +kernel)
theorem ms_k592 : (Jvm.Cond.selects "MarkupStore$Node" ({ cls := "MarkupStore$Node", name := "attributeNamed", desc := "(Ljava/lang/String;)LMarkupStore$Attribute;" } : Jvm.MethodName) ({ cls := "MarkupStore$Node", name := "attributeNamed", desc := "(Ljava/lang/String;)LMarkupStore$Attribute;" } : Jvm.MethodName)) ∈ ms_tb := ms_i3 112 (by decide +kernel) (by decide +kernel)
theorem ms_k593 : (Jvm.Cond.code ({ cls := "MarkupStore$Node", name := "attributeNamed", desc := "(Ljava/lang/String;)LMarkupStore$Attribute;" } : Jvm.MethodName) prog_4_method_2_code (3 : Nat) (Option.some (Jvm.ClassFile.FieldType.object "MarkupStore$Attribute"))) ∈ ms_tb := ms_i3 113 (by decide +kernel) (by decide +kernel)
theorem ms_k594 : (Jvm.Cond.methodLink "MarkupStore$Node" (48 : Nat) ({ cls := "java/util/ArrayList", name := "size", desc := "()I" } : Jvm.MethodName)) ∈ ms_tb := ms_i3 114 (by decide +kernel) (by decide +kernel)
theorem ms_k595 : (Jvm.Cond.instanceMethod ({ cls := "java/util/ArrayList", name := "size", desc := "()I" } : Jvm.MethodName)) ∈ ms_tb := ms_i3 115 (by decide +kernel) (by decide +kernel)
theorem ms_k596 : (Jvm.Cond.selects "java/util/ArrayList" ({ cls := "java/util/ArrayList", name := "size", desc := "()I" } : Jvm.MethodName) ({ cls := "java/util/ArrayList", name := "size", desc := "()I" } : Jvm.MethodName)) ∈ ms_tb := ms_i3 116 (by decide +kernel) (by decide +kernel)
theorem ms_k597 : (Jvm.Cond.code ({ cls := "java/util/ArrayList", name := "size", desc := "()I" } : Jvm.MethodName) prog_30_method_8_code (1 : Nat) (Option.some Jvm.ClassFile.FieldType.int)) ∈ ms_tb := ms_i3 117 (by decide +kernel) (by decide +kernel)
theorem ms_k598 : (Jvm.Cond.methodLink "MarkupStore$Node" (52 : Nat) ({ cls := "java/util/ArrayList", name := "get", desc := "(I)Ljava/lang/Object;" } : Jvm.MethodName)) ∈ ms_tb := ms_i3 118 (by decide +kernel) (by decide +kernel)
theorem ms_k599 : (Jvm.Cond.instanceMethod ({ cls := "java/util/ArrayList", name := "get", desc := "(I)Ljava/lang/Object;" } : Jvm.MethodName)) ∈ ms_tb := ms_i3 119 (by decide +kernel) (by decide +kernel)
theorem ms_k600 : (Jvm.Cond.selects "java/util/ArrayList" ({ cls := "java/util/ArrayList", name := "get", desc := "(I)Ljava/lang/Object;" } : Jvm.MethodName) ({ cls := "java/util/ArrayList", name := "get", desc := "(I)Ljava/lang/Object;" } : Jvm.MethodName)) ∈ ms_tb := ms_i3 120 (by decide +kernel) (by decide +kernel)
theorem ms_k601 : (Jvm.Cond.code ({ cls := "java/util/ArrayList", name := "get", desc := "(I)Ljava/lang/Object;" } : Jvm.MethodName) prog_30_method_20_code (2 : Nat) (Option.some (Jvm.ClassFile.FieldType.object "java/lang/Object"))) ∈ ms_tb := ms_i3 121 (by decide +kernel) (by decide +kernel)
theorem ms_k610 : (Jvm.Cond.classLink "MarkupStore$Node" (56 : Nat) "MarkupStore$Attribute") ∈ ms_tb := ms_i3 130 (by decide +kernel) (by decide +kernel)
theorem ms_k611 : (Jvm.Cond.methodLink "MarkupStore$Node" (58 : Nat) ({ cls := "MarkupStore$Attribute", name := "name", desc := "()Ljava/lang/String;" } : Jvm.MethodName)) ∈ ms_tb := ms_i3 131 (by decide +kernel) (by decide +kernel)
theorem ms_k612 : (Jvm.Cond.instanceMethod ({ cls := "MarkupStore$Attribute", name := "name", desc := "()Ljava/lang/String;" } : Jvm.MethodName)) ∈ ms_tb := ms_i3 132 (by decide +kernel) (by decide +kernel)
theorem ms_k613 : (Jvm.Cond.selects "MarkupStore$Attribute" ({ cls := "MarkupStore$Attribute", name := "name", desc := "()Ljava/lang/String;" } : Jvm.MethodName) ({ cls := "MarkupStore$Attribute", name := "name", desc := "()Ljava/lang/String;" } : Jvm.MethodName)) ∈ ms_tb := ms_i3 133 (by decide +kernel) (by decide +kernel)
theorem ms_k614 : (Jvm.Cond.code ({ cls := "MarkupStore$Attribute", name := "name", desc := "()Ljava/lang/String;" } : Jvm.MethodName) prog_2_method_5_code (1 : Nat) (Option.some (Jvm.ClassFile.FieldType.object "java/lang/String"))) ∈ ms_tb := ms_i3 134 (by decide +kernel) (by decide +kernel)
theorem ms_k615 : (Jvm.Cond.methodLink "MarkupStore$Node" (62 : Nat) ({ cls := "java/lang/String", name := "equals", desc := "(Ljava/lang/Object;)Z" } : Jvm.MethodName)) ∈ ms_tb := ms_i3 135 (by decide +kernel) (by decide +kernel)
theorem ms_k616 : (Jvm.Cond.instanceMethod ({ cls := "java/lang/String", name := "equals", desc := "(Ljava/lang/Object;)Z" } : Jvm.MethodName)) ∈ ms_tb := ms_i3 136 (by decide +kernel) (by decide +kernel)
theorem ms_k617 : (Jvm.Cond.selects "java/lang/String" ({ cls := "java/lang/String", name := "equals", desc := "(Ljava/lang/Object;)Z" } : Jvm.MethodName) ({ cls := "java/lang/String", name := "equals", desc := "(Ljava/lang/Object;)Z" } : Jvm.MethodName)) ∈ ms_tb := ms_i3 137 (by decide +kernel) (by decide +kernel)
theorem ms_k618 : (Jvm.Cond.code ({ cls := "java/lang/String", name := "equals", desc := "(Ljava/lang/Object;)Z" } : Jvm.MethodName) prog_23_method_66_code (3 : Nat) (Option.some Jvm.ClassFile.FieldType.boolean)) ∈ ms_tb := ms_i3 138 (by decide +kernel) (by decide +kernel)
theorem ms_k623 : (Jvm.Cond.methodLink "MarkupStore$MarkupReader" (123 : Nat) ({ cls := "MarkupStore$MarkupReader", name := "take", desc := "(C)Z" } : Jvm.MethodName)) ∈ ms_tb := ms_i3 143 (by decide +kernel) (by decide +kernel)
theorem ms_k624 : (Jvm.Cond.sameMethod "MarkupStore$MarkupReader" "MarkupStore$TextReader" "take" "(C)Z") ∈ ms_tb := ms_i3 144 (by decide +kernel) (by decide +kernel)
theorem ms_k626 : (Jvm.Cond.selects "MarkupStore$MarkupReader" ({ cls := "MarkupStore$MarkupReader", name := "take", desc := "(C)Z" } : Jvm.MethodName) ({ cls := "MarkupStore$TextReader", name := "take", desc := "(C)Z" } : Jvm.MethodName)) ∈ ms_tb := ms_i3 146 (by decide +kernel) (by decide +kernel)
theorem ms_k627 : (Jvm.Cond.instanceMethod ({ cls := "MarkupStore$TextReader", name := "take", desc := "(C)Z" } : Jvm.MethodName)) ∈ ms_tb := ms_i3 147 (by decide +kernel) (by decide +kernel)
theorem ms_k628 : (Jvm.Cond.code ({ cls := "MarkupStore$TextReader", name := "take", desc := "(C)Z" } : Jvm.MethodName) prog_10_method_5_code (2 : Nat) (Option.some Jvm.ClassFile.FieldType.boolean)) ∈ ms_tb := ms_i3 148 (by decide +kernel) (by decide +kernel)
theorem ms_k643 : (Jvm.Cond.methodLink "MarkupStore$MarkupReader" (145 : Nat) ({ cls := "java/lang/String", name := "charAt", desc := "(I)C" } : Jvm.MethodName)) ∈ ms_tb := ms_i3 163 (by decide +kernel) (by decide +kernel)
theorem ms_k662 : (Jvm.Cond.fieldLink "MarkupStore$Attribute" (7 : Nat) "MarkupStore$Attribute" "name" "Ljava/lang/String;") ∈ ms_tb := ms_i3 182 (by decide +kernel) (by decide +kernel)
theorem ms_k663 : (Jvm.Cond.fieldLink "MarkupStore$Attribute" (13 : Nat) "MarkupStore$Attribute" "value" "Ljava/lang/String;") ∈ ms_tb := ms_i3 183 (by decide +kernel) (by decide +kernel)
theorem ms_k669 : (Jvm.Cond.methodLink "MarkupStore$MarkupReader" (28 : Nat) ({ cls := "java/util/ArrayList", name := "size", desc := "()I" } : Jvm.MethodName)) ∈ ms_tb := ms_i3 189 (by decide +kernel) (by decide +kernel)
theorem ms_k705 : (Jvm.Cond.methodLink "MarkupStore" (68 : Nat) ({ cls := "java/util/ArrayList", name := "size", desc := "()I" } : Jvm.MethodName)) ∈ ms_tb := ms_i3 225 (by decide +kernel) (by decide +kernel)
theorem ms_k710 : (Jvm.Cond.methodLink "MarkupStore$MarkupReader" (32 : Nat) ({ cls := "java/util/ArrayList", name := "get", desc := "(I)Ljava/lang/Object;" } : Jvm.MethodName)) ∈ ms_tb := ms_i3 230 (by decide +kernel) (by decide +kernel)
theorem ms_k745 : (Jvm.Cond.methodLink "MarkupStore" (90 : Nat) ({ cls := "MarkupStore$Tree", name := "find", desc := "(I)LMarkupStore$Node;" } : Jvm.MethodName)) ∈ ms_tb := ms_i4 25 (by decide +kernel) (by decide +kernel)
theorem ms_k746 : (Jvm.Cond.instanceMethod ({ cls := "MarkupStore$Tree", name := "find", desc := "(I)LMarkupStore$Node;" } : Jvm.MethodName)) ∈ ms_tb := ms_i4 26 (by decide +kernel) (by decide +kernel)
theorem ms_k747 : (Jvm.Cond.selects "MarkupStore$Tree" ({ cls := "MarkupStore$Tree", name := "find", desc := "(I)LMarkupStore$Node;" } : Jvm.MethodName) ({ cls := "MarkupStore$Tree", name := "find", desc := "(I)LMarkupStore$Node;" } : Jvm.MethodName)) ∈ ms_tb := ms_i4 27 (by decide +kernel) (by decide +kernel)
theorem ms_k748 : (Jvm.Cond.code ({ cls := "MarkupStore$Tree", name := "find", desc := "(I)LMarkupStore$Node;" } : Jvm.MethodName) prog_11_method_2_code (2 : Nat) (Option.some (Jvm.ClassFile.FieldType.object "MarkupStore$Node"))) ∈ ms_tb := ms_i4 28 (by decide +kernel) (by decide +kernel)
theorem ms_k750 : (Jvm.Cond.instanceMethod ({ cls := "MarkupStore$Tree", name := "endOf", desc := "(LMarkupStore$Node;)I" } : Jvm.MethodName)) ∈ ms_tb := ms_i4 30 (by decide +kernel) (by decide +kernel)
theorem ms_k751 : (Jvm.Cond.selects "MarkupStore$Tree" ({ cls := "MarkupStore$Tree", name := "endOf", desc := "(LMarkupStore$Node;)I" } : Jvm.MethodName) ({ cls := "MarkupStore$Tree", name := "endOf", desc := "(LMarkupStore$Node;)I" } : Jvm.MethodName)) ∈ ms_tb := ms_i4 31 (by decide +kernel) (by decide +kernel)
theorem ms_k752 : (Jvm.Cond.code ({ cls := "MarkupStore$Tree", name := "endOf", desc := "(LMarkupStore$Node;)I" } : Jvm.MethodName) prog_11_method_4_code (3 : Nat) (Option.some Jvm.ClassFile.FieldType.int)) ∈ ms_tb := ms_i4 32 (by decide +kernel) (by decide +kernel)
theorem ms_k767 : (Jvm.Cond.methodLink "MarkupStore$Node" (81 : Nat) ({ cls := "MarkupStore$Node", name := "isOdd", desc := "(I)Z" } : Jvm.MethodName)) ∈ ms_tb := ms_i4 47 (by decide +kernel) (by decide +kernel)
theorem ms_k768 : (Jvm.Cond.static ({ cls := "MarkupStore$Node", name := "isOdd", desc := "(I)Z" } : Jvm.MethodName)) ∈ ms_tb := ms_i4 48 (by decide +kernel) (by decide +kernel)
theorem ms_k769 : (Jvm.Cond.code ({ cls := "MarkupStore$Node", name := "isOdd", desc := "(I)Z" } : Jvm.MethodName) prog_4_method_5_code (1 : Nat) (Option.some Jvm.ClassFile.FieldType.boolean)) ∈ ms_tb := ms_i4 49 (by decide +kernel) (by decide +kernel)
theorem ms_k778 : (Jvm.Cond.instanceMethod ({ cls := "java/lang/String", name := "isEmpty", desc := "()Z" } : Jvm.MethodName)) ∈ ms_tb := ms_i4 58 (by decide +kernel) (by decide +kernel)
theorem ms_k779 : (Jvm.Cond.selects "java/lang/String" ({ cls := "java/lang/String", name := "isEmpty", desc := "()Z" } : Jvm.MethodName) ({ cls := "java/lang/String", name := "isEmpty", desc := "()Z" } : Jvm.MethodName)) ∈ ms_tb := ms_i4 59 (by decide +kernel) (by decide +kernel)
theorem ms_k780 : (Jvm.Cond.code ({ cls := "java/lang/String", name := "isEmpty", desc := "()Z" } : Jvm.MethodName) prog_23_method_55_code (1 : Nat) (Option.some Jvm.ClassFile.FieldType.boolean)) ∈ ms_tb := ms_i4 60 (by decide +kernel) (by decide +kernel)
theorem ms_k785 : (Jvm.Cond.methodLink "MarkupStore$MarkupReader" (42 : Nat) ({ cls := "java/util/ArrayList", name := "isEmpty", desc := "()Z" } : Jvm.MethodName)) ∈ ms_tb := ms_i4 65 (by decide +kernel) (by decide +kernel)
theorem ms_k786 : (Jvm.Cond.instanceMethod ({ cls := "java/util/ArrayList", name := "isEmpty", desc := "()Z" } : Jvm.MethodName)) ∈ ms_tb := ms_i4 66 (by decide +kernel) (by decide +kernel)
theorem ms_k787 : (Jvm.Cond.selects "java/util/ArrayList" ({ cls := "java/util/ArrayList", name := "isEmpty", desc := "()Z" } : Jvm.MethodName) ({ cls := "java/util/ArrayList", name := "isEmpty", desc := "()Z" } : Jvm.MethodName)) ∈ ms_tb := ms_i4 67 (by decide +kernel) (by decide +kernel)
theorem ms_k788 : (Jvm.Cond.code ({ cls := "java/util/ArrayList", name := "isEmpty", desc := "()Z" } : Jvm.MethodName) prog_30_method_9_code (1 : Nat) (Option.some Jvm.ClassFile.FieldType.boolean)) ∈ ms_tb := ms_i4 68 (by decide +kernel) (by decide +kernel)
theorem ms_k802 : (Jvm.Cond.methodLink "MarkupStore" (147 : Nat) ({ cls := "java/lang/String", name := "length", desc := "()I" } : Jvm.MethodName)) ∈ ms_tb := ms_i4 82 (by decide +kernel) (by decide +kernel)
theorem ms_k857 : (Jvm.Cond.methodLink "MarkupStore" (243 : Nat) ({ cls := "java/lang/String", name := "isEmpty", desc := "()Z" } : Jvm.MethodName)) ∈ ms_tb := ms_i4 137 (by decide +kernel) (by decide +kernel)
theorem ms_k858 : (Jvm.Cond.methodLink "MarkupStore" (246 : Nat) ({ cls := "MarkupStore", name := "isName", desc := "(Ljava/lang/String;)Z" } : Jvm.MethodName)) ∈ ms_tb := ms_i4 138 (by decide +kernel) (by decide +kernel)
theorem ms_k859 : (Jvm.Cond.static ({ cls := "MarkupStore", name := "isName", desc := "(Ljava/lang/String;)Z" } : Jvm.MethodName)) ∈ ms_tb := ms_i4 139 (by decide +kernel) (by decide +kernel)
theorem ms_k860 : (Jvm.Cond.code ({ cls := "MarkupStore", name := "isName", desc := "(Ljava/lang/String;)Z" } : Jvm.MethodName) prog_1_method_26_code (2 : Nat) (Option.some Jvm.ClassFile.FieldType.boolean)) ∈ ms_tb := ms_i4 140 (by decide +kernel) (by decide +kernel)
theorem ms_k861 : (Jvm.Cond.methodLink "MarkupStore" (212 : Nat) ({ cls := "java/lang/String", name := "charAt", desc := "(I)C" } : Jvm.MethodName)) ∈ ms_tb := ms_i4 141 (by decide +kernel) (by decide +kernel)
theorem ms_k862 : (Jvm.Cond.methodLink "MarkupStore" (253 : Nat) ({ cls := "MarkupStore", name := "isSmallLetter", desc := "(C)Z" } : Jvm.MethodName)) ∈ ms_tb := ms_i4 142 (by decide +kernel) (by decide +kernel)
theorem ms_k863 : (Jvm.Cond.methodLink "MarkupStore" (250 : Nat) ({ cls := "MarkupStore", name := "mayBeComment", desc := "(Ljava/lang/String;)Z" } : Jvm.MethodName)) ∈ ms_tb := ms_i4 143 (by decide +kernel) (by decide +kernel)
theorem ms_k864 : (Jvm.Cond.static ({ cls := "MarkupStore", name := "mayBeComment", desc := "(Ljava/lang/String;)Z" } : Jvm.MethodName)) ∈ ms_tb := ms_i4 144 (by decide +kernel) (by decide +kernel)
theorem ms_k865 : (Jvm.Cond.code ({ cls := "MarkupStore", name := "mayBeComment", desc := "(Ljava/lang/String;)Z" } : Jvm.MethodName) prog_1_method_27_code (3 : Nat) (Option.some Jvm.ClassFile.FieldType.boolean)) ∈ ms_tb := ms_i4 145 (by decide +kernel) (by decide +kernel)
theorem ms_k890 : (Jvm.Cond.methodLink "MarkupStore$PathReader" (28 : Nat) ({ cls := "MarkupStore$PathReader", name := "seen", desc := "(I)C" } : Jvm.MethodName)) ∈ ms_tb := ms_i4 170 (by decide +kernel) (by decide +kernel)
theorem ms_k891 : (Jvm.Cond.sameMethod "MarkupStore$PathReader" "MarkupStore$TextReader" "seen" "(I)C") ∈ ms_tb := ms_i4 171 (by decide +kernel) (by decide +kernel)
theorem ms_k892 : (Jvm.Cond.selects "MarkupStore$PathReader" ({ cls := "MarkupStore$PathReader", name := "seen", desc := "(I)C" } : Jvm.MethodName) ({ cls := "MarkupStore$TextReader", name := "seen", desc := "(I)C" } : Jvm.MethodName)) ∈ ms_tb := ms_i4 172 (by decide +kernel) (by decide +kernel)
theorem ms_k923 : (Jvm.Cond.fieldLink "MarkupStore$Step" (11 : Nat) "MarkupStore$Step" "axis" "C") ∈ ms_tb := ms_i4 203 (by decide +kernel) (by decide +kernel)
theorem ms_k926 : (Jvm.Cond.fieldLink "MarkupStore$Step" (15 : Nat) "MarkupStore$Step" "sort" "C") ∈ ms_tb := ms_i4 206 (by decide +kernel) (by decide +kernel)
theorem ms_k928 : (Jvm.Cond.fieldLink "MarkupStore$Step" (20 : Nat) "MarkupStore$Step" "name" "Ljava/lang/String;") ∈ ms_tb := ms_i4 208 (by decide +kernel) (by decide +kernel)
theorem ms_k950 : (Jvm.Cond.methodLink "MarkupStore$PathReader" (105 : Nat) ({ cls := "java/lang/String", name := "indexOf", desc := "(I)I" } : Jvm.MethodName)) ∈ ms_tb := ms_i4 230 (by decide +kernel) (by decide +kernel)
theorem ms_k951 : (Jvm.Cond.instanceMethod ({ cls := "java/lang/String", name := "indexOf", desc := "(I)I" } : Jvm.MethodName)) ∈ ms_tb := ms_i4 231 (by decide +kernel) (by decide +kernel)
theorem ms_k952 : (Jvm.Cond.selects "java/lang/String" ({ cls := "java/lang/String", name := "indexOf", desc := "(I)I" } : Jvm.MethodName) ({ cls := "java/lang/String", name := "indexOf", desc := "(I)I" } : Jvm.MethodName)) ∈ ms_tb := ms_i4 232 (by decide +kernel) (by decide +kernel)
theorem ms_k953 : (Jvm.Cond.code ({ cls := "java/lang/String", name := "indexOf", desc := "(I)I" } : Jvm.MethodName) prog_23_method_79_code (2 : Nat) (Option.some Jvm.ClassFile.FieldType.int)) ∈ ms_tb := ms_i4 233 (by decide +kernel) (by decide +kernel)
theorem ms_k1030 : (Jvm.Cond.fieldLink "MarkupStore$Walker" (97 : Nat) "MarkupStore$Predicate" "name" "Ljava/lang/String;") ∈ ms_tb := ms_i5 70 (by decide +kernel) (by decide +kernel)
theorem ms_k1036 : (Jvm.Cond.fieldLink "MarkupStore$Walker" (107 : Nat) "MarkupStore$Predicate" "comparison" "C") ∈ ms_tb := ms_i5 76 (by decide +kernel) (by decide +kernel)
theorem ms_k1039 : (Jvm.Cond.fieldLink "MarkupStore$Walker" (116 : Nat) "MarkupStore$Predicate" "string" "Ljava/lang/String;") ∈ ms_tb := ms_i5 79 (by decide +kernel) (by decide +kernel)
theorem ms_k1060 : (Jvm.Cond.methodLink "MarkupStore$PathReader" (117 : Nat) ({ cls := "MarkupStore$PathReader", name := "isDigit", desc := "(C)Z" } : Jvm.MethodName)) ∈ ms_tb := ms_i5 100 (by decide +kernel) (by decide +kernel)
theorem ms_k1061 : (Jvm.Cond.static ({ cls := "MarkupStore$PathReader", name := "isDigit", desc := "(C)Z" } : Jvm.MethodName)) ∈ ms_tb := ms_i5 101 (by decide +kernel) (by decide +kernel)
theorem ms_k1062 : (Jvm.Cond.code ({ cls := "MarkupStore$PathReader", name := "isDigit", desc := "(C)Z" } : Jvm.MethodName) prog_6_method_8_code (1 : Nat) (Option.some Jvm.ClassFile.FieldType.boolean)) ∈ ms_tb := ms_i5 102 (by decide +kernel) (by decide +kernel)
theorem ms_k1088 : (Jvm.Cond.fieldLink "MarkupStore$Walker" (9 : Nat) "MarkupStore$Walker" "tree" "LMarkupStore$Tree;") ∈ ms_tb := ms_i5 128 (by decide +kernel) (by decide +kernel)
theorem ms_k1103 : (Jvm.Cond.methodLink "MarkupStore$Step" (44 : Nat) ({ cls := "java/lang/String", name := "equals", desc := "(Ljava/lang/Object;)Z" } : Jvm.MethodName)) ∈ ms_tb := ms_i5 143 (by decide +kernel) (by decide +kernel)
theorem ms_k1113 : (Jvm.Cond.methodLink "MarkupStore$Walker" (101 : Nat) ({ cls := "MarkupStore$Node", name := "attributeNamed", desc := "(Ljava/lang/String;)LMarkupStore$Attribute;" } : Jvm.MethodName)) ∈ ms_tb := ms_i5 153 (by decide +kernel) (by decide +kernel)
theorem ms_k1114 : (Jvm.Cond.methodLink "MarkupStore$Walker" (110 : Nat) ({ cls := "MarkupStore$Attribute", name := "value", desc := "()Ljava/lang/String;" } : Jvm.MethodName)) ∈ ms_tb := ms_i5 154 (by decide +kernel) (by decide +kernel)
theorem ms_k1115 : (Jvm.Cond.instanceMethod ({ cls := "MarkupStore$Attribute", name := "value", desc := "()Ljava/lang/String;" } : Jvm.MethodName)) ∈ ms_tb := ms_i5 155 (by decide +kernel) (by decide +kernel)
theorem ms_k1116 : (Jvm.Cond.selects "MarkupStore$Attribute" ({ cls := "MarkupStore$Attribute", name := "value", desc := "()Ljava/lang/String;" } : Jvm.MethodName) ({ cls := "MarkupStore$Attribute", name := "value", desc := "()Ljava/lang/String;" } : Jvm.MethodName)) ∈ ms_tb := ms_i5 156 (by decide +kernel) (by decide +kernel)
theorem ms_k1117 : (Jvm.Cond.code ({ cls := "MarkupStore$Attribute", name := "value", desc := "()Ljava/lang/String;" } : Jvm.MethodName) prog_2_method_6_code (1 : Nat) (Option.some (Jvm.ClassFile.FieldType.object "java/lang/String"))) ∈ ms_tb := ms_i5 157 (by decide +kernel) (by decide +kernel)
theorem ms_k1118 : (Jvm.Cond.methodLink "MarkupStore$Walker" (119 : Nat) ({ cls := "java/lang/String", name := "equals", desc := "(Ljava/lang/Object;)Z" } : Jvm.MethodName)) ∈ ms_tb := ms_i5 158 (by decide +kernel) (by decide +kernel)
theorem ms_k1124 : (Jvm.Cond.methodLink "MarkupStore$Walker" (125 : Nat) ({ cls := "MarkupStore$Walker", name := "range", desc := "(II)J" } : Jvm.MethodName)) ∈ ms_tb := ms_i5 164 (by decide +kernel) (by decide +kernel)
theorem ms_k1125 : (Jvm.Cond.static ({ cls := "MarkupStore$Walker", name := "range", desc := "(II)J" } : Jvm.MethodName)) ∈ ms_tb := ms_i5 165 (by decide +kernel) (by decide +kernel)
theorem ms_k1126 : (Jvm.Cond.code ({ cls := "MarkupStore$Walker", name := "range", desc := "(II)J" } : Jvm.MethodName) prog_12_method_19_code (2 : Nat) (Option.some Jvm.ClassFile.FieldType.long)) ∈ ms_tb := ms_i5 166 (by decide +kernel) (by decide +kernel)
theorem ms_k1127 : (Jvm.Cond.methodLink "MarkupStore$Walker" (129 : Nat) ({ cls := "MarkupStore$Walker", name := "stringValueFits", desc := "(LMarkupStore$Node;LMarkupStore$Predicate;)Z" } : Jvm.MethodName)) ∈ ms_tb := ms_i5 167 (by decide +kernel) (by decide +kernel)
theorem ms_k1129 : (Jvm.Cond.instanceMethod ({ cls := "MarkupStore$Walker", name := "stringValueFits", desc := "(LMarkupStore$Node;LMarkupStore$Predicate;)Z" } : Jvm.MethodName)) ∈ ms_tb := ms_i5 169 (by decide +kernel) (by decide +kernel)
theorem ms_k1130 : (Jvm.Cond.code ({ cls := "MarkupStore$Walker", name := "stringValueFits", desc := "(LMarkupStore$Node;LMarkupStore$Predicate;)Z" } : Jvm.MethodName) prog_12_method_8_code (10 : Nat) (Option.some Jvm.ClassFile.FieldType.boolean)) ∈ ms_tb := ms_i5 170 (by decide +kernel) (by decide +kernel)
theorem ms_k1131 : (Jvm.Cond.methodLink "MarkupStore$Walker" (133 : Nat) ({ cls := "MarkupStore$Tree", name := "endOf", desc := "(LMarkupStore$Node;)I" } : Jvm.MethodName)) ∈ ms_tb := ms_i5 171 (by decide +kernel) (by decide +kernel)
theorem ms_k1132 : (Jvm.Cond.methodLink "MarkupStore$Walker" (146 : Nat) ({ cls := "java/lang/String", name := "length", desc := "()I" } : Jvm.MethodName)) ∈ ms_tb := ms_i5 172 (by decide +kernel) (by decide +kernel)
theorem ms_k1133 : (Jvm.Cond.methodLink "MarkupStore$Walker" (149 : Nat) ({ cls := "java/lang/String", name := "charAt", desc := "(I)C" } : Jvm.MethodName)) ∈ ms_tb := ms_i5 173 (by decide +kernel) (by decide +kernel)
theorem ms_k1150 : (Jvm.Cond.methodLink "MarkupStore$Walker" (200 : Nat) ({ cls := "MarkupStore$Walker", name := "ancestors", desc := "(LMarkupStore$Node;)J" } : Jvm.MethodName)) ∈ ms_tb := ms_i5 190 (by decide +kernel) (by decide +kernel)
theorem ms_k1152 : (Jvm.Cond.instanceMethod ({ cls := "MarkupStore$Walker", name := "ancestors", desc := "(LMarkupStore$Node;)J" } : Jvm.MethodName)) ∈ ms_tb := ms_i5 192 (by decide +kernel) (by decide +kernel)
theorem ms_k1153 : (Jvm.Cond.code ({ cls := "MarkupStore$Walker", name := "ancestors", desc := "(LMarkupStore$Node;)J" } : Jvm.MethodName) prog_12_method_17_code (5 : Nat) (Option.some Jvm.ClassFile.FieldType.long)) ∈ ms_tb := ms_i5 193 (by decide +kernel) (by decide +kernel)
theorem ms_k1154 : (Jvm.Cond.methodLink "MarkupStore$Walker" (204 : Nat) ({ cls := "MarkupStore$Walker", name := "children", desc := "(LMarkupStore$Node;)J" } : Jvm.MethodName)) ∈ ms_tb := ms_i5 194 (by decide +kernel) (by decide +kernel)
theorem ms_k1156 : (Jvm.Cond.instanceMethod ({ cls := "MarkupStore$Walker", name := "children", desc := "(LMarkupStore$Node;)J" } : Jvm.MethodName)) ∈ ms_tb := ms_i5 196 (by decide +kernel) (by decide +kernel)
theorem ms_k1157 : (Jvm.Cond.code ({ cls := "MarkupStore$Walker", name := "children", desc := "(LMarkupStore$Node;)J" } : Jvm.MethodName) prog_12_method_18_code (5 : Nat) (Option.some Jvm.ClassFile.FieldType.long)) ∈ ms_tb := ms_i5 197 (by decide +kernel) (by decide +kernel)
theorem ms_k1158 : (Jvm.Cond.constantLong "MarkupStore$Walker" (194 : Nat) (-1 : Int64)) ∈ ms_tb := ms_i5 198 (by decide +kernel) (by decide +kernel)
theorem ms_k1222 : (Jvm.Cond.methodLink "MarkupStore" (202 : Nat) ({ cls := "MarkupStore$Tree", name := "childrenWithin", desc := "(LMarkupStore$Node;II)I" } : Jvm.MethodName)) ∈ ms_tb := ms_i6 22 (by decide +kernel) (by decide +kernel)
theorem ms_k1223 : (Jvm.Cond.instanceMethod ({ cls := "MarkupStore$Tree", name := "childrenWithin", desc := "(LMarkupStore$Node;II)I" } : Jvm.MethodName)) ∈ ms_tb := ms_i6 23 (by decide +kernel) (by decide +kernel)
theorem ms_k1224 : (Jvm.Cond.selects "MarkupStore$Tree" ({ cls := "MarkupStore$Tree", name := "childrenWithin", desc := "(LMarkupStore$Node;II)I" } : Jvm.MethodName) ({ cls := "MarkupStore$Tree", name := "childrenWithin", desc := "(LMarkupStore$Node;II)I" } : Jvm.MethodName)) ∈ ms_tb := ms_i6 24 (by decide +kernel) (by decide +kernel)
theorem ms_k1225 : (Jvm.Cond.code ({ cls := "MarkupStore$Tree", name := "childrenWithin", desc := "(LMarkupStore$Node;II)I" } : Jvm.MethodName) prog_11_method_7_code (6 : Nat) (Option.some Jvm.ClassFile.FieldType.int)) ∈ ms_tb := ms_i6 25 (by decide +kernel) (by decide +kernel)
theorem ms_k1252 : (Jvm.Cond.fieldLink "MarkupStore$Scribe" (9 : Nat) "MarkupStore$Scribe" "wanted" "I") ∈ ms_tb := ms_i6 52 (by decide +kernel) (by decide +kernel)
theorem ms_k1253 : (Jvm.Cond.fieldLink "MarkupStore$Scribe" (15 : Nat) "MarkupStore$Scribe" "count" "I") ∈ ms_tb := ms_i6 53 (by decide +kernel) (by decide +kernel)
theorem ms_k1255 : (Jvm.Cond.fieldLink "MarkupStore$Scribe" (18 : Nat) "MarkupStore$Scribe" "seen" "I") ∈ ms_tb := ms_i6 55 (by decide +kernel) (by decide +kernel)
theorem ms_k1268 : (Jvm.Cond.methodLink "MarkupStore$Scribe" (36 : Nat) ({ cls := "MarkupStore$Scribe", name := "closeUpTo", desc := "(LMarkupStore$Node;LMarkupStore$Node;)V" } : Jvm.MethodName)) ∈ ms_tb := ms_i6 68 (by decide +kernel) (by decide +kernel)
theorem ms_k1270 : (Jvm.Cond.instanceMethod ({ cls := "MarkupStore$Scribe", name := "closeUpTo", desc := "(LMarkupStore$Node;LMarkupStore$Node;)V" } : Jvm.MethodName)) ∈ ms_tb := ms_i6 70 (by decide +kernel) (by decide +kernel)
theorem ms_k1271 : (Jvm.Cond.code ({ cls := "MarkupStore$Scribe", name := "closeUpTo", desc := "(LMarkupStore$Node;LMarkupStore$Node;)V" } : Jvm.MethodName) prog_8_method_3_code (4 : Nat) (Option.none : Option Jvm.ClassFile.FieldType)) ∈ ms_tb := ms_i6 71 (by decide +kernel) (by decide +kernel)
theorem ms_k1273 : (Jvm.Cond.methodLink "MarkupStore$Scribe" (63 : Nat) ({ cls := "MarkupStore$Scribe", name := "putAll", desc := "(Ljava/lang/String;)V" } : Jvm.MethodName)) ∈ ms_tb := ms_i6 73 (by decide +kernel) (by decide +kernel)
theorem ms_k1275 : (Jvm.Cond.instanceMethod ({ cls := "MarkupStore$Scribe", name := "putAll", desc := "(Ljava/lang/String;)V" } : Jvm.MethodName)) ∈ ms_tb := ms_i6 75 (by decide +kernel) (by decide +kernel)
theorem ms_k1276 : (Jvm.Cond.code ({ cls := "MarkupStore$Scribe", name := "putAll", desc := "(Ljava/lang/String;)V" } : Jvm.MethodName) prog_8_method_6_code (3 : Nat) (Option.none : Option Jvm.ClassFile.FieldType)) ∈ ms_tb := ms_i6 76 (by decide +kernel) (by decide +kernel)
theorem ms_k1277 : (Jvm.Cond.methodLink "MarkupStore$Scribe" (105 : Nat) ({ cls := "java/lang/String", name := "length", desc := "()I" } : Jvm.MethodName)) ∈ ms_tb := ms_i6 77 (by decide +kernel) (by decide +kernel)
theorem ms_k1278 : (Jvm.Cond.methodLink "MarkupStore$Scribe" (110 : Nat) ({ cls := "java/lang/String", name := "charAt", desc := "(I)C" } : Jvm.MethodName)) ∈ ms_tb := ms_i6 78 (by decide +kernel) (by decide +kernel)
theorem ms_k1279 : (Jvm.Cond.methodLink "MarkupStore$Scribe" (71 : Nat) ({ cls := "MarkupStore$Scribe", name := "put", desc := "(C)V" } : Jvm.MethodName)) ∈ ms_tb := ms_i6 79 (by decide +kernel) (by decide +kernel)
theorem ms_k1281 : (Jvm.Cond.instanceMethod ({ cls := "MarkupStore$Scribe", name := "put", desc := "(C)V" } : Jvm.MethodName)) ∈ ms_tb := ms_i6 81 (by decide +kernel) (by decide +kernel)
theorem ms_k1282 : (Jvm.Cond.code ({ cls := "MarkupStore$Scribe", name := "put", desc := "(C)V" } : Jvm.MethodName) prog_8_method_7_code (2 : Nat) (Option.none : Option Jvm.ClassFile.FieldType)) ∈ ms_tb := ms_i6 82 (by decide +kernel) (by decide +kernel)
theorem ms_k1283 : (Jvm.Cond.methodLink "MarkupStore$Scribe" (43 : Nat) ({ cls := "MarkupStore$Tree", name := "endOf", desc := "(LMarkupStore$Node;)I" } : Jvm.MethodName)) ∈ ms_tb := ms_i6 83 (by decide +kernel) (by decide +kernel)
theorem ms_k1284 : (Jvm.Cond.methodLink "MarkupStore$Scribe" (47 : Nat) ({ cls := "MarkupStore$Scribe", name := "putStart", desc := "(LMarkupStore$Node;Z)V" } : Jvm.MethodName)) ∈ ms_tb := ms_i6 84 (by decide +kernel) (by decide +kernel)
theorem ms_k1286 : (Jvm.Cond.instanceMethod ({ cls := "MarkupStore$Scribe", name := "putStart", desc := "(LMarkupStore$Node;Z)V" } : Jvm.MethodName)) ∈ ms_tb := ms_i6 86 (by decide +kernel) (by decide +kernel)
theorem ms_k1287 : (Jvm.Cond.code ({ cls := "MarkupStore$Scribe", name := "putStart", desc := "(LMarkupStore$Node;Z)V" } : Jvm.MethodName) prog_8_method_4_code (4 : Nat) (Option.none : Option Jvm.ClassFile.FieldType)) ∈ ms_tb := ms_i6 87 (by decide +kernel) (by decide +kernel)
theorem ms_k1288 : (Jvm.Cond.methodLink "MarkupStore$Scribe" (79 : Nat) ({ cls := "java/util/ArrayList", name := "size", desc := "()I" } : Jvm.MethodName)) ∈ ms_tb := ms_i6 88 (by decide +kernel) (by decide +kernel)
theorem ms_k1289 : (Jvm.Cond.methodLink "MarkupStore$Scribe" (84 : Nat) ({ cls := "java/util/ArrayList", name := "get", desc := "(I)Ljava/lang/Object;" } : Jvm.MethodName)) ∈ ms_tb := ms_i6 89 (by decide +kernel) (by decide +kernel)
theorem ms_k1290 : (Jvm.Cond.classLink "MarkupStore$Scribe" (88 : Nat) "MarkupStore$Attribute") ∈ ms_tb := ms_i6 90 (by decide +kernel) (by decide +kernel)
theorem ms_k1291 : (Jvm.Cond.methodLink "MarkupStore$Scribe" (90 : Nat) ({ cls := "MarkupStore$Attribute", name := "name", desc := "()Ljava/lang/String;" } : Jvm.MethodName)) ∈ ms_tb := ms_i6 91 (by decide +kernel) (by decide +kernel)
theorem ms_k1293 : (Jvm.Cond.methodLink "MarkupStore$Scribe" (96 : Nat) ({ cls := "MarkupStore$Attribute", name := "value", desc := "()Ljava/lang/String;" } : Jvm.MethodName)) ∈ ms_tb := ms_i6 93 (by decide +kernel) (by decide +kernel)
theorem ms_k1295 : (Jvm.Cond.methodLink "MarkupStore$Scribe" (57 : Nat) ({ cls := "MarkupStore$Scribe", name := "putValue", desc := "(Ljava/lang/String;CLjava/lang/String;)V" } : Jvm.MethodName)) ∈ ms_tb := ms_i6 95 (by decide +kernel) (by decide +kernel)
theorem ms_k1297 : (Jvm.Cond.instanceMethod ({ cls := "MarkupStore$Scribe", name := "putValue", desc := "(Ljava/lang/String;CLjava/lang/String;)V" } : Jvm.MethodName)) ∈ ms_tb := ms_i6 97 (by decide +kernel) (by decide +kernel)
theorem ms_k1298 : (Jvm.Cond.code ({ cls := "MarkupStore$Scribe", name := "putValue", desc := "(Ljava/lang/String;CLjava/lang/String;)V" } : Jvm.MethodName) prog_8_method_5_code (6 : Nat) (Option.none : Option Jvm.ClassFile.FieldType)) ∈ ms_tb := ms_i6 98 (by decide +kernel) (by decide +kernel)
theorem ms_k1839 : (Jvm.Cond.sameMethod "MarkupStore$TextReader" "MarkupStore$TextReader" "seen" "(I)C") ∈ ms_tb := ms_i8 159 (by decide +kernel) (by decide +kernel)
theorem ms_k1840 : (Jvm.Cond.selects "MarkupStore$MarkupReader" ({ cls := "MarkupStore$TextReader", name := "seen", desc := "(I)C" } : Jvm.MethodName) ({ cls := "MarkupStore$TextReader", name := "seen", desc := "(I)C" } : Jvm.MethodName)) ∈ ms_tb := ms_i8 160 (by decide +kernel) (by decide +kernel)
theorem ms_k1841 : (Jvm.Cond.selects "MarkupStore$PathReader" ({ cls := "MarkupStore$TextReader", name := "seen", desc := "(I)C" } : Jvm.MethodName) ({ cls := "MarkupStore$TextReader", name := "seen", desc := "(I)C" } : Jvm.MethodName)) ∈ ms_tb := ms_i8 161 (by decide +kernel) (by decide +kernel)
theorem ms_k1842 : (Jvm.Cond.sameMethod "MarkupStore$TextReader" "MarkupStore$TextReader" "failAt" "(I)Z") ∈ ms_tb := ms_i8 162 (by decide +kernel) (by decide +kernel)
theorem ms_k1843 : (Jvm.Cond.selects "MarkupStore$MarkupReader" ({ cls := "MarkupStore$TextReader", name := "failAt", desc := "(I)Z" } : Jvm.MethodName) ({ cls := "MarkupStore$TextReader", name := "failAt", desc := "(I)Z" } : Jvm.MethodName)) ∈ ms_tb := ms_i8 163 (by decide +kernel) (by decide +kernel)
theorem ms_k1844 : (Jvm.Cond.selects "MarkupStore$PathReader" ({ cls := "MarkupStore$TextReader", name := "failAt", desc := "(I)Z" } : Jvm.MethodName) ({ cls := "MarkupStore$TextReader", name := "failAt", desc := "(I)Z" } : Jvm.MethodName)) ∈ ms_tb := ms_i8 164 (by decide +kernel) (by decide +kernel)
theorem ms_p27 : Cond.selects "MarkupStore$Walker" (⟨"MarkupStore$Walker", "stringValueFits", "(LMarkupStore$Node;LMarkupStore$Predicate;)Z"⟩ : MethodName) (⟨"MarkupStore$Walker", "stringValueFits", "(LMarkupStore$Node;LMarkupStore$Predicate;)Z"⟩ : MethodName) ∈ ms_tb := ms_inP 27 (by decide +kernel) (by decide +kernel)
theorem ms_p32 : Cond.selects "MarkupStore$Walker" (⟨"MarkupStore$Walker", "ancestors", "(LMarkupStore$Node;)J"⟩ : MethodName) (⟨"MarkupStore$Walker", "ancestors", "(LMarkupStore$Node;)J"⟩ : MethodName) ∈ ms_tb := ms_inP 32 (by decide +kernel) (by decide +kernel)
theorem ms_p33 : Cond.selects "MarkupStore$Walker" (⟨"MarkupStore$Walker", "children", "(LMarkupStore$Node;)J"⟩ : MethodName) (⟨"MarkupStore$Walker", "children", "(LMarkupStore$Node;)J"⟩ : MethodName) ∈ ms_tb := ms_inP 33 (by decide +kernel) (by decide +kernel)
theorem ms_p39 : Cond.selects "MarkupStore$Scribe" (⟨"MarkupStore$Scribe", "closeUpTo", "(LMarkupStore$Node;LMarkupStore$Node;)V"⟩ : MethodName) (⟨"MarkupStore$Scribe", "closeUpTo", "(LMarkupStore$Node;LMarkupStore$Node;)V"⟩ : MethodName) ∈ ms_tb := ms_inP 39 (by decide +kernel) (by decide +kernel)
theorem ms_p40 : Cond.selects "MarkupStore$Scribe" (⟨"MarkupStore$Scribe", "putAll", "(Ljava/lang/String;)V"⟩ : MethodName) (⟨"MarkupStore$Scribe", "putAll", "(Ljava/lang/String;)V"⟩ : MethodName) ∈ ms_tb := ms_inP 40 (by decide +kernel) (by decide +kernel)
theorem ms_p41 : Cond.selects "MarkupStore$Scribe" (⟨"MarkupStore$Scribe", "put", "(C)V"⟩ : MethodName) (⟨"MarkupStore$Scribe", "put", "(C)V"⟩ : MethodName) ∈ ms_tb := ms_inP 41 (by decide +kernel) (by decide +kernel)
theorem ms_p42 : Cond.selects "MarkupStore$Scribe" (⟨"MarkupStore$Scribe", "putStart", "(LMarkupStore$Node;Z)V"⟩ : MethodName) (⟨"MarkupStore$Scribe", "putStart", "(LMarkupStore$Node;Z)V"⟩ : MethodName) ∈ ms_tb := ms_inP 42 (by decide +kernel) (by decide +kernel)
theorem ms_p43 : Cond.selects "MarkupStore$Scribe" (⟨"MarkupStore$Scribe", "putValue", "(Ljava/lang/String;CLjava/lang/String;)V"⟩ : MethodName) (⟨"MarkupStore$Scribe", "putValue", "(Ljava/lang/String;CLjava/lang/String;)V"⟩ : MethodName) ∈ ms_tb := ms_inP 43 (by decide +kernel) (by decide +kernel)
abbrev bM133 : ByteArray := prog_1_method_8_code
def yM133 : MethodName := ⟨"MarkupStore", "result", "(I)I"⟩
abbrev bM134 : ByteArray := prog_1_method_15_code
def yM134 : MethodName := ⟨"MarkupStore", "root", "()I"⟩
abbrev bM135 : ByteArray := prog_1_method_16_code
def yM135 : MethodName := ⟨"MarkupStore", "nodes", "()I"⟩
abbrev bM136 : ByteArray := prog_1_method_24_code
def yM136 : MethodName := ⟨"MarkupStore", "isText", "(LMarkupStore$Node;)Z"⟩
abbrev bM137 : ByteArray := prog_1_method_27_code
def yM137 : MethodName := ⟨"MarkupStore", "mayBeComment", "(Ljava/lang/String;)Z"⟩
abbrev bM138 : ByteArray := prog_1_method_28_code
def yM138 : MethodName := ⟨"MarkupStore", "isSmallLetter", "(C)Z"⟩
abbrev bM139 : ByteArray := prog_2_method_5_code
def yM139 : MethodName := ⟨"MarkupStore$Attribute", "name", "()Ljava/lang/String;"⟩
abbrev bM140 : ByteArray := prog_2_method_6_code
def yM140 : MethodName := ⟨"MarkupStore$Attribute", "value", "()Ljava/lang/String;"⟩
abbrev bM141 : ByteArray := prog_3_method_2_code
def yM141 : MethodName := ⟨"MarkupStore$MarkupReader", "passesLimits", "()Z"⟩
abbrev bM142 : ByteArray := prog_3_method_4_code
def yM142 : MethodName := ⟨"MarkupStore$MarkupReader", "firstText", "()Ljava/lang/String;"⟩
abbrev bM143 : ByteArray := prog_4_method_2_code
def yM143 : MethodName := ⟨"MarkupStore$Node", "attributeNamed", "(Ljava/lang/String;)LMarkupStore$Attribute;"⟩
abbrev bM144 : ByteArray := prog_4_method_5_code
def yM144 : MethodName := ⟨"MarkupStore$Node", "isOdd", "(I)Z"⟩
abbrev bM145 : ByteArray := prog_4_method_6_code
def yM145 : MethodName := ⟨"MarkupStore$Node", "oddAbove", "(I)I"⟩
abbrev bM146 : ByteArray := prog_4_method_7_code
def yM146 : MethodName := ⟨"MarkupStore$Node", "oddBelow", "(I)I"⟩
abbrev bM147 : ByteArray := prog_6_method_5_code
def yM147 : MethodName := ⟨"MarkupStore$PathReader", "isAxis", "(C)Z"⟩
abbrev bM148 : ByteArray := prog_6_method_6_code
def yM148 : MethodName := ⟨"MarkupStore$PathReader", "isKindSign", "(C)Z"⟩
abbrev bM149 : ByteArray := prog_6_method_8_code
def yM149 : MethodName := ⟨"MarkupStore$PathReader", "isDigit", "(C)Z"⟩
abbrev bM150 : ByteArray := prog_8_method_7_code
def yM150 : MethodName := ⟨"MarkupStore$Scribe", "put", "(C)V"⟩
abbrev bM151 : ByteArray := prog_9_method_2_code
def yM151 : MethodName := ⟨"MarkupStore$Step", "goesBackwards", "()Z"⟩
abbrev bM152 : ByteArray := prog_9_method_3_code
def yM152 : MethodName := ⟨"MarkupStore$Step", "takes", "(LMarkupStore$Node;)Z"⟩
abbrev bM153 : ByteArray := prog_10_method_2_code
def yM153 : MethodName := ⟨"MarkupStore$TextReader", "failed", "()Z"⟩
abbrev bM154 : ByteArray := prog_10_method_3_code
def yM154 : MethodName := ⟨"MarkupStore$TextReader", "failAt", "(I)Z"⟩
abbrev bM155 : ByteArray := prog_10_method_4_code
def yM155 : MethodName := ⟨"MarkupStore$TextReader", "seen", "(I)C"⟩
abbrev bM156 : ByteArray := prog_10_method_5_code
def yM156 : MethodName := ⟨"MarkupStore$TextReader", "take", "(C)Z"⟩
abbrev bM157 : ByteArray := prog_10_method_7_code
def yM157 : MethodName := ⟨"MarkupStore$TextReader", "readEnd", "()Z"⟩
abbrev bM158 : ByteArray := prog_11_method_2_code
def yM158 : MethodName := ⟨"MarkupStore$Tree", "find", "(I)LMarkupStore$Node;"⟩
abbrev bM159 : ByteArray := prog_11_method_3_code
def yM159 : MethodName := ⟨"MarkupStore$Tree", "mayMake", "(I)Z"⟩
abbrev bM160 : ByteArray := prog_11_method_4_code
def yM160 : MethodName := ⟨"MarkupStore$Tree", "endOf", "(LMarkupStore$Node;)I"⟩
abbrev bM161 : ByteArray := prog_11_method_5_code
def yM161 : MethodName := ⟨"MarkupStore$Tree", "childBefore", "(LMarkupStore$Node;I)LMarkupStore$Node;"⟩
abbrev bM162 : ByteArray := prog_11_method_6_code
def yM162 : MethodName := ⟨"MarkupStore$Tree", "childFrom", "(LMarkupStore$Node;I)LMarkupStore$Node;"⟩
abbrev bM163 : ByteArray := prog_11_method_7_code
def yM163 : MethodName := ⟨"MarkupStore$Tree", "childrenWithin", "(LMarkupStore$Node;II)I"⟩
abbrev bM164 : ByteArray := prog_11_method_13_code
def yM164 : MethodName := ⟨"MarkupStore$Tree", "setPlaces", "()V"⟩
abbrev bM165 : ByteArray := prog_12_method_2_code
def yM165 : MethodName := ⟨"MarkupStore$Walker", "has", "(JI)Z"⟩
abbrev bM166 : ByteArray := prog_12_method_6_code
def yM166 : MethodName := ⟨"MarkupStore$Walker", "withAttribute", "(LMarkupStore$Predicate;)J"⟩
abbrev bM167 : ByteArray := prog_12_method_8_code
def yM167 : MethodName := ⟨"MarkupStore$Walker", "stringValueFits", "(LMarkupStore$Node;LMarkupStore$Predicate;)Z"⟩
abbrev bM168 : ByteArray := prog_12_method_14_code
def yM168 : MethodName := ⟨"MarkupStore$Walker", "atPosition", "(IJZ)J"⟩
abbrev bM169 : ByteArray := prog_12_method_17_code
def yM169 : MethodName := ⟨"MarkupStore$Walker", "ancestors", "(LMarkupStore$Node;)J"⟩
abbrev bM170 : ByteArray := prog_12_method_18_code
def yM170 : MethodName := ⟨"MarkupStore$Walker", "children", "(LMarkupStore$Node;)J"⟩
abbrev bM171 : ByteArray := prog_12_method_19_code
def yM171 : MethodName := ⟨"MarkupStore$Walker", "range", "(II)J"⟩
abbrev bM172 : ByteArray := prog_1_method_11_code
def yM172 : MethodName := ⟨"MarkupStore", "kind", "(I)I"⟩
abbrev bM173 : ByteArray := prog_1_method_12_code
def yM173 : MethodName := ⟨"MarkupStore", "node", "(II)I"⟩
abbrev bM174 : ByteArray := prog_1_method_13_code
def yM174 : MethodName := ⟨"MarkupStore", "letter", "(II)I"⟩
abbrev bM175 : ByteArray := prog_1_method_14_code
def yM175 : MethodName := ⟨"MarkupStore", "label", "(II)I"⟩
abbrev bM176 : ByteArray := prog_1_method_26_code
def yM176 : MethodName := ⟨"MarkupStore", "isName", "(Ljava/lang/String;)Z"⟩
abbrev bM177 : ByteArray := prog_3_method_12_code
def yM177 : MethodName := ⟨"MarkupStore$MarkupReader", "readEndTag", "(LMarkupStore$Node;)Z"⟩
abbrev bM178 : ByteArray := prog_6_method_9_code
def yM178 : MethodName := ⟨"MarkupStore$PathReader", "readPosition", "()I"⟩
abbrev bM179 : ByteArray := prog_8_method_6_code
def yM179 : MethodName := ⟨"MarkupStore$Scribe", "putAll", "(Ljava/lang/String;)V"⟩
abbrev bM180 : ByteArray := prog_12_method_7_code
def yM180 : MethodName := ⟨"MarkupStore$Walker", "goals", "(LMarkupStore$Predicate;)J"⟩
abbrev bM181 : ByteArray := prog_12_method_15_code
def yM181 : MethodName := ⟨"MarkupStore$Walker", "documentAxis", "(C)J"⟩
abbrev bM182 : ByteArray := prog_12_method_16_code
def yM182 : MethodName := ⟨"MarkupStore$Walker", "axis", "(CLMarkupStore$Node;)J"⟩
abbrev bM183 : ByteArray := prog_1_method_25_code
def yM183 : MethodName := ⟨"MarkupStore", "mayBecome", "(ILjava/lang/String;)Z"⟩
abbrev bM184 : ByteArray := prog_8_method_3_code
def yM184 : MethodName := ⟨"MarkupStore$Scribe", "closeUpTo", "(LMarkupStore$Node;LMarkupStore$Node;)V"⟩
abbrev bM185 : ByteArray := prog_8_method_5_code
def yM185 : MethodName := ⟨"MarkupStore$Scribe", "putValue", "(Ljava/lang/String;CLjava/lang/String;)V"⟩
abbrev bM186 : ByteArray := prog_8_method_4_code
def yM186 : MethodName := ⟨"MarkupStore$Scribe", "putStart", "(LMarkupStore$Node;Z)V"⟩
abbrev bM187 : ByteArray := prog_8_method_2_code
def yM187 : MethodName := ⟨"MarkupStore$Scribe", "write", "(LMarkupStore$Tree;)V"⟩
theorem d133_0 : decode bM133 0 = .ok (.iload_n 1, 1) := by decide +kernel
theorem d133_1 : decode bM133 1 = .ok (.ifCond .lt 20, 3) := by decide +kernel
theorem d133_4 : decode bM133 4 = .ok (.iload_n 1, 1) := by decide +kernel
theorem d133_5 : decode bM133 5 = .ok (.aload_n 0, 1) := by decide +kernel
theorem d133_6 : decode bM133 6 = .ok (.getfield 30, 3) := by decide +kernel
theorem d133_9 : decode bM133 9 = .ok (.if_icmp .ge 12, 3) := by decide +kernel
theorem d133_12 : decode bM133 12 = .ok (.aload_n 0, 1) := by decide +kernel
theorem d133_13 : decode bM133 13 = .ok (.getfield 26, 3) := by decide +kernel
theorem d133_16 : decode bM133 16 = .ok (.iload_n 1, 1) := by decide +kernel
theorem d133_17 : decode bM133 17 = .ok (.iaload, 1) := by decide +kernel
theorem d133_18 : decode bM133 18 = .ok (.goto 6, 3) := by decide +kernel
theorem d133_21 : decode bM133 21 = .ok (.sipush (-1000), 3) := by decide +kernel
theorem d133_24 : decode bM133 24 = .ok (.ireturn, 1) := by decide +kernel
theorem d134_0 : decode bM134 0 = .ok (.aload_n 0, 1) := by decide +kernel
theorem d134_1 : decode bM134 1 = .ok (.getfield 22, 3) := by decide +kernel
theorem d134_4 : decode bM134 4 = .ok (.getfield 200, 3) := by decide +kernel
theorem d134_7 : decode bM134 7 = .ok (.ifCond .ne 9, 3) := by decide +kernel
theorem d134_10 : decode bM134 10 = .ok (.sipush (-1000), 3) := by decide +kernel
theorem d134_13 : decode bM134 13 = .ok (.goto 15, 3) := by decide +kernel
theorem d134_16 : decode bM134 16 = .ok (.aload_n 0, 1) := by decide +kernel
theorem d134_17 : decode bM134 17 = .ok (.getfield 22, 3) := by decide +kernel
theorem d134_20 : decode bM134 20 = .ok (.getfield 216, 3) := by decide +kernel
theorem d134_23 : decode bM134 23 = .ok (.iconst 0, 1) := by decide +kernel
theorem d134_24 : decode bM134 24 = .ok (.aaload, 1) := by decide +kernel
theorem d134_25 : decode bM134 25 = .ok (.getfield 197, 3) := by decide +kernel
theorem d134_28 : decode bM134 28 = .ok (.ireturn, 1) := by decide +kernel
theorem d135_0 : decode bM135 0 = .ok (.aload_n 0, 1) := by decide +kernel
theorem d135_1 : decode bM135 1 = .ok (.getfield 22, 3) := by decide +kernel
theorem d135_4 : decode bM135 4 = .ok (.getfield 200, 3) := by decide +kernel
theorem d135_7 : decode bM135 7 = .ok (.ireturn, 1) := by decide +kernel
theorem d136_0 : decode bM136 0 = .ok (.aload_n 0, 1) := by decide +kernel
theorem d136_1 : decode bM136 1 = .ok (.ifnull 15, 3) := by decide +kernel
theorem d136_4 : decode bM136 4 = .ok (.aload_n 0, 1) := by decide +kernel
theorem d136_5 : decode bM136 5 = .ok (.getfield 100, 3) := by decide +kernel
theorem d136_8 : decode bM136 8 = .ok (.iconst 2, 1) := by decide +kernel
theorem d136_9 : decode bM136 9 = .ok (.if_icmp .ne 7, 3) := by decide +kernel
theorem d136_12 : decode bM136 12 = .ok (.iconst 1, 1) := by decide +kernel
theorem d136_13 : decode bM136 13 = .ok (.goto 4, 3) := by decide +kernel
theorem d136_16 : decode bM136 16 = .ok (.iconst 0, 1) := by decide +kernel
theorem d136_17 : decode bM136 17 = .ok (.ireturn, 1) := by decide +kernel
theorem d137_0 : decode bM137 0 = .ok (.iconst 0, 1) := by decide +kernel
theorem d137_1 : decode bM137 1 = .ok (.istore_n 1, 1) := by decide +kernel
theorem d137_2 : decode bM137 2 = .ok (.iload_n 1, 1) := by decide +kernel
theorem d137_3 : decode bM137 3 = .ok (.aload_n 0, 1) := by decide +kernel
theorem d137_4 : decode bM137 4 = .ok (.invokevirtual 147, 3) := by decide +kernel
theorem d137_7 : decode bM137 7 = .ok (.if_icmp .ge 53, 3) := by decide +kernel
theorem d137_10 : decode bM137 10 = .ok (.iload_n 1, 1) := by decide +kernel
theorem d137_11 : decode bM137 11 = .ok (.iconst 1, 1) := by decide +kernel
theorem d137_12 : decode bM137 12 = .ok (.iadd, 1) := by decide +kernel
theorem d137_13 : decode bM137 13 = .ok (.aload_n 0, 1) := by decide +kernel
theorem d137_14 : decode bM137 14 = .ok (.invokevirtual 147, 3) := by decide +kernel
theorem d137_17 : decode bM137 17 = .ok (.if_icmp .eq 15, 3) := by decide +kernel
theorem d137_20 : decode bM137 20 = .ok (.aload_n 0, 1) := by decide +kernel
theorem d137_21 : decode bM137 21 = .ok (.iload_n 1, 1) := by decide +kernel
theorem d137_22 : decode bM137 22 = .ok (.iconst 1, 1) := by decide +kernel
theorem d137_23 : decode bM137 23 = .ok (.iadd, 1) := by decide +kernel
theorem d137_24 : decode bM137 24 = .ok (.invokevirtual 212, 3) := by decide +kernel
theorem d137_27 : decode bM137 27 = .ok (.bipush 45, 2) := by decide +kernel
theorem d137_29 : decode bM137 29 = .ok (.if_icmp .ne 7, 3) := by decide +kernel
theorem d137_32 : decode bM137 32 = .ok (.iconst 1, 1) := by decide +kernel
theorem d137_33 : decode bM137 33 = .ok (.goto 4, 3) := by decide +kernel
theorem d137_36 : decode bM137 36 = .ok (.iconst 0, 1) := by decide +kernel
theorem d137_37 : decode bM137 37 = .ok (.istore_n 2, 1) := by decide +kernel
theorem d137_38 : decode bM137 38 = .ok (.aload_n 0, 1) := by decide +kernel
theorem d137_39 : decode bM137 39 = .ok (.iload_n 1, 1) := by decide +kernel
theorem d137_40 : decode bM137 40 = .ok (.invokevirtual 212, 3) := by decide +kernel
theorem d137_43 : decode bM137 43 = .ok (.bipush 45, 2) := by decide +kernel
theorem d137_45 : decode bM137 45 = .ok (.if_icmp .ne 9, 3) := by decide +kernel
theorem d137_48 : decode bM137 48 = .ok (.iload_n 2, 1) := by decide +kernel
theorem d137_49 : decode bM137 49 = .ok (.ifCond .eq 5, 3) := by decide +kernel
theorem d137_52 : decode bM137 52 = .ok (.iconst 0, 1) := by decide +kernel
theorem d137_53 : decode bM137 53 = .ok (.ireturn, 1) := by decide +kernel
theorem d137_54 : decode bM137 54 = .ok (.iinc 1 1, 3) := by decide +kernel
theorem d137_57 : decode bM137 57 = .ok (.goto (-55), 3) := by decide +kernel
theorem d137_60 : decode bM137 60 = .ok (.iconst 1, 1) := by decide +kernel
theorem d137_61 : decode bM137 61 = .ok (.ireturn, 1) := by decide +kernel
theorem d138_0 : decode bM138 0 = .ok (.iload_n 0, 1) := by decide +kernel
theorem d138_1 : decode bM138 1 = .ok (.bipush 97, 2) := by decide +kernel
theorem d138_3 : decode bM138 3 = .ok (.if_icmp .lt 13, 3) := by decide +kernel
theorem d138_6 : decode bM138 6 = .ok (.iload_n 0, 1) := by decide +kernel
theorem d138_7 : decode bM138 7 = .ok (.bipush 122, 2) := by decide +kernel
theorem d138_9 : decode bM138 9 = .ok (.if_icmp .gt 7, 3) := by decide +kernel
theorem d138_12 : decode bM138 12 = .ok (.iconst 1, 1) := by decide +kernel
theorem d138_13 : decode bM138 13 = .ok (.goto 4, 3) := by decide +kernel
theorem d138_16 : decode bM138 16 = .ok (.iconst 0, 1) := by decide +kernel
theorem d138_17 : decode bM138 17 = .ok (.ireturn, 1) := by decide +kernel
theorem d139_0 : decode bM139 0 = .ok (.aload_n 0, 1) := by decide +kernel
theorem d139_1 : decode bM139 1 = .ok (.getfield 7, 3) := by decide +kernel
theorem d139_4 : decode bM139 4 = .ok (.areturn, 1) := by decide +kernel
theorem d140_0 : decode bM140 0 = .ok (.aload_n 0, 1) := by decide +kernel
theorem d140_1 : decode bM140 1 = .ok (.getfield 13, 3) := by decide +kernel
theorem d140_4 : decode bM140 4 = .ok (.areturn, 1) := by decide +kernel
theorem d141_0 : decode bM141 0 = .ok (.iconst 0, 1) := by decide +kernel
theorem d141_1 : decode bM141 1 = .ok (.istore_n 1, 1) := by decide +kernel
theorem d141_2 : decode bM141 2 = .ok (.iload_n 1, 1) := by decide +kernel
theorem d141_3 : decode bM141 3 = .ok (.aload_n 0, 1) := by decide +kernel
theorem d141_4 : decode bM141 4 = .ok (.getfield 14, 3) := by decide +kernel
theorem d141_7 : decode bM141 7 = .ok (.invokevirtual 28, 3) := by decide +kernel
theorem d141_10 : decode bM141 10 = .ok (.if_icmp .ge 31, 3) := by decide +kernel
theorem d141_13 : decode bM141 13 = .ok (.aload_n 0, 1) := by decide +kernel
theorem d141_14 : decode bM141 14 = .ok (.getfield 14, 3) := by decide +kernel
theorem d141_17 : decode bM141 17 = .ok (.iload_n 1, 1) := by decide +kernel
theorem d141_18 : decode bM141 18 = .ok (.invokevirtual 32, 3) := by decide +kernel
theorem d141_21 : decode bM141 21 = .ok (.checkcast 36, 3) := by decide +kernel
theorem d141_24 : decode bM141 24 = .ok (.getfield 38, 3) := by decide +kernel
theorem d141_27 : decode bM141 27 = .ok (.arraylength, 1) := by decide +kernel
theorem d141_28 : decode bM141 28 = .ok (.bipush 16, 2) := by decide +kernel
theorem d141_30 : decode bM141 30 = .ok (.if_icmp .le 5, 3) := by decide +kernel
theorem d141_33 : decode bM141 33 = .ok (.iconst 1, 1) := by decide +kernel
theorem d141_34 : decode bM141 34 = .ok (.ireturn, 1) := by decide +kernel
theorem d141_35 : decode bM141 35 = .ok (.iinc 1 1, 3) := by decide +kernel
theorem d141_38 : decode bM141 38 = .ok (.goto (-36), 3) := by decide +kernel
theorem d141_41 : decode bM141 41 = .ok (.aload_n 0, 1) := by decide +kernel
theorem d141_42 : decode bM141 42 = .ok (.getfield 24, 3) := by decide +kernel
theorem d141_45 : decode bM141 45 = .ok (.ireturn, 1) := by decide +kernel
theorem d142_0 : decode bM142 0 = .ok (.aload_n 0, 1) := by decide +kernel
theorem d142_1 : decode bM142 1 = .ok (.getfield 14, 3) := by decide +kernel
theorem d142_4 : decode bM142 4 = .ok (.invokevirtual 42, 3) := by decide +kernel
theorem d142_7 : decode bM142 7 = .ok (.ifCond .eq 8, 3) := by decide +kernel
theorem d142_10 : decode bM142 10 = .ok (.ldc 50, 2) := by decide +kernel
theorem d142_12 : decode bM142 12 = .ok (.goto 17, 3) := by decide +kernel
theorem d142_15 : decode bM142 15 = .ok (.aload_n 0, 1) := by decide +kernel
theorem d142_16 : decode bM142 16 = .ok (.getfield 14, 3) := by decide +kernel
theorem d142_19 : decode bM142 19 = .ok (.iconst 0, 1) := by decide +kernel
theorem d142_20 : decode bM142 20 = .ok (.invokevirtual 32, 3) := by decide +kernel
theorem d142_23 : decode bM142 23 = .ok (.checkcast 36, 3) := by decide +kernel
theorem d142_26 : decode bM142 26 = .ok (.getfield 52, 3) := by decide +kernel
theorem d142_29 : decode bM142 29 = .ok (.areturn, 1) := by decide +kernel
theorem d143_0 : decode bM143 0 = .ok (.iconst 0, 1) := by decide +kernel
theorem d143_1 : decode bM143 1 = .ok (.istore_n 2, 1) := by decide +kernel
theorem d143_2 : decode bM143 2 = .ok (.iload_n 2, 1) := by decide +kernel
theorem d143_3 : decode bM143 3 = .ok (.aload_n 0, 1) := by decide +kernel
theorem d143_4 : decode bM143 4 = .ok (.getfield 29, 3) := by decide +kernel
theorem d143_7 : decode bM143 7 = .ok (.invokevirtual 48, 3) := by decide +kernel
theorem d143_10 : decode bM143 10 = .ok (.if_icmp .ge 42, 3) := by decide +kernel
theorem d143_13 : decode bM143 13 = .ok (.aload_n 0, 1) := by decide +kernel
theorem d143_14 : decode bM143 14 = .ok (.getfield 29, 3) := by decide +kernel
theorem d143_17 : decode bM143 17 = .ok (.iload_n 2, 1) := by decide +kernel
theorem d143_18 : decode bM143 18 = .ok (.invokevirtual 52, 3) := by decide +kernel
theorem d143_21 : decode bM143 21 = .ok (.checkcast 56, 3) := by decide +kernel
theorem d143_24 : decode bM143 24 = .ok (.invokevirtual 58, 3) := by decide +kernel
theorem d143_27 : decode bM143 27 = .ok (.aload_n 1, 1) := by decide +kernel
theorem d143_28 : decode bM143 28 = .ok (.invokevirtual 62, 3) := by decide +kernel
theorem d143_31 : decode bM143 31 = .ok (.ifCond .eq 15, 3) := by decide +kernel
theorem d143_34 : decode bM143 34 = .ok (.aload_n 0, 1) := by decide +kernel
theorem d143_35 : decode bM143 35 = .ok (.getfield 29, 3) := by decide +kernel
theorem d143_38 : decode bM143 38 = .ok (.iload_n 2, 1) := by decide +kernel
theorem d143_39 : decode bM143 39 = .ok (.invokevirtual 52, 3) := by decide +kernel
theorem d143_42 : decode bM143 42 = .ok (.checkcast 56, 3) := by decide +kernel
theorem d143_45 : decode bM143 45 = .ok (.areturn, 1) := by decide +kernel
theorem d143_46 : decode bM143 46 = .ok (.iinc 2 1, 3) := by decide +kernel
theorem d143_49 : decode bM143 49 = .ok (.goto (-47), 3) := by decide +kernel
theorem d143_52 : decode bM143 52 = .ok (.aconst_null, 1) := by decide +kernel
theorem d143_53 : decode bM143 53 = .ok (.areturn, 1) := by decide +kernel
theorem d144_0 : decode bM144 0 = .ok (.iload_n 0, 1) := by decide +kernel
theorem d144_1 : decode bM144 1 = .ok (.iconst 1, 1) := by decide +kernel
theorem d144_2 : decode bM144 2 = .ok (.iand, 1) := by decide +kernel
theorem d144_3 : decode bM144 3 = .ok (.iconst 1, 1) := by decide +kernel
theorem d144_4 : decode bM144 4 = .ok (.if_icmp .ne 7, 3) := by decide +kernel
theorem d144_7 : decode bM144 7 = .ok (.iconst 1, 1) := by decide +kernel
theorem d144_8 : decode bM144 8 = .ok (.goto 4, 3) := by decide +kernel
theorem d144_11 : decode bM144 11 = .ok (.iconst 0, 1) := by decide +kernel
theorem d144_12 : decode bM144 12 = .ok (.ireturn, 1) := by decide +kernel
theorem d145_0 : decode bM145 0 = .ok (.iload_n 0, 1) := by decide +kernel
theorem d145_1 : decode bM145 1 = .ok (.invokestatic 81, 3) := by decide +kernel
theorem d145_4 : decode bM145 4 = .ok (.ifCond .eq 9, 3) := by decide +kernel
theorem d145_7 : decode bM145 7 = .ok (.iload_n 0, 1) := by decide +kernel
theorem d145_8 : decode bM145 8 = .ok (.iconst 2, 1) := by decide +kernel
theorem d145_9 : decode bM145 9 = .ok (.iadd, 1) := by decide +kernel
theorem d145_10 : decode bM145 10 = .ok (.goto 6, 3) := by decide +kernel
theorem d145_13 : decode bM145 13 = .ok (.iload_n 0, 1) := by decide +kernel
theorem d145_14 : decode bM145 14 = .ok (.iconst 1, 1) := by decide +kernel
theorem d145_15 : decode bM145 15 = .ok (.iadd, 1) := by decide +kernel
theorem d145_16 : decode bM145 16 = .ok (.ireturn, 1) := by decide +kernel
theorem d146_0 : decode bM146 0 = .ok (.iload_n 0, 1) := by decide +kernel
theorem d146_1 : decode bM146 1 = .ok (.invokestatic 81, 3) := by decide +kernel
theorem d146_4 : decode bM146 4 = .ok (.ifCond .eq 9, 3) := by decide +kernel
theorem d146_7 : decode bM146 7 = .ok (.iload_n 0, 1) := by decide +kernel
theorem d146_8 : decode bM146 8 = .ok (.iconst 2, 1) := by decide +kernel
theorem d146_9 : decode bM146 9 = .ok (.isub, 1) := by decide +kernel
theorem d146_10 : decode bM146 10 = .ok (.goto 6, 3) := by decide +kernel
theorem d146_13 : decode bM146 13 = .ok (.iload_n 0, 1) := by decide +kernel
theorem d146_14 : decode bM146 14 = .ok (.iconst 1, 1) := by decide +kernel
theorem d146_15 : decode bM146 15 = .ok (.isub, 1) := by decide +kernel
theorem d146_16 : decode bM146 16 = .ok (.ireturn, 1) := by decide +kernel
theorem d147_0 : decode bM147 0 = .ok (.ldc 103, 2) := by decide +kernel
theorem d147_2 : decode bM147 2 = .ok (.iload_n 0, 1) := by decide +kernel
theorem d147_3 : decode bM147 3 = .ok (.invokevirtual 105, 3) := by decide +kernel
theorem d147_6 : decode bM147 6 = .ok (.ifCond .lt 7, 3) := by decide +kernel
theorem d147_9 : decode bM147 9 = .ok (.iconst 1, 1) := by decide +kernel
theorem d147_10 : decode bM147 10 = .ok (.goto 4, 3) := by decide +kernel
theorem d147_13 : decode bM147 13 = .ok (.iconst 0, 1) := by decide +kernel
theorem d147_14 : decode bM147 14 = .ok (.ireturn, 1) := by decide +kernel
theorem d148_0 : decode bM148 0 = .ok (.ldc 109, 2) := by decide +kernel
theorem d148_2 : decode bM148 2 = .ok (.iload_n 0, 1) := by decide +kernel
theorem d148_3 : decode bM148 3 = .ok (.invokevirtual 105, 3) := by decide +kernel
theorem d148_6 : decode bM148 6 = .ok (.ifCond .lt 7, 3) := by decide +kernel
theorem d148_9 : decode bM148 9 = .ok (.iconst 1, 1) := by decide +kernel
theorem d148_10 : decode bM148 10 = .ok (.goto 4, 3) := by decide +kernel
theorem d148_13 : decode bM148 13 = .ok (.iconst 0, 1) := by decide +kernel
theorem d148_14 : decode bM148 14 = .ok (.ireturn, 1) := by decide +kernel
theorem d149_0 : decode bM149 0 = .ok (.iload_n 0, 1) := by decide +kernel
theorem d149_1 : decode bM149 1 = .ok (.bipush 48, 2) := by decide +kernel
theorem d149_3 : decode bM149 3 = .ok (.if_icmp .lt 13, 3) := by decide +kernel
theorem d149_6 : decode bM149 6 = .ok (.iload_n 0, 1) := by decide +kernel
theorem d149_7 : decode bM149 7 = .ok (.bipush 57, 2) := by decide +kernel
theorem d149_9 : decode bM149 9 = .ok (.if_icmp .gt 7, 3) := by decide +kernel
theorem d149_12 : decode bM149 12 = .ok (.iconst 1, 1) := by decide +kernel
theorem d149_13 : decode bM149 13 = .ok (.goto 4, 3) := by decide +kernel
theorem d149_16 : decode bM149 16 = .ok (.iconst 0, 1) := by decide +kernel
theorem d149_17 : decode bM149 17 = .ok (.ireturn, 1) := by decide +kernel
theorem d150_0 : decode bM150 0 = .ok (.aload_n 0, 1) := by decide +kernel
theorem d150_1 : decode bM150 1 = .ok (.getfield 15, 3) := by decide +kernel
theorem d150_4 : decode bM150 4 = .ok (.aload_n 0, 1) := by decide +kernel
theorem d150_5 : decode bM150 5 = .ok (.getfield 9, 3) := by decide +kernel
theorem d150_8 : decode bM150 8 = .ok (.if_icmp .ne 8, 3) := by decide +kernel
theorem d150_11 : decode bM150 11 = .ok (.aload_n 0, 1) := by decide +kernel
theorem d150_12 : decode bM150 12 = .ok (.iload_n 1, 1) := by decide +kernel
theorem d150_13 : decode bM150 13 = .ok (.putfield 18, 3) := by decide +kernel
theorem d150_16 : decode bM150 16 = .ok (.aload_n 0, 1) := by decide +kernel
theorem d150_17 : decode bM150 17 = .ok (.dup, 1) := by decide +kernel
theorem d150_18 : decode bM150 18 = .ok (.getfield 15, 3) := by decide +kernel
theorem d150_21 : decode bM150 21 = .ok (.iconst 1, 1) := by decide +kernel
theorem d150_22 : decode bM150 22 = .ok (.iadd, 1) := by decide +kernel
theorem d150_23 : decode bM150 23 = .ok (.putfield 15, 3) := by decide +kernel
theorem d150_26 : decode bM150 26 = .ok (.return_, 1) := by decide +kernel
theorem d151_0 : decode bM151 0 = .ok (.aload_n 0, 1) := by decide +kernel
theorem d151_1 : decode bM151 1 = .ok (.getfield 11, 3) := by decide +kernel
theorem d151_4 : decode bM151 4 = .ok (.bipush 65, 2) := by decide +kernel
theorem d151_6 : decode bM151 6 = .ok (.if_icmp .eq 30, 3) := by decide +kernel
theorem d151_9 : decode bM151 9 = .ok (.aload_n 0, 1) := by decide +kernel
theorem d151_10 : decode bM151 10 = .ok (.getfield 11, 3) := by decide +kernel
theorem d151_13 : decode bM151 13 = .ok (.bipush 66, 2) := by decide +kernel
theorem d151_15 : decode bM151 15 = .ok (.if_icmp .eq 21, 3) := by decide +kernel
theorem d151_18 : decode bM151 18 = .ok (.aload_n 0, 1) := by decide +kernel
theorem d151_19 : decode bM151 19 = .ok (.getfield 11, 3) := by decide +kernel
theorem d151_22 : decode bM151 22 = .ok (.bipush 76, 2) := by decide +kernel
theorem d151_24 : decode bM151 24 = .ok (.if_icmp .eq 12, 3) := by decide +kernel
theorem d151_27 : decode bM151 27 = .ok (.aload_n 0, 1) := by decide +kernel
theorem d151_28 : decode bM151 28 = .ok (.getfield 11, 3) := by decide +kernel
theorem d151_31 : decode bM151 31 = .ok (.bipush 82, 2) := by decide +kernel
theorem d151_33 : decode bM151 33 = .ok (.if_icmp .ne 7, 3) := by decide +kernel
theorem d151_36 : decode bM151 36 = .ok (.iconst 1, 1) := by decide +kernel
theorem d151_37 : decode bM151 37 = .ok (.goto 4, 3) := by decide +kernel
theorem d151_40 : decode bM151 40 = .ok (.iconst 0, 1) := by decide +kernel
theorem d151_41 : decode bM151 41 = .ok (.ireturn, 1) := by decide +kernel
theorem d152_0 : decode bM152 0 = .ok (.aload_n 0, 1) := by decide +kernel
theorem d152_1 : decode bM152 1 = .ok (.getfield 15, 3) := by decide +kernel
theorem d152_4 : decode bM152 4 = .ok (.lookupswitch 88 #[(35, 60), (37, 74), (42, 46), (46, 44)], 44) := by decide +kernel
theorem d152_48 : decode bM152 48 = .ok (.iconst 1, 1) := by decide +kernel
theorem d152_49 : decode bM152 49 = .ok (.ireturn, 1) := by decide +kernel
theorem d152_50 : decode bM152 50 = .ok (.aload_n 1, 1) := by decide +kernel
theorem d152_51 : decode bM152 51 = .ok (.getfield 35, 3) := by decide +kernel
theorem d152_54 : decode bM152 54 = .ok (.iconst 1, 1) := by decide +kernel
theorem d152_55 : decode bM152 55 = .ok (.if_icmp .ne 7, 3) := by decide +kernel
theorem d152_58 : decode bM152 58 = .ok (.iconst 1, 1) := by decide +kernel
theorem d152_59 : decode bM152 59 = .ok (.goto 4, 3) := by decide +kernel
theorem d152_62 : decode bM152 62 = .ok (.iconst 0, 1) := by decide +kernel
theorem d152_63 : decode bM152 63 = .ok (.ireturn, 1) := by decide +kernel
theorem d152_64 : decode bM152 64 = .ok (.aload_n 1, 1) := by decide +kernel
theorem d152_65 : decode bM152 65 = .ok (.getfield 35, 3) := by decide +kernel
theorem d152_68 : decode bM152 68 = .ok (.iconst 2, 1) := by decide +kernel
theorem d152_69 : decode bM152 69 = .ok (.if_icmp .ne 7, 3) := by decide +kernel
theorem d152_72 : decode bM152 72 = .ok (.iconst 1, 1) := by decide +kernel
theorem d152_73 : decode bM152 73 = .ok (.goto 4, 3) := by decide +kernel
theorem d152_76 : decode bM152 76 = .ok (.iconst 0, 1) := by decide +kernel
theorem d152_77 : decode bM152 77 = .ok (.ireturn, 1) := by decide +kernel
theorem d152_78 : decode bM152 78 = .ok (.aload_n 1, 1) := by decide +kernel
theorem d152_79 : decode bM152 79 = .ok (.getfield 35, 3) := by decide +kernel
theorem d152_82 : decode bM152 82 = .ok (.iconst 3, 1) := by decide +kernel
theorem d152_83 : decode bM152 83 = .ok (.if_icmp .ne 7, 3) := by decide +kernel
theorem d152_86 : decode bM152 86 = .ok (.iconst 1, 1) := by decide +kernel
theorem d152_87 : decode bM152 87 = .ok (.goto 4, 3) := by decide +kernel
theorem d152_90 : decode bM152 90 = .ok (.iconst 0, 1) := by decide +kernel
theorem d152_91 : decode bM152 91 = .ok (.ireturn, 1) := by decide +kernel
theorem d152_92 : decode bM152 92 = .ok (.aload_n 1, 1) := by decide +kernel
theorem d152_93 : decode bM152 93 = .ok (.getfield 35, 3) := by decide +kernel
theorem d152_96 : decode bM152 96 = .ok (.iconst 1, 1) := by decide +kernel
theorem d152_97 : decode bM152 97 = .ok (.if_icmp .ne 21, 3) := by decide +kernel
theorem d152_100 : decode bM152 100 = .ok (.aload_n 1, 1) := by decide +kernel
theorem d152_101 : decode bM152 101 = .ok (.getfield 41, 3) := by decide +kernel
theorem d152_104 : decode bM152 104 = .ok (.aload_n 0, 1) := by decide +kernel
theorem d152_105 : decode bM152 105 = .ok (.getfield 20, 3) := by decide +kernel
theorem d152_108 : decode bM152 108 = .ok (.invokevirtual 44, 3) := by decide +kernel
theorem d152_111 : decode bM152 111 = .ok (.ifCond .eq 7, 3) := by decide +kernel
theorem d152_114 : decode bM152 114 = .ok (.iconst 1, 1) := by decide +kernel
theorem d152_115 : decode bM152 115 = .ok (.goto 4, 3) := by decide +kernel
theorem d152_118 : decode bM152 118 = .ok (.iconst 0, 1) := by decide +kernel
theorem d152_119 : decode bM152 119 = .ok (.ireturn, 1) := by decide +kernel
theorem d153_0 : decode bM153 0 = .ok (.aload_n 0, 1) := by decide +kernel
theorem d153_1 : decode bM153 1 = .ok (.getfield 19, 3) := by decide +kernel
theorem d153_4 : decode bM153 4 = .ok (.iconst (-1), 1) := by decide +kernel
theorem d153_5 : decode bM153 5 = .ok (.if_icmp .eq 7, 3) := by decide +kernel
theorem d153_8 : decode bM153 8 = .ok (.iconst 1, 1) := by decide +kernel
theorem d153_9 : decode bM153 9 = .ok (.goto 4, 3) := by decide +kernel
theorem d153_12 : decode bM153 12 = .ok (.iconst 0, 1) := by decide +kernel
theorem d153_13 : decode bM153 13 = .ok (.ireturn, 1) := by decide +kernel
theorem d154_0 : decode bM154 0 = .ok (.aload_n 0, 1) := by decide +kernel
theorem d154_1 : decode bM154 1 = .ok (.iload_n 1, 1) := by decide +kernel
theorem d154_2 : decode bM154 2 = .ok (.putfield 19, 3) := by decide +kernel
theorem d154_5 : decode bM154 5 = .ok (.iconst 0, 1) := by decide +kernel
theorem d154_6 : decode bM154 6 = .ok (.ireturn, 1) := by decide +kernel
theorem d155_0 : decode bM155 0 = .ok (.iload_n 1, 1) := by decide +kernel
theorem d155_1 : decode bM155 1 = .ok (.aload_n 0, 1) := by decide +kernel
theorem d155_2 : decode bM155 2 = .ok (.getfield 9, 3) := by decide +kernel
theorem d155_5 : decode bM155 5 = .ok (.invokevirtual 22, 3) := by decide +kernel
theorem d155_8 : decode bM155 8 = .ok (.if_icmp .ge 14, 3) := by decide +kernel
theorem d155_11 : decode bM155 11 = .ok (.aload_n 0, 1) := by decide +kernel
theorem d155_12 : decode bM155 12 = .ok (.getfield 9, 3) := by decide +kernel
theorem d155_15 : decode bM155 15 = .ok (.iload_n 1, 1) := by decide +kernel
theorem d155_16 : decode bM155 16 = .ok (.invokevirtual 28, 3) := by decide +kernel
theorem d155_19 : decode bM155 19 = .ok (.goto 4, 3) := by decide +kernel
theorem d155_22 : decode bM155 22 = .ok (.iconst 0, 1) := by decide +kernel
theorem d155_23 : decode bM155 23 = .ok (.ireturn, 1) := by decide +kernel
theorem d156_0 : decode bM156 0 = .ok (.aload_n 0, 1) := by decide +kernel
theorem d156_1 : decode bM156 1 = .ok (.aload_n 0, 1) := by decide +kernel
theorem d156_2 : decode bM156 2 = .ok (.getfield 15, 3) := by decide +kernel
theorem d156_5 : decode bM156 5 = .ok (.invokevirtual 32, 3) := by decide +kernel
theorem d156_8 : decode bM156 8 = .ok (.iload_n 1, 1) := by decide +kernel
theorem d156_9 : decode bM156 9 = .ok (.if_icmp .eq 12, 3) := by decide +kernel
theorem d156_12 : decode bM156 12 = .ok (.aload_n 0, 1) := by decide +kernel
theorem d156_13 : decode bM156 13 = .ok (.aload_n 0, 1) := by decide +kernel
theorem d156_14 : decode bM156 14 = .ok (.getfield 15, 3) := by decide +kernel
theorem d156_17 : decode bM156 17 = .ok (.invokevirtual 35, 3) := by decide +kernel
theorem d156_20 : decode bM156 20 = .ok (.ireturn, 1) := by decide +kernel
theorem d156_21 : decode bM156 21 = .ok (.aload_n 0, 1) := by decide +kernel
theorem d156_22 : decode bM156 22 = .ok (.dup, 1) := by decide +kernel
theorem d156_23 : decode bM156 23 = .ok (.getfield 15, 3) := by decide +kernel
theorem d156_26 : decode bM156 26 = .ok (.iconst 1, 1) := by decide +kernel
theorem d156_27 : decode bM156 27 = .ok (.iadd, 1) := by decide +kernel
theorem d156_28 : decode bM156 28 = .ok (.putfield 15, 3) := by decide +kernel
theorem d156_31 : decode bM156 31 = .ok (.iconst 1, 1) := by decide +kernel
theorem d156_32 : decode bM156 32 = .ok (.ireturn, 1) := by decide +kernel
theorem d157_0 : decode bM157 0 = .ok (.aload_n 0, 1) := by decide +kernel
theorem d157_1 : decode bM157 1 = .ok (.getfield 15, 3) := by decide +kernel
theorem d157_4 : decode bM157 4 = .ok (.aload_n 0, 1) := by decide +kernel
theorem d157_5 : decode bM157 5 = .ok (.getfield 9, 3) := by decide +kernel
theorem d157_8 : decode bM157 8 = .ok (.invokevirtual 22, 3) := by decide +kernel
theorem d157_11 : decode bM157 11 = .ok (.if_icmp .eq 14, 3) := by decide +kernel
theorem d157_14 : decode bM157 14 = .ok (.aload_n 0, 1) := by decide +kernel
theorem d157_15 : decode bM157 15 = .ok (.aload_n 0, 1) := by decide +kernel
theorem d157_16 : decode bM157 16 = .ok (.getfield 15, 3) := by decide +kernel
theorem d157_19 : decode bM157 19 = .ok (.invokevirtual 35, 3) := by decide +kernel
theorem d157_22 : decode bM157 22 = .ok (.ifCond .eq 7, 3) := by decide +kernel
theorem d157_25 : decode bM157 25 = .ok (.iconst 1, 1) := by decide +kernel
theorem d157_26 : decode bM157 26 = .ok (.goto 4, 3) := by decide +kernel
theorem d157_29 : decode bM157 29 = .ok (.iconst 0, 1) := by decide +kernel
theorem d157_30 : decode bM157 30 = .ok (.ireturn, 1) := by decide +kernel
theorem d158_0 : decode bM158 0 = .ok (.iload_n 1, 1) := by decide +kernel
theorem d158_1 : decode bM158 1 = .ok (.ifCond .lt 24, 3) := by decide +kernel
theorem d158_4 : decode bM158 4 = .ok (.iload_n 1, 1) := by decide +kernel
theorem d158_5 : decode bM158 5 = .ok (.aload_n 0, 1) := by decide +kernel
theorem d158_6 : decode bM158 6 = .ok (.getfield 23, 3) := by decide +kernel
theorem d158_9 : decode bM158 9 = .ok (.if_icmp .ge 16, 3) := by decide +kernel
theorem d158_12 : decode bM158 12 = .ok (.aload_n 0, 1) := by decide +kernel
theorem d158_13 : decode bM158 13 = .ok (.getfield 11, 3) := by decide +kernel
theorem d158_16 : decode bM158 16 = .ok (.iload_n 1, 1) := by decide +kernel
theorem d158_17 : decode bM158 17 = .ok (.aaload, 1) := by decide +kernel
theorem d158_18 : decode bM158 18 = .ok (.getfield 27, 3) := by decide +kernel
theorem d158_21 : decode bM158 21 = .ok (.iconst (-1), 1) := by decide +kernel
theorem d158_22 : decode bM158 22 = .ok (.if_icmp .ne 5, 3) := by decide +kernel
theorem d158_25 : decode bM158 25 = .ok (.aconst_null, 1) := by decide +kernel
theorem d158_26 : decode bM158 26 = .ok (.areturn, 1) := by decide +kernel
theorem d158_27 : decode bM158 27 = .ok (.aload_n 0, 1) := by decide +kernel
theorem d158_28 : decode bM158 28 = .ok (.getfield 11, 3) := by decide +kernel
theorem d158_31 : decode bM158 31 = .ok (.iload_n 1, 1) := by decide +kernel
theorem d158_32 : decode bM158 32 = .ok (.aaload, 1) := by decide +kernel
theorem d158_33 : decode bM158 33 = .ok (.areturn, 1) := by decide +kernel
theorem d159_0 : decode bM159 0 = .ok (.aload_n 0, 1) := by decide +kernel
theorem d159_1 : decode bM159 1 = .ok (.getfield 23, 3) := by decide +kernel
theorem d159_4 : decode bM159 4 = .ok (.iload_n 1, 1) := by decide +kernel
theorem d159_5 : decode bM159 5 = .ok (.iadd, 1) := by decide +kernel
theorem d159_6 : decode bM159 6 = .ok (.sipush 200, 3) := by decide +kernel
theorem d159_9 : decode bM159 9 = .ok (.if_icmp .gt 7, 3) := by decide +kernel
theorem d159_12 : decode bM159 12 = .ok (.iconst 1, 1) := by decide +kernel
theorem d159_13 : decode bM159 13 = .ok (.goto 4, 3) := by decide +kernel
theorem d159_16 : decode bM159 16 = .ok (.iconst 0, 1) := by decide +kernel
theorem d159_17 : decode bM159 17 = .ok (.ireturn, 1) := by decide +kernel
theorem d160_0 : decode bM160 0 = .ok (.aload_n 1, 1) := by decide +kernel
theorem d160_1 : decode bM160 1 = .ok (.getfield 27, 3) := by decide +kernel
theorem d160_4 : decode bM160 4 = .ok (.iconst 1, 1) := by decide +kernel
theorem d160_5 : decode bM160 5 = .ok (.iadd, 1) := by decide +kernel
theorem d160_6 : decode bM160 6 = .ok (.istore_n 2, 1) := by decide +kernel
theorem d160_7 : decode bM160 7 = .ok (.iload_n 2, 1) := by decide +kernel
theorem d160_8 : decode bM160 8 = .ok (.aload_n 0, 1) := by decide +kernel
theorem d160_9 : decode bM160 9 = .ok (.getfield 30, 3) := by decide +kernel
theorem d160_12 : decode bM160 12 = .ok (.if_icmp .ge 25, 3) := by decide +kernel
theorem d160_15 : decode bM160 15 = .ok (.aload_n 0, 1) := by decide +kernel
theorem d160_16 : decode bM160 16 = .ok (.getfield 17, 3) := by decide +kernel
theorem d160_19 : decode bM160 19 = .ok (.iload_n 2, 1) := by decide +kernel
theorem d160_20 : decode bM160 20 = .ok (.aaload, 1) := by decide +kernel
theorem d160_21 : decode bM160 21 = .ok (.getfield 33, 3) := by decide +kernel
theorem d160_24 : decode bM160 24 = .ok (.aload_n 1, 1) := by decide +kernel
theorem d160_25 : decode bM160 25 = .ok (.getfield 33, 3) := by decide +kernel
theorem d160_28 : decode bM160 28 = .ok (.if_icmp .le 9, 3) := by decide +kernel
theorem d160_31 : decode bM160 31 = .ok (.iinc 2 1, 3) := by decide +kernel
theorem d160_34 : decode bM160 34 = .ok (.goto (-27), 3) := by decide +kernel
theorem d160_37 : decode bM160 37 = .ok (.iload_n 2, 1) := by decide +kernel
theorem d160_38 : decode bM160 38 = .ok (.ireturn, 1) := by decide +kernel
theorem d161_0 : decode bM161 0 = .ok (.iload_n 2, 1) := by decide +kernel
theorem d161_1 : decode bM161 1 = .ok (.iconst 1, 1) := by decide +kernel
theorem d161_2 : decode bM161 2 = .ok (.isub, 1) := by decide +kernel
theorem d161_3 : decode bM161 3 = .ok (.istore_n 3, 1) := by decide +kernel
theorem d161_4 : decode bM161 4 = .ok (.iload_n 3, 1) := by decide +kernel
theorem d161_5 : decode bM161 5 = .ok (.aload_n 1, 1) := by decide +kernel
theorem d161_6 : decode bM161 6 = .ok (.getfield 27, 3) := by decide +kernel
theorem d161_9 : decode bM161 9 = .ok (.if_icmp .le 29, 3) := by decide +kernel
theorem d161_12 : decode bM161 12 = .ok (.aload_n 0, 1) := by decide +kernel
theorem d161_13 : decode bM161 13 = .ok (.getfield 17, 3) := by decide +kernel
theorem d161_16 : decode bM161 16 = .ok (.iload_n 3, 1) := by decide +kernel
theorem d161_17 : decode bM161 17 = .ok (.aaload, 1) := by decide +kernel
theorem d161_18 : decode bM161 18 = .ok (.getfield 36, 3) := by decide +kernel
theorem d161_21 : decode bM161 21 = .ok (.aload_n 1, 1) := by decide +kernel
theorem d161_22 : decode bM161 22 = .ok (.if_acmp .ne 10, 3) := by decide +kernel
theorem d161_25 : decode bM161 25 = .ok (.aload_n 0, 1) := by decide +kernel
theorem d161_26 : decode bM161 26 = .ok (.getfield 17, 3) := by decide +kernel
theorem d161_29 : decode bM161 29 = .ok (.iload_n 3, 1) := by decide +kernel
theorem d161_30 : decode bM161 30 = .ok (.aaload, 1) := by decide +kernel
theorem d161_31 : decode bM161 31 = .ok (.areturn, 1) := by decide +kernel
theorem d161_32 : decode bM161 32 = .ok (.iinc 3 (-1), 3) := by decide +kernel
theorem d161_35 : decode bM161 35 = .ok (.goto (-31), 3) := by decide +kernel
theorem d161_38 : decode bM161 38 = .ok (.aconst_null, 1) := by decide +kernel
theorem d161_39 : decode bM161 39 = .ok (.areturn, 1) := by decide +kernel
theorem d162_0 : decode bM162 0 = .ok (.iload_n 2, 1) := by decide +kernel
theorem d162_1 : decode bM162 1 = .ok (.istore_n 3, 1) := by decide +kernel
theorem d162_2 : decode bM162 2 = .ok (.iload_n 3, 1) := by decide +kernel
theorem d162_3 : decode bM162 3 = .ok (.aload_n 0, 1) := by decide +kernel
theorem d162_4 : decode bM162 4 = .ok (.getfield 30, 3) := by decide +kernel
theorem d162_7 : decode bM162 7 = .ok (.if_icmp .ge 29, 3) := by decide +kernel
theorem d162_10 : decode bM162 10 = .ok (.aload_n 0, 1) := by decide +kernel
theorem d162_11 : decode bM162 11 = .ok (.getfield 17, 3) := by decide +kernel
theorem d162_14 : decode bM162 14 = .ok (.iload_n 3, 1) := by decide +kernel
theorem d162_15 : decode bM162 15 = .ok (.aaload, 1) := by decide +kernel
theorem d162_16 : decode bM162 16 = .ok (.getfield 36, 3) := by decide +kernel
theorem d162_19 : decode bM162 19 = .ok (.aload_n 1, 1) := by decide +kernel
theorem d162_20 : decode bM162 20 = .ok (.if_acmp .ne 10, 3) := by decide +kernel
theorem d162_23 : decode bM162 23 = .ok (.aload_n 0, 1) := by decide +kernel
theorem d162_24 : decode bM162 24 = .ok (.getfield 17, 3) := by decide +kernel
theorem d162_27 : decode bM162 27 = .ok (.iload_n 3, 1) := by decide +kernel
theorem d162_28 : decode bM162 28 = .ok (.aaload, 1) := by decide +kernel
theorem d162_29 : decode bM162 29 = .ok (.areturn, 1) := by decide +kernel
theorem d162_30 : decode bM162 30 = .ok (.iinc 3 1, 3) := by decide +kernel
theorem d162_33 : decode bM162 33 = .ok (.goto (-31), 3) := by decide +kernel
theorem d162_36 : decode bM162 36 = .ok (.aconst_null, 1) := by decide +kernel
theorem d162_37 : decode bM162 37 = .ok (.areturn, 1) := by decide +kernel
theorem d163_0 : decode bM163 0 = .ok (.iconst 0, 1) := by decide +kernel
theorem d163_1 : decode bM163 1 = .ok (.istore 4, 2) := by decide +kernel
theorem d163_3 : decode bM163 3 = .ok (.iload_n 2, 1) := by decide +kernel
theorem d163_4 : decode bM163 4 = .ok (.istore 5, 2) := by decide +kernel
theorem d163_6 : decode bM163 6 = .ok (.iload 5, 2) := by decide +kernel
theorem d163_8 : decode bM163 8 = .ok (.iload_n 3, 1) := by decide +kernel
theorem d163_9 : decode bM163 9 = .ok (.if_icmp .ge 26, 3) := by decide +kernel
theorem d163_12 : decode bM163 12 = .ok (.aload_n 0, 1) := by decide +kernel
theorem d163_13 : decode bM163 13 = .ok (.getfield 17, 3) := by decide +kernel
theorem d163_16 : decode bM163 16 = .ok (.iload 5, 2) := by decide +kernel
theorem d163_18 : decode bM163 18 = .ok (.aaload, 1) := by decide +kernel
theorem d163_19 : decode bM163 19 = .ok (.getfield 36, 3) := by decide +kernel
theorem d163_22 : decode bM163 22 = .ok (.aload_n 1, 1) := by decide +kernel
theorem d163_23 : decode bM163 23 = .ok (.if_acmp .ne 6, 3) := by decide +kernel
theorem d163_26 : decode bM163 26 = .ok (.iinc 4 1, 3) := by decide +kernel
theorem d163_29 : decode bM163 29 = .ok (.iinc 5 1, 3) := by decide +kernel
theorem d163_32 : decode bM163 32 = .ok (.goto (-26), 3) := by decide +kernel
theorem d163_35 : decode bM163 35 = .ok (.iload 4, 2) := by decide +kernel
theorem d163_37 : decode bM163 37 = .ok (.ireturn, 1) := by decide +kernel
theorem d164_0 : decode bM164 0 = .ok (.iconst 0, 1) := by decide +kernel
theorem d164_1 : decode bM164 1 = .ok (.istore_n 1, 1) := by decide +kernel
theorem d164_2 : decode bM164 2 = .ok (.iload_n 1, 1) := by decide +kernel
theorem d164_3 : decode bM164 3 = .ok (.aload_n 0, 1) := by decide +kernel
theorem d164_4 : decode bM164 4 = .ok (.getfield 30, 3) := by decide +kernel
theorem d164_7 : decode bM164 7 = .ok (.if_icmp .ge 19, 3) := by decide +kernel
theorem d164_10 : decode bM164 10 = .ok (.aload_n 0, 1) := by decide +kernel
theorem d164_11 : decode bM164 11 = .ok (.getfield 17, 3) := by decide +kernel
theorem d164_14 : decode bM164 14 = .ok (.iload_n 1, 1) := by decide +kernel
theorem d164_15 : decode bM164 15 = .ok (.aaload, 1) := by decide +kernel
theorem d164_16 : decode bM164 16 = .ok (.iload_n 1, 1) := by decide +kernel
theorem d164_17 : decode bM164 17 = .ok (.putfield 27, 3) := by decide +kernel
theorem d164_20 : decode bM164 20 = .ok (.iinc 1 1, 3) := by decide +kernel
theorem d164_23 : decode bM164 23 = .ok (.goto (-21), 3) := by decide +kernel
theorem d164_26 : decode bM164 26 = .ok (.return_, 1) := by decide +kernel
theorem d165_0 : decode bM165 0 = .ok (.lload_n 0, 1) := by decide +kernel
theorem d165_1 : decode bM165 1 = .ok (.iload_n 2, 1) := by decide +kernel
theorem d165_2 : decode bM165 2 = .ok (.lshr, 1) := by decide +kernel
theorem d165_3 : decode bM165 3 = .ok (.lconst 1, 1) := by decide +kernel
theorem d165_4 : decode bM165 4 = .ok (.land, 1) := by decide +kernel
theorem d165_5 : decode bM165 5 = .ok (.lconst 1, 1) := by decide +kernel
theorem d165_6 : decode bM165 6 = .ok (.lcmp, 1) := by decide +kernel
theorem d165_7 : decode bM165 7 = .ok (.ifCond .ne 7, 3) := by decide +kernel
theorem d165_10 : decode bM165 10 = .ok (.iconst 1, 1) := by decide +kernel
theorem d165_11 : decode bM165 11 = .ok (.goto 4, 3) := by decide +kernel
theorem d165_14 : decode bM165 14 = .ok (.iconst 0, 1) := by decide +kernel
theorem d165_15 : decode bM165 15 = .ok (.ireturn, 1) := by decide +kernel
theorem d166_0 : decode bM166 0 = .ok (.lconst 0, 1) := by decide +kernel
theorem d166_1 : decode bM166 1 = .ok (.lstore_n 2, 1) := by decide +kernel
theorem d166_2 : decode bM166 2 = .ok (.iconst 0, 1) := by decide +kernel
theorem d166_3 : decode bM166 3 = .ok (.istore 4, 2) := by decide +kernel
theorem d166_5 : decode bM166 5 = .ok (.iload 4, 2) := by decide +kernel
theorem d166_7 : decode bM166 7 = .ok (.aload_n 0, 1) := by decide +kernel
theorem d166_8 : decode bM166 8 = .ok (.getfield 9, 3) := by decide +kernel
theorem d166_11 : decode bM166 11 = .ok (.getfield 45, 3) := by decide +kernel
theorem d166_14 : decode bM166 14 = .ok (.if_icmp .ge 80, 3) := by decide +kernel
theorem d166_17 : decode bM166 17 = .ok (.aload_n 0, 1) := by decide +kernel
theorem d166_18 : decode bM166 18 = .ok (.getfield 9, 3) := by decide +kernel
theorem d166_21 : decode bM166 21 = .ok (.getfield 54, 3) := by decide +kernel
theorem d166_24 : decode bM166 24 = .ok (.iload 4, 2) := by decide +kernel
theorem d166_26 : decode bM166 26 = .ok (.aaload, 1) := by decide +kernel
theorem d166_27 : decode bM166 27 = .ok (.aload_n 1, 1) := by decide +kernel
theorem d166_28 : decode bM166 28 = .ok (.getfield 97, 3) := by decide +kernel
theorem d166_31 : decode bM166 31 = .ok (.invokevirtual 101, 3) := by decide +kernel
theorem d166_34 : decode bM166 34 = .ok (.astore 5, 2) := by decide +kernel
theorem d166_36 : decode bM166 36 = .ok (.aload 5, 2) := by decide +kernel
theorem d166_38 : decode bM166 38 = .ok (.ifnull 31, 3) := by decide +kernel
theorem d166_41 : decode bM166 41 = .ok (.aload_n 1, 1) := by decide +kernel
theorem d166_42 : decode bM166 42 = .ok (.getfield 107, 3) := by decide +kernel
theorem d166_45 : decode bM166 45 = .ok (.bipush 32, 2) := by decide +kernel
theorem d166_47 : decode bM166 47 = .ok (.if_icmp .eq 18, 3) := by decide +kernel
theorem d166_50 : decode bM166 50 = .ok (.aload 5, 2) := by decide +kernel
theorem d166_52 : decode bM166 52 = .ok (.invokevirtual 110, 3) := by decide +kernel
theorem d166_55 : decode bM166 55 = .ok (.aload_n 1, 1) := by decide +kernel
theorem d166_56 : decode bM166 56 = .ok (.getfield 116, 3) := by decide +kernel
theorem d166_59 : decode bM166 59 = .ok (.invokevirtual 119, 3) := by decide +kernel
theorem d166_62 : decode bM166 62 = .ok (.ifCond .eq 7, 3) := by decide +kernel
theorem d166_65 : decode bM166 65 = .ok (.iconst 1, 1) := by decide +kernel
theorem d166_66 : decode bM166 66 = .ok (.goto 4, 3) := by decide +kernel
theorem d166_69 : decode bM166 69 = .ok (.iconst 0, 1) := by decide +kernel
theorem d166_70 : decode bM166 70 = .ok (.istore 6, 2) := by decide +kernel
theorem d166_72 : decode bM166 72 = .ok (.lload_n 2, 1) := by decide +kernel
theorem d166_73 : decode bM166 73 = .ok (.iload 6, 2) := by decide +kernel
theorem d166_75 : decode bM166 75 = .ok (.ifCond .eq 10, 3) := by decide +kernel
theorem d166_78 : decode bM166 78 = .ok (.lconst 1, 1) := by decide +kernel
theorem d166_79 : decode bM166 79 = .ok (.iload 4, 2) := by decide +kernel
theorem d166_81 : decode bM166 81 = .ok (.lshl, 1) := by decide +kernel
theorem d166_82 : decode bM166 82 = .ok (.goto 4, 3) := by decide +kernel
theorem d166_85 : decode bM166 85 = .ok (.lconst 0, 1) := by decide +kernel
theorem d166_86 : decode bM166 86 = .ok (.lor, 1) := by decide +kernel
theorem d166_87 : decode bM166 87 = .ok (.lstore_n 2, 1) := by decide +kernel
theorem d166_88 : decode bM166 88 = .ok (.iinc 4 1, 3) := by decide +kernel
theorem d166_91 : decode bM166 91 = .ok (.goto (-86), 3) := by decide +kernel
theorem d166_94 : decode bM166 94 = .ok (.lload_n 2, 1) := by decide +kernel
theorem d166_95 : decode bM166 95 = .ok (.lreturn, 1) := by decide +kernel
theorem d167_0 : decode bM167 0 = .ok (.aload_n 2, 1) := by decide +kernel
theorem d167_1 : decode bM167 1 = .ok (.getfield 116, 3) := by decide +kernel
theorem d167_4 : decode bM167 4 = .ok (.astore_n 3, 1) := by decide +kernel
theorem d167_5 : decode bM167 5 = .ok (.iconst 0, 1) := by decide +kernel
theorem d167_6 : decode bM167 6 = .ok (.istore 4, 2) := by decide +kernel
theorem d167_8 : decode bM167 8 = .ok (.aload_n 0, 1) := by decide +kernel
theorem d167_9 : decode bM167 9 = .ok (.getfield 9, 3) := by decide +kernel
theorem d167_12 : decode bM167 12 = .ok (.aload_n 1, 1) := by decide +kernel
theorem d167_13 : decode bM167 13 = .ok (.invokevirtual 133, 3) := by decide +kernel
theorem d167_16 : decode bM167 16 = .ok (.istore 5, 2) := by decide +kernel
theorem d167_18 : decode bM167 18 = .ok (.aload_n 1, 1) := by decide +kernel
theorem d167_19 : decode bM167 19 = .ok (.getfield 137, 3) := by decide +kernel
theorem d167_22 : decode bM167 22 = .ok (.istore 6, 2) := by decide +kernel
theorem d167_24 : decode bM167 24 = .ok (.iload 6, 2) := by decide +kernel
theorem d167_26 : decode bM167 26 = .ok (.iload 5, 2) := by decide +kernel
theorem d167_28 : decode bM167 28 = .ok (.if_icmp .ge 120, 3) := by decide +kernel
theorem d167_31 : decode bM167 31 = .ok (.aload_n 0, 1) := by decide +kernel
theorem d167_32 : decode bM167 32 = .ok (.getfield 9, 3) := by decide +kernel
theorem d167_35 : decode bM167 35 = .ok (.getfield 54, 3) := by decide +kernel
theorem d167_38 : decode bM167 38 = .ok (.iload 6, 2) := by decide +kernel
theorem d167_40 : decode bM167 40 = .ok (.aaload, 1) := by decide +kernel
theorem d167_41 : decode bM167 41 = .ok (.astore 7, 2) := by decide +kernel
theorem d167_43 : decode bM167 43 = .ok (.aload 7, 2) := by decide +kernel
theorem d167_45 : decode bM167 45 = .ok (.getfield 140, 3) := by decide +kernel
theorem d167_48 : decode bM167 48 = .ok (.iconst 2, 1) := by decide +kernel
theorem d167_49 : decode bM167 49 = .ok (.if_icmp .eq 11, 3) := by decide +kernel
theorem d167_52 : decode bM167 52 = .ok (.aload_n 1, 1) := by decide +kernel
theorem d167_53 : decode bM167 53 = .ok (.getfield 140, 3) := by decide +kernel
theorem d167_56 : decode bM167 56 = .ok (.iconst 3, 1) := by decide +kernel
theorem d167_57 : decode bM167 57 = .ok (.if_icmp .ne 7, 3) := by decide +kernel
theorem d167_60 : decode bM167 60 = .ok (.iconst 1, 1) := by decide +kernel
theorem d167_61 : decode bM167 61 = .ok (.goto 4, 3) := by decide +kernel
theorem d167_64 : decode bM167 64 = .ok (.iconst 0, 1) := by decide +kernel
theorem d167_65 : decode bM167 65 = .ok (.istore 8, 2) := by decide +kernel
theorem d167_67 : decode bM167 67 = .ok (.iconst 0, 1) := by decide +kernel
theorem d167_68 : decode bM167 68 = .ok (.istore 9, 2) := by decide +kernel
theorem d167_70 : decode bM167 70 = .ok (.iload 8, 2) := by decide +kernel
theorem d167_72 : decode bM167 72 = .ok (.ifCond .eq 70, 3) := by decide +kernel
theorem d167_75 : decode bM167 75 = .ok (.iload 9, 2) := by decide +kernel
theorem d167_77 : decode bM167 77 = .ok (.aload 7, 2) := by decide +kernel
theorem d167_79 : decode bM167 79 = .ok (.getfield 143, 3) := by decide +kernel
theorem d167_82 : decode bM167 82 = .ok (.invokevirtual 146, 3) := by decide +kernel
theorem d167_85 : decode bM167 85 = .ok (.if_icmp .ge 57, 3) := by decide +kernel
theorem d167_88 : decode bM167 88 = .ok (.iload 4, 2) := by decide +kernel
theorem d167_90 : decode bM167 90 = .ok (.aload_n 3, 1) := by decide +kernel
theorem d167_91 : decode bM167 91 = .ok (.invokevirtual 146, 3) := by decide +kernel
theorem d167_94 : decode bM167 94 = .ok (.if_icmp .ne 18, 3) := by decide +kernel
theorem d167_97 : decode bM167 97 = .ok (.aload_n 2, 1) := by decide +kernel
theorem d167_98 : decode bM167 98 = .ok (.getfield 107, 3) := by decide +kernel
theorem d167_101 : decode bM167 101 = .ok (.bipush 126, 2) := by decide +kernel
theorem d167_103 : decode bM167 103 = .ok (.if_icmp .ne 7, 3) := by decide +kernel
theorem d167_106 : decode bM167 106 = .ok (.iconst 1, 1) := by decide +kernel
theorem d167_107 : decode bM167 107 = .ok (.goto 4, 3) := by decide +kernel
theorem d167_110 : decode bM167 110 = .ok (.iconst 0, 1) := by decide +kernel
theorem d167_111 : decode bM167 111 = .ok (.ireturn, 1) := by decide +kernel
theorem d167_112 : decode bM167 112 = .ok (.aload 7, 2) := by decide +kernel
theorem d167_114 : decode bM167 114 = .ok (.getfield 143, 3) := by decide +kernel
theorem d167_117 : decode bM167 117 = .ok (.iload 9, 2) := by decide +kernel
theorem d167_119 : decode bM167 119 = .ok (.invokevirtual 149, 3) := by decide +kernel
theorem d167_122 : decode bM167 122 = .ok (.aload_n 3, 1) := by decide +kernel
theorem d167_123 : decode bM167 123 = .ok (.iload 4, 2) := by decide +kernel
theorem d167_125 : decode bM167 125 = .ok (.invokevirtual 149, 3) := by decide +kernel
theorem d167_128 : decode bM167 128 = .ok (.if_icmp .eq 5, 3) := by decide +kernel
theorem d167_131 : decode bM167 131 = .ok (.iconst 0, 1) := by decide +kernel
theorem d167_132 : decode bM167 132 = .ok (.ireturn, 1) := by decide +kernel
theorem d167_133 : decode bM167 133 = .ok (.iinc 4 1, 3) := by decide +kernel
theorem d167_136 : decode bM167 136 = .ok (.iinc 9 1, 3) := by decide +kernel
theorem d167_139 : decode bM167 139 = .ok (.goto (-69), 3) := by decide +kernel
theorem d167_142 : decode bM167 142 = .ok (.iinc 6 1, 3) := by decide +kernel
theorem d167_145 : decode bM167 145 = .ok (.goto (-121), 3) := by decide +kernel
theorem d167_148 : decode bM167 148 = .ok (.iload 4, 2) := by decide +kernel
theorem d167_150 : decode bM167 150 = .ok (.aload_n 3, 1) := by decide +kernel
theorem d167_151 : decode bM167 151 = .ok (.invokevirtual 146, 3) := by decide +kernel
theorem d167_154 : decode bM167 154 = .ok (.if_icmp .ne 7, 3) := by decide +kernel
theorem d167_157 : decode bM167 157 = .ok (.iconst 1, 1) := by decide +kernel
theorem d167_158 : decode bM167 158 = .ok (.goto 4, 3) := by decide +kernel
theorem d167_161 : decode bM167 161 = .ok (.iconst 0, 1) := by decide +kernel
theorem d167_162 : decode bM167 162 = .ok (.ireturn, 1) := by decide +kernel
theorem d168_0 : decode bM168 0 = .ok (.iconst 0, 1) := by decide +kernel
theorem d168_1 : decode bM168 1 = .ok (.istore 5, 2) := by decide +kernel
theorem d168_3 : decode bM168 3 = .ok (.iconst 0, 1) := by decide +kernel
theorem d168_4 : decode bM168 4 = .ok (.istore 6, 2) := by decide +kernel
theorem d168_6 : decode bM168 6 = .ok (.iload 6, 2) := by decide +kernel
theorem d168_8 : decode bM168 8 = .ok (.aload_n 0, 1) := by decide +kernel
theorem d168_9 : decode bM168 9 = .ok (.getfield 9, 3) := by decide +kernel
theorem d168_12 : decode bM168 12 = .ok (.getfield 45, 3) := by decide +kernel
theorem d168_15 : decode bM168 15 = .ok (.if_icmp .ge 74, 3) := by decide +kernel
theorem d168_18 : decode bM168 18 = .ok (.iload 4, 2) := by decide +kernel
theorem d168_20 : decode bM168 20 = .ok (.ifCond .eq 18, 3) := by decide +kernel
theorem d168_23 : decode bM168 23 = .ok (.aload_n 0, 1) := by decide +kernel
theorem d168_24 : decode bM168 24 = .ok (.getfield 9, 3) := by decide +kernel
theorem d168_27 : decode bM168 27 = .ok (.getfield 45, 3) := by decide +kernel
theorem d168_30 : decode bM168 30 = .ok (.iconst 1, 1) := by decide +kernel
theorem d168_31 : decode bM168 31 = .ok (.isub, 1) := by decide +kernel
theorem d168_32 : decode bM168 32 = .ok (.iload 6, 2) := by decide +kernel
theorem d168_34 : decode bM168 34 = .ok (.isub, 1) := by decide +kernel
theorem d168_35 : decode bM168 35 = .ok (.goto 5, 3) := by decide +kernel
theorem d168_38 : decode bM168 38 = .ok (.iload 6, 2) := by decide +kernel
theorem d168_40 : decode bM168 40 = .ok (.istore 7, 2) := by decide +kernel
theorem d168_42 : decode bM168 42 = .ok (.lload_n 2, 1) := by decide +kernel
theorem d168_43 : decode bM168 43 = .ok (.lconst 1, 1) := by decide +kernel
theorem d168_44 : decode bM168 44 = .ok (.iload 7, 2) := by decide +kernel
theorem d168_46 : decode bM168 46 = .ok (.lshl, 1) := by decide +kernel
theorem d168_47 : decode bM168 47 = .ok (.land, 1) := by decide +kernel
theorem d168_48 : decode bM168 48 = .ok (.lstore 8, 2) := by decide +kernel
theorem d168_50 : decode bM168 50 = .ok (.iload 5, 2) := by decide +kernel
theorem d168_52 : decode bM168 52 = .ok (.lload 8, 2) := by decide +kernel
theorem d168_54 : decode bM168 54 = .ok (.lconst 0, 1) := by decide +kernel
theorem d168_55 : decode bM168 55 = .ok (.lcmp, 1) := by decide +kernel
theorem d168_56 : decode bM168 56 = .ok (.ifCond .ne 7, 3) := by decide +kernel
theorem d168_59 : decode bM168 59 = .ok (.iconst 0, 1) := by decide +kernel
theorem d168_60 : decode bM168 60 = .ok (.goto 4, 3) := by decide +kernel
theorem d168_63 : decode bM168 63 = .ok (.iconst 1, 1) := by decide +kernel
theorem d168_64 : decode bM168 64 = .ok (.iadd, 1) := by decide +kernel
theorem d168_65 : decode bM168 65 = .ok (.istore 5, 2) := by decide +kernel
theorem d168_67 : decode bM168 67 = .ok (.lload 8, 2) := by decide +kernel
theorem d168_69 : decode bM168 69 = .ok (.lconst 0, 1) := by decide +kernel
theorem d168_70 : decode bM168 70 = .ok (.lcmp, 1) := by decide +kernel
theorem d168_71 : decode bM168 71 = .ok (.ifCond .eq 12, 3) := by decide +kernel
theorem d168_74 : decode bM168 74 = .ok (.iload 5, 2) := by decide +kernel
theorem d168_76 : decode bM168 76 = .ok (.iload_n 1, 1) := by decide +kernel
theorem d168_77 : decode bM168 77 = .ok (.if_icmp .ne 6, 3) := by decide +kernel
theorem d168_80 : decode bM168 80 = .ok (.lload 8, 2) := by decide +kernel
theorem d168_82 : decode bM168 82 = .ok (.lreturn, 1) := by decide +kernel
theorem d168_83 : decode bM168 83 = .ok (.iinc 6 1, 3) := by decide +kernel
theorem d168_86 : decode bM168 86 = .ok (.goto (-80), 3) := by decide +kernel
theorem d168_89 : decode bM168 89 = .ok (.lconst 0, 1) := by decide +kernel
theorem d168_90 : decode bM168 90 = .ok (.lreturn, 1) := by decide +kernel
theorem d169_0 : decode bM169 0 = .ok (.lconst 0, 1) := by decide +kernel
theorem d169_1 : decode bM169 1 = .ok (.lstore_n 2, 1) := by decide +kernel
theorem d169_2 : decode bM169 2 = .ok (.aload_n 1, 1) := by decide +kernel
theorem d169_3 : decode bM169 3 = .ok (.getfield 196, 3) := by decide +kernel
theorem d169_6 : decode bM169 6 = .ok (.astore 4, 2) := by decide +kernel
theorem d169_8 : decode bM169 8 = .ok (.aload 4, 2) := by decide +kernel
theorem d169_10 : decode bM169 10 = .ok (.ifnull 23, 3) := by decide +kernel
theorem d169_13 : decode bM169 13 = .ok (.lload_n 2, 1) := by decide +kernel
theorem d169_14 : decode bM169 14 = .ok (.lconst 1, 1) := by decide +kernel
theorem d169_15 : decode bM169 15 = .ok (.aload 4, 2) := by decide +kernel
theorem d169_17 : decode bM169 17 = .ok (.getfield 137, 3) := by decide +kernel
theorem d169_20 : decode bM169 20 = .ok (.lshl, 1) := by decide +kernel
theorem d169_21 : decode bM169 21 = .ok (.lor, 1) := by decide +kernel
theorem d169_22 : decode bM169 22 = .ok (.lstore_n 2, 1) := by decide +kernel
theorem d169_23 : decode bM169 23 = .ok (.aload 4, 2) := by decide +kernel
theorem d169_25 : decode bM169 25 = .ok (.getfield 196, 3) := by decide +kernel
theorem d169_28 : decode bM169 28 = .ok (.astore 4, 2) := by decide +kernel
theorem d169_30 : decode bM169 30 = .ok (.goto (-22), 3) := by decide +kernel
theorem d169_33 : decode bM169 33 = .ok (.lload_n 2, 1) := by decide +kernel
theorem d169_34 : decode bM169 34 = .ok (.lreturn, 1) := by decide +kernel
theorem d170_0 : decode bM170 0 = .ok (.lconst 0, 1) := by decide +kernel
theorem d170_1 : decode bM170 1 = .ok (.lstore_n 2, 1) := by decide +kernel
theorem d170_2 : decode bM170 2 = .ok (.iconst 0, 1) := by decide +kernel
theorem d170_3 : decode bM170 3 = .ok (.istore 4, 2) := by decide +kernel
theorem d170_5 : decode bM170 5 = .ok (.aload_n 1, 1) := by decide +kernel
theorem d170_6 : decode bM170 6 = .ok (.ifnull 49, 3) := by decide +kernel
theorem d170_9 : decode bM170 9 = .ok (.iload 4, 2) := by decide +kernel
theorem d170_11 : decode bM170 11 = .ok (.aload_n 0, 1) := by decide +kernel
theorem d170_12 : decode bM170 12 = .ok (.getfield 9, 3) := by decide +kernel
theorem d170_15 : decode bM170 15 = .ok (.getfield 45, 3) := by decide +kernel
theorem d170_18 : decode bM170 18 = .ok (.if_icmp .ge 37, 3) := by decide +kernel
theorem d170_21 : decode bM170 21 = .ok (.lload_n 2, 1) := by decide +kernel
theorem d170_22 : decode bM170 22 = .ok (.aload_n 0, 1) := by decide +kernel
theorem d170_23 : decode bM170 23 = .ok (.getfield 9, 3) := by decide +kernel
theorem d170_26 : decode bM170 26 = .ok (.getfield 54, 3) := by decide +kernel
theorem d170_29 : decode bM170 29 = .ok (.iload 4, 2) := by decide +kernel
theorem d170_31 : decode bM170 31 = .ok (.aaload, 1) := by decide +kernel
theorem d170_32 : decode bM170 32 = .ok (.getfield 196, 3) := by decide +kernel
theorem d170_35 : decode bM170 35 = .ok (.aload_n 1, 1) := by decide +kernel
theorem d170_36 : decode bM170 36 = .ok (.if_acmp .ne 10, 3) := by decide +kernel
theorem d170_39 : decode bM170 39 = .ok (.lconst 1, 1) := by decide +kernel
theorem d170_40 : decode bM170 40 = .ok (.iload 4, 2) := by decide +kernel
theorem d170_42 : decode bM170 42 = .ok (.lshl, 1) := by decide +kernel
theorem d170_43 : decode bM170 43 = .ok (.goto 4, 3) := by decide +kernel
theorem d170_46 : decode bM170 46 = .ok (.lconst 0, 1) := by decide +kernel
theorem d170_47 : decode bM170 47 = .ok (.lor, 1) := by decide +kernel
theorem d170_48 : decode bM170 48 = .ok (.lstore_n 2, 1) := by decide +kernel
theorem d170_49 : decode bM170 49 = .ok (.iinc 4 1, 3) := by decide +kernel
theorem d170_52 : decode bM170 52 = .ok (.goto (-47), 3) := by decide +kernel
theorem d170_55 : decode bM170 55 = .ok (.lload_n 2, 1) := by decide +kernel
theorem d170_56 : decode bM170 56 = .ok (.lreturn, 1) := by decide +kernel
theorem d171_0 : decode bM171 0 = .ok (.lconst 1, 1) := by decide +kernel
theorem d171_1 : decode bM171 1 = .ok (.iload_n 1, 1) := by decide +kernel
theorem d171_2 : decode bM171 2 = .ok (.lshl, 1) := by decide +kernel
theorem d171_3 : decode bM171 3 = .ok (.lconst 1, 1) := by decide +kernel
theorem d171_4 : decode bM171 4 = .ok (.iload_n 0, 1) := by decide +kernel
theorem d171_5 : decode bM171 5 = .ok (.lshl, 1) := by decide +kernel
theorem d171_6 : decode bM171 6 = .ok (.lsub, 1) := by decide +kernel
theorem d171_7 : decode bM171 7 = .ok (.lreturn, 1) := by decide +kernel
theorem d172_0 : decode bM172 0 = .ok (.aload_n 0, 1) := by decide +kernel
theorem d172_1 : decode bM172 1 = .ok (.getfield 22, 3) := by decide +kernel
theorem d172_4 : decode bM172 4 = .ok (.iload_n 1, 1) := by decide +kernel
theorem d172_5 : decode bM172 5 = .ok (.invokevirtual 90, 3) := by decide +kernel
theorem d172_8 : decode bM172 8 = .ok (.astore_n 2, 1) := by decide +kernel
theorem d172_9 : decode bM172 9 = .ok (.aload_n 2, 1) := by decide +kernel
theorem d172_10 : decode bM172 10 = .ok (.ifnonnull 9, 3) := by decide +kernel
theorem d172_13 : decode bM172 13 = .ok (.sipush (-1000), 3) := by decide +kernel
theorem d172_16 : decode bM172 16 = .ok (.goto 7, 3) := by decide +kernel
theorem d172_19 : decode bM172 19 = .ok (.aload_n 2, 1) := by decide +kernel
theorem d172_20 : decode bM172 20 = .ok (.getfield 100, 3) := by decide +kernel
theorem d172_23 : decode bM172 23 = .ok (.ireturn, 1) := by decide +kernel
theorem d173_0 : decode bM173 0 = .ok (.aload_n 0, 1) := by decide +kernel
theorem d173_1 : decode bM173 1 = .ok (.getfield 22, 3) := by decide +kernel
theorem d173_4 : decode bM173 4 = .ok (.iload_n 1, 1) := by decide +kernel
theorem d173_5 : decode bM173 5 = .ok (.invokevirtual 90, 3) := by decide +kernel
theorem d173_8 : decode bM173 8 = .ok (.astore_n 3, 1) := by decide +kernel
theorem d173_9 : decode bM173 9 = .ok (.aload_n 3, 1) := by decide +kernel
theorem d173_10 : decode bM173 10 = .ok (.ifnonnull 7, 3) := by decide +kernel
theorem d173_13 : decode bM173 13 = .ok (.sipush (-1000), 3) := by decide +kernel
theorem d173_16 : decode bM173 16 = .ok (.ireturn, 1) := by decide +kernel
theorem d173_17 : decode bM173 17 = .ok (.iload_n 2, 1) := by decide +kernel
theorem d173_18 : decode bM173 18 = .ok (.tableswitch 133 0 6 #[42, 61, 78, 106, 114, 122, 128], 42) := by decide +kernel
theorem d173_60 : decode bM173 60 = .ok (.aload_n 3, 1) := by decide +kernel
theorem d173_61 : decode bM173 61 = .ok (.getfield 94, 3) := by decide +kernel
theorem d173_64 : decode bM173 64 = .ok (.ifnonnull 7, 3) := by decide +kernel
theorem d173_67 : decode bM173 67 = .ok (.iconst (-1), 1) := by decide +kernel
theorem d173_68 : decode bM173 68 = .ok (.goto 10, 3) := by decide +kernel
theorem d173_71 : decode bM173 71 = .ok (.aload_n 3, 1) := by decide +kernel
theorem d173_72 : decode bM173 72 = .ok (.getfield 94, 3) := by decide +kernel
theorem d173_75 : decode bM173 75 = .ok (.getfield 197, 3) := by decide +kernel
theorem d173_78 : decode bM173 78 = .ok (.ireturn, 1) := by decide +kernel
theorem d173_79 : decode bM173 79 = .ok (.aload_n 0, 1) := by decide +kernel
theorem d173_80 : decode bM173 80 = .ok (.getfield 22, 3) := by decide +kernel
theorem d173_83 : decode bM173 83 = .ok (.aload_n 3, 1) := by decide +kernel
theorem d173_84 : decode bM173 84 = .ok (.iconst 0, 1) := by decide +kernel
theorem d173_85 : decode bM173 85 = .ok (.aload_n 0, 1) := by decide +kernel
theorem d173_86 : decode bM173 86 = .ok (.getfield 22, 3) := by decide +kernel
theorem d173_89 : decode bM173 89 = .ok (.getfield 200, 3) := by decide +kernel
theorem d173_92 : decode bM173 92 = .ok (.invokevirtual 202, 3) := by decide +kernel
theorem d173_95 : decode bM173 95 = .ok (.ireturn, 1) := by decide +kernel
theorem d173_96 : decode bM173 96 = .ok (.aload_n 3, 1) := by decide +kernel
theorem d173_97 : decode bM173 97 = .ok (.getfield 94, 3) := by decide +kernel
theorem d173_100 : decode bM173 100 = .ok (.ifnonnull 7, 3) := by decide +kernel
theorem d173_103 : decode bM173 103 = .ok (.iconst 0, 1) := by decide +kernel
theorem d173_104 : decode bM173 104 = .ok (.goto 19, 3) := by decide +kernel
theorem d173_107 : decode bM173 107 = .ok (.aload_n 0, 1) := by decide +kernel
theorem d173_108 : decode bM173 108 = .ok (.getfield 22, 3) := by decide +kernel
theorem d173_111 : decode bM173 111 = .ok (.aload_n 3, 1) := by decide +kernel
theorem d173_112 : decode bM173 112 = .ok (.getfield 94, 3) := by decide +kernel
theorem d173_115 : decode bM173 115 = .ok (.iconst 0, 1) := by decide +kernel
theorem d173_116 : decode bM173 116 = .ok (.aload_n 3, 1) := by decide +kernel
theorem d173_117 : decode bM173 117 = .ok (.getfield 103, 3) := by decide +kernel
theorem d173_120 : decode bM173 120 = .ok (.invokevirtual 202, 3) := by decide +kernel
theorem d173_123 : decode bM173 123 = .ok (.ireturn, 1) := by decide +kernel
theorem d173_124 : decode bM173 124 = .ok (.aload_n 3, 1) := by decide +kernel
theorem d173_125 : decode bM173 125 = .ok (.getfield 206, 3) := by decide +kernel
theorem d173_128 : decode bM173 128 = .ok (.invokevirtual 68, 3) := by decide +kernel
theorem d173_131 : decode bM173 131 = .ok (.ireturn, 1) := by decide +kernel
theorem d173_132 : decode bM173 132 = .ok (.aload_n 3, 1) := by decide +kernel
theorem d173_133 : decode bM173 133 = .ok (.getfield 132, 3) := by decide +kernel
theorem d173_136 : decode bM173 136 = .ok (.invokevirtual 147, 3) := by decide +kernel
theorem d173_139 : decode bM173 139 = .ok (.ireturn, 1) := by decide +kernel
theorem d173_140 : decode bM173 140 = .ok (.aload_n 3, 1) := by decide +kernel
theorem d173_141 : decode bM173 141 = .ok (.getfield 209, 3) := by decide +kernel
theorem d173_144 : decode bM173 144 = .ok (.arraylength, 1) := by decide +kernel
theorem d173_145 : decode bM173 145 = .ok (.ireturn, 1) := by decide +kernel
theorem d173_146 : decode bM173 146 = .ok (.aload_n 3, 1) := by decide +kernel
theorem d173_147 : decode bM173 147 = .ok (.getfield 103, 3) := by decide +kernel
theorem d173_150 : decode bM173 150 = .ok (.ireturn, 1) := by decide +kernel
theorem d173_151 : decode bM173 151 = .ok (.sipush (-1000), 3) := by decide +kernel
theorem d173_154 : decode bM173 154 = .ok (.ireturn, 1) := by decide +kernel
theorem d174_0 : decode bM174 0 = .ok (.aload_n 0, 1) := by decide +kernel
theorem d174_1 : decode bM174 1 = .ok (.getfield 22, 3) := by decide +kernel
theorem d174_4 : decode bM174 4 = .ok (.iload_n 1, 1) := by decide +kernel
theorem d174_5 : decode bM174 5 = .ok (.invokevirtual 90, 3) := by decide +kernel
theorem d174_8 : decode bM174 8 = .ok (.astore_n 3, 1) := by decide +kernel
theorem d174_9 : decode bM174 9 = .ok (.aload_n 3, 1) := by decide +kernel
theorem d174_10 : decode bM174 10 = .ok (.ifnull 18, 3) := by decide +kernel
theorem d174_13 : decode bM174 13 = .ok (.iload_n 2, 1) := by decide +kernel
theorem d174_14 : decode bM174 14 = .ok (.ifCond .lt 14, 3) := by decide +kernel
theorem d174_17 : decode bM174 17 = .ok (.iload_n 2, 1) := by decide +kernel
theorem d174_18 : decode bM174 18 = .ok (.aload_n 3, 1) := by decide +kernel
theorem d174_19 : decode bM174 19 = .ok (.getfield 132, 3) := by decide +kernel
theorem d174_22 : decode bM174 22 = .ok (.invokevirtual 147, 3) := by decide +kernel
theorem d174_25 : decode bM174 25 = .ok (.if_icmp .lt 7, 3) := by decide +kernel
theorem d174_28 : decode bM174 28 = .ok (.iconst 0, 1) := by decide +kernel
theorem d174_29 : decode bM174 29 = .ok (.goto 11, 3) := by decide +kernel
theorem d174_32 : decode bM174 32 = .ok (.aload_n 3, 1) := by decide +kernel
theorem d174_33 : decode bM174 33 = .ok (.getfield 132, 3) := by decide +kernel
theorem d174_36 : decode bM174 36 = .ok (.iload_n 2, 1) := by decide +kernel
theorem d174_37 : decode bM174 37 = .ok (.invokevirtual 212, 3) := by decide +kernel
theorem d174_40 : decode bM174 40 = .ok (.ireturn, 1) := by decide +kernel
theorem d175_0 : decode bM175 0 = .ok (.aload_n 0, 1) := by decide +kernel
theorem d175_1 : decode bM175 1 = .ok (.getfield 22, 3) := by decide +kernel
theorem d175_4 : decode bM175 4 = .ok (.iload_n 1, 1) := by decide +kernel
theorem d175_5 : decode bM175 5 = .ok (.invokevirtual 90, 3) := by decide +kernel
theorem d175_8 : decode bM175 8 = .ok (.astore_n 3, 1) := by decide +kernel
theorem d175_9 : decode bM175 9 = .ok (.aload_n 3, 1) := by decide +kernel
theorem d175_10 : decode bM175 10 = .ok (.ifnull 16, 3) := by decide +kernel
theorem d175_13 : decode bM175 13 = .ok (.iload_n 2, 1) := by decide +kernel
theorem d175_14 : decode bM175 14 = .ok (.ifCond .lt 12, 3) := by decide +kernel
theorem d175_17 : decode bM175 17 = .ok (.iload_n 2, 1) := by decide +kernel
theorem d175_18 : decode bM175 18 = .ok (.aload_n 3, 1) := by decide +kernel
theorem d175_19 : decode bM175 19 = .ok (.getfield 209, 3) := by decide +kernel
theorem d175_22 : decode bM175 22 = .ok (.arraylength, 1) := by decide +kernel
theorem d175_23 : decode bM175 23 = .ok (.if_icmp .lt 7, 3) := by decide +kernel
theorem d175_26 : decode bM175 26 = .ok (.iconst 0, 1) := by decide +kernel
theorem d175_27 : decode bM175 27 = .ok (.goto 9, 3) := by decide +kernel
theorem d175_30 : decode bM175 30 = .ok (.aload_n 3, 1) := by decide +kernel
theorem d175_31 : decode bM175 31 = .ok (.getfield 209, 3) := by decide +kernel
theorem d175_34 : decode bM175 34 = .ok (.iload_n 2, 1) := by decide +kernel
theorem d175_35 : decode bM175 35 = .ok (.iaload, 1) := by decide +kernel
theorem d175_36 : decode bM175 36 = .ok (.ireturn, 1) := by decide +kernel
theorem d176_0 : decode bM176 0 = .ok (.iconst 0, 1) := by decide +kernel
theorem d176_1 : decode bM176 1 = .ok (.istore_n 1, 1) := by decide +kernel
theorem d176_2 : decode bM176 2 = .ok (.iload_n 1, 1) := by decide +kernel
theorem d176_3 : decode bM176 3 = .ok (.aload_n 0, 1) := by decide +kernel
theorem d176_4 : decode bM176 4 = .ok (.invokevirtual 147, 3) := by decide +kernel
theorem d176_7 : decode bM176 7 = .ok (.if_icmp .ge 22, 3) := by decide +kernel
theorem d176_10 : decode bM176 10 = .ok (.aload_n 0, 1) := by decide +kernel
theorem d176_11 : decode bM176 11 = .ok (.iload_n 1, 1) := by decide +kernel
theorem d176_12 : decode bM176 12 = .ok (.invokevirtual 212, 3) := by decide +kernel
theorem d176_15 : decode bM176 15 = .ok (.invokestatic 253, 3) := by decide +kernel
theorem d176_18 : decode bM176 18 = .ok (.ifCond .ne 5, 3) := by decide +kernel
theorem d176_21 : decode bM176 21 = .ok (.iconst 0, 1) := by decide +kernel
theorem d176_22 : decode bM176 22 = .ok (.ireturn, 1) := by decide +kernel
theorem d176_23 : decode bM176 23 = .ok (.iinc 1 1, 3) := by decide +kernel
theorem d176_26 : decode bM176 26 = .ok (.goto (-24), 3) := by decide +kernel
theorem d176_29 : decode bM176 29 = .ok (.aload_n 0, 1) := by decide +kernel
theorem d176_30 : decode bM176 30 = .ok (.invokevirtual 243, 3) := by decide +kernel
theorem d176_33 : decode bM176 33 = .ok (.ifCond .ne 16, 3) := by decide +kernel
theorem d176_36 : decode bM176 36 = .ok (.aload_n 0, 1) := by decide +kernel
theorem d176_37 : decode bM176 37 = .ok (.invokevirtual 147, 3) := by decide +kernel
theorem d176_40 : decode bM176 40 = .ok (.bipush 6, 2) := by decide +kernel
theorem d176_42 : decode bM176 42 = .ok (.if_icmp .gt 7, 3) := by decide +kernel
theorem d176_45 : decode bM176 45 = .ok (.iconst 1, 1) := by decide +kernel
theorem d176_46 : decode bM176 46 = .ok (.goto 4, 3) := by decide +kernel
theorem d176_49 : decode bM176 49 = .ok (.iconst 0, 1) := by decide +kernel
theorem d176_50 : decode bM176 50 = .ok (.ireturn, 1) := by decide +kernel
theorem d177_0 : decode bM177 0 = .ok (.aload_n 0, 1) := by decide +kernel
theorem d177_1 : decode bM177 1 = .ok (.dup, 1) := by decide +kernel
theorem d177_2 : decode bM177 2 = .ok (.getfield 82, 3) := by decide +kernel
theorem d177_5 : decode bM177 5 = .ok (.iconst 2, 1) := by decide +kernel
theorem d177_6 : decode bM177 6 = .ok (.iadd, 1) := by decide +kernel
theorem d177_7 : decode bM177 7 = .ok (.putfield 82, 3) := by decide +kernel
theorem d177_10 : decode bM177 10 = .ok (.iconst 0, 1) := by decide +kernel
theorem d177_11 : decode bM177 11 = .ok (.istore_n 2, 1) := by decide +kernel
theorem d177_12 : decode bM177 12 = .ok (.iload_n 2, 1) := by decide +kernel
theorem d177_13 : decode bM177 13 = .ok (.aload_n 1, 1) := by decide +kernel
theorem d177_14 : decode bM177 14 = .ok (.getfield 52, 3) := by decide +kernel
theorem d177_17 : decode bM177 17 = .ok (.invokevirtual 114, 3) := by decide +kernel
theorem d177_20 : decode bM177 20 = .ok (.if_icmp .ge 26, 3) := by decide +kernel
theorem d177_23 : decode bM177 23 = .ok (.aload_n 0, 1) := by decide +kernel
theorem d177_24 : decode bM177 24 = .ok (.aload_n 1, 1) := by decide +kernel
theorem d177_25 : decode bM177 25 = .ok (.getfield 52, 3) := by decide +kernel
theorem d177_28 : decode bM177 28 = .ok (.iload_n 2, 1) := by decide +kernel
theorem d177_29 : decode bM177 29 = .ok (.invokevirtual 145, 3) := by decide +kernel
theorem d177_32 : decode bM177 32 = .ok (.invokevirtual 123, 3) := by decide +kernel
theorem d177_35 : decode bM177 35 = .ok (.ifCond .ne 5, 3) := by decide +kernel
theorem d177_38 : decode bM177 38 = .ok (.iconst 0, 1) := by decide +kernel
theorem d177_39 : decode bM177 39 = .ok (.ireturn, 1) := by decide +kernel
theorem d177_40 : decode bM177 40 = .ok (.iinc 2 1, 3) := by decide +kernel
theorem d177_43 : decode bM177 43 = .ok (.goto (-31), 3) := by decide +kernel
theorem d177_46 : decode bM177 46 = .ok (.aload_n 0, 1) := by decide +kernel
theorem d177_47 : decode bM177 47 = .ok (.bipush 62, 2) := by decide +kernel
theorem d177_49 : decode bM177 49 = .ok (.invokevirtual 123, 3) := by decide +kernel
theorem d177_52 : decode bM177 52 = .ok (.ireturn, 1) := by decide +kernel
theorem d178_0 : decode bM178 0 = .ok (.iconst 0, 1) := by decide +kernel
theorem d178_1 : decode bM178 1 = .ok (.istore_n 1, 1) := by decide +kernel
theorem d178_2 : decode bM178 2 = .ok (.iconst 0, 1) := by decide +kernel
theorem d178_3 : decode bM178 3 = .ok (.istore_n 2, 1) := by decide +kernel
theorem d178_4 : decode bM178 4 = .ok (.iload_n 2, 1) := by decide +kernel
theorem d178_5 : decode bM178 5 = .ok (.iconst 2, 1) := by decide +kernel
theorem d178_6 : decode bM178 6 = .ok (.if_icmp .ge 50, 3) := by decide +kernel
theorem d178_9 : decode bM178 9 = .ok (.aload_n 0, 1) := by decide +kernel
theorem d178_10 : decode bM178 10 = .ok (.aload_n 0, 1) := by decide +kernel
theorem d178_11 : decode bM178 11 = .ok (.getfield 24, 3) := by decide +kernel
theorem d178_14 : decode bM178 14 = .ok (.invokevirtual 28, 3) := by decide +kernel
theorem d178_17 : decode bM178 17 = .ok (.invokestatic 117, 3) := by decide +kernel
theorem d178_20 : decode bM178 20 = .ok (.ifCond .eq 36, 3) := by decide +kernel
theorem d178_23 : decode bM178 23 = .ok (.bipush 10, 2) := by decide +kernel
theorem d178_25 : decode bM178 25 = .ok (.iload_n 1, 1) := by decide +kernel
theorem d178_26 : decode bM178 26 = .ok (.imul, 1) := by decide +kernel
theorem d178_27 : decode bM178 27 = .ok (.aload_n 0, 1) := by decide +kernel
theorem d178_28 : decode bM178 28 = .ok (.aload_n 0, 1) := by decide +kernel
theorem d178_29 : decode bM178 29 = .ok (.getfield 24, 3) := by decide +kernel
theorem d178_32 : decode bM178 32 = .ok (.invokevirtual 28, 3) := by decide +kernel
theorem d178_35 : decode bM178 35 = .ok (.iadd, 1) := by decide +kernel
theorem d178_36 : decode bM178 36 = .ok (.bipush 48, 2) := by decide +kernel
theorem d178_38 : decode bM178 38 = .ok (.isub, 1) := by decide +kernel
theorem d178_39 : decode bM178 39 = .ok (.istore_n 1, 1) := by decide +kernel
theorem d178_40 : decode bM178 40 = .ok (.aload_n 0, 1) := by decide +kernel
theorem d178_41 : decode bM178 41 = .ok (.dup, 1) := by decide +kernel
theorem d178_42 : decode bM178 42 = .ok (.getfield 24, 3) := by decide +kernel
theorem d178_45 : decode bM178 45 = .ok (.iconst 1, 1) := by decide +kernel
theorem d178_46 : decode bM178 46 = .ok (.iadd, 1) := by decide +kernel
theorem d178_47 : decode bM178 47 = .ok (.putfield 24, 3) := by decide +kernel
theorem d178_50 : decode bM178 50 = .ok (.iinc 2 1, 3) := by decide +kernel
theorem d178_53 : decode bM178 53 = .ok (.goto (-49), 3) := by decide +kernel
theorem d178_56 : decode bM178 56 = .ok (.iload_n 1, 1) := by decide +kernel
theorem d178_57 : decode bM178 57 = .ok (.ireturn, 1) := by decide +kernel
theorem d179_0 : decode bM179 0 = .ok (.iconst 0, 1) := by decide +kernel
theorem d179_1 : decode bM179 1 = .ok (.istore_n 2, 1) := by decide +kernel
theorem d179_2 : decode bM179 2 = .ok (.iload_n 2, 1) := by decide +kernel
theorem d179_3 : decode bM179 3 = .ok (.aload_n 1, 1) := by decide +kernel
theorem d179_4 : decode bM179 4 = .ok (.invokevirtual 105, 3) := by decide +kernel
theorem d179_7 : decode bM179 7 = .ok (.if_icmp .ge 18, 3) := by decide +kernel
theorem d179_10 : decode bM179 10 = .ok (.aload_n 0, 1) := by decide +kernel
theorem d179_11 : decode bM179 11 = .ok (.aload_n 1, 1) := by decide +kernel
theorem d179_12 : decode bM179 12 = .ok (.iload_n 2, 1) := by decide +kernel
theorem d179_13 : decode bM179 13 = .ok (.invokevirtual 110, 3) := by decide +kernel
theorem d179_16 : decode bM179 16 = .ok (.invokevirtual 71, 3) := by decide +kernel
theorem d179_19 : decode bM179 19 = .ok (.iinc 2 1, 3) := by decide +kernel
theorem d179_22 : decode bM179 22 = .ok (.goto (-20), 3) := by decide +kernel
theorem d179_25 : decode bM179 25 = .ok (.return_, 1) := by decide +kernel
theorem d180_0 : decode bM180 0 = .ok (.aload_n 1, 1) := by decide +kernel
theorem d180_1 : decode bM180 1 = .ok (.getfield 107, 3) := by decide +kernel
theorem d180_4 : decode bM180 4 = .ok (.bipush 32, 2) := by decide +kernel
theorem d180_6 : decode bM180 6 = .ok (.if_icmp .ne 15, 3) := by decide +kernel
theorem d180_9 : decode bM180 9 = .ok (.iconst 0, 1) := by decide +kernel
theorem d180_10 : decode bM180 10 = .ok (.aload_n 0, 1) := by decide +kernel
theorem d180_11 : decode bM180 11 = .ok (.getfield 9, 3) := by decide +kernel
theorem d180_14 : decode bM180 14 = .ok (.getfield 45, 3) := by decide +kernel
theorem d180_17 : decode bM180 17 = .ok (.invokestatic 125, 3) := by decide +kernel
theorem d180_20 : decode bM180 20 = .ok (.lreturn, 1) := by decide +kernel
theorem d180_21 : decode bM180 21 = .ok (.lconst 0, 1) := by decide +kernel
theorem d180_22 : decode bM180 22 = .ok (.lstore_n 2, 1) := by decide +kernel
theorem d180_23 : decode bM180 23 = .ok (.iconst 0, 1) := by decide +kernel
theorem d180_24 : decode bM180 24 = .ok (.istore 4, 2) := by decide +kernel
theorem d180_26 : decode bM180 26 = .ok (.iload 4, 2) := by decide +kernel
theorem d180_28 : decode bM180 28 = .ok (.aload_n 0, 1) := by decide +kernel
theorem d180_29 : decode bM180 29 = .ok (.getfield 9, 3) := by decide +kernel
theorem d180_32 : decode bM180 32 = .ok (.getfield 45, 3) := by decide +kernel
theorem d180_35 : decode bM180 35 = .ok (.if_icmp .ge 38, 3) := by decide +kernel
theorem d180_38 : decode bM180 38 = .ok (.lload_n 2, 1) := by decide +kernel
theorem d180_39 : decode bM180 39 = .ok (.aload_n 0, 1) := by decide +kernel
theorem d180_40 : decode bM180 40 = .ok (.aload_n 0, 1) := by decide +kernel
theorem d180_41 : decode bM180 41 = .ok (.getfield 9, 3) := by decide +kernel
theorem d180_44 : decode bM180 44 = .ok (.getfield 54, 3) := by decide +kernel
theorem d180_47 : decode bM180 47 = .ok (.iload 4, 2) := by decide +kernel
theorem d180_49 : decode bM180 49 = .ok (.aaload, 1) := by decide +kernel
theorem d180_50 : decode bM180 50 = .ok (.aload_n 1, 1) := by decide +kernel
theorem d180_51 : decode bM180 51 = .ok (.invokevirtual 129, 3) := by decide +kernel
theorem d180_54 : decode bM180 54 = .ok (.ifCond .eq 10, 3) := by decide +kernel
theorem d180_57 : decode bM180 57 = .ok (.lconst 1, 1) := by decide +kernel
theorem d180_58 : decode bM180 58 = .ok (.iload 4, 2) := by decide +kernel
theorem d180_60 : decode bM180 60 = .ok (.lshl, 1) := by decide +kernel
theorem d180_61 : decode bM180 61 = .ok (.goto 4, 3) := by decide +kernel
theorem d180_64 : decode bM180 64 = .ok (.lconst 0, 1) := by decide +kernel
theorem d180_65 : decode bM180 65 = .ok (.lor, 1) := by decide +kernel
theorem d180_66 : decode bM180 66 = .ok (.lstore_n 2, 1) := by decide +kernel
theorem d180_67 : decode bM180 67 = .ok (.iinc 4 1, 3) := by decide +kernel
theorem d180_70 : decode bM180 70 = .ok (.goto (-44), 3) := by decide +kernel
theorem d180_73 : decode bM180 73 = .ok (.lload_n 2, 1) := by decide +kernel
theorem d180_74 : decode bM180 74 = .ok (.lreturn, 1) := by decide +kernel
theorem d181_0 : decode bM181 0 = .ok (.iload_n 1, 1) := by decide +kernel
theorem d181_1 : decode bM181 1 = .ok (.tableswitch 41 67 69 #[27, 29, 29], 27) := by decide +kernel
theorem d181_28 : decode bM181 28 = .ok (.lconst 1, 1) := by decide +kernel
theorem d181_29 : decode bM181 29 = .ok (.lreturn, 1) := by decide +kernel
theorem d181_30 : decode bM181 30 = .ok (.iconst 0, 1) := by decide +kernel
theorem d181_31 : decode bM181 31 = .ok (.aload_n 0, 1) := by decide +kernel
theorem d181_32 : decode bM181 32 = .ok (.getfield 9, 3) := by decide +kernel
theorem d181_35 : decode bM181 35 = .ok (.getfield 45, 3) := by decide +kernel
theorem d181_38 : decode bM181 38 = .ok (.invokestatic 125, 3) := by decide +kernel
theorem d181_41 : decode bM181 41 = .ok (.lreturn, 1) := by decide +kernel
theorem d181_42 : decode bM181 42 = .ok (.lconst 0, 1) := by decide +kernel
theorem d181_43 : decode bM181 43 = .ok (.lreturn, 1) := by decide +kernel
theorem d182_0 : decode bM182 0 = .ok (.iload_n 1, 1) := by decide +kernel
theorem d182_1 : decode bM182 1 = .ok (.tableswitch 254 65 83 #[146, 152, 254, 91, 109, 216, 254, 254, 254, 254, 254, 198, 254, 172, 254, 125, 254, 235, 165], 91) := by decide +kernel
theorem d182_92 : decode bM182 92 = .ok (.aload_n 2, 1) := by decide +kernel
theorem d182_93 : decode bM182 93 = .ok (.getfield 137, 3) := by decide +kernel
theorem d182_96 : decode bM182 96 = .ok (.iconst 1, 1) := by decide +kernel
theorem d182_97 : decode bM182 97 = .ok (.iadd, 1) := by decide +kernel
theorem d182_98 : decode bM182 98 = .ok (.aload_n 0, 1) := by decide +kernel
theorem d182_99 : decode bM182 99 = .ok (.getfield 9, 3) := by decide +kernel
theorem d182_102 : decode bM182 102 = .ok (.aload_n 2, 1) := by decide +kernel
theorem d182_103 : decode bM182 103 = .ok (.invokevirtual 133, 3) := by decide +kernel
theorem d182_106 : decode bM182 106 = .ok (.invokestatic 125, 3) := by decide +kernel
theorem d182_109 : decode bM182 109 = .ok (.lreturn, 1) := by decide +kernel
theorem d182_110 : decode bM182 110 = .ok (.aload_n 2, 1) := by decide +kernel
theorem d182_111 : decode bM182 111 = .ok (.getfield 137, 3) := by decide +kernel
theorem d182_114 : decode bM182 114 = .ok (.aload_n 0, 1) := by decide +kernel
theorem d182_115 : decode bM182 115 = .ok (.getfield 9, 3) := by decide +kernel
theorem d182_118 : decode bM182 118 = .ok (.aload_n 2, 1) := by decide +kernel
theorem d182_119 : decode bM182 119 = .ok (.invokevirtual 133, 3) := by decide +kernel
theorem d182_122 : decode bM182 122 = .ok (.invokestatic 125, 3) := by decide +kernel
theorem d182_125 : decode bM182 125 = .ok (.lreturn, 1) := by decide +kernel
theorem d182_126 : decode bM182 126 = .ok (.aload_n 2, 1) := by decide +kernel
theorem d182_127 : decode bM182 127 = .ok (.getfield 196, 3) := by decide +kernel
theorem d182_130 : decode bM182 130 = .ok (.ifnonnull 7, 3) := by decide +kernel
theorem d182_133 : decode bM182 133 = .ok (.lconst 0, 1) := by decide +kernel
theorem d182_134 : decode bM182 134 = .ok (.goto 12, 3) := by decide +kernel
theorem d182_137 : decode bM182 137 = .ok (.lconst 1, 1) := by decide +kernel
theorem d182_138 : decode bM182 138 = .ok (.aload_n 2, 1) := by decide +kernel
theorem d182_139 : decode bM182 139 = .ok (.getfield 196, 3) := by decide +kernel
theorem d182_142 : decode bM182 142 = .ok (.getfield 137, 3) := by decide +kernel
theorem d182_145 : decode bM182 145 = .ok (.lshl, 1) := by decide +kernel
theorem d182_146 : decode bM182 146 = .ok (.lreturn, 1) := by decide +kernel
theorem d182_147 : decode bM182 147 = .ok (.aload_n 0, 1) := by decide +kernel
theorem d182_148 : decode bM182 148 = .ok (.aload_n 2, 1) := by decide +kernel
theorem d182_149 : decode bM182 149 = .ok (.invokevirtual 200, 3) := by decide +kernel
theorem d182_152 : decode bM182 152 = .ok (.lreturn, 1) := by decide +kernel
theorem d182_153 : decode bM182 153 = .ok (.aload_n 0, 1) := by decide +kernel
theorem d182_154 : decode bM182 154 = .ok (.aload_n 2, 1) := by decide +kernel
theorem d182_155 : decode bM182 155 = .ok (.invokevirtual 200, 3) := by decide +kernel
theorem d182_158 : decode bM182 158 = .ok (.lconst 1, 1) := by decide +kernel
theorem d182_159 : decode bM182 159 = .ok (.aload_n 2, 1) := by decide +kernel
theorem d182_160 : decode bM182 160 = .ok (.getfield 137, 3) := by decide +kernel
theorem d182_163 : decode bM182 163 = .ok (.lshl, 1) := by decide +kernel
theorem d182_164 : decode bM182 164 = .ok (.lor, 1) := by decide +kernel
theorem d182_165 : decode bM182 165 = .ok (.lreturn, 1) := by decide +kernel
theorem d182_166 : decode bM182 166 = .ok (.lconst 1, 1) := by decide +kernel
theorem d182_167 : decode bM182 167 = .ok (.aload_n 2, 1) := by decide +kernel
theorem d182_168 : decode bM182 168 = .ok (.getfield 137, 3) := by decide +kernel
theorem d182_171 : decode bM182 171 = .ok (.lshl, 1) := by decide +kernel
theorem d182_172 : decode bM182 172 = .ok (.lreturn, 1) := by decide +kernel
theorem d182_173 : decode bM182 173 = .ok (.aload_n 0, 1) := by decide +kernel
theorem d182_174 : decode bM182 174 = .ok (.aload_n 2, 1) := by decide +kernel
theorem d182_175 : decode bM182 175 = .ok (.getfield 196, 3) := by decide +kernel
theorem d182_178 : decode bM182 178 = .ok (.invokevirtual 204, 3) := by decide +kernel
theorem d182_181 : decode bM182 181 = .ok (.aload_n 2, 1) := by decide +kernel
theorem d182_182 : decode bM182 182 = .ok (.getfield 137, 3) := by decide +kernel
theorem d182_185 : decode bM182 185 = .ok (.iconst 1, 1) := by decide +kernel
theorem d182_186 : decode bM182 186 = .ok (.iadd, 1) := by decide +kernel
theorem d182_187 : decode bM182 187 = .ok (.aload_n 0, 1) := by decide +kernel
theorem d182_188 : decode bM182 188 = .ok (.getfield 9, 3) := by decide +kernel
theorem d182_191 : decode bM182 191 = .ok (.getfield 45, 3) := by decide +kernel
theorem d182_194 : decode bM182 194 = .ok (.invokestatic 125, 3) := by decide +kernel
theorem d182_197 : decode bM182 197 = .ok (.land, 1) := by decide +kernel
theorem d182_198 : decode bM182 198 = .ok (.lreturn, 1) := by decide +kernel
theorem d182_199 : decode bM182 199 = .ok (.aload_n 0, 1) := by decide +kernel
theorem d182_200 : decode bM182 200 = .ok (.aload_n 2, 1) := by decide +kernel
theorem d182_201 : decode bM182 201 = .ok (.getfield 196, 3) := by decide +kernel
theorem d182_204 : decode bM182 204 = .ok (.invokevirtual 204, 3) := by decide +kernel
theorem d182_207 : decode bM182 207 = .ok (.iconst 0, 1) := by decide +kernel
theorem d182_208 : decode bM182 208 = .ok (.aload_n 2, 1) := by decide +kernel
theorem d182_209 : decode bM182 209 = .ok (.getfield 137, 3) := by decide +kernel
theorem d182_212 : decode bM182 212 = .ok (.invokestatic 125, 3) := by decide +kernel
theorem d182_215 : decode bM182 215 = .ok (.land, 1) := by decide +kernel
theorem d182_216 : decode bM182 216 = .ok (.lreturn, 1) := by decide +kernel
theorem d182_217 : decode bM182 217 = .ok (.aload_n 0, 1) := by decide +kernel
theorem d182_218 : decode bM182 218 = .ok (.getfield 9, 3) := by decide +kernel
theorem d182_221 : decode bM182 221 = .ok (.aload_n 2, 1) := by decide +kernel
theorem d182_222 : decode bM182 222 = .ok (.invokevirtual 133, 3) := by decide +kernel
theorem d182_225 : decode bM182 225 = .ok (.aload_n 0, 1) := by decide +kernel
theorem d182_226 : decode bM182 226 = .ok (.getfield 9, 3) := by decide +kernel
theorem d182_229 : decode bM182 229 = .ok (.getfield 45, 3) := by decide +kernel
theorem d182_232 : decode bM182 232 = .ok (.invokestatic 125, 3) := by decide +kernel
theorem d182_235 : decode bM182 235 = .ok (.lreturn, 1) := by decide +kernel
theorem d182_236 : decode bM182 236 = .ok (.iconst 0, 1) := by decide +kernel
theorem d182_237 : decode bM182 237 = .ok (.aload_n 2, 1) := by decide +kernel
theorem d182_238 : decode bM182 238 = .ok (.getfield 137, 3) := by decide +kernel
theorem d182_241 : decode bM182 241 = .ok (.invokestatic 125, 3) := by decide +kernel
theorem d182_244 : decode bM182 244 = .ok (.aload_n 0, 1) := by decide +kernel
theorem d182_245 : decode bM182 245 = .ok (.aload_n 2, 1) := by decide +kernel
theorem d182_246 : decode bM182 246 = .ok (.invokevirtual 200, 3) := by decide +kernel
theorem d182_249 : decode bM182 249 = .ok (.ldc2_w 194, 3) := by decide +kernel
theorem d182_252 : decode bM182 252 = .ok (.lxor, 1) := by decide +kernel
theorem d182_253 : decode bM182 253 = .ok (.land, 1) := by decide +kernel
theorem d182_254 : decode bM182 254 = .ok (.lreturn, 1) := by decide +kernel
theorem d182_255 : decode bM182 255 = .ok (.aload_n 0, 1) := by decide +kernel
theorem d182_256 : decode bM182 256 = .ok (.aload_n 2, 1) := by decide +kernel
theorem d182_257 : decode bM182 257 = .ok (.invokevirtual 204, 3) := by decide +kernel
theorem d182_260 : decode bM182 260 = .ok (.lreturn, 1) := by decide +kernel
theorem d183_0 : decode bM183 0 = .ok (.aload_n 1, 1) := by decide +kernel
theorem d183_1 : decode bM183 1 = .ok (.invokevirtual 243, 3) := by decide +kernel
theorem d183_4 : decode bM183 4 = .ok (.ifCond .ne 12, 3) := by decide +kernel
theorem d183_7 : decode bM183 7 = .ok (.aload_n 1, 1) := by decide +kernel
theorem d183_8 : decode bM183 8 = .ok (.invokevirtual 147, 3) := by decide +kernel
theorem d183_11 : decode bM183 11 = .ok (.bipush 20, 2) := by decide +kernel
theorem d183_13 : decode bM183 13 = .ok (.if_icmp .le 5, 3) := by decide +kernel
theorem d183_16 : decode bM183 16 = .ok (.iconst 0, 1) := by decide +kernel
theorem d183_17 : decode bM183 17 = .ok (.ireturn, 1) := by decide +kernel
theorem d183_18 : decode bM183 18 = .ok (.iload_n 0, 1) := by decide +kernel
theorem d183_19 : decode bM183 19 = .ok (.iconst 1, 1) := by decide +kernel
theorem d183_20 : decode bM183 20 = .ok (.if_icmp .ne 8, 3) := by decide +kernel
theorem d183_23 : decode bM183 23 = .ok (.aload_n 1, 1) := by decide +kernel
theorem d183_24 : decode bM183 24 = .ok (.invokestatic 246, 3) := by decide +kernel
theorem d183_27 : decode bM183 27 = .ok (.ireturn, 1) := by decide +kernel
theorem d183_28 : decode bM183 28 = .ok (.iload_n 0, 1) := by decide +kernel
theorem d183_29 : decode bM183 29 = .ok (.iconst 3, 1) := by decide +kernel
theorem d183_30 : decode bM183 30 = .ok (.if_icmp .ne 10, 3) := by decide +kernel
theorem d183_33 : decode bM183 33 = .ok (.aload_n 1, 1) := by decide +kernel
theorem d183_34 : decode bM183 34 = .ok (.invokestatic 250, 3) := by decide +kernel
theorem d183_37 : decode bM183 37 = .ok (.ifCond .eq 7, 3) := by decide +kernel
theorem d183_40 : decode bM183 40 = .ok (.iconst 1, 1) := by decide +kernel
theorem d183_41 : decode bM183 41 = .ok (.goto 4, 3) := by decide +kernel
theorem d183_44 : decode bM183 44 = .ok (.iconst 0, 1) := by decide +kernel
theorem d183_45 : decode bM183 45 = .ok (.ireturn, 1) := by decide +kernel
theorem d184_0 : decode bM184 0 = .ok (.aload_n 1, 1) := by decide +kernel
theorem d184_1 : decode bM184 1 = .ok (.astore_n 3, 1) := by decide +kernel
theorem d184_2 : decode bM184 2 = .ok (.aload_n 3, 1) := by decide +kernel
theorem d184_3 : decode bM184 3 = .ok (.ifnull 36, 3) := by decide +kernel
theorem d184_6 : decode bM184 6 = .ok (.aload_n 3, 1) := by decide +kernel
theorem d184_7 : decode bM184 7 = .ok (.aload_n 2, 1) := by decide +kernel
theorem d184_8 : decode bM184 8 = .ok (.if_acmp .eq 31, 3) := by decide +kernel
theorem d184_11 : decode bM184 11 = .ok (.aload_n 0, 1) := by decide +kernel
theorem d184_12 : decode bM184 12 = .ok (.ldc 69, 2) := by decide +kernel
theorem d184_14 : decode bM184 14 = .ok (.invokevirtual 63, 3) := by decide +kernel
theorem d184_17 : decode bM184 17 = .ok (.aload_n 0, 1) := by decide +kernel
theorem d184_18 : decode bM184 18 = .ok (.aload_n 3, 1) := by decide +kernel
theorem d184_19 : decode bM184 19 = .ok (.getfield 51, 3) := by decide +kernel
theorem d184_22 : decode bM184 22 = .ok (.invokevirtual 63, 3) := by decide +kernel
theorem d184_25 : decode bM184 25 = .ok (.aload_n 0, 1) := by decide +kernel
theorem d184_26 : decode bM184 26 = .ok (.bipush 62, 2) := by decide +kernel
theorem d184_28 : decode bM184 28 = .ok (.invokevirtual 71, 3) := by decide +kernel
theorem d184_31 : decode bM184 31 = .ok (.aload_n 3, 1) := by decide +kernel
theorem d184_32 : decode bM184 32 = .ok (.getfield 30, 3) := by decide +kernel
theorem d184_35 : decode bM184 35 = .ok (.astore_n 3, 1) := by decide +kernel
theorem d184_36 : decode bM184 36 = .ok (.goto (-34), 3) := by decide +kernel
theorem d184_39 : decode bM184 39 = .ok (.return_, 1) := by decide +kernel
theorem d185_0 : decode bM185 0 = .ok (.iconst 0, 1) := by decide +kernel
theorem d185_1 : decode bM185 1 = .ok (.istore 4, 2) := by decide +kernel
theorem d185_3 : decode bM185 3 = .ok (.iload 4, 2) := by decide +kernel
theorem d185_5 : decode bM185 5 = .ok (.aload_n 1, 1) := by decide +kernel
theorem d185_6 : decode bM185 6 = .ok (.invokevirtual 105, 3) := by decide +kernel
theorem d185_9 : decode bM185 9 = .ok (.if_icmp .ge 69, 3) := by decide +kernel
theorem d185_12 : decode bM185 12 = .ok (.aload_n 1, 1) := by decide +kernel
theorem d185_13 : decode bM185 13 = .ok (.iload 4, 2) := by decide +kernel
theorem d185_15 : decode bM185 15 = .ok (.invokevirtual 110, 3) := by decide +kernel
theorem d185_18 : decode bM185 18 = .ok (.istore 5, 2) := by decide +kernel
theorem d185_20 : decode bM185 20 = .ok (.iload 5, 2) := by decide +kernel
theorem d185_22 : decode bM185 22 = .ok (.bipush 38, 2) := by decide +kernel
theorem d185_24 : decode bM185 24 = .ok (.if_icmp .ne 12, 3) := by decide +kernel
theorem d185_27 : decode bM185 27 = .ok (.aload_n 0, 1) := by decide +kernel
theorem d185_28 : decode bM185 28 = .ok (.ldc 114, 2) := by decide +kernel
theorem d185_30 : decode bM185 30 = .ok (.invokevirtual 63, 3) := by decide +kernel
theorem d185_33 : decode bM185 33 = .ok (.goto 39, 3) := by decide +kernel
theorem d185_36 : decode bM185 36 = .ok (.iload 5, 2) := by decide +kernel
theorem d185_38 : decode bM185 38 = .ok (.bipush 60, 2) := by decide +kernel
theorem d185_40 : decode bM185 40 = .ok (.if_icmp .ne 12, 3) := by decide +kernel
theorem d185_43 : decode bM185 43 = .ok (.aload_n 0, 1) := by decide +kernel
theorem d185_44 : decode bM185 44 = .ok (.ldc 116, 2) := by decide +kernel
theorem d185_46 : decode bM185 46 = .ok (.invokevirtual 63, 3) := by decide +kernel
theorem d185_49 : decode bM185 49 = .ok (.goto 23, 3) := by decide +kernel
theorem d185_52 : decode bM185 52 = .ok (.iload 5, 2) := by decide +kernel
theorem d185_54 : decode bM185 54 = .ok (.iload_n 2, 1) := by decide +kernel
theorem d185_55 : decode bM185 55 = .ok (.if_icmp .ne 11, 3) := by decide +kernel
theorem d185_58 : decode bM185 58 = .ok (.aload_n 0, 1) := by decide +kernel
theorem d185_59 : decode bM185 59 = .ok (.aload_n 3, 1) := by decide +kernel
theorem d185_60 : decode bM185 60 = .ok (.invokevirtual 63, 3) := by decide +kernel
theorem d185_63 : decode bM185 63 = .ok (.goto 9, 3) := by decide +kernel
theorem d185_66 : decode bM185 66 = .ok (.aload_n 0, 1) := by decide +kernel
theorem d185_67 : decode bM185 67 = .ok (.iload 5, 2) := by decide +kernel
theorem d185_69 : decode bM185 69 = .ok (.invokevirtual 71, 3) := by decide +kernel
theorem d185_72 : decode bM185 72 = .ok (.iinc 4 1, 3) := by decide +kernel
theorem d185_75 : decode bM185 75 = .ok (.goto (-72), 3) := by decide +kernel
theorem d185_78 : decode bM185 78 = .ok (.return_, 1) := by decide +kernel
theorem d186_0 : decode bM186 0 = .ok (.aload_n 0, 1) := by decide +kernel
theorem d186_1 : decode bM186 1 = .ok (.bipush 60, 2) := by decide +kernel
theorem d186_3 : decode bM186 3 = .ok (.invokevirtual 71, 3) := by decide +kernel
theorem d186_6 : decode bM186 6 = .ok (.aload_n 0, 1) := by decide +kernel
theorem d186_7 : decode bM186 7 = .ok (.aload_n 1, 1) := by decide +kernel
theorem d186_8 : decode bM186 8 = .ok (.getfield 51, 3) := by decide +kernel
theorem d186_11 : decode bM186 11 = .ok (.invokevirtual 63, 3) := by decide +kernel
theorem d186_14 : decode bM186 14 = .ok (.iconst 0, 1) := by decide +kernel
theorem d186_15 : decode bM186 15 = .ok (.istore_n 3, 1) := by decide +kernel
theorem d186_16 : decode bM186 16 = .ok (.iload_n 3, 1) := by decide +kernel
theorem d186_17 : decode bM186 17 = .ok (.aload_n 1, 1) := by decide +kernel
theorem d186_18 : decode bM186 18 = .ok (.getfield 75, 3) := by decide +kernel
theorem d186_21 : decode bM186 21 = .ok (.invokevirtual 79, 3) := by decide +kernel
theorem d186_24 : decode bM186 24 = .ok (.if_icmp .ge 67, 3) := by decide +kernel
theorem d186_27 : decode bM186 27 = .ok (.aload_n 0, 1) := by decide +kernel
theorem d186_28 : decode bM186 28 = .ok (.bipush 32, 2) := by decide +kernel
theorem d186_30 : decode bM186 30 = .ok (.invokevirtual 71, 3) := by decide +kernel
theorem d186_33 : decode bM186 33 = .ok (.aload_n 0, 1) := by decide +kernel
theorem d186_34 : decode bM186 34 = .ok (.aload_n 1, 1) := by decide +kernel
theorem d186_35 : decode bM186 35 = .ok (.getfield 75, 3) := by decide +kernel
theorem d186_38 : decode bM186 38 = .ok (.iload_n 3, 1) := by decide +kernel
theorem d186_39 : decode bM186 39 = .ok (.invokevirtual 84, 3) := by decide +kernel
theorem d186_42 : decode bM186 42 = .ok (.checkcast 88, 3) := by decide +kernel
theorem d186_45 : decode bM186 45 = .ok (.invokevirtual 90, 3) := by decide +kernel
theorem d186_48 : decode bM186 48 = .ok (.invokevirtual 63, 3) := by decide +kernel
theorem d186_51 : decode bM186 51 = .ok (.aload_n 0, 1) := by decide +kernel
theorem d186_52 : decode bM186 52 = .ok (.ldc 94, 2) := by decide +kernel
theorem d186_54 : decode bM186 54 = .ok (.invokevirtual 63, 3) := by decide +kernel
theorem d186_57 : decode bM186 57 = .ok (.aload_n 0, 1) := by decide +kernel
theorem d186_58 : decode bM186 58 = .ok (.aload_n 1, 1) := by decide +kernel
theorem d186_59 : decode bM186 59 = .ok (.getfield 75, 3) := by decide +kernel
theorem d186_62 : decode bM186 62 = .ok (.iload_n 3, 1) := by decide +kernel
theorem d186_63 : decode bM186 63 = .ok (.invokevirtual 84, 3) := by decide +kernel
theorem d186_66 : decode bM186 66 = .ok (.checkcast 88, 3) := by decide +kernel
theorem d186_69 : decode bM186 69 = .ok (.invokevirtual 96, 3) := by decide +kernel
theorem d186_72 : decode bM186 72 = .ok (.bipush 34, 2) := by decide +kernel
theorem d186_74 : decode bM186 74 = .ok (.ldc 99, 2) := by decide +kernel
theorem d186_76 : decode bM186 76 = .ok (.invokevirtual 57, 3) := by decide +kernel
theorem d186_79 : decode bM186 79 = .ok (.aload_n 0, 1) := by decide +kernel
theorem d186_80 : decode bM186 80 = .ok (.bipush 34, 2) := by decide +kernel
theorem d186_82 : decode bM186 82 = .ok (.invokevirtual 71, 3) := by decide +kernel
theorem d186_85 : decode bM186 85 = .ok (.iinc 3 1, 3) := by decide +kernel
theorem d186_88 : decode bM186 88 = .ok (.goto (-72), 3) := by decide +kernel
theorem d186_91 : decode bM186 91 = .ok (.aload_n 0, 1) := by decide +kernel
theorem d186_92 : decode bM186 92 = .ok (.iload_n 2, 1) := by decide +kernel
theorem d186_93 : decode bM186 93 = .ok (.ifCond .eq 8, 3) := by decide +kernel
theorem d186_96 : decode bM186 96 = .ok (.ldc 101, 2) := by decide +kernel
theorem d186_98 : decode bM186 98 = .ok (.goto 5, 3) := by decide +kernel
theorem d186_101 : decode bM186 101 = .ok (.ldc 103, 2) := by decide +kernel
theorem d186_103 : decode bM186 103 = .ok (.invokevirtual 63, 3) := by decide +kernel
theorem d186_106 : decode bM186 106 = .ok (.return_, 1) := by decide +kernel
theorem d187_0 : decode bM187 0 = .ok (.aconst_null, 1) := by decide +kernel
theorem d187_1 : decode bM187 1 = .ok (.astore_n 2, 1) := by decide +kernel
theorem d187_2 : decode bM187 2 = .ok (.iconst 0, 1) := by decide +kernel
theorem d187_3 : decode bM187 3 = .ok (.istore_n 3, 1) := by decide +kernel
theorem d187_4 : decode bM187 4 = .ok (.iload_n 3, 1) := by decide +kernel
theorem d187_5 : decode bM187 5 = .ok (.aload_n 1, 1) := by decide +kernel
theorem d187_6 : decode bM187 6 = .ok (.getfield 21, 3) := by decide +kernel
theorem d187_9 : decode bM187 9 = .ok (.if_icmp .ge 130, 3) := by decide +kernel
theorem d187_12 : decode bM187 12 = .ok (.aload_n 1, 1) := by decide +kernel
theorem d187_13 : decode bM187 13 = .ok (.getfield 26, 3) := by decide +kernel
theorem d187_16 : decode bM187 16 = .ok (.iload_n 3, 1) := by decide +kernel
theorem d187_17 : decode bM187 17 = .ok (.aaload, 1) := by decide +kernel
theorem d187_18 : decode bM187 18 = .ok (.astore 4, 2) := by decide +kernel
theorem d187_20 : decode bM187 20 = .ok (.aload_n 0, 1) := by decide +kernel
theorem d187_21 : decode bM187 21 = .ok (.aload_n 2, 1) := by decide +kernel
theorem d187_22 : decode bM187 22 = .ok (.aload 4, 2) := by decide +kernel
theorem d187_24 : decode bM187 24 = .ok (.getfield 30, 3) := by decide +kernel
theorem d187_27 : decode bM187 27 = .ok (.invokevirtual 36, 3) := by decide +kernel
theorem d187_30 : decode bM187 30 = .ok (.aload 4, 2) := by decide +kernel
theorem d187_32 : decode bM187 32 = .ok (.getfield 30, 3) := by decide +kernel
theorem d187_35 : decode bM187 35 = .ok (.astore_n 2, 1) := by decide +kernel
theorem d187_36 : decode bM187 36 = .ok (.aload 4, 2) := by decide +kernel
theorem d187_38 : decode bM187 38 = .ok (.getfield 40, 3) := by decide +kernel
theorem d187_41 : decode bM187 41 = .ok (.iconst 1, 1) := by decide +kernel
theorem d187_42 : decode bM187 42 = .ok (.if_icmp .ne 45, 3) := by decide +kernel
theorem d187_45 : decode bM187 45 = .ok (.aload_n 1, 1) := by decide +kernel
theorem d187_46 : decode bM187 46 = .ok (.aload 4, 2) := by decide +kernel
theorem d187_48 : decode bM187 48 = .ok (.invokevirtual 43, 3) := by decide +kernel
theorem d187_51 : decode bM187 51 = .ok (.iload_n 3, 1) := by decide +kernel
theorem d187_52 : decode bM187 52 = .ok (.iconst 1, 1) := by decide +kernel
theorem d187_53 : decode bM187 53 = .ok (.iadd, 1) := by decide +kernel
theorem d187_54 : decode bM187 54 = .ok (.if_icmp .le 7, 3) := by decide +kernel
theorem d187_57 : decode bM187 57 = .ok (.iconst 1, 1) := by decide +kernel
theorem d187_58 : decode bM187 58 = .ok (.goto 4, 3) := by decide +kernel
theorem d187_61 : decode bM187 61 = .ok (.iconst 0, 1) := by decide +kernel
theorem d187_62 : decode bM187 62 = .ok (.istore 5, 2) := by decide +kernel
theorem d187_64 : decode bM187 64 = .ok (.aload_n 0, 1) := by decide +kernel
theorem d187_65 : decode bM187 65 = .ok (.aload 4, 2) := by decide +kernel
theorem d187_67 : decode bM187 67 = .ok (.iload 5, 2) := by decide +kernel
theorem d187_69 : decode bM187 69 = .ok (.invokevirtual 47, 3) := by decide +kernel
theorem d187_72 : decode bM187 72 = .ok (.iload 5, 2) := by decide +kernel
theorem d187_74 : decode bM187 74 = .ok (.ifCond .eq 8, 3) := by decide +kernel
theorem d187_77 : decode bM187 77 = .ok (.aload 4, 2) := by decide +kernel
theorem d187_79 : decode bM187 79 = .ok (.goto 4, 3) := by decide +kernel
theorem d187_82 : decode bM187 82 = .ok (.aload_n 2, 1) := by decide +kernel
theorem d187_83 : decode bM187 83 = .ok (.astore_n 2, 1) := by decide +kernel
theorem d187_84 : decode bM187 84 = .ok (.goto 49, 3) := by decide +kernel
theorem d187_87 : decode bM187 87 = .ok (.aload 4, 2) := by decide +kernel
theorem d187_89 : decode bM187 89 = .ok (.getfield 40, 3) := by decide +kernel
theorem d187_92 : decode bM187 92 = .ok (.iconst 2, 1) := by decide +kernel
theorem d187_93 : decode bM187 93 = .ok (.if_icmp .ne 19, 3) := by decide +kernel
theorem d187_96 : decode bM187 96 = .ok (.aload_n 0, 1) := by decide +kernel
theorem d187_97 : decode bM187 97 = .ok (.aload 4, 2) := by decide +kernel
theorem d187_99 : decode bM187 99 = .ok (.getfield 51, 3) := by decide +kernel
theorem d187_102 : decode bM187 102 = .ok (.bipush 62, 2) := by decide +kernel
theorem d187_104 : decode bM187 104 = .ok (.ldc 55, 2) := by decide +kernel
theorem d187_106 : decode bM187 106 = .ok (.invokevirtual 57, 3) := by decide +kernel
theorem d187_109 : decode bM187 109 = .ok (.goto 24, 3) := by decide +kernel
theorem d187_112 : decode bM187 112 = .ok (.aload_n 0, 1) := by decide +kernel
theorem d187_113 : decode bM187 113 = .ok (.ldc 61, 2) := by decide +kernel
theorem d187_115 : decode bM187 115 = .ok (.invokevirtual 63, 3) := by decide +kernel
theorem d187_118 : decode bM187 118 = .ok (.aload_n 0, 1) := by decide +kernel
theorem d187_119 : decode bM187 119 = .ok (.aload 4, 2) := by decide +kernel
theorem d187_121 : decode bM187 121 = .ok (.getfield 51, 3) := by decide +kernel
theorem d187_124 : decode bM187 124 = .ok (.invokevirtual 63, 3) := by decide +kernel
theorem d187_127 : decode bM187 127 = .ok (.aload_n 0, 1) := by decide +kernel
theorem d187_128 : decode bM187 128 = .ok (.ldc 67, 2) := by decide +kernel
theorem d187_130 : decode bM187 130 = .ok (.invokevirtual 63, 3) := by decide +kernel
theorem d187_133 : decode bM187 133 = .ok (.iinc 3 1, 3) := by decide +kernel
theorem d187_136 : decode bM187 136 = .ok (.goto (-132), 3) := by decide +kernel
theorem d187_139 : decode bM187 139 = .ok (.aload_n 0, 1) := by decide +kernel
theorem d187_140 : decode bM187 140 = .ok (.aload_n 2, 1) := by decide +kernel
theorem d187_141 : decode bM187 141 = .ok (.aconst_null, 1) := by decide +kernel
theorem d187_142 : decode bM187 142 = .ok (.invokevirtual 36, 3) := by decide +kernel
theorem d187_145 : decode bM187 145 = .ok (.return_, 1) := by decide +kernel
def w_Store_result_21 (dA : Nat → ClassId) (y0 : Nat) (K : Int32 → hm_T → hz_T → Prop) (h : hm_T) (z : hz_T) : Prop := (K (-1000) h z)
def w_Store_result (dA : Nat → ClassId) (y0 : Nat) (y1 : Int32) (K : Int32 → hm_T → hz_T → Prop) (h0 : hm_T) (z0 : hz_T) : Prop := (if y1 < 0 then (w_Store_result_21 dA y0 K h0 z0) else (cg_I h0 0 4 y0 (fun v21 => (if v21 ≤ y1 then (w_Store_result_21 dA y0 K h0 z0) else (cg_R h0 0 3 y0 (fun v22 => (cg_d v22 (fun a23 => (cg_ai dA h0 0 a23 y1 (fun v24 => (K v24 h0 z0)))))))))))
set_option maxRecDepth 100000 in
set_option maxHeartbeats 8000000 in
theorem cw_Store_result (l : Launch) (D : va_G) (dA : Nat → ClassId) (s0 : State) (hE : ms_EV D dA s0) (y0 : Nat) (y1 : Int32) (h0 : hm_T) (z0 : hz_T) (K : Int32 → hm_T → hz_T → Prop) (hg : w_Store_result dA y0 y1 K h0 z0) : ht_C l D s0 yM133 bM133 2 (Option.some Jvm.ClassFile.FieldType.int) 0 0 0 0 [.ref y0, .int y1] (fun h z => h = h0 ∧ z = z0) (fun h z vv h1 z1 => ∃ v, vv = some (.int v) ∧ K v h1 z1) := by
  refine ht_C.mk hE.1 (by decide) (Nat.le_of_ble_eq_true rfl) [(0, .ref y0), (1, .int y1)] rfl ?_
  intro p e s m below meth c ls h z X hin hpre I hl
  have hx := X.1
  have hb := X.2.1
  have hml := X.2.2.1
  have hown : s.vm.findClass "MarkupStore" = some m.cls := X.2.2.2.1
  have hts := X.2.2.2.2.2.2.1
  have hK := X.2.2.2.2.2.2.2.2.1
  rw [hpre.1, hpre.2] at I
  clear hpre
  have b21 : ∀ (ls : Array Slot) (h : hm_T) (z : hz_T) (H : Heap) (locs : List Loc), w_Store_result_21 dA y0 K h z → lv_has ls 2 [] → hm_I D s0 s h z H locs → W p l e { frames := 0, cells := 0, slots := 0, locals := 0 } s m ([.ref y0, .int y1] : List Value).toArray below meth c H locs 0 0 (MQ below (ht_Q D s0 (fun vv h1 z1 => ∃ v, vv = some (.int v) ∧ K v h1 z1)) ([.ref y0, .int y1] : List Value).toArray s 0 0 (fun q => s0.heap.size ≤ q)) (F0 m 21 ls []) := by
    intro ls h z H locs hF hl I
    unfold w_Store_result_21 at hF
    refine lv_sipush (v := (-1000)) hx hb d133_21 (by decide) ?_
    exact ht_iret X d133_24 I (Nat.le_of_ble_eq_true rfl) (Nat.le_of_ble_eq_true rfl) ⟨_, rfl, hF⟩
  have hF := hg
  unfold w_Store_result at hF
  clear h z
  refine lv_iload_n hx hb d133_0 rfl (lv_at hl 1 rfl) ?_
  refine lv_if_lt hx hb d133_1 rfl (fun h9 => ?_) (fun h9 => ?_)
  · have hF := Eq.mp (if_pos h9) hF
    exact b21 ls h0 z0 _ _ hF (hl.sub [] rfl) I
  · have hF := Eq.mp (if_neg h9) hF
    refine lv_iload_n hx hb d133_4 rfl (lv_at hl 1 rfl) ?_
    refine lv_aload_n hx hb d133_5 rfl (lv_at hl 0 rfl) ?_
    obtain ⟨fs9, v21, c9, e9, hF⟩ := hF
    refine va_get (D := D) (ci := 0) (v := .int v21) (C := kR0) (T := kT0) (N := 6) hx hb hts ku0 hown hK (hm_one I.1 c9) 0 rfl rfl 4 (by decide) (hts _ ms_k109) (fun _ h => h) e9 d133_6 ?_
    clear e9 c9 fs9
    refine lv_icmp_ge hx hb d133_9 rfl (fun h9 => ?_) (fun h9 => ?_)
    · have hF := Eq.mp (if_pos h9) hF
      exact b21 ls h0 z0 _ _ hF (hl.sub [] rfl) I
    · have hF := Eq.mp (if_neg h9) hF
      refine lv_aload_n hx hb d133_12 rfl (lv_at hl 0 rfl) ?_
      obtain ⟨fs9, v22, c9, e9, hF⟩ := hF
      refine va_get (D := D) (ci := 0) (v := va_rf v22) (C := kR0) (T := kT0) (N := 6) hx hb hts ku0 hown hK (hm_one I.1 c9) 0 rfl rfl 3 (by decide) (hts _ ms_k108) (fun _ h => h) e9 d133_13 ?_
      clear e9 c9 fs9
      refine lv_iload_n hx hb d133_16 rfl (lv_at hl 1 rfl) ?_
      obtain ⟨a23, e9, hF⟩ := hF
      refine W.eq (g2 := F0 m 17 ls [.int y1, .ref a23]) (by rw [e9]; rfl) ?_
      clear e9
      obtain ⟨n8, f8, c9, i9, hF⟩ := hF
      refine va_iald hx hb hK (hm_one I.1 c9) 0 0 rfl rfl i9 d133_17 ?_
      generalize f8 (Int32.toNatClampNeg y1) = v24 at hF ⊢
      clear c9 i9
      refine lv_goto hx hb d133_18 rfl ?_
      exact ht_iret X d133_24 I (Nat.le_of_ble_eq_true rfl) (Nat.le_of_ble_eq_true rfl) ⟨_, rfl, hF⟩

def w_Store_root (dA : Nat → ClassId) (y0 : Nat) (K : Int32 → hm_T → hz_T → Prop) (h0 : hm_T) (z0 : hz_T) : Prop := (cg_R h0 0 2 y0 (fun v21 => (cg_d v21 (fun a22 => (cg_I h0 1 3 a22 (fun v23 => (if v23 = 0 then (K (-1000) h0 z0) else (cg_R h0 0 2 y0 (fun v24 => (cg_d v24 (fun a25 => (cg_R h0 1 2 a25 (fun v26 => (cg_d v26 (fun a27 => (cg_ar dA h0 5 a27 0 (fun v28 => (cg_d v28 (fun a29 => (cg_I h0 8 5 a29 (fun v30 => (K v30 h0 z0))))))))))))))))))))))
set_option maxRecDepth 100000 in
set_option maxHeartbeats 8000000 in
theorem cw_Store_root (l : Launch) (D : va_G) (dA : Nat → ClassId) (s0 : State) (hE : ms_EV D dA s0) (y0 : Nat) (h0 : hm_T) (z0 : hz_T) (K : Int32 → hm_T → hz_T → Prop) (hg : w_Store_root dA y0 K h0 z0) : ht_C l D s0 yM134 bM134 1 (Option.some Jvm.ClassFile.FieldType.int) 0 0 0 0 [.ref y0] (fun h z => h = h0 ∧ z = z0) (fun h z vv h1 z1 => ∃ v, vv = some (.int v) ∧ K v h1 z1) := by
  refine ht_C.mk hE.1 (by decide) (Nat.le_of_ble_eq_true rfl) [(0, .ref y0)] rfl ?_
  intro p e s m below meth c ls h z X hin hpre I hl
  have hx := X.1
  have hb := X.2.1
  have hml := X.2.2.1
  have hown : s.vm.findClass "MarkupStore" = some m.cls := X.2.2.2.1
  have hts := X.2.2.2.2.2.2.1
  have hK := X.2.2.2.2.2.2.2.2.1
  rw [hpre.1, hpre.2] at I
  clear hpre
  have hF := hg
  unfold w_Store_root at hF
  clear h z
  refine lv_aload_n hx hb d134_0 rfl (lv_at hl 0 rfl) ?_
  obtain ⟨fs9, v21, c9, e9, hF⟩ := hF
  refine va_get (D := D) (ci := 0) (v := va_rf v21) (C := kR0) (T := kT0) (N := 6) hx hb hts ku0 hown hK (hm_one I.1 c9) 0 rfl rfl 2 (by decide) (hts _ ms_k107) (fun _ h => h) e9 d134_1 ?_
  clear e9 c9 fs9
  obtain ⟨a22, e9, hF⟩ := hF
  refine W.eq (g2 := F0 m 4 ls [.ref a22]) (by rw [e9]; rfl) ?_
  clear e9
  obtain ⟨fs9, v23, c9, e9, hF⟩ := hF
  refine va_get (D := D) (ci := 1) (v := .int v23) (C := kR1) (T := kT1) (N := 6) hx hb hts ku1 hown hK (hm_one I.1 c9) 0 rfl rfl 3 (by decide) (hts _ ms_k89) (fun _ h => h) e9 d134_4 ?_
  clear e9 c9 fs9
  refine lv_if_ne hx hb d134_7 rfl (fun h9 => ?_) (fun h9 => ?_)
  · have hF := Eq.mp (if_neg h9) hF
    refine lv_aload_n hx hb d134_16 rfl (lv_at hl 0 rfl) ?_
    obtain ⟨fs9, v24, c9, e9, hF⟩ := hF
    refine va_get (D := D) (ci := 0) (v := va_rf v24) (C := kR0) (T := kT0) (N := 6) hx hb hts ku0 hown hK (hm_one I.1 c9) 0 rfl rfl 2 (by decide) (hts _ ms_k107) (fun _ h => h) e9 d134_17 ?_
    clear e9 c9 fs9
    obtain ⟨a25, e9, hF⟩ := hF
    refine W.eq (g2 := F0 m 20 ls [.ref a25]) (by rw [e9]; rfl) ?_
    clear e9
    obtain ⟨fs9, v26, c9, e9, hF⟩ := hF
    refine va_get (D := D) (ci := 1) (v := va_rf v26) (C := kR1) (T := kT1) (N := 6) hx hb hts ku1 hown hK (hm_one I.1 c9) 0 rfl rfl 2 (by decide) (hts _ ms_k85) (fun _ h => h) e9 d134_20 ?_
    clear e9 c9 fs9
    refine lv_iconst (v := 0) hx hb d134_23 (by decide) ?_
    obtain ⟨a27, e9, hF⟩ := hF
    refine W.eq (g2 := F0 m 24 ls [.int 0, .ref a27]) (by rw [e9]; rfl) ?_
    clear e9
    obtain ⟨n8, f8, c9, i9, hF⟩ := hF
    refine va_aldq hx hb hK (hm_one I.1 c9) 0 5 rfl rfl i9 d134_24 ?_
    generalize f8 (Int32.toNatClampNeg (0 : Int32)) = v28 at hF ⊢
    clear c9 i9
    obtain ⟨a29, e9, hF⟩ := hF
    refine W.eq (g2 := F0 m 25 ls [.ref a29]) (by rw [e9]; rfl) ?_
    clear e9
    obtain ⟨fs9, v30, c9, e9, hF⟩ := hF
    refine va_get (D := D) (ci := 8) (v := .int v30) (C := kR8) (T := kT8) (N := 9) hx hb hts ku8 hown hK (hm_one I.1 c9) 0 rfl rfl 5 (by decide) (hts _ ms_k461) (fun _ h => h) e9 d134_25 ?_
    clear e9 c9 fs9
    exact ht_iret X d134_28 I (Nat.le_of_ble_eq_true rfl) (Nat.le_of_ble_eq_true rfl) ⟨_, rfl, hF⟩
  · have hF := Eq.mp (if_pos h9) hF
    refine lv_sipush (v := (-1000)) hx hb d134_10 (by decide) ?_
    refine lv_goto hx hb d134_13 rfl ?_
    exact ht_iret X d134_28 I (Nat.le_of_ble_eq_true rfl) (Nat.le_of_ble_eq_true rfl) ⟨_, rfl, hF⟩

def w_Store_nodes (dA : Nat → ClassId) (y0 : Nat) (K : Int32 → hm_T → hz_T → Prop) (h0 : hm_T) (z0 : hz_T) : Prop := (cg_R h0 0 2 y0 (fun v21 => (cg_d v21 (fun a22 => (cg_I h0 1 3 a22 (fun v23 => (K v23 h0 z0)))))))
set_option maxRecDepth 100000 in
set_option maxHeartbeats 8000000 in
theorem cw_Store_nodes (l : Launch) (D : va_G) (dA : Nat → ClassId) (s0 : State) (hE : ms_EV D dA s0) (y0 : Nat) (h0 : hm_T) (z0 : hz_T) (K : Int32 → hm_T → hz_T → Prop) (hg : w_Store_nodes dA y0 K h0 z0) : ht_C l D s0 yM135 bM135 1 (Option.some Jvm.ClassFile.FieldType.int) 0 0 0 0 [.ref y0] (fun h z => h = h0 ∧ z = z0) (fun h z vv h1 z1 => ∃ v, vv = some (.int v) ∧ K v h1 z1) := by
  refine ht_C.mk hE.1 (by decide) (Nat.le_of_ble_eq_true rfl) [(0, .ref y0)] rfl ?_
  intro p e s m below meth c ls h z X hin hpre I hl
  have hx := X.1
  have hb := X.2.1
  have hml := X.2.2.1
  have hown : s.vm.findClass "MarkupStore" = some m.cls := X.2.2.2.1
  have hts := X.2.2.2.2.2.2.1
  have hK := X.2.2.2.2.2.2.2.2.1
  rw [hpre.1, hpre.2] at I
  clear hpre
  have hF := hg
  unfold w_Store_nodes at hF
  clear h z
  refine lv_aload_n hx hb d135_0 rfl (lv_at hl 0 rfl) ?_
  obtain ⟨fs9, v21, c9, e9, hF⟩ := hF
  refine va_get (D := D) (ci := 0) (v := va_rf v21) (C := kR0) (T := kT0) (N := 6) hx hb hts ku0 hown hK (hm_one I.1 c9) 0 rfl rfl 2 (by decide) (hts _ ms_k107) (fun _ h => h) e9 d135_1 ?_
  clear e9 c9 fs9
  obtain ⟨a22, e9, hF⟩ := hF
  refine W.eq (g2 := F0 m 4 ls [.ref a22]) (by rw [e9]; rfl) ?_
  clear e9
  obtain ⟨fs9, v23, c9, e9, hF⟩ := hF
  refine va_get (D := D) (ci := 1) (v := .int v23) (C := kR1) (T := kT1) (N := 6) hx hb hts ku1 hown hK (hm_one I.1 c9) 0 rfl rfl 3 (by decide) (hts _ ms_k89) (fun _ h => h) e9 d135_4 ?_
  clear e9 c9 fs9
  exact ht_iret X d135_7 I (Nat.le_of_ble_eq_true rfl) (Nat.le_of_ble_eq_true rfl) ⟨_, rfl, hF⟩

def w_Store_isText_16 (dA : Nat → ClassId) (K : Int32 → hm_T → hz_T → Prop) (h : hm_T) (z : hz_T) : Prop := (K 0 h z)
def w_Store_isText (dA : Nat → ClassId) (y0 : Option Nat) (K : Int32 → hm_T → hz_T → Prop) (h0 : hm_T) (z0 : hz_T) : Prop := (if y0 = none then (w_Store_isText_16 dA K h0 z0) else (cg_d y0 (fun a21 => (cg_I h0 8 0 a21 (fun v22 => (if v22 = 2 then (K 1 h0 z0) else (w_Store_isText_16 dA K h0 z0)))))))
set_option maxRecDepth 100000 in
set_option maxHeartbeats 8000000 in
theorem cw_Store_isText (l : Launch) (D : va_G) (dA : Nat → ClassId) (s0 : State) (hE : ms_EV D dA s0) (y0 : Option Nat) (h0 : hm_T) (z0 : hz_T) (K : Int32 → hm_T → hz_T → Prop) (hg : w_Store_isText dA y0 K h0 z0) : ht_C l D s0 yM136 bM136 1 (Option.some Jvm.ClassFile.FieldType.boolean) 0 0 0 0 [va_rf y0] (fun h z => h = h0 ∧ z = z0) (fun h z vv h1 z1 => ∃ v, vv = some (.int v) ∧ K v h1 z1) := by
  refine ht_C.mk hE.1 (by decide) (by simp [lg_sl, cat_rf, cat_int, cat_ref, cat_null, cat_long]) [(0, va_rf y0)] (by simp [lv_args, cat_rf, cat_int, cat_ref, cat_null, cat_long]) ?_
  intro p e s m below meth c ls h z X hin hpre I hl
  have hx := X.1
  have hb := X.2.1
  have hml := X.2.2.1
  have hown : s.vm.findClass "MarkupStore" = some m.cls := X.2.2.2.1
  have hts := X.2.2.2.2.2.2.1
  have hK := X.2.2.2.2.2.2.2.2.1
  rw [hpre.1, hpre.2] at I
  clear hpre
  have b16 : ∀ (ls : Array Slot) (h : hm_T) (z : hz_T) (H : Heap) (locs : List Loc), w_Store_isText_16 dA K h z → lv_has ls 1 [] → hm_I D s0 s h z H locs → W p l e { frames := 0, cells := 0, slots := 0, locals := 0 } s m ([va_rf y0] : List Value).toArray below meth c H locs 0 0 (MQ below (ht_Q D s0 (fun vv h1 z1 => ∃ v, vv = some (.int v) ∧ K v h1 z1)) ([va_rf y0] : List Value).toArray s 0 0 (fun q => s0.heap.size ≤ q)) (F0 m 16 ls []) := by
    intro ls h z H locs hF hl I
    unfold w_Store_isText_16 at hF
    refine lv_iconst (v := 0) hx hb d136_16 (by decide) ?_
    exact ht_zret X d136_17 I (Nat.le_of_ble_eq_true rfl) (Nat.le_of_ble_eq_true rfl) ⟨_, rfl, hF⟩ rfl
  have hF := hg
  unfold w_Store_isText at hF
  clear h z
  refine lv_aload_nR hx hb d136_0 rfl (lv_at hl 0 rfl) ?_
  refine lv_ifnullR hx hb d136_1 rfl (fun h9 => ?_) (fun h9 => ?_)
  · have hF := Eq.mp (if_pos h9) hF
    exact b16 ls h0 z0 _ _ hF (hl.sub [] rfl) I
  · have hF := Eq.mp (if_neg h9) hF
    refine lv_aload_nR hx hb d136_4 rfl (lv_at hl 0 rfl) ?_
    obtain ⟨a21, e9, hF⟩ := hF
    refine W.eq (g2 := F0 m 5 ls [.ref a21]) (by rw [e9]; rfl) ?_
    clear e9
    obtain ⟨fs9, v22, c9, e9, hF⟩ := hF
    refine va_get (D := D) (ci := 8) (v := .int v22) (C := kR8) (T := kT8) (N := 9) hx hb hts ku8 hown hK (hm_one I.1 c9) 0 rfl rfl 0 (by decide) (hts _ ms_k442) (fun _ h => h) e9 d136_5 ?_
    clear e9 c9 fs9
    refine lv_iconst (v := 2) hx hb d136_8 (by decide) ?_
    refine lv_icmp_ne hx hb d136_9 rfl (fun h9 => ?_) (fun h9 => ?_)
    · have hF := Eq.mp (if_neg h9) hF
      exact b16 ls h0 z0 _ _ hF (hl.sub [] rfl) I
    · have hF := Eq.mp (if_pos h9) hF
      refine lv_iconst (v := 1) hx hb d136_12 (by decide) ?_
      refine lv_goto hx hb d136_13 rfl ?_
      exact ht_zret X d136_17 I (Nat.le_of_ble_eq_true rfl) (Nat.le_of_ble_eq_true rfl) ⟨_, rfl, hF⟩ rfl

def w_Store_mayBeComment_54 (dA : Nat → ClassId) (K : Int32 → hm_T → hz_T → Prop) (k2 : Option Nat → Int32 → hm_T → hz_T → Prop) (x0 : Option Nat) (x1 : Int32) (h : hm_T) (z : hz_T) : Prop := (k2 x0 (x1 + 1) h z)
def w_Store_mayBeComment_37 (dA : Nat → ClassId) (K : Int32 → hm_T → hz_T → Prop) (k2 : Option Nat → Int32 → hm_T → hz_T → Prop) (x0 : Option Nat) (x1 : Int32) (w0 : Int32) (h : hm_T) (z : hz_T) : Prop := (cg_d x0 (fun a25 => (jd_at z a25 x1 (fun v26 => (if v26 = 45 then (if w0 = 0 then (w_Store_mayBeComment_54 dA K k2 x0 x1 h z) else (K 0 h z)) else (w_Store_mayBeComment_54 dA K k2 x0 x1 h z))))))
def w_Store_mayBeComment_32 (dA : Nat → ClassId) (K : Int32 → hm_T → hz_T → Prop) (k2 : Option Nat → Int32 → hm_T → hz_T → Prop) (x0 : Option Nat) (x1 : Int32) (h : hm_T) (z : hz_T) : Prop := (w_Store_mayBeComment_37 dA K k2 x0 x1 1 h z)
def w_Store_mayBeComment_2 (dA : Nat → ClassId) (K : Int32 → hm_T → hz_T → Prop) : Nat → Option Nat → Int32 → hm_T → hz_T → Prop
  | 0, _, _, _, _ => False
  | n9 + 1, x0, x1, h, z => (cg_d x0 (fun a21 => (jd_len z a21 (fun v22 => (if v22 ≤ x1 then (K 1 h z) else (cg_d x0 (fun a23 => (jd_len z a23 (fun v24 => (if (x1 + 1) = v24 then (w_Store_mayBeComment_32 dA K (w_Store_mayBeComment_2 dA K n9) x0 x1 h z) else (cg_d x0 (fun a27 => (jd_at z a27 (x1 + 1) (fun v28 => (if v28 = 45 then (w_Store_mayBeComment_32 dA K (w_Store_mayBeComment_2 dA K n9) x0 x1 h z) else (w_Store_mayBeComment_37 dA K (w_Store_mayBeComment_2 dA K n9) x0 x1 0 h z))))))))))))))))
def w_Store_mayBeComment (dA : Nat → ClassId) (y0 : Option Nat) (K : Int32 → hm_T → hz_T → Prop) (h0 : hm_T) (z0 : hz_T) : Prop := (w_Store_mayBeComment_2 dA K mF y0 0 h0 z0)
set_option maxRecDepth 100000 in
set_option maxHeartbeats 8000000 in
theorem cw_Store_mayBeComment (l : Launch) (D : va_G) (dA : Nat → ClassId) (s0 : State) (hE : ms_EV D dA s0) (y0 : Option Nat) (h0 : hm_T) (z0 : hz_T) (K : Int32 → hm_T → hz_T → Prop) (hg : w_Store_mayBeComment dA y0 K h0 z0) : ht_C l D s0 yM137 bM137 3 (Option.some Jvm.ClassFile.FieldType.boolean) 4 85 0 0 [va_rf y0] (fun h z => h = h0 ∧ z = z0) (fun h z vv h1 z1 => ∃ v, vv = some (.int v) ∧ K v h1 z1) := by
  refine ht_C.mk hE.1 (by decide) (by simp [lg_sl, cat_rf, cat_int, cat_ref, cat_null, cat_long]) [(0, va_rf y0)] (by simp [lv_args, cat_rf, cat_int, cat_ref, cat_null, cat_long]) ?_
  intro p e s m below meth c ls h z X hin hpre I hl
  have hx := X.1
  have hb := X.2.1
  have hml := X.2.2.1
  have hown : s.vm.findClass "MarkupStore" = some m.cls := X.2.2.2.1
  have hts := X.2.2.2.2.2.2.1
  have hK := X.2.2.2.2.2.2.2.2.1
  rw [hpre.1, hpre.2] at I
  clear hpre
  have b54 : ∀ (k2 : Option Nat → Int32 → hm_T → hz_T → Prop), (∀ (ls : Array Slot) (x0 : Option Nat) (x1 : Int32) (h : hm_T) (z : hz_T) (H : Heap) (locs : List Loc), k2 x0 x1 h z → lv_has ls 3 [(0, va_rf x0), (1, .int x1)] → hm_I D s0 s h z H locs → W p l e { frames := 4, cells := 0, slots := 0, locals := 85 } s m ([va_rf y0] : List Value).toArray below meth c H locs 0 0 (MQ below (ht_Q D s0 (fun vv h1 z1 => ∃ v, vv = some (.int v) ∧ K v h1 z1)) ([va_rf y0] : List Value).toArray s 0 0 (fun q => s0.heap.size ≤ q)) (F0 m 2 ls [])) → ∀ (ls : Array Slot) (x0 : Option Nat) (x1 : Int32) (h : hm_T) (z : hz_T) (H : Heap) (locs : List Loc), w_Store_mayBeComment_54 dA K k2 x0 x1 h z → lv_has ls 3 [(0, va_rf x0), (1, .int x1)] → hm_I D s0 s h z H locs → W p l e { frames := 4, cells := 0, slots := 0, locals := 85 } s m ([va_rf y0] : List Value).toArray below meth c H locs 0 0 (MQ below (ht_Q D s0 (fun vv h1 z1 => ∃ v, vv = some (.int v) ∧ K v h1 z1)) ([va_rf y0] : List Value).toArray s 0 0 (fun q => s0.heap.size ≤ q)) (F0 m 54 ls []) := by
    intro k2 hk2 ls x0 x1 h z H locs hF hl I
    unfold w_Store_mayBeComment_54 at hF
    refine lv_iinc (k := 1) (v := (x1 + 1)) hx hb d137_54 hl rfl (rfl) (by decide) (show _ = [(1, .int (x1 + 1)), (0, va_rf x0)] by simp [cat_rf, cat_int, cat_ref, cat_null, cat_long]) (fun ls hl => ?_)
    have hl : lv_has ls 3 [(1, .int (x1 + 1)), (0, va_rf x0)] := hl
    refine lv_goto hx hb d137_57 rfl ?_
    exact hk2 ls x0 (x1 + 1) h z _ _ hF (hl.sub [1, 0] rfl) I
  have b37 : ∀ (k2 : Option Nat → Int32 → hm_T → hz_T → Prop), (∀ (ls : Array Slot) (x0 : Option Nat) (x1 : Int32) (h : hm_T) (z : hz_T) (H : Heap) (locs : List Loc), k2 x0 x1 h z → lv_has ls 3 [(0, va_rf x0), (1, .int x1)] → hm_I D s0 s h z H locs → W p l e { frames := 4, cells := 0, slots := 0, locals := 85 } s m ([va_rf y0] : List Value).toArray below meth c H locs 0 0 (MQ below (ht_Q D s0 (fun vv h1 z1 => ∃ v, vv = some (.int v) ∧ K v h1 z1)) ([va_rf y0] : List Value).toArray s 0 0 (fun q => s0.heap.size ≤ q)) (F0 m 2 ls [])) → ∀ (ls : Array Slot) (x0 : Option Nat) (x1 : Int32) (w0 : Int32) (h : hm_T) (z : hz_T) (H : Heap) (locs : List Loc), w_Store_mayBeComment_37 dA K k2 x0 x1 w0 h z → lv_has ls 3 [(0, va_rf x0), (1, .int x1)] → hm_I D s0 s h z H locs → W p l e { frames := 4, cells := 0, slots := 0, locals := 85 } s m ([va_rf y0] : List Value).toArray below meth c H locs 0 0 (MQ below (ht_Q D s0 (fun vv h1 z1 => ∃ v, vv = some (.int v) ∧ K v h1 z1)) ([va_rf y0] : List Value).toArray s 0 0 (fun q => s0.heap.size ≤ q)) (F0 m 37 ls [.int w0]) := by
    intro k2 hk2 ls x0 x1 w0 h z H locs hF hl I
    unfold w_Store_mayBeComment_37 at hF
    refine lv_istore_n hx hb d137_37 rfl hl (by decide) rfl (fun ls hl => ?_)
    have hl : lv_has ls 3 [(2, .int w0), (0, va_rf x0), (1, .int x1)] := hl
    refine lv_aload_nR hx hb d137_38 rfl (lv_at hl 1 rfl) ?_
    refine lv_iload_n hx hb d137_39 rfl (lv_at hl 2 rfl) ?_
    obtain ⟨a25, e9, hF⟩ := hF
    refine W.eq (g2 := F0 m 40 ls [.int x1, .ref a25]) (by rw [e9]; rfl) ?_
    clear e9
    obtain ⟨u9, xs9, j9, z9, e8, p1, p2, p3, hF⟩ := hF
    refine ms_top (y := nI j9) e8 ?_
    refine ht_V (C := "java/lang/String") (rest := []) (as := [.int (nI j9)]) X hl (c_SchAt l D dA s0 hE a25 u9 xs9 j9 p1 p2 p3) (List.forall_mem_cons.mpr ⟨ms_k861, List.forall_mem_cons.mpr ⟨ms_k399, List.forall_mem_cons.mpr ⟨ms_k400, List.forall_mem_cons.mpr ⟨ms_k4, List.forall_mem_cons.mpr ⟨ms_k401, fun _ h => absurd h List.not_mem_nil⟩⟩⟩⟩⟩) ⟨rfl, by decide +kernel, by decide +kernel, (by decide +kernel : (parseMethodDescriptor "(I)C").map (fun d => d.parameters.length) = some 1)⟩ (hz_recv I z9) I z9 ⟨⟨Nat.le_of_ble_eq_true rfl, Nat.le_of_ble_eq_true rfl⟩, Nat.le_of_ble_eq_true rfl, Nat.le_of_ble_eq_true rfl⟩ rfl (Nat.le_of_ble_eq_true rfl) d137_40 (fun vv h9 z7 H locs hR I9 => ?_)
    obtain ⟨e1, e2, e3⟩ := hR
    rw [e2, e3] at I9
    subst e1
    clear I
    have I := I9
    clear I9 e2 e3 h9 z7
    refine W.eq (g2 := F0 m 43 ls [.int (nI (xs9.getD j9 0))]) rfl ?_
    generalize (nI (xs9.getD j9 0)) = v26 at hF ⊢
    refine lv_bipush (v := 45) hx hb d137_43 (by decide) ?_
    refine lv_icmp_ne hx hb d137_45 rfl (fun h9 => ?_) (fun h9 => ?_)
    · have hF := Eq.mp (if_neg h9) hF
      exact b54 k2 hk2 ls x0 x1 h z _ _ hF (hl.sub [1, 2] rfl) I
    · have hF := Eq.mp (if_pos h9) hF
      refine lv_iload_n hx hb d137_48 rfl (lv_at hl 0 rfl) ?_
      refine lv_if_eq hx hb d137_49 rfl (fun h9 => ?_) (fun h9 => ?_)
      · have hF := Eq.mp (if_pos h9) hF
        exact b54 k2 hk2 ls x0 x1 h z _ _ hF (hl.sub [1, 2] rfl) I
      · have hF := Eq.mp (if_neg h9) hF
        refine lv_iconst (v := 0) hx hb d137_52 (by decide) ?_
        exact ht_zret X d137_53 I (Nat.le_of_ble_eq_true rfl) (Nat.le_of_ble_eq_true rfl) ⟨_, rfl, hF⟩ rfl
  have b32 : ∀ (k2 : Option Nat → Int32 → hm_T → hz_T → Prop), (∀ (ls : Array Slot) (x0 : Option Nat) (x1 : Int32) (h : hm_T) (z : hz_T) (H : Heap) (locs : List Loc), k2 x0 x1 h z → lv_has ls 3 [(0, va_rf x0), (1, .int x1)] → hm_I D s0 s h z H locs → W p l e { frames := 4, cells := 0, slots := 0, locals := 85 } s m ([va_rf y0] : List Value).toArray below meth c H locs 0 0 (MQ below (ht_Q D s0 (fun vv h1 z1 => ∃ v, vv = some (.int v) ∧ K v h1 z1)) ([va_rf y0] : List Value).toArray s 0 0 (fun q => s0.heap.size ≤ q)) (F0 m 2 ls [])) → ∀ (ls : Array Slot) (x0 : Option Nat) (x1 : Int32) (h : hm_T) (z : hz_T) (H : Heap) (locs : List Loc), w_Store_mayBeComment_32 dA K k2 x0 x1 h z → lv_has ls 3 [(0, va_rf x0), (1, .int x1)] → hm_I D s0 s h z H locs → W p l e { frames := 4, cells := 0, slots := 0, locals := 85 } s m ([va_rf y0] : List Value).toArray below meth c H locs 0 0 (MQ below (ht_Q D s0 (fun vv h1 z1 => ∃ v, vv = some (.int v) ∧ K v h1 z1)) ([va_rf y0] : List Value).toArray s 0 0 (fun q => s0.heap.size ≤ q)) (F0 m 32 ls []) := by
    intro k2 hk2 ls x0 x1 h z H locs hF hl I
    unfold w_Store_mayBeComment_32 at hF
    refine lv_iconst (v := 1) hx hb d137_32 (by decide) ?_
    refine lv_goto hx hb d137_33 rfl ?_
    exact b37 k2 hk2 ls x0 x1 1 h z _ _ hF (hl.sub [0, 1] rfl) I
  have b2 : ∀ n9 : Nat, ∀ (ls : Array Slot) (x0 : Option Nat) (x1 : Int32) (h : hm_T) (z : hz_T) (H : Heap) (locs : List Loc), w_Store_mayBeComment_2 dA K n9 x0 x1 h z → lv_has ls 3 [(0, va_rf x0), (1, .int x1)] → hm_I D s0 s h z H locs → W p l e { frames := 4, cells := 0, slots := 0, locals := 85 } s m ([va_rf y0] : List Value).toArray below meth c H locs 0 0 (MQ below (ht_Q D s0 (fun vv h1 z1 => ∃ v, vv = some (.int v) ∧ K v h1 z1)) ([va_rf y0] : List Value).toArray s 0 0 (fun q => s0.heap.size ≤ q)) (F0 m 2 ls []) := by
    intro n9
    induction n9 with
    | zero => intro ls x0 x1 h z H locs hF; cases hF
    | succ n9 hk2 =>
    intro ls x0 x1 h z H locs hF hl I
    unfold w_Store_mayBeComment_2 at hF
    refine lv_iload_n hx hb d137_2 rfl (lv_at hl 1 rfl) ?_
    refine lv_aload_nR hx hb d137_3 rfl (lv_at hl 0 rfl) ?_
    obtain ⟨a21, e9, hF⟩ := hF
    refine W.eq (g2 := F0 m 4 ls [.ref a21, .int x1]) (by rw [e9]; rfl) ?_
    clear e9
    obtain ⟨u9, xs9, z9, hF⟩ := hF
    refine ht_V (C := "java/lang/String") (rest := [.int x1]) (as := []) X hl (c_Slen l D dA s0 hE a21 u9 xs9) (List.forall_mem_cons.mpr ⟨ms_k802, List.forall_mem_cons.mpr ⟨ms_k391, List.forall_mem_cons.mpr ⟨ms_k392, List.forall_mem_cons.mpr ⟨ms_k4, List.forall_mem_cons.mpr ⟨ms_k393, fun _ h => absurd h List.not_mem_nil⟩⟩⟩⟩⟩) ⟨rfl, by decide +kernel, by decide +kernel, (by decide +kernel : (parseMethodDescriptor "()I").map (fun d => d.parameters.length) = some 0)⟩ (hz_recv I z9) I z9 ⟨⟨Nat.le_of_ble_eq_true rfl, Nat.le_of_ble_eq_true rfl⟩, Nat.le_of_ble_eq_true rfl, Nat.le_of_ble_eq_true rfl⟩ rfl (Nat.le_of_ble_eq_true rfl) d137_4 (fun vv h9 z7 H locs hR I9 => ?_)
    obtain ⟨e1, e2, e3⟩ := hR
    rw [e2, e3] at I9
    subst e1
    clear I
    have I := I9
    clear I9 e2 e3 h9 z7
    refine W.eq (g2 := F0 m 7 ls [.int (nI xs9.length), .int x1]) rfl ?_
    generalize (nI xs9.length) = v22 at hF ⊢
    refine lv_icmp_ge hx hb d137_7 rfl (fun h9 => ?_) (fun h9 => ?_)
    · have hF := Eq.mp (if_pos h9) hF
      refine lv_iconst (v := 1) hx hb d137_60 (by decide) ?_
      exact ht_zret X d137_61 I (Nat.le_of_ble_eq_true rfl) (Nat.le_of_ble_eq_true rfl) ⟨_, rfl, hF⟩ rfl
    · have hF := Eq.mp (if_neg h9) hF
      refine lv_iload_n hx hb d137_10 rfl (lv_at hl 1 rfl) ?_
      refine lv_iconst (v := 1) hx hb d137_11 (by decide) ?_
      refine lv_iadd hx hb d137_12 ?_
      refine lv_aload_nR hx hb d137_13 rfl (lv_at hl 0 rfl) ?_
      obtain ⟨a23, e9, hF⟩ := hF
      refine W.eq (g2 := F0 m 14 ls [.ref a23, .int (x1 + 1)]) (by rw [e9]; rfl) ?_
      clear e9
      obtain ⟨u9, xs9, z9, hF⟩ := hF
      refine ht_V (C := "java/lang/String") (rest := [.int (x1 + 1)]) (as := []) X hl (c_Slen l D dA s0 hE a23 u9 xs9) (List.forall_mem_cons.mpr ⟨ms_k802, List.forall_mem_cons.mpr ⟨ms_k391, List.forall_mem_cons.mpr ⟨ms_k392, List.forall_mem_cons.mpr ⟨ms_k4, List.forall_mem_cons.mpr ⟨ms_k393, fun _ h => absurd h List.not_mem_nil⟩⟩⟩⟩⟩) ⟨rfl, by decide +kernel, by decide +kernel, (by decide +kernel : (parseMethodDescriptor "()I").map (fun d => d.parameters.length) = some 0)⟩ (hz_recv I z9) I z9 ⟨⟨Nat.le_of_ble_eq_true rfl, Nat.le_of_ble_eq_true rfl⟩, Nat.le_of_ble_eq_true rfl, Nat.le_of_ble_eq_true rfl⟩ rfl (Nat.le_of_ble_eq_true rfl) d137_14 (fun vv h9 z7 H locs hR I9 => ?_)
      obtain ⟨e1, e2, e3⟩ := hR
      rw [e2, e3] at I9
      subst e1
      clear I
      have I := I9
      clear I9 e2 e3 h9 z7
      refine W.eq (g2 := F0 m 17 ls [.int (nI xs9.length), .int (x1 + 1)]) rfl ?_
      generalize (nI xs9.length) = v24 at hF ⊢
      refine lv_icmp_eq hx hb d137_17 rfl (fun h9 => ?_) (fun h9 => ?_)
      · have hF := Eq.mp (if_pos h9) hF
        exact b32 (w_Store_mayBeComment_2 dA K n9) hk2 ls x0 x1 h z _ _ hF (hl.sub [0, 1] rfl) I
      · have hF := Eq.mp (if_neg h9) hF
        refine lv_aload_nR hx hb d137_20 rfl (lv_at hl 0 rfl) ?_
        refine lv_iload_n hx hb d137_21 rfl (lv_at hl 1 rfl) ?_
        refine lv_iconst (v := 1) hx hb d137_22 (by decide) ?_
        refine lv_iadd hx hb d137_23 ?_
        obtain ⟨a27, e9, hF⟩ := hF
        refine W.eq (g2 := F0 m 24 ls [.int (x1 + 1), .ref a27]) (by rw [e9]; rfl) ?_
        clear e9
        obtain ⟨u9, xs9, j9, z9, e8, p1, p2, p3, hF⟩ := hF
        refine ms_top (y := nI j9) e8 ?_
        refine ht_V (C := "java/lang/String") (rest := []) (as := [.int (nI j9)]) X hl (c_SchAt l D dA s0 hE a27 u9 xs9 j9 p1 p2 p3) (List.forall_mem_cons.mpr ⟨ms_k861, List.forall_mem_cons.mpr ⟨ms_k399, List.forall_mem_cons.mpr ⟨ms_k400, List.forall_mem_cons.mpr ⟨ms_k4, List.forall_mem_cons.mpr ⟨ms_k401, fun _ h => absurd h List.not_mem_nil⟩⟩⟩⟩⟩) ⟨rfl, by decide +kernel, by decide +kernel, (by decide +kernel : (parseMethodDescriptor "(I)C").map (fun d => d.parameters.length) = some 1)⟩ (hz_recv I z9) I z9 ⟨⟨Nat.le_of_ble_eq_true rfl, Nat.le_of_ble_eq_true rfl⟩, Nat.le_of_ble_eq_true rfl, Nat.le_of_ble_eq_true rfl⟩ rfl (Nat.le_of_ble_eq_true rfl) d137_24 (fun vv h9 z7 H locs hR I9 => ?_)
        obtain ⟨e1, e2, e3⟩ := hR
        rw [e2, e3] at I9
        subst e1
        clear I
        have I := I9
        clear I9 e2 e3 h9 z7
        refine W.eq (g2 := F0 m 27 ls [.int (nI (xs9.getD j9 0))]) rfl ?_
        generalize (nI (xs9.getD j9 0)) = v28 at hF ⊢
        refine lv_bipush (v := 45) hx hb d137_27 (by decide) ?_
        refine lv_icmp_ne hx hb d137_29 rfl (fun h9 => ?_) (fun h9 => ?_)
        · have hF := Eq.mp (if_neg h9) hF
          refine lv_iconst (v := 0) hx hb d137_36 (by decide) ?_
          exact b37 (w_Store_mayBeComment_2 dA K n9) hk2 ls x0 x1 0 h z _ _ hF (hl.sub [0, 1] rfl) I
        · have hF := Eq.mp (if_pos h9) hF
          exact b32 (w_Store_mayBeComment_2 dA K n9) hk2 ls x0 x1 h z _ _ hF (hl.sub [0, 1] rfl) I
  have hF := hg
  unfold w_Store_mayBeComment at hF
  clear h z
  refine lv_iconst (v := 0) hx hb d137_0 (by decide) ?_
  refine lv_istore_n (i := 1) hx hb d137_1 rfl hl (by decide) (show _ = [(1, .int 0), (0, va_rf y0)] by simp [cat_rf, cat_int, cat_ref, cat_null, cat_long]) (fun ls hl => ?_)
  have hl : lv_has ls 3 [(1, .int 0), (0, va_rf y0)] := hl
  exact b2 mF ls y0 0 h0 z0 _ _ hF (hl.sub [1, 0] rfl) I

def w_Store_isSmallLetter_16 (dA : Nat → ClassId) (K : Int32 → hm_T → hz_T → Prop) (h : hm_T) (z : hz_T) : Prop := (K 0 h z)
def w_Store_isSmallLetter (dA : Nat → ClassId) (y0 : Int32) (K : Int32 → hm_T → hz_T → Prop) (h0 : hm_T) (z0 : hz_T) : Prop := (if y0 < 97 then (w_Store_isSmallLetter_16 dA K h0 z0) else (if 122 < y0 then (w_Store_isSmallLetter_16 dA K h0 z0) else (K 1 h0 z0)))
set_option maxRecDepth 100000 in
set_option maxHeartbeats 8000000 in
theorem cw_Store_isSmallLetter (l : Launch) (D : va_G) (dA : Nat → ClassId) (s0 : State) (hE : ms_EV D dA s0) (y0 : Int32) (h0 : hm_T) (z0 : hz_T) (K : Int32 → hm_T → hz_T → Prop) (hg : w_Store_isSmallLetter dA y0 K h0 z0) : ht_C l D s0 yM138 bM138 1 (Option.some Jvm.ClassFile.FieldType.boolean) 0 0 0 0 [.int y0] (fun h z => h = h0 ∧ z = z0) (fun h z vv h1 z1 => ∃ v, vv = some (.int v) ∧ K v h1 z1) := by
  refine ht_C.mk hE.1 (by decide) (Nat.le_of_ble_eq_true rfl) [(0, .int y0)] rfl ?_
  intro p e s m below meth c ls h z X hin hpre I hl
  have hx := X.1
  have hb := X.2.1
  have hml := X.2.2.1
  have hown : s.vm.findClass "MarkupStore" = some m.cls := X.2.2.2.1
  have hts := X.2.2.2.2.2.2.1
  have hK := X.2.2.2.2.2.2.2.2.1
  rw [hpre.1, hpre.2] at I
  clear hpre
  have b16 : ∀ (ls : Array Slot) (h : hm_T) (z : hz_T) (H : Heap) (locs : List Loc), w_Store_isSmallLetter_16 dA K h z → lv_has ls 1 [] → hm_I D s0 s h z H locs → W p l e { frames := 0, cells := 0, slots := 0, locals := 0 } s m ([.int y0] : List Value).toArray below meth c H locs 0 0 (MQ below (ht_Q D s0 (fun vv h1 z1 => ∃ v, vv = some (.int v) ∧ K v h1 z1)) ([.int y0] : List Value).toArray s 0 0 (fun q => s0.heap.size ≤ q)) (F0 m 16 ls []) := by
    intro ls h z H locs hF hl I
    unfold w_Store_isSmallLetter_16 at hF
    refine lv_iconst (v := 0) hx hb d138_16 (by decide) ?_
    exact ht_zret X d138_17 I (Nat.le_of_ble_eq_true rfl) (Nat.le_of_ble_eq_true rfl) ⟨_, rfl, hF⟩ rfl
  have hF := hg
  unfold w_Store_isSmallLetter at hF
  clear h z
  refine lv_iload_n hx hb d138_0 rfl (lv_at hl 0 rfl) ?_
  refine lv_bipush (v := 97) hx hb d138_1 (by decide) ?_
  refine lv_icmp_lt hx hb d138_3 rfl (fun h9 => ?_) (fun h9 => ?_)
  · have hF := Eq.mp (if_pos h9) hF
    exact b16 ls h0 z0 _ _ hF (hl.sub [] rfl) I
  · have hF := Eq.mp (if_neg h9) hF
    refine lv_iload_n hx hb d138_6 rfl (lv_at hl 0 rfl) ?_
    refine lv_bipush (v := 122) hx hb d138_7 (by decide) ?_
    refine lv_icmp_gt hx hb d138_9 rfl (fun h9 => ?_) (fun h9 => ?_)
    · have hF := Eq.mp (if_pos h9) hF
      exact b16 ls h0 z0 _ _ hF (hl.sub [] rfl) I
    · have hF := Eq.mp (if_neg h9) hF
      refine lv_iconst (v := 1) hx hb d138_12 (by decide) ?_
      refine lv_goto hx hb d138_13 rfl ?_
      exact ht_zret X d138_17 I (Nat.le_of_ble_eq_true rfl) (Nat.le_of_ble_eq_true rfl) ⟨_, rfl, hF⟩ rfl

def w_Attribute_name (dA : Nat → ClassId) (y0 : Nat) (K : Option Nat → hm_T → hz_T → Prop) (h0 : hm_T) (z0 : hz_T) : Prop := (cg_R h0 9 0 y0 (fun v21 => (K v21 h0 z0)))
set_option maxRecDepth 100000 in
set_option maxHeartbeats 8000000 in
theorem cw_Attribute_name (l : Launch) (D : va_G) (dA : Nat → ClassId) (s0 : State) (hE : ms_EV D dA s0) (y0 : Nat) (h0 : hm_T) (z0 : hz_T) (K : Option Nat → hm_T → hz_T → Prop) (hg : w_Attribute_name dA y0 K h0 z0) : ht_C l D s0 yM139 bM139 1 (Option.some (Jvm.ClassFile.FieldType.object "java/lang/String")) 0 0 0 0 [.ref y0] (fun h z => h = h0 ∧ z = z0) (fun h z vv h1 z1 => ∃ v, vv = some (va_rf v) ∧ K v h1 z1) := by
  refine ht_C.mk hE.1 (by decide) (Nat.le_of_ble_eq_true rfl) [(0, .ref y0)] rfl ?_
  intro p e s m below meth c ls h z X hin hpre I hl
  have hx := X.1
  have hb := X.2.1
  have hml := X.2.2.1
  have hown : s.vm.findClass "MarkupStore$Attribute" = some m.cls := X.2.2.2.1
  have hts := X.2.2.2.2.2.2.1
  have hK := X.2.2.2.2.2.2.2.2.1
  rw [hpre.1, hpre.2] at I
  clear hpre
  have hF := hg
  unfold w_Attribute_name at hF
  clear h z
  refine lv_aload_n hx hb d139_0 rfl (lv_at hl 0 rfl) ?_
  obtain ⟨fs9, v21, c9, e9, hF⟩ := hF
  refine va_get (D := D) (ci := 9) (v := va_rf v21) (C := kR9) (T := kT9) (N := 2) hx hb hts ku9 hown hK (hm_one I.1 c9) 0 rfl rfl 0 (by decide) (hts _ ms_k662) (fun _ h => h) e9 d139_1 ?_
  clear e9 c9 fs9
  exact ht_aret X d139_4 I (Nat.le_of_ble_eq_true rfl) (Nat.le_of_ble_eq_true rfl) ⟨v21, rfl, hF⟩ (Or.inl ⟨_, rfl⟩) (rf_or _)

def w_Attribute_value (dA : Nat → ClassId) (y0 : Nat) (K : Option Nat → hm_T → hz_T → Prop) (h0 : hm_T) (z0 : hz_T) : Prop := (cg_R h0 9 1 y0 (fun v21 => (K v21 h0 z0)))
set_option maxRecDepth 100000 in
set_option maxHeartbeats 8000000 in
theorem cw_Attribute_value (l : Launch) (D : va_G) (dA : Nat → ClassId) (s0 : State) (hE : ms_EV D dA s0) (y0 : Nat) (h0 : hm_T) (z0 : hz_T) (K : Option Nat → hm_T → hz_T → Prop) (hg : w_Attribute_value dA y0 K h0 z0) : ht_C l D s0 yM140 bM140 1 (Option.some (Jvm.ClassFile.FieldType.object "java/lang/String")) 0 0 0 0 [.ref y0] (fun h z => h = h0 ∧ z = z0) (fun h z vv h1 z1 => ∃ v, vv = some (va_rf v) ∧ K v h1 z1) := by
  refine ht_C.mk hE.1 (by decide) (Nat.le_of_ble_eq_true rfl) [(0, .ref y0)] rfl ?_
  intro p e s m below meth c ls h z X hin hpre I hl
  have hx := X.1
  have hb := X.2.1
  have hml := X.2.2.1
  have hown : s.vm.findClass "MarkupStore$Attribute" = some m.cls := X.2.2.2.1
  have hts := X.2.2.2.2.2.2.1
  have hK := X.2.2.2.2.2.2.2.2.1
  rw [hpre.1, hpre.2] at I
  clear hpre
  have hF := hg
  unfold w_Attribute_value at hF
  clear h z
  refine lv_aload_n hx hb d140_0 rfl (lv_at hl 0 rfl) ?_
  obtain ⟨fs9, v21, c9, e9, hF⟩ := hF
  refine va_get (D := D) (ci := 9) (v := va_rf v21) (C := kR9) (T := kT9) (N := 2) hx hb hts ku9 hown hK (hm_one I.1 c9) 0 rfl rfl 1 (by decide) (hts _ ms_k663) (fun _ h => h) e9 d140_1 ?_
  clear e9 c9 fs9
  exact ht_aret X d140_4 I (Nat.le_of_ble_eq_true rfl) (Nat.le_of_ble_eq_true rfl) ⟨v21, rfl, hF⟩ (Or.inl ⟨_, rfl⟩) (rf_or _)

def w_MarkupReader_passesLimits_2 (dA : Nat → ClassId) (y0 : Nat) (K : Int32 → hm_T → hz_T → Prop) : Nat → Int32 → hm_T → hz_T → Prop
  | 0, _, _, _ => False
  | n9 + 1, x1, h, z => (cg_R h 6 3 y0 (fun v21 => (cg_d v21 (fun a22 => (jd_sz h a22 (fun v23 => (if v23 ≤ x1 then (cg_I h 6 5 y0 (fun v24 => (cg_z v24 (K v24 h z)))) else (cg_R h 6 3 y0 (fun v25 => (cg_d v25 (fun a26 => (jd_get dA h a26 x1 (fun v27 => (cg_c h 8 v27 (cg_R h 8 3 v27 (fun v28 => (cg_d v28 (fun a29 => (cg_al dA h 0 a29 (fun v30 => (if v30 ≤ 16 then ((w_MarkupReader_passesLimits_2 dA y0 K n9) (x1 + 1) h z) else (K 1 h z))))))))))))))))))))))
def w_MarkupReader_passesLimits (dA : Nat → ClassId) (y0 : Nat) (K : Int32 → hm_T → hz_T → Prop) (h0 : hm_T) (z0 : hz_T) : Prop := (w_MarkupReader_passesLimits_2 dA y0 K mF 0 h0 z0)
set_option maxRecDepth 100000 in
set_option maxHeartbeats 8000000 in
theorem cw_MarkupReader_passesLimits (l : Launch) (D : va_G) (dA : Nat → ClassId) (s0 : State) (hE : ms_EV D dA s0) (y0 : Nat) (h0 : hm_T) (z0 : hz_T) (K : Int32 → hm_T → hz_T → Prop) (hg : w_MarkupReader_passesLimits dA y0 K h0 z0) : ht_C l D s0 yM141 bM141 2 (Option.some Jvm.ClassFile.FieldType.boolean) 3 64 0 0 [.ref y0] (fun h z => h = h0 ∧ z = z0) (fun h z vv h1 z1 => ∃ v, vv = some (.int v) ∧ K v h1 z1) := by
  refine ht_C.mk hE.1 (by decide) (Nat.le_of_ble_eq_true rfl) [(0, .ref y0)] rfl ?_
  intro p e s m below meth c ls h z X hin hpre I hl
  have hx := X.1
  have hb := X.2.1
  have hml := X.2.2.1
  have hown : s.vm.findClass "MarkupStore$MarkupReader" = some m.cls := X.2.2.2.1
  have hts := X.2.2.2.2.2.2.1
  have hK := X.2.2.2.2.2.2.2.2.1
  rw [hpre.1, hpre.2] at I
  clear hpre
  have b2 : ∀ n9 : Nat, ∀ (ls : Array Slot) (x1 : Int32) (h : hm_T) (z : hz_T) (H : Heap) (locs : List Loc), w_MarkupReader_passesLimits_2 dA y0 K n9 x1 h z → lv_has ls 2 [(0, .ref y0), (1, .int x1)] → hm_I D s0 s h z H locs → W p l e { frames := 3, cells := 0, slots := 0, locals := 64 } s m ([.ref y0] : List Value).toArray below meth c H locs 0 0 (MQ below (ht_Q D s0 (fun vv h1 z1 => ∃ v, vv = some (.int v) ∧ K v h1 z1)) ([.ref y0] : List Value).toArray s 0 0 (fun q => s0.heap.size ≤ q)) (F0 m 2 ls []) := by
    intro n9
    induction n9 with
    | zero => intro ls x1 h z H locs hF; cases hF
    | succ n9 hk2 =>
    intro ls x1 h z H locs hF hl I
    unfold w_MarkupReader_passesLimits_2 at hF
    refine lv_iload_n hx hb d141_2 rfl (lv_at hl 1 rfl) ?_
    refine lv_aload_n hx hb d141_3 rfl (lv_at hl 0 rfl) ?_
    obtain ⟨fs9, v21, c9, e9, hF⟩ := hF
    refine va_get (D := D) (ci := 6) (v := va_rf v21) (C := kR6) (T := kT6) (N := 6) hx hb hts ku6 hown hK (hm_one I.1 c9) 0 rfl rfl 3 (by decide) (hts _ ms_k348) (fun _ h => h) e9 d141_4 ?_
    clear e9 c9 fs9
    obtain ⟨a22, e9, hF⟩ := hF
    refine W.eq (g2 := F0 m 7 ls [.ref a22, .int x1]) (by rw [e9]; rfl) ?_
    clear e9
    obtain ⟨d9, k9, mo9, c9, hF⟩ := hF
    refine ht_V (C := "java/util/ArrayList") (rest := [.int x1]) (as := []) X hl (c_ALsize l D dA s0 hE a22 d9 k9 mo9) (List.forall_mem_cons.mpr ⟨ms_k669, List.forall_mem_cons.mpr ⟨ms_k595, List.forall_mem_cons.mpr ⟨ms_k596, List.forall_mem_cons.mpr ⟨ms_k18, List.forall_mem_cons.mpr ⟨ms_k597, fun _ h => absurd h List.not_mem_nil⟩⟩⟩⟩⟩) ⟨rfl, by decide +kernel, by decide +kernel, (by decide +kernel : (parseMethodDescriptor "()I").map (fun d => d.parameters.length) = some 0)⟩ (hm_recv hK I rfl c9) I c9 ⟨⟨Nat.le_of_ble_eq_true rfl, Nat.le_of_ble_eq_true rfl⟩, Nat.le_of_ble_eq_true rfl, Nat.le_of_ble_eq_true rfl⟩ rfl (Nat.le_of_ble_eq_true rfl) d141_7 (fun vv h9 z7 H locs hR I9 => ?_)
    obtain ⟨e1, e2, e3⟩ := hR
    rw [e2, e3] at I9
    subst e1
    clear I
    have I := I9
    clear I9 e2 e3 h9 z7
    refine W.eq (g2 := F0 m 10 ls [.int (nI k9), .int x1]) rfl ?_
    generalize (nI k9) = v23 at hF ⊢
    refine lv_icmp_ge hx hb d141_10 rfl (fun h9 => ?_) (fun h9 => ?_)
    · have hF := Eq.mp (if_pos h9) hF
      refine lv_aload_n hx hb d141_41 rfl (lv_at hl 0 rfl) ?_
      obtain ⟨fs9, v24, c9, e9, hF⟩ := hF
      refine va_get (D := D) (ci := 6) (v := .int v24) (C := kR6) (T := kT6) (N := 6) hx hb hts ku6 hown hK (hm_one I.1 c9) 0 rfl rfl 5 (by decide) (hts _ ms_k351) (fun _ h => h) e9 d141_42 ?_
      clear e9 c9 fs9
      obtain ⟨hz9, hF⟩ := hF
      exact ht_zret X d141_45 I (Nat.le_of_ble_eq_true rfl) (Nat.le_of_ble_eq_true rfl) ⟨_, rfl, hF⟩ (cg_zn hz9).1
    · have hF := Eq.mp (if_neg h9) hF
      refine lv_aload_n hx hb d141_13 rfl (lv_at hl 0 rfl) ?_
      obtain ⟨fs9, v25, c9, e9, hF⟩ := hF
      refine va_get (D := D) (ci := 6) (v := va_rf v25) (C := kR6) (T := kT6) (N := 6) hx hb hts ku6 hown hK (hm_one I.1 c9) 0 rfl rfl 3 (by decide) (hts _ ms_k348) (fun _ h => h) e9 d141_14 ?_
      clear e9 c9 fs9
      refine lv_iload_n hx hb d141_17 rfl (lv_at hl 1 rfl) ?_
      obtain ⟨a26, e9, hF⟩ := hF
      refine W.eq (g2 := F0 m 18 ls [.int x1, .ref a26]) (by rw [e9]; rfl) ?_
      clear e9
      obtain ⟨d9, k9, mo9, n8, j9, q9, f8, c9, c8, e8, p1, p2, p3, p4, hF⟩ := hF
      refine ms_top (y := nI j9) e8 ?_
      refine ht_V (C := "java/util/ArrayList") (rest := []) (as := [.int (nI j9)]) X hl (c_ALget l D dA s0 hE a26 d9 k9 mo9 n8 j9 q9 f8 p1 p2 p3 p4) (List.forall_mem_cons.mpr ⟨ms_k710, List.forall_mem_cons.mpr ⟨ms_k599, List.forall_mem_cons.mpr ⟨ms_k600, List.forall_mem_cons.mpr ⟨ms_k18, List.forall_mem_cons.mpr ⟨ms_k601, fun _ h => absurd h List.not_mem_nil⟩⟩⟩⟩⟩) ⟨rfl, by decide +kernel, by decide +kernel, (by decide +kernel : (parseMethodDescriptor "(I)Ljava/lang/Object;").map (fun d => d.parameters.length) = some 1)⟩ (hm_recv hK I rfl c9) I ⟨c9, c8⟩ ⟨⟨Nat.le_of_ble_eq_true rfl, Nat.le_of_ble_eq_true rfl⟩, Nat.le_of_ble_eq_true rfl, Nat.le_of_ble_eq_true rfl⟩ rfl (Nat.le_of_ble_eq_true rfl) d141_18 (fun vv h9 z7 H locs hR I9 => ?_)
      obtain ⟨e1, e2, e3⟩ := hR
      rw [e2, e3] at I9
      subst e1
      clear I
      have I := I9
      clear I9 e2 e3 h9 z7
      refine W.eq (g2 := F0 m 21 ls [.ref q9]) rfl ?_
      generalize q9 = v27 at hF ⊢
      try clear p4
      obtain ⟨fs9, c9, hF⟩ := hF
      refine va_castE hx hb hown (hts _ ms_k430) (hm_recv hK I rfl c9) d141_21 ?_
      clear c9 fs9
      obtain ⟨fs9, v28, c9, e9, hF⟩ := hF
      refine va_get (D := D) (ci := 8) (v := va_rf v28) (C := kR8) (T := kT8) (N := 9) hx hb hts ku8 hown hK (hm_one I.1 c9) 0 rfl rfl 3 (by decide) (hts _ ms_k453) (fun _ h => h) e9 d141_24 ?_
      clear e9 c9 fs9
      obtain ⟨a29, e9, hF⟩ := hF
      refine W.eq (g2 := F0 m 27 ls [.ref a29]) (by rw [e9]; rfl) ?_
      clear e9
      obtain ⟨n8, f8, c9, hF⟩ := hF
      refine va_alen (v := nI n8) hx hb hK (hm_one I.1 c9) 0 0 rfl rfl rfl d141_27 ?_
      generalize nI n8 = v30 at hF ⊢
      clear c9
      refine lv_bipush (v := 16) hx hb d141_28 (by decide) ?_
      refine lv_icmp_le hx hb d141_30 rfl (fun h9 => ?_) (fun h9 => ?_)
      · have hF := Eq.mp (if_pos h9) hF
        refine lv_iinc (k := 1) (v := (x1 + 1)) hx hb d141_35 hl rfl (rfl) (by decide) rfl (fun ls hl => ?_)
        have hl : lv_has ls 2 [(1, .int (x1 + 1)), (0, .ref y0)] := hl
        refine lv_goto hx hb d141_38 rfl ?_
        exact hk2 ls (x1 + 1) h z _ _ hF (hl.sub [1, 0] rfl) I
      · have hF := Eq.mp (if_neg h9) hF
        refine lv_iconst (v := 1) hx hb d141_33 (by decide) ?_
        exact ht_zret X d141_34 I (Nat.le_of_ble_eq_true rfl) (Nat.le_of_ble_eq_true rfl) ⟨_, rfl, hF⟩ rfl
  have hF := hg
  unfold w_MarkupReader_passesLimits at hF
  clear h z
  refine lv_iconst (v := 0) hx hb d141_0 (by decide) ?_
  refine lv_istore_n hx hb d141_1 rfl hl (by decide) rfl (fun ls hl => ?_)
  have hl : lv_has ls 2 [(1, .int 0), (0, .ref y0)] := hl
  exact b2 mF ls 0 h0 z0 _ _ hF (hl.sub [1, 0] rfl) I

def w_MarkupReader_firstText (dA : Nat → ClassId) (y0 : Nat) (K : Option Nat → hm_T → hz_T → Prop) (h0 : hm_T) (z0 : hz_T) : Prop := (cg_R h0 6 3 y0 (fun v21 => (cg_d v21 (fun a22 => (jd_no h0 a22 (fun v23 => (if v23 = 0 then (cg_R h0 6 3 y0 (fun v24 => (cg_d v24 (fun a25 => (jd_get dA h0 a25 0 (fun v26 => (cg_c h0 8 v26 (cg_R h0 8 7 v26 (fun v27 => (K v27 h0 z0)))))))))) else (cg_lit z0 [] (fun a28 => (K (some a28) h0 z0))))))))))
set_option maxRecDepth 100000 in
set_option maxHeartbeats 8000000 in
theorem cw_MarkupReader_firstText (l : Launch) (D : va_G) (dA : Nat → ClassId) (s0 : State) (hE : ms_EV D dA s0) (y0 : Nat) (h0 : hm_T) (z0 : hz_T) (K : Option Nat → hm_T → hz_T → Prop) (hg : w_MarkupReader_firstText dA y0 K h0 z0) : ht_C l D s0 yM142 bM142 1 (Option.some (Jvm.ClassFile.FieldType.object "java/lang/String")) 3 64 0 0 [.ref y0] (fun h z => h = h0 ∧ z = z0) (fun h z vv h1 z1 => ∃ v, vv = some (va_rf v) ∧ K v h1 z1) := by
  refine ht_C.mk hE.1 (by decide) (Nat.le_of_ble_eq_true rfl) [(0, .ref y0)] rfl ?_
  intro p e s m below meth c ls h z X hin hpre I hl
  have hx := X.1
  have hb := X.2.1
  have hml := X.2.2.1
  have hown : s.vm.findClass "MarkupStore$MarkupReader" = some m.cls := X.2.2.2.1
  have hts := X.2.2.2.2.2.2.1
  have hK := X.2.2.2.2.2.2.2.2.1
  rw [hpre.1, hpre.2] at I
  clear hpre
  have hF := hg
  unfold w_MarkupReader_firstText at hF
  clear h z
  refine lv_aload_n hx hb d142_0 rfl (lv_at hl 0 rfl) ?_
  obtain ⟨fs9, v21, c9, e9, hF⟩ := hF
  refine va_get (D := D) (ci := 6) (v := va_rf v21) (C := kR6) (T := kT6) (N := 6) hx hb hts ku6 hown hK (hm_one I.1 c9) 0 rfl rfl 3 (by decide) (hts _ ms_k348) (fun _ h => h) e9 d142_1 ?_
  clear e9 c9 fs9
  obtain ⟨a22, e9, hF⟩ := hF
  refine W.eq (g2 := F0 m 4 ls [.ref a22]) (by rw [e9]; rfl) ?_
  clear e9
  obtain ⟨d9, k9, mo9, c9, p1, hF⟩ := hF
  refine ht_V (C := "java/util/ArrayList") (rest := []) (as := []) X hl (c_ALempty l D dA s0 hE a22 d9 k9 mo9 p1) (List.forall_mem_cons.mpr ⟨ms_k785, List.forall_mem_cons.mpr ⟨ms_k786, List.forall_mem_cons.mpr ⟨ms_k787, List.forall_mem_cons.mpr ⟨ms_k18, List.forall_mem_cons.mpr ⟨ms_k788, fun _ h => absurd h List.not_mem_nil⟩⟩⟩⟩⟩) ⟨rfl, by decide +kernel, by decide +kernel, (by decide +kernel : (parseMethodDescriptor "()Z").map (fun d => d.parameters.length) = some 0)⟩ (hm_recv hK I rfl c9) I c9 ⟨⟨Nat.le_of_ble_eq_true rfl, Nat.le_of_ble_eq_true rfl⟩, Nat.le_of_ble_eq_true rfl, Nat.le_of_ble_eq_true rfl⟩ rfl (Nat.le_of_ble_eq_true rfl) d142_4 (fun vv h9 z7 H locs hR I9 => ?_)
  obtain ⟨e1, e2, e3⟩ := hR
  rw [e2, e3] at I9
  subst e1
  clear I
  have I := I9
  clear I9 e2 e3 h9 z7
  refine W.eq (g2 := F0 m 7 ls [.int (if k9 = 0 then 1 else 0)]) rfl ?_
  generalize (if k9 = 0 then 1 else 0) = v23 at hF ⊢
  refine lv_if_eq hx hb d142_7 rfl (fun h9 => ?_) (fun h9 => ?_)
  · have hF := Eq.mp (if_pos h9) hF
    refine lv_aload_n hx hb d142_15 rfl (lv_at hl 0 rfl) ?_
    obtain ⟨fs9, v24, c9, e9, hF⟩ := hF
    refine va_get (D := D) (ci := 6) (v := va_rf v24) (C := kR6) (T := kT6) (N := 6) hx hb hts ku6 hown hK (hm_one I.1 c9) 0 rfl rfl 3 (by decide) (hts _ ms_k348) (fun _ h => h) e9 d142_16 ?_
    clear e9 c9 fs9
    refine lv_iconst (v := 0) hx hb d142_19 (by decide) ?_
    obtain ⟨a25, e9, hF⟩ := hF
    refine W.eq (g2 := F0 m 20 ls [.int 0, .ref a25]) (by rw [e9]; rfl) ?_
    clear e9
    obtain ⟨d9, k9, mo9, n8, j9, q9, f8, c9, c8, e8, p1, p2, p3, p4, hF⟩ := hF
    refine ms_top (y := nI j9) e8 ?_
    refine ht_V (C := "java/util/ArrayList") (rest := []) (as := [.int (nI j9)]) X hl (c_ALget l D dA s0 hE a25 d9 k9 mo9 n8 j9 q9 f8 p1 p2 p3 p4) (List.forall_mem_cons.mpr ⟨ms_k710, List.forall_mem_cons.mpr ⟨ms_k599, List.forall_mem_cons.mpr ⟨ms_k600, List.forall_mem_cons.mpr ⟨ms_k18, List.forall_mem_cons.mpr ⟨ms_k601, fun _ h => absurd h List.not_mem_nil⟩⟩⟩⟩⟩) ⟨rfl, by decide +kernel, by decide +kernel, (by decide +kernel : (parseMethodDescriptor "(I)Ljava/lang/Object;").map (fun d => d.parameters.length) = some 1)⟩ (hm_recv hK I rfl c9) I ⟨c9, c8⟩ ⟨⟨Nat.le_of_ble_eq_true rfl, Nat.le_of_ble_eq_true rfl⟩, Nat.le_of_ble_eq_true rfl, Nat.le_of_ble_eq_true rfl⟩ rfl (Nat.le_of_ble_eq_true rfl) d142_20 (fun vv h9 z7 H locs hR I9 => ?_)
    obtain ⟨e1, e2, e3⟩ := hR
    rw [e2, e3] at I9
    subst e1
    clear I
    have I := I9
    clear I9 e2 e3 h9 z7
    refine W.eq (g2 := F0 m 23 ls [.ref q9]) rfl ?_
    generalize q9 = v26 at hF ⊢
    try clear p4
    obtain ⟨fs9, c9, hF⟩ := hF
    refine va_castE hx hb hown (hts _ ms_k430) (hm_recv hK I rfl c9) d142_23 ?_
    clear c9 fs9
    obtain ⟨fs9, v27, c9, e9, hF⟩ := hF
    refine va_get (D := D) (ci := 8) (v := va_rf v27) (C := kR8) (T := kT8) (N := 9) hx hb hts ku8 hown hK (hm_one I.1 c9) 0 rfl rfl 7 (by decide) (hts _ ms_k469) (fun _ h => h) e9 d142_26 ?_
    clear e9 c9 fs9
    exact ht_aret X d142_29 I (Nat.le_of_ble_eq_true rfl) (Nat.le_of_ble_eq_true rfl) ⟨v27, rfl, hF⟩ (Or.inl ⟨_, rfl⟩) (rf_or _)
  · have hF := Eq.mp (if_neg h9) hF
    refine hz_ldc (xs := []) hE X I 8 rfl hown d142_10 (fun a28 u9 z9 => ?_)
    have hF := hF _ _ z9
    refine lv_goto hx hb d142_12 rfl ?_
    exact ht_aret X d142_29 I (Nat.le_of_ble_eq_true rfl) (Nat.le_of_ble_eq_true rfl) ⟨(some a28), rfl, hF⟩ (Or.inl ⟨_, rfl⟩) (Or.inr ⟨_, rfl⟩)

def w_Node_attributeNamed_2 (dA : Nat → ClassId) (y0 : Nat) (K : Option Nat → hm_T → hz_T → Prop) : Nat → Option Nat → Int32 → hm_T → hz_T → Prop
  | 0, _, _, _, _ => False
  | n9 + 1, x1, x2, h, z => (cg_R h 8 4 y0 (fun v21 => (cg_d v21 (fun a22 => (jd_sz h a22 (fun v23 => (if v23 ≤ x2 then (K none h z) else (cg_R h 8 4 y0 (fun v24 => (cg_d v24 (fun a25 => (jd_get dA h a25 x2 (fun v26 => (cg_c h 9 v26 (cg_c h 9 v26 ((w_Attribute_name dA v26 (fun v27 h28 z29 => (cg_d v27 (fun a30 => (cg_d x1 (fun a31 => (jd_eq z29 a30 a31 (fun v32 => (if v32 = 0 then ((w_Node_attributeNamed_2 dA y0 K n9) x1 (x2 + 1) h28 z29) else (cg_R h28 8 4 y0 (fun v33 => (cg_d v33 (fun a34 => (jd_get dA h28 a34 x2 (fun v35 => (cg_c h28 9 v35 (K (some v35) h28 z29)))))))))))))))) h z)))))))))))))))))
def w_Node_attributeNamed (dA : Nat → ClassId) (y0 : Nat) (y1 : Option Nat) (K : Option Nat → hm_T → hz_T → Prop) (h0 : hm_T) (z0 : hz_T) : Prop := (w_Node_attributeNamed_2 dA y0 K mF y1 0 h0 z0)
set_option maxRecDepth 100000 in
set_option maxHeartbeats 8000000 in
theorem cw_Node_attributeNamed (l : Launch) (D : va_G) (dA : Nat → ClassId) (s0 : State) (hE : ms_EV D dA s0) (y0 : Nat) (y1 : Option Nat) (h0 : hm_T) (z0 : hz_T) (K : Option Nat → hm_T → hz_T → Prop) (hg : w_Node_attributeNamed dA y0 y1 K h0 z0) : ht_C l D s0 yM143 bM143 3 (Option.some (Jvm.ClassFile.FieldType.object "MarkupStore$Attribute")) 3 64 0 0 [.ref y0, va_rf y1] (fun h z => h = h0 ∧ z = z0) (fun h z vv h1 z1 => ∃ v, vv = some (va_rf v) ∧ K v h1 z1) := by
  refine ht_C.mk hE.1 (by decide) (by simp [lg_sl, cat_rf, cat_int, cat_ref, cat_null, cat_long]) [(0, .ref y0), (1, va_rf y1)] (by simp [lv_args, cat_rf, cat_int, cat_ref, cat_null, cat_long]) ?_
  intro p e s m below meth c ls h z X hin hpre I hl
  have hx := X.1
  have hb := X.2.1
  have hml := X.2.2.1
  have hown : s.vm.findClass "MarkupStore$Node" = some m.cls := X.2.2.2.1
  have hts := X.2.2.2.2.2.2.1
  have hK := X.2.2.2.2.2.2.2.2.1
  rw [hpre.1, hpre.2] at I
  clear hpre
  have b2 : ∀ n9 : Nat, ∀ (ls : Array Slot) (x1 : Option Nat) (x2 : Int32) (h : hm_T) (z : hz_T) (H : Heap) (locs : List Loc), w_Node_attributeNamed_2 dA y0 K n9 x1 x2 h z → lv_has ls 3 [(0, .ref y0), (1, va_rf x1), (2, .int x2)] → hm_I D s0 s h z H locs → W p l e { frames := 3, cells := 0, slots := 0, locals := 64 } s m ([.ref y0, va_rf y1] : List Value).toArray below meth c H locs 0 0 (MQ below (ht_Q D s0 (fun vv h1 z1 => ∃ v, vv = some (va_rf v) ∧ K v h1 z1)) ([.ref y0, va_rf y1] : List Value).toArray s 0 0 (fun q => s0.heap.size ≤ q)) (F0 m 2 ls []) := by
    intro n9
    induction n9 with
    | zero => intro ls x1 x2 h z H locs hF; cases hF
    | succ n9 hk2 =>
    intro ls x1 x2 h z H locs hF hl I
    unfold w_Node_attributeNamed_2 at hF
    refine lv_iload_n hx hb d143_2 rfl (lv_at hl 2 rfl) ?_
    refine lv_aload_n hx hb d143_3 rfl (lv_at hl 0 rfl) ?_
    obtain ⟨fs9, v21, c9, e9, hF⟩ := hF
    refine va_get (D := D) (ci := 8) (v := va_rf v21) (C := kR8) (T := kT8) (N := 9) hx hb hts ku8 hown hK (hm_one I.1 c9) 0 rfl rfl 4 (by decide) (hts _ ms_k455) (fun _ h => h) e9 d143_4 ?_
    clear e9 c9 fs9
    obtain ⟨a22, e9, hF⟩ := hF
    refine W.eq (g2 := F0 m 7 ls [.ref a22, .int x2]) (by rw [e9]; rfl) ?_
    clear e9
    obtain ⟨d9, k9, mo9, c9, hF⟩ := hF
    refine ht_V (C := "java/util/ArrayList") (rest := [.int x2]) (as := []) X hl (c_ALsize l D dA s0 hE a22 d9 k9 mo9) (List.forall_mem_cons.mpr ⟨ms_k594, List.forall_mem_cons.mpr ⟨ms_k595, List.forall_mem_cons.mpr ⟨ms_k596, List.forall_mem_cons.mpr ⟨ms_k18, List.forall_mem_cons.mpr ⟨ms_k597, fun _ h => absurd h List.not_mem_nil⟩⟩⟩⟩⟩) ⟨rfl, by decide +kernel, by decide +kernel, (by decide +kernel : (parseMethodDescriptor "()I").map (fun d => d.parameters.length) = some 0)⟩ (hm_recv hK I rfl c9) I c9 ⟨⟨Nat.le_of_ble_eq_true rfl, Nat.le_of_ble_eq_true rfl⟩, Nat.le_of_ble_eq_true rfl, Nat.le_of_ble_eq_true rfl⟩ rfl (Nat.le_of_ble_eq_true rfl) d143_7 (fun vv h9 z7 H locs hR I9 => ?_)
    obtain ⟨e1, e2, e3⟩ := hR
    rw [e2, e3] at I9
    subst e1
    clear I
    have I := I9
    clear I9 e2 e3 h9 z7
    refine W.eq (g2 := F0 m 10 ls [.int (nI k9), .int x2]) rfl ?_
    generalize (nI k9) = v23 at hF ⊢
    refine lv_icmp_ge hx hb d143_10 rfl (fun h9 => ?_) (fun h9 => ?_)
    · have hF := Eq.mp (if_pos h9) hF
      refine lv_null hx hb d143_52 ?_
      exact ht_aret X d143_53 I (Nat.le_of_ble_eq_true rfl) (Nat.le_of_ble_eq_true rfl) ⟨none, rfl, hF⟩ (Or.inl ⟨_, rfl⟩) (Or.inl rfl)
    · have hF := Eq.mp (if_neg h9) hF
      refine lv_aload_n hx hb d143_13 rfl (lv_at hl 0 rfl) ?_
      obtain ⟨fs9, v24, c9, e9, hF⟩ := hF
      refine va_get (D := D) (ci := 8) (v := va_rf v24) (C := kR8) (T := kT8) (N := 9) hx hb hts ku8 hown hK (hm_one I.1 c9) 0 rfl rfl 4 (by decide) (hts _ ms_k455) (fun _ h => h) e9 d143_14 ?_
      clear e9 c9 fs9
      refine lv_iload_n hx hb d143_17 rfl (lv_at hl 2 rfl) ?_
      obtain ⟨a25, e9, hF⟩ := hF
      refine W.eq (g2 := F0 m 18 ls [.int x2, .ref a25]) (by rw [e9]; rfl) ?_
      clear e9
      obtain ⟨d9, k9, mo9, n8, j9, q9, f8, c9, c8, e8, p1, p2, p3, p4, hF⟩ := hF
      refine ms_top (y := nI j9) e8 ?_
      refine ht_V (C := "java/util/ArrayList") (rest := []) (as := [.int (nI j9)]) X hl (c_ALget l D dA s0 hE a25 d9 k9 mo9 n8 j9 q9 f8 p1 p2 p3 p4) (List.forall_mem_cons.mpr ⟨ms_k598, List.forall_mem_cons.mpr ⟨ms_k599, List.forall_mem_cons.mpr ⟨ms_k600, List.forall_mem_cons.mpr ⟨ms_k18, List.forall_mem_cons.mpr ⟨ms_k601, fun _ h => absurd h List.not_mem_nil⟩⟩⟩⟩⟩) ⟨rfl, by decide +kernel, by decide +kernel, (by decide +kernel : (parseMethodDescriptor "(I)Ljava/lang/Object;").map (fun d => d.parameters.length) = some 1)⟩ (hm_recv hK I rfl c9) I ⟨c9, c8⟩ ⟨⟨Nat.le_of_ble_eq_true rfl, Nat.le_of_ble_eq_true rfl⟩, Nat.le_of_ble_eq_true rfl, Nat.le_of_ble_eq_true rfl⟩ rfl (Nat.le_of_ble_eq_true rfl) d143_18 (fun vv h9 z7 H locs hR I9 => ?_)
      obtain ⟨e1, e2, e3⟩ := hR
      rw [e2, e3] at I9
      subst e1
      clear I
      have I := I9
      clear I9 e2 e3 h9 z7
      refine W.eq (g2 := F0 m 21 ls [.ref q9]) rfl ?_
      generalize q9 = v26 at hF ⊢
      try clear p4
      obtain ⟨fs9, c9, hF⟩ := hF
      refine va_castE hx hb hown (hts _ ms_k610) (hm_recv hK I rfl c9) d143_21 ?_
      clear c9 fs9
      obtain ⟨fs9, c9, hF⟩ := hF
      refine ht_V (C := "MarkupStore$Attribute") (rest := []) (as := []) X hl (cw_Attribute_name l D dA s0 hE v26 h z _ hF) (List.forall_mem_cons.mpr ⟨ms_k611, List.forall_mem_cons.mpr ⟨ms_k612, List.forall_mem_cons.mpr ⟨ms_k613, List.forall_mem_cons.mpr ⟨ms_k22, List.forall_mem_cons.mpr ⟨ms_k614, fun _ h => absurd h List.not_mem_nil⟩⟩⟩⟩⟩) ⟨rfl, by decide +kernel, by decide +kernel, (by decide +kernel : (parseMethodDescriptor "()Ljava/lang/String;").map (fun d => d.parameters.length) = some 0)⟩ (hm_recv hK I rfl c9) I ⟨rfl, rfl⟩ ⟨⟨Nat.le_of_ble_eq_true rfl, Nat.le_of_ble_eq_true rfl⟩, Nat.le_of_ble_eq_true rfl, Nat.le_of_ble_eq_true rfl⟩ rfl (Nat.le_of_ble_eq_true rfl) d143_24 (fun vv h28 z29 H locs hR I9 => ?_)
      obtain ⟨v27, e1, hF⟩ := hR
      subst e1
      clear I
      have I := I9
      clear I9 c9 fs9
      refine W.eq (g2 := F0 m 27 ls [va_rf v27]) rfl ?_
      refine lv_aload_nR hx hb d143_27 rfl (lv_at hl 1 rfl) ?_
      obtain ⟨a30, e9, hF⟩ := hF
      refine W.eq (g2 := F0 m 28 ls [va_rf x1, .ref a30]) (by rw [e9]; rfl) ?_
      clear e9
      obtain ⟨a31, e9, hF⟩ := hF
      refine W.eq (g2 := F0 m 28 ls [.ref a31, .ref a30]) (by rw [e9]; rfl) ?_
      clear e9
      obtain ⟨u9, xs9, u8, ys9, z9, z8, p1, p2, p3, p4, hF⟩ := hF
      refine ht_V (C := "java/lang/String") (rest := []) (as := [.ref a31]) X hl (c_Seq l D dA s0 hE a30 u9 xs9 a31 u8 ys9 p1 p2 p3 p4) (List.forall_mem_cons.mpr ⟨ms_k615, List.forall_mem_cons.mpr ⟨ms_k616, List.forall_mem_cons.mpr ⟨ms_k617, List.forall_mem_cons.mpr ⟨ms_k4, List.forall_mem_cons.mpr ⟨ms_k618, fun _ h => absurd h List.not_mem_nil⟩⟩⟩⟩⟩) ⟨rfl, by decide +kernel, by decide +kernel, (by decide +kernel : (parseMethodDescriptor "(Ljava/lang/Object;)Z").map (fun d => d.parameters.length) = some 1)⟩ (hz_recv I z9) I ⟨z9, z8⟩ ⟨⟨Nat.le_of_ble_eq_true rfl, Nat.le_of_ble_eq_true rfl⟩, Nat.le_of_ble_eq_true rfl, Nat.le_of_ble_eq_true rfl⟩ rfl (Nat.le_of_ble_eq_true rfl) d143_28 (fun vv h9 z7 H locs hR I9 => ?_)
      obtain ⟨e1, e2, e3⟩ := hR
      rw [e2, e3] at I9
      subst e1
      clear I
      have I := I9
      clear I9 e2 e3 h9 z7
      refine W.eq (g2 := F0 m 31 ls [.int (if xs9 = ys9 then 1 else 0)]) rfl ?_
      generalize (if xs9 = ys9 then 1 else 0) = v32 at hF ⊢
      refine lv_if_eq hx hb d143_31 rfl (fun h9 => ?_) (fun h9 => ?_)
      · have hF := Eq.mp (if_pos h9) hF
        refine lv_iinc (k := 2) (v := (x2 + 1)) hx hb d143_46 hl rfl (rfl) (by decide) (show _ = [(2, .int (x2 + 1)), (0, .ref y0), (1, va_rf x1)] by simp [cat_rf, cat_int, cat_ref, cat_null, cat_long]) (fun ls hl => ?_)
        have hl : lv_has ls 3 [(2, .int (x2 + 1)), (0, .ref y0), (1, va_rf x1)] := hl
        refine lv_goto hx hb d143_49 rfl ?_
        exact hk2 ls x1 (x2 + 1) h28 z29 _ _ hF (hl.sub [1, 2, 0] rfl) I
      · have hF := Eq.mp (if_neg h9) hF
        refine lv_aload_n hx hb d143_34 rfl (lv_at hl 0 rfl) ?_
        obtain ⟨fs9, v33, c9, e9, hF⟩ := hF
        refine va_get (D := D) (ci := 8) (v := va_rf v33) (C := kR8) (T := kT8) (N := 9) hx hb hts ku8 hown hK (hm_one I.1 c9) 0 rfl rfl 4 (by decide) (hts _ ms_k455) (fun _ h => h) e9 d143_35 ?_
        clear e9 c9 fs9
        refine lv_iload_n hx hb d143_38 rfl (lv_at hl 2 rfl) ?_
        obtain ⟨a34, e9, hF⟩ := hF
        refine W.eq (g2 := F0 m 39 ls [.int x2, .ref a34]) (by rw [e9]; rfl) ?_
        clear e9
        obtain ⟨d9, k9, mo9, n8, j9, q9, f8, c9, c8, e8, p1, p2, p3, p4, hF⟩ := hF
        refine ms_top (y := nI j9) e8 ?_
        refine ht_V (C := "java/util/ArrayList") (rest := []) (as := [.int (nI j9)]) X hl (c_ALget l D dA s0 hE a34 d9 k9 mo9 n8 j9 q9 f8 p1 p2 p3 p4) (List.forall_mem_cons.mpr ⟨ms_k598, List.forall_mem_cons.mpr ⟨ms_k599, List.forall_mem_cons.mpr ⟨ms_k600, List.forall_mem_cons.mpr ⟨ms_k18, List.forall_mem_cons.mpr ⟨ms_k601, fun _ h => absurd h List.not_mem_nil⟩⟩⟩⟩⟩) ⟨rfl, by decide +kernel, by decide +kernel, (by decide +kernel : (parseMethodDescriptor "(I)Ljava/lang/Object;").map (fun d => d.parameters.length) = some 1)⟩ (hm_recv hK I rfl c9) I ⟨c9, c8⟩ ⟨⟨Nat.le_of_ble_eq_true rfl, Nat.le_of_ble_eq_true rfl⟩, Nat.le_of_ble_eq_true rfl, Nat.le_of_ble_eq_true rfl⟩ rfl (Nat.le_of_ble_eq_true rfl) d143_39 (fun vv h9 z7 H locs hR I9 => ?_)
        obtain ⟨e1, e2, e3⟩ := hR
        rw [e2, e3] at I9
        subst e1
        clear I
        have I := I9
        clear I9 e2 e3 h9 z7
        refine W.eq (g2 := F0 m 42 ls [.ref q9]) rfl ?_
        generalize q9 = v35 at hF ⊢
        try clear p4
        obtain ⟨fs9, c9, hF⟩ := hF
        refine va_castE hx hb hown (hts _ ms_k610) (hm_recv hK I rfl c9) d143_42 ?_
        clear c9 fs9
        exact ht_aret X d143_45 I (Nat.le_of_ble_eq_true rfl) (Nat.le_of_ble_eq_true rfl) ⟨(some v35), rfl, hF⟩ (Or.inl ⟨_, rfl⟩) (Or.inr ⟨_, rfl⟩)
  have hF := hg
  unfold w_Node_attributeNamed at hF
  clear h z
  refine lv_iconst (v := 0) hx hb d143_0 (by decide) ?_
  refine lv_istore_n (i := 2) hx hb d143_1 rfl hl (by decide) (show _ = [(2, .int 0), (0, .ref y0), (1, va_rf y1)] by simp [cat_rf, cat_int, cat_ref, cat_null, cat_long]) (fun ls hl => ?_)
  have hl : lv_has ls 3 [(2, .int 0), (0, .ref y0), (1, va_rf y1)] := hl
  exact b2 mF ls y1 0 h0 z0 _ _ hF (hl.sub [1, 2, 0] rfl) I

def w_Node_isOdd (dA : Nat → ClassId) (y0 : Int32) (K : Int32 → hm_T → hz_T → Prop) (h0 : hm_T) (z0 : hz_T) : Prop := (if (y0 &&& 1) = 1 then (K 1 h0 z0) else (K 0 h0 z0))
set_option maxRecDepth 100000 in
set_option maxHeartbeats 8000000 in
theorem cw_Node_isOdd (l : Launch) (D : va_G) (dA : Nat → ClassId) (s0 : State) (hE : ms_EV D dA s0) (y0 : Int32) (h0 : hm_T) (z0 : hz_T) (K : Int32 → hm_T → hz_T → Prop) (hg : w_Node_isOdd dA y0 K h0 z0) : ht_C l D s0 yM144 bM144 1 (Option.some Jvm.ClassFile.FieldType.boolean) 0 0 0 0 [.int y0] (fun h z => h = h0 ∧ z = z0) (fun h z vv h1 z1 => ∃ v, vv = some (.int v) ∧ K v h1 z1) := by
  refine ht_C.mk hE.1 (by decide) (Nat.le_of_ble_eq_true rfl) [(0, .int y0)] rfl ?_
  intro p e s m below meth c ls h z X hin hpre I hl
  have hx := X.1
  have hb := X.2.1
  have hml := X.2.2.1
  have hown : s.vm.findClass "MarkupStore$Node" = some m.cls := X.2.2.2.1
  have hts := X.2.2.2.2.2.2.1
  have hK := X.2.2.2.2.2.2.2.2.1
  rw [hpre.1, hpre.2] at I
  clear hpre
  have hF := hg
  unfold w_Node_isOdd at hF
  clear h z
  refine lv_iload_n hx hb d144_0 rfl (lv_at hl 0 rfl) ?_
  refine lv_iconst (v := 1) hx hb d144_1 (by decide) ?_
  refine lv_iand hx hb d144_2 ?_
  refine lv_iconst (v := 1) hx hb d144_3 (by decide) ?_
  refine lv_icmp_ne hx hb d144_4 rfl (fun h9 => ?_) (fun h9 => ?_)
  · have hF := Eq.mp (if_neg h9) hF
    refine lv_iconst (v := 0) hx hb d144_11 (by decide) ?_
    exact ht_zret X d144_12 I (Nat.le_of_ble_eq_true rfl) (Nat.le_of_ble_eq_true rfl) ⟨_, rfl, hF⟩ rfl
  · have hF := Eq.mp (if_pos h9) hF
    refine lv_iconst (v := 1) hx hb d144_7 (by decide) ?_
    refine lv_goto hx hb d144_8 rfl ?_
    exact ht_zret X d144_12 I (Nat.le_of_ble_eq_true rfl) (Nat.le_of_ble_eq_true rfl) ⟨_, rfl, hF⟩ rfl

def w_Node_oddAbove (dA : Nat → ClassId) (y0 : Int32) (K : Int32 → hm_T → hz_T → Prop) (h0 : hm_T) (z0 : hz_T) : Prop := (w_Node_isOdd dA y0 (fun v21 h22 z23 => (if v21 = 0 then (K (y0 + 1) h22 z23) else (K (y0 + 2) h22 z23))) h0 z0)
set_option maxRecDepth 100000 in
set_option maxHeartbeats 8000000 in
theorem cw_Node_oddAbove (l : Launch) (D : va_G) (dA : Nat → ClassId) (s0 : State) (hE : ms_EV D dA s0) (y0 : Int32) (h0 : hm_T) (z0 : hz_T) (K : Int32 → hm_T → hz_T → Prop) (hg : w_Node_oddAbove dA y0 K h0 z0) : ht_C l D s0 yM145 bM145 1 (Option.some Jvm.ClassFile.FieldType.int) 1 20 0 0 [.int y0] (fun h z => h = h0 ∧ z = z0) (fun h z vv h1 z1 => ∃ v, vv = some (.int v) ∧ K v h1 z1) := by
  refine ht_C.mk hE.1 (by decide) (Nat.le_of_ble_eq_true rfl) [(0, .int y0)] rfl ?_
  intro p e s m below meth c ls h z X hin hpre I hl
  have hx := X.1
  have hb := X.2.1
  have hml := X.2.2.1
  have hown : s.vm.findClass "MarkupStore$Node" = some m.cls := X.2.2.2.1
  have hts := X.2.2.2.2.2.2.1
  have hK := X.2.2.2.2.2.2.2.2.1
  rw [hpre.1, hpre.2] at I
  clear hpre
  have hF := hg
  unfold w_Node_oddAbove at hF
  clear h z
  refine lv_iload_n hx hb d145_0 rfl (lv_at hl 0 rfl) ?_
  refine ht_S (rest := []) (as := [.int y0]) X hl (cw_Node_isOdd l D dA s0 hE y0 h0 z0 _ hF) (List.forall_mem_cons.mpr ⟨ms_k767, List.forall_mem_cons.mpr ⟨ms_k768, List.forall_mem_cons.mpr ⟨ms_k19, List.forall_mem_cons.mpr ⟨ms_k769, fun _ h => absurd h List.not_mem_nil⟩⟩⟩⟩) ⟨by decide +kernel, by decide +kernel, (by decide +kernel : (parseMethodDescriptor "(I)Z").map (fun d => d.parameters.length) = some 1)⟩ I ⟨rfl, rfl⟩ ⟨⟨Nat.le_of_ble_eq_true rfl, Nat.le_of_ble_eq_true rfl⟩, Nat.le_of_ble_eq_true rfl, Nat.le_of_ble_eq_true rfl⟩ rfl (Nat.le_of_ble_eq_true rfl) d145_1 (fun vv h22 z23 H locs hR I9 => ?_)
  obtain ⟨v21, e1, hF⟩ := hR
  subst e1
  clear I
  have I := I9
  clear I9
  refine W.eq (g2 := F0 m 4 ls [.int v21]) rfl ?_
  refine lv_if_eq hx hb d145_4 rfl (fun h9 => ?_) (fun h9 => ?_)
  · have hF := Eq.mp (if_pos h9) hF
    refine lv_iload_n hx hb d145_13 rfl (lv_at hl 0 rfl) ?_
    refine lv_iconst (v := 1) hx hb d145_14 (by decide) ?_
    refine lv_iadd hx hb d145_15 ?_
    exact ht_iret X d145_16 I (Nat.le_of_ble_eq_true rfl) (Nat.le_of_ble_eq_true rfl) ⟨_, rfl, hF⟩
  · have hF := Eq.mp (if_neg h9) hF
    refine lv_iload_n hx hb d145_7 rfl (lv_at hl 0 rfl) ?_
    refine lv_iconst (v := 2) hx hb d145_8 (by decide) ?_
    refine lv_iadd hx hb d145_9 ?_
    refine lv_goto hx hb d145_10 rfl ?_
    exact ht_iret X d145_16 I (Nat.le_of_ble_eq_true rfl) (Nat.le_of_ble_eq_true rfl) ⟨_, rfl, hF⟩

def w_Node_oddBelow (dA : Nat → ClassId) (y0 : Int32) (K : Int32 → hm_T → hz_T → Prop) (h0 : hm_T) (z0 : hz_T) : Prop := (w_Node_isOdd dA y0 (fun v21 h22 z23 => (if v21 = 0 then (K (y0 - 1) h22 z23) else (K (y0 - 2) h22 z23))) h0 z0)
set_option maxRecDepth 100000 in
set_option maxHeartbeats 8000000 in
theorem cw_Node_oddBelow (l : Launch) (D : va_G) (dA : Nat → ClassId) (s0 : State) (hE : ms_EV D dA s0) (y0 : Int32) (h0 : hm_T) (z0 : hz_T) (K : Int32 → hm_T → hz_T → Prop) (hg : w_Node_oddBelow dA y0 K h0 z0) : ht_C l D s0 yM146 bM146 1 (Option.some Jvm.ClassFile.FieldType.int) 1 20 0 0 [.int y0] (fun h z => h = h0 ∧ z = z0) (fun h z vv h1 z1 => ∃ v, vv = some (.int v) ∧ K v h1 z1) := by
  refine ht_C.mk hE.1 (by decide) (Nat.le_of_ble_eq_true rfl) [(0, .int y0)] rfl ?_
  intro p e s m below meth c ls h z X hin hpre I hl
  have hx := X.1
  have hb := X.2.1
  have hml := X.2.2.1
  have hown : s.vm.findClass "MarkupStore$Node" = some m.cls := X.2.2.2.1
  have hts := X.2.2.2.2.2.2.1
  have hK := X.2.2.2.2.2.2.2.2.1
  rw [hpre.1, hpre.2] at I
  clear hpre
  have hF := hg
  unfold w_Node_oddBelow at hF
  clear h z
  refine lv_iload_n hx hb d146_0 rfl (lv_at hl 0 rfl) ?_
  refine ht_S (rest := []) (as := [.int y0]) X hl (cw_Node_isOdd l D dA s0 hE y0 h0 z0 _ hF) (List.forall_mem_cons.mpr ⟨ms_k767, List.forall_mem_cons.mpr ⟨ms_k768, List.forall_mem_cons.mpr ⟨ms_k19, List.forall_mem_cons.mpr ⟨ms_k769, fun _ h => absurd h List.not_mem_nil⟩⟩⟩⟩) ⟨by decide +kernel, by decide +kernel, (by decide +kernel : (parseMethodDescriptor "(I)Z").map (fun d => d.parameters.length) = some 1)⟩ I ⟨rfl, rfl⟩ ⟨⟨Nat.le_of_ble_eq_true rfl, Nat.le_of_ble_eq_true rfl⟩, Nat.le_of_ble_eq_true rfl, Nat.le_of_ble_eq_true rfl⟩ rfl (Nat.le_of_ble_eq_true rfl) d146_1 (fun vv h22 z23 H locs hR I9 => ?_)
  obtain ⟨v21, e1, hF⟩ := hR
  subst e1
  clear I
  have I := I9
  clear I9
  refine W.eq (g2 := F0 m 4 ls [.int v21]) rfl ?_
  refine lv_if_eq hx hb d146_4 rfl (fun h9 => ?_) (fun h9 => ?_)
  · have hF := Eq.mp (if_pos h9) hF
    refine lv_iload_n hx hb d146_13 rfl (lv_at hl 0 rfl) ?_
    refine lv_iconst (v := 1) hx hb d146_14 (by decide) ?_
    refine lv_isub hx hb d146_15 ?_
    exact ht_iret X d146_16 I (Nat.le_of_ble_eq_true rfl) (Nat.le_of_ble_eq_true rfl) ⟨_, rfl, hF⟩
  · have hF := Eq.mp (if_neg h9) hF
    refine lv_iload_n hx hb d146_7 rfl (lv_at hl 0 rfl) ?_
    refine lv_iconst (v := 2) hx hb d146_8 (by decide) ?_
    refine lv_isub hx hb d146_9 ?_
    refine lv_goto hx hb d146_10 rfl ?_
    exact ht_iret X d146_16 I (Nat.le_of_ble_eq_true rfl) (Nat.le_of_ble_eq_true rfl) ⟨_, rfl, hF⟩

def w_PathReader_isAxis (dA : Nat → ClassId) (y0 : Int32) (K : Int32 → hm_T → hz_T → Prop) (h0 : hm_T) (z0 : hz_T) : Prop := (cg_lit z0 [68, 69, 80, 65, 66, 83, 78, 76, 70, 82] (fun a21 => (jd_idx z0 a21 y0 (fun v22 => (if v22 < 0 then (K 0 h0 z0) else (K 1 h0 z0))))))
set_option maxRecDepth 100000 in
set_option maxHeartbeats 8000000 in
theorem cw_PathReader_isAxis (l : Launch) (D : va_G) (dA : Nat → ClassId) (s0 : State) (hE : ms_EV D dA s0) (y0 : Int32) (h0 : hm_T) (z0 : hz_T) (K : Int32 → hm_T → hz_T → Prop) (hg : w_PathReader_isAxis dA y0 K h0 z0) : ht_C l D s0 yM147 bM147 1 (Option.some Jvm.ClassFile.FieldType.boolean) 4 91 0 0 [.int y0] (fun h z => h = h0 ∧ z = z0) (fun h z vv h1 z1 => ∃ v, vv = some (.int v) ∧ K v h1 z1) := by
  refine ht_C.mk hE.1 (by decide) (Nat.le_of_ble_eq_true rfl) [(0, .int y0)] rfl ?_
  intro p e s m below meth c ls h z X hin hpre I hl
  have hx := X.1
  have hb := X.2.1
  have hml := X.2.2.1
  have hown : s.vm.findClass "MarkupStore$PathReader" = some m.cls := X.2.2.2.1
  have hts := X.2.2.2.2.2.2.1
  have hK := X.2.2.2.2.2.2.2.2.1
  rw [hpre.1, hpre.2] at I
  clear hpre
  have hF := hg
  unfold w_PathReader_isAxis at hF
  clear h z
  refine hz_ldc (xs := [68, 69, 80, 65, 66, 83, 78, 76, 70, 82]) hE X I 10 rfl hown d147_0 (fun a21 u9 z9 => ?_)
  have hF := hF _ _ z9
  refine lv_iload_n hx hb d147_2 rfl (lv_at hl 0 rfl) ?_
  obtain ⟨u9, xs9, j9, z9, e8, p1, p2, p3, hF⟩ := hF
  refine ms_top (y := nI j9) e8 ?_
  refine ht_V (C := "java/lang/String") (rest := []) (as := [.int (nI j9)]) X hl (c_Sidx l D dA s0 hE a21 u9 xs9 j9 p1 p2 p3) (List.forall_mem_cons.mpr ⟨ms_k950, List.forall_mem_cons.mpr ⟨ms_k951, List.forall_mem_cons.mpr ⟨ms_k952, List.forall_mem_cons.mpr ⟨ms_k4, List.forall_mem_cons.mpr ⟨ms_k953, fun _ h => absurd h List.not_mem_nil⟩⟩⟩⟩⟩) ⟨rfl, by decide +kernel, by decide +kernel, (by decide +kernel : (parseMethodDescriptor "(I)I").map (fun d => d.parameters.length) = some 1)⟩ (hz_recv I z9) I z9 ⟨⟨Nat.le_of_ble_eq_true rfl, Nat.le_of_ble_eq_true rfl⟩, Nat.le_of_ble_eq_true rfl, Nat.le_of_ble_eq_true rfl⟩ rfl (Nat.le_of_ble_eq_true rfl) d147_3 (fun vv h9 z7 H locs hR I9 => ?_)
  obtain ⟨e1, e2, e3⟩ := hR
  rw [e2, e3] at I9
  subst e1
  clear I
  have I := I9
  clear I9 e2 e3 h9 z7
  refine W.eq (g2 := F0 m 6 ls [.int (if j9 ∈ xs9 then nI (xs9.idxOf j9) else -1)]) rfl ?_
  generalize (if j9 ∈ xs9 then nI (xs9.idxOf j9) else -1) = v22 at hF ⊢
  refine lv_if_lt hx hb d147_6 rfl (fun h9 => ?_) (fun h9 => ?_)
  · have hF := Eq.mp (if_pos h9) hF
    refine lv_iconst (v := 0) hx hb d147_13 (by decide) ?_
    exact ht_zret X d147_14 I (Nat.le_of_ble_eq_true rfl) (Nat.le_of_ble_eq_true rfl) ⟨_, rfl, hF⟩ rfl
  · have hF := Eq.mp (if_neg h9) hF
    refine lv_iconst (v := 1) hx hb d147_9 (by decide) ?_
    refine lv_goto hx hb d147_10 rfl ?_
    exact ht_zret X d147_14 I (Nat.le_of_ble_eq_true rfl) (Nat.le_of_ble_eq_true rfl) ⟨_, rfl, hF⟩ rfl

def w_PathReader_isKindSign (dA : Nat → ClassId) (y0 : Int32) (K : Int32 → hm_T → hz_T → Prop) (h0 : hm_T) (z0 : hz_T) : Prop := (cg_lit z0 [42, 35, 37, 46] (fun a21 => (jd_idx z0 a21 y0 (fun v22 => (if v22 < 0 then (K 0 h0 z0) else (K 1 h0 z0))))))
set_option maxRecDepth 100000 in
set_option maxHeartbeats 8000000 in
theorem cw_PathReader_isKindSign (l : Launch) (D : va_G) (dA : Nat → ClassId) (s0 : State) (hE : ms_EV D dA s0) (y0 : Int32) (h0 : hm_T) (z0 : hz_T) (K : Int32 → hm_T → hz_T → Prop) (hg : w_PathReader_isKindSign dA y0 K h0 z0) : ht_C l D s0 yM148 bM148 1 (Option.some Jvm.ClassFile.FieldType.boolean) 4 91 0 0 [.int y0] (fun h z => h = h0 ∧ z = z0) (fun h z vv h1 z1 => ∃ v, vv = some (.int v) ∧ K v h1 z1) := by
  refine ht_C.mk hE.1 (by decide) (Nat.le_of_ble_eq_true rfl) [(0, .int y0)] rfl ?_
  intro p e s m below meth c ls h z X hin hpre I hl
  have hx := X.1
  have hb := X.2.1
  have hml := X.2.2.1
  have hown : s.vm.findClass "MarkupStore$PathReader" = some m.cls := X.2.2.2.1
  have hts := X.2.2.2.2.2.2.1
  have hK := X.2.2.2.2.2.2.2.2.1
  rw [hpre.1, hpre.2] at I
  clear hpre
  have hF := hg
  unfold w_PathReader_isKindSign at hF
  clear h z
  refine hz_ldc (xs := [42, 35, 37, 46]) hE X I 11 rfl hown d148_0 (fun a21 u9 z9 => ?_)
  have hF := hF _ _ z9
  refine lv_iload_n hx hb d148_2 rfl (lv_at hl 0 rfl) ?_
  obtain ⟨u9, xs9, j9, z9, e8, p1, p2, p3, hF⟩ := hF
  refine ms_top (y := nI j9) e8 ?_
  refine ht_V (C := "java/lang/String") (rest := []) (as := [.int (nI j9)]) X hl (c_Sidx l D dA s0 hE a21 u9 xs9 j9 p1 p2 p3) (List.forall_mem_cons.mpr ⟨ms_k950, List.forall_mem_cons.mpr ⟨ms_k951, List.forall_mem_cons.mpr ⟨ms_k952, List.forall_mem_cons.mpr ⟨ms_k4, List.forall_mem_cons.mpr ⟨ms_k953, fun _ h => absurd h List.not_mem_nil⟩⟩⟩⟩⟩) ⟨rfl, by decide +kernel, by decide +kernel, (by decide +kernel : (parseMethodDescriptor "(I)I").map (fun d => d.parameters.length) = some 1)⟩ (hz_recv I z9) I z9 ⟨⟨Nat.le_of_ble_eq_true rfl, Nat.le_of_ble_eq_true rfl⟩, Nat.le_of_ble_eq_true rfl, Nat.le_of_ble_eq_true rfl⟩ rfl (Nat.le_of_ble_eq_true rfl) d148_3 (fun vv h9 z7 H locs hR I9 => ?_)
  obtain ⟨e1, e2, e3⟩ := hR
  rw [e2, e3] at I9
  subst e1
  clear I
  have I := I9
  clear I9 e2 e3 h9 z7
  refine W.eq (g2 := F0 m 6 ls [.int (if j9 ∈ xs9 then nI (xs9.idxOf j9) else -1)]) rfl ?_
  generalize (if j9 ∈ xs9 then nI (xs9.idxOf j9) else -1) = v22 at hF ⊢
  refine lv_if_lt hx hb d148_6 rfl (fun h9 => ?_) (fun h9 => ?_)
  · have hF := Eq.mp (if_pos h9) hF
    refine lv_iconst (v := 0) hx hb d148_13 (by decide) ?_
    exact ht_zret X d148_14 I (Nat.le_of_ble_eq_true rfl) (Nat.le_of_ble_eq_true rfl) ⟨_, rfl, hF⟩ rfl
  · have hF := Eq.mp (if_neg h9) hF
    refine lv_iconst (v := 1) hx hb d148_9 (by decide) ?_
    refine lv_goto hx hb d148_10 rfl ?_
    exact ht_zret X d148_14 I (Nat.le_of_ble_eq_true rfl) (Nat.le_of_ble_eq_true rfl) ⟨_, rfl, hF⟩ rfl

def w_PathReader_isDigit_16 (dA : Nat → ClassId) (K : Int32 → hm_T → hz_T → Prop) (h : hm_T) (z : hz_T) : Prop := (K 0 h z)
def w_PathReader_isDigit (dA : Nat → ClassId) (y0 : Int32) (K : Int32 → hm_T → hz_T → Prop) (h0 : hm_T) (z0 : hz_T) : Prop := (if y0 < 48 then (w_PathReader_isDigit_16 dA K h0 z0) else (if 57 < y0 then (w_PathReader_isDigit_16 dA K h0 z0) else (K 1 h0 z0)))
set_option maxRecDepth 100000 in
set_option maxHeartbeats 8000000 in
theorem cw_PathReader_isDigit (l : Launch) (D : va_G) (dA : Nat → ClassId) (s0 : State) (hE : ms_EV D dA s0) (y0 : Int32) (h0 : hm_T) (z0 : hz_T) (K : Int32 → hm_T → hz_T → Prop) (hg : w_PathReader_isDigit dA y0 K h0 z0) : ht_C l D s0 yM149 bM149 1 (Option.some Jvm.ClassFile.FieldType.boolean) 0 0 0 0 [.int y0] (fun h z => h = h0 ∧ z = z0) (fun h z vv h1 z1 => ∃ v, vv = some (.int v) ∧ K v h1 z1) := by
  refine ht_C.mk hE.1 (by decide) (Nat.le_of_ble_eq_true rfl) [(0, .int y0)] rfl ?_
  intro p e s m below meth c ls h z X hin hpre I hl
  have hx := X.1
  have hb := X.2.1
  have hml := X.2.2.1
  have hown : s.vm.findClass "MarkupStore$PathReader" = some m.cls := X.2.2.2.1
  have hts := X.2.2.2.2.2.2.1
  have hK := X.2.2.2.2.2.2.2.2.1
  rw [hpre.1, hpre.2] at I
  clear hpre
  have b16 : ∀ (ls : Array Slot) (h : hm_T) (z : hz_T) (H : Heap) (locs : List Loc), w_PathReader_isDigit_16 dA K h z → lv_has ls 1 [] → hm_I D s0 s h z H locs → W p l e { frames := 0, cells := 0, slots := 0, locals := 0 } s m ([.int y0] : List Value).toArray below meth c H locs 0 0 (MQ below (ht_Q D s0 (fun vv h1 z1 => ∃ v, vv = some (.int v) ∧ K v h1 z1)) ([.int y0] : List Value).toArray s 0 0 (fun q => s0.heap.size ≤ q)) (F0 m 16 ls []) := by
    intro ls h z H locs hF hl I
    unfold w_PathReader_isDigit_16 at hF
    refine lv_iconst (v := 0) hx hb d149_16 (by decide) ?_
    exact ht_zret X d149_17 I (Nat.le_of_ble_eq_true rfl) (Nat.le_of_ble_eq_true rfl) ⟨_, rfl, hF⟩ rfl
  have hF := hg
  unfold w_PathReader_isDigit at hF
  clear h z
  refine lv_iload_n hx hb d149_0 rfl (lv_at hl 0 rfl) ?_
  refine lv_bipush (v := 48) hx hb d149_1 (by decide) ?_
  refine lv_icmp_lt hx hb d149_3 rfl (fun h9 => ?_) (fun h9 => ?_)
  · have hF := Eq.mp (if_pos h9) hF
    exact b16 ls h0 z0 _ _ hF (hl.sub [] rfl) I
  · have hF := Eq.mp (if_neg h9) hF
    refine lv_iload_n hx hb d149_6 rfl (lv_at hl 0 rfl) ?_
    refine lv_bipush (v := 57) hx hb d149_7 (by decide) ?_
    refine lv_icmp_gt hx hb d149_9 rfl (fun h9 => ?_) (fun h9 => ?_)
    · have hF := Eq.mp (if_pos h9) hF
      exact b16 ls h0 z0 _ _ hF (hl.sub [] rfl) I
    · have hF := Eq.mp (if_neg h9) hF
      refine lv_iconst (v := 1) hx hb d149_12 (by decide) ?_
      refine lv_goto hx hb d149_13 rfl ?_
      exact ht_zret X d149_17 I (Nat.le_of_ble_eq_true rfl) (Nat.le_of_ble_eq_true rfl) ⟨_, rfl, hF⟩ rfl

def w_Scribe_put_16 (dA : Nat → ClassId) (y0 : Nat) (K : hm_T → hz_T → Prop) (h : hm_T) (z : hz_T) : Prop := (cg_I h 7 1 y0 (fun v23 => (cg_p h 7 1 y0 (.int (v23 + 1)) (fun h24 => (K h24 z)))))
def w_Scribe_put (dA : Nat → ClassId) (y0 : Nat) (y1 : Int32) (K : hm_T → hz_T → Prop) (h0 : hm_T) (z0 : hz_T) : Prop := (cg_I h0 7 1 y0 (fun v21 => (cg_I h0 7 0 y0 (fun v22 => (if v21 = v22 then (cg_p h0 7 2 y0 (.int y1) (fun h25 => (w_Scribe_put_16 dA y0 K h25 z0))) else (w_Scribe_put_16 dA y0 K h0 z0))))))
set_option maxRecDepth 100000 in
set_option maxHeartbeats 8000000 in
theorem cw_Scribe_put (l : Launch) (D : va_G) (dA : Nat → ClassId) (s0 : State) (hE : ms_EV D dA s0) (y0 : Nat) (y1 : Int32) (h0 : hm_T) (z0 : hz_T) (K : hm_T → hz_T → Prop) (hg : w_Scribe_put dA y0 y1 K h0 z0) : ht_C l D s0 yM150 bM150 2 (Option.none : Option Jvm.ClassFile.FieldType) 0 0 0 0 [.ref y0, .int y1] (fun h z => h = h0 ∧ z = z0) (fun h z vv h1 z1 => vv = none ∧ K h1 z1) := by
  refine ht_C.mk hE.1 (by decide) (Nat.le_of_ble_eq_true rfl) [(0, .ref y0), (1, .int y1)] rfl ?_
  intro p e s m below meth c ls h z X hin hpre I hl
  have hx := X.1
  have hb := X.2.1
  have hml := X.2.2.1
  have hown : s.vm.findClass "MarkupStore$Scribe" = some m.cls := X.2.2.2.1
  have hts := X.2.2.2.2.2.2.1
  have hK := X.2.2.2.2.2.2.2.2.1
  rw [hpre.1, hpre.2] at I
  clear hpre
  have b16 : ∀ (ls : Array Slot) (h : hm_T) (z : hz_T) (H : Heap) (locs : List Loc), w_Scribe_put_16 dA y0 K h z → lv_has ls 2 [(0, .ref y0)] → hm_I D s0 s h z H locs → W p l e { frames := 0, cells := 0, slots := 0, locals := 0 } s m ([.ref y0, .int y1] : List Value).toArray below meth c H locs 0 0 (MQ below (ht_Q D s0 (fun vv h1 z1 => vv = none ∧ K h1 z1)) ([.ref y0, .int y1] : List Value).toArray s 0 0 (fun q => s0.heap.size ≤ q)) (F0 m 16 ls []) := by
    intro ls h z H locs hF hl I
    unfold w_Scribe_put_16 at hF
    refine lv_aload_n hx hb d150_16 rfl (lv_at hl 0 rfl) ?_
    refine lv_dup hx hb d150_17 rfl ?_
    obtain ⟨fs9, v23, c9, e9, hF⟩ := hF
    refine va_get (D := D) (ci := 7) (v := .int v23) (C := kR7) (T := kT7) (N := 3) hx hb hts ku7 hown hK (hm_one I.1 c9) 0 rfl rfl 1 (by decide) (hts _ ms_k1253) (fun _ h => h) e9 d150_18 ?_
    clear e9 c9 fs9
    refine lv_iconst (v := 1) hx hb d150_21 (by decide) ?_
    refine lv_iadd hx hb d150_22 ?_
    obtain ⟨fs9, c9, k9, hF⟩ := hF
    refine hm_put (ci := 7) (v := .int (v23 + 1)) (ty := .int) (C := kR7) (T := kT7) (N := 3) X I ku7 kt7 kp7 kn7 c9 rfl 1 (by decide) ms_k1253 (fun _ h => h) rfl (by decide +kernel) rfl rfl k9 d150_23 (fun h24 H locs e9 f9 I => ?_)
    rw [← hm_eqU e9 f9] at hF
    clear e9 f9 c9 k9
    exact ht_vret X d150_26 I (Nat.le_of_ble_eq_true rfl) (Nat.le_of_ble_eq_true rfl) ⟨rfl, hF⟩
  have hF := hg
  unfold w_Scribe_put at hF
  clear h z
  refine lv_aload_n hx hb d150_0 rfl (lv_at hl 0 rfl) ?_
  obtain ⟨fs9, v21, c9, e9, hF⟩ := hF
  refine va_get (D := D) (ci := 7) (v := .int v21) (C := kR7) (T := kT7) (N := 3) hx hb hts ku7 hown hK (hm_one I.1 c9) 0 rfl rfl 1 (by decide) (hts _ ms_k1253) (fun _ h => h) e9 d150_1 ?_
  clear e9 c9 fs9
  refine lv_aload_n hx hb d150_4 rfl (lv_at hl 0 rfl) ?_
  obtain ⟨fs9, v22, c9, e9, hF⟩ := hF
  refine va_get (D := D) (ci := 7) (v := .int v22) (C := kR7) (T := kT7) (N := 3) hx hb hts ku7 hown hK (hm_one I.1 c9) 0 rfl rfl 0 (by decide) (hts _ ms_k1252) (fun _ h => h) e9 d150_5 ?_
  clear e9 c9 fs9
  refine lv_icmp_ne hx hb d150_8 rfl (fun h9 => ?_) (fun h9 => ?_)
  · have hF := Eq.mp (if_neg h9) hF
    exact b16 ls h0 z0 _ _ hF (hl.sub [0] rfl) I
  · have hF := Eq.mp (if_pos h9) hF
    refine lv_aload_n hx hb d150_11 rfl (lv_at hl 0 rfl) ?_
    refine lv_iload_n hx hb d150_12 rfl (lv_at hl 1 rfl) ?_
    obtain ⟨fs9, c9, k9, hF⟩ := hF
    refine hm_put (ci := 7) (v := .int y1) (ty := .int) (C := kR7) (T := kT7) (N := 3) X I ku7 kt7 kp7 kn7 c9 rfl 2 (by decide) ms_k1255 (fun _ h => h) rfl (by decide +kernel) rfl rfl k9 d150_13 (fun h25 H locs e9 f9 I => ?_)
    rw [← hm_eqU e9 f9] at hF
    clear e9 f9 c9 k9
    exact b16 ls h25 z0 _ _ hF (hl.sub [0] rfl) I

def w_Step_goesBackwards_36 (dA : Nat → ClassId) (y0 : Nat) (K : Int32 → hm_T → hz_T → Prop) (h : hm_T) (z : hz_T) : Prop := (K 1 h z)
def w_Step_goesBackwards (dA : Nat → ClassId) (y0 : Nat) (K : Int32 → hm_T → hz_T → Prop) (h0 : hm_T) (z0 : hz_T) : Prop := (cg_I h0 12 0 y0 (fun v21 => (if v21 = 65 then (w_Step_goesBackwards_36 dA y0 K h0 z0) else (cg_I h0 12 0 y0 (fun v22 => (if v22 = 66 then (w_Step_goesBackwards_36 dA y0 K h0 z0) else (cg_I h0 12 0 y0 (fun v23 => (if v23 = 76 then (w_Step_goesBackwards_36 dA y0 K h0 z0) else (cg_I h0 12 0 y0 (fun v24 => (if v24 = 82 then (w_Step_goesBackwards_36 dA y0 K h0 z0) else (K 0 h0 z0)))))))))))))
set_option maxRecDepth 100000 in
set_option maxHeartbeats 8000000 in
theorem cw_Step_goesBackwards (l : Launch) (D : va_G) (dA : Nat → ClassId) (s0 : State) (hE : ms_EV D dA s0) (y0 : Nat) (h0 : hm_T) (z0 : hz_T) (K : Int32 → hm_T → hz_T → Prop) (hg : w_Step_goesBackwards dA y0 K h0 z0) : ht_C l D s0 yM151 bM151 1 (Option.some Jvm.ClassFile.FieldType.boolean) 0 0 0 0 [.ref y0] (fun h z => h = h0 ∧ z = z0) (fun h z vv h1 z1 => ∃ v, vv = some (.int v) ∧ K v h1 z1) := by
  refine ht_C.mk hE.1 (by decide) (Nat.le_of_ble_eq_true rfl) [(0, .ref y0)] rfl ?_
  intro p e s m below meth c ls h z X hin hpre I hl
  have hx := X.1
  have hb := X.2.1
  have hml := X.2.2.1
  have hown : s.vm.findClass "MarkupStore$Step" = some m.cls := X.2.2.2.1
  have hts := X.2.2.2.2.2.2.1
  have hK := X.2.2.2.2.2.2.2.2.1
  rw [hpre.1, hpre.2] at I
  clear hpre
  have b36 : ∀ (ls : Array Slot) (h : hm_T) (z : hz_T) (H : Heap) (locs : List Loc), w_Step_goesBackwards_36 dA y0 K h z → lv_has ls 1 [] → hm_I D s0 s h z H locs → W p l e { frames := 0, cells := 0, slots := 0, locals := 0 } s m ([.ref y0] : List Value).toArray below meth c H locs 0 0 (MQ below (ht_Q D s0 (fun vv h1 z1 => ∃ v, vv = some (.int v) ∧ K v h1 z1)) ([.ref y0] : List Value).toArray s 0 0 (fun q => s0.heap.size ≤ q)) (F0 m 36 ls []) := by
    intro ls h z H locs hF hl I
    unfold w_Step_goesBackwards_36 at hF
    refine lv_iconst (v := 1) hx hb d151_36 (by decide) ?_
    refine lv_goto hx hb d151_37 rfl ?_
    exact ht_zret X d151_41 I (Nat.le_of_ble_eq_true rfl) (Nat.le_of_ble_eq_true rfl) ⟨_, rfl, hF⟩ rfl
  have hF := hg
  unfold w_Step_goesBackwards at hF
  clear h z
  refine lv_aload_n hx hb d151_0 rfl (lv_at hl 0 rfl) ?_
  obtain ⟨fs9, v21, c9, e9, hF⟩ := hF
  refine va_get (D := D) (ci := 12) (v := .int v21) (C := kR12) (T := kT12) (N := 5) hx hb hts ku12 hown hK (hm_one I.1 c9) 0 rfl rfl 0 (by decide) (hts _ ms_k923) (fun _ h => h) e9 d151_1 ?_
  clear e9 c9 fs9
  refine lv_bipush (v := 65) hx hb d151_4 (by decide) ?_
  refine lv_icmp_eq hx hb d151_6 rfl (fun h9 => ?_) (fun h9 => ?_)
  · have hF := Eq.mp (if_pos h9) hF
    exact b36 ls h0 z0 _ _ hF (hl.sub [] rfl) I
  · have hF := Eq.mp (if_neg h9) hF
    refine lv_aload_n hx hb d151_9 rfl (lv_at hl 0 rfl) ?_
    obtain ⟨fs9, v22, c9, e9, hF⟩ := hF
    refine va_get (D := D) (ci := 12) (v := .int v22) (C := kR12) (T := kT12) (N := 5) hx hb hts ku12 hown hK (hm_one I.1 c9) 0 rfl rfl 0 (by decide) (hts _ ms_k923) (fun _ h => h) e9 d151_10 ?_
    clear e9 c9 fs9
    refine lv_bipush (v := 66) hx hb d151_13 (by decide) ?_
    refine lv_icmp_eq hx hb d151_15 rfl (fun h9 => ?_) (fun h9 => ?_)
    · have hF := Eq.mp (if_pos h9) hF
      exact b36 ls h0 z0 _ _ hF (hl.sub [] rfl) I
    · have hF := Eq.mp (if_neg h9) hF
      refine lv_aload_n hx hb d151_18 rfl (lv_at hl 0 rfl) ?_
      obtain ⟨fs9, v23, c9, e9, hF⟩ := hF
      refine va_get (D := D) (ci := 12) (v := .int v23) (C := kR12) (T := kT12) (N := 5) hx hb hts ku12 hown hK (hm_one I.1 c9) 0 rfl rfl 0 (by decide) (hts _ ms_k923) (fun _ h => h) e9 d151_19 ?_
      clear e9 c9 fs9
      refine lv_bipush (v := 76) hx hb d151_22 (by decide) ?_
      refine lv_icmp_eq hx hb d151_24 rfl (fun h9 => ?_) (fun h9 => ?_)
      · have hF := Eq.mp (if_pos h9) hF
        exact b36 ls h0 z0 _ _ hF (hl.sub [] rfl) I
      · have hF := Eq.mp (if_neg h9) hF
        refine lv_aload_n hx hb d151_27 rfl (lv_at hl 0 rfl) ?_
        obtain ⟨fs9, v24, c9, e9, hF⟩ := hF
        refine va_get (D := D) (ci := 12) (v := .int v24) (C := kR12) (T := kT12) (N := 5) hx hb hts ku12 hown hK (hm_one I.1 c9) 0 rfl rfl 0 (by decide) (hts _ ms_k923) (fun _ h => h) e9 d151_28 ?_
        clear e9 c9 fs9
        refine lv_bipush (v := 82) hx hb d151_31 (by decide) ?_
        refine lv_icmp_ne hx hb d151_33 rfl (fun h9 => ?_) (fun h9 => ?_)
        · have hF := Eq.mp (if_neg h9) hF
          refine lv_iconst (v := 0) hx hb d151_40 (by decide) ?_
          exact ht_zret X d151_41 I (Nat.le_of_ble_eq_true rfl) (Nat.le_of_ble_eq_true rfl) ⟨_, rfl, hF⟩ rfl
        · have hF := Eq.mp (if_pos h9) hF
          exact b36 ls h0 z0 _ _ hF (hl.sub [] rfl) I

def w_Step_takes (dA : Nat → ClassId) (y0 : Nat) (y1 : Option Nat) (K : Int32 → hm_T → hz_T → Prop) (h0 : hm_T) (z0 : hz_T) : Prop := (cg_I h0 12 1 y0 (fun v21 => (if v21 = 35 then (cg_d y1 (fun a22 => (cg_I h0 8 0 a22 (fun v23 => (if v23 = 2 then (K 1 h0 z0) else (K 0 h0 z0)))))) else (if v21 = 37 then (cg_d y1 (fun a24 => (cg_I h0 8 0 a24 (fun v25 => (if v25 = 3 then (K 1 h0 z0) else (K 0 h0 z0)))))) else (if v21 = 42 then (cg_d y1 (fun a26 => (cg_I h0 8 0 a26 (fun v27 => (if v27 = 1 then (K 1 h0 z0) else (K 0 h0 z0)))))) else (if v21 = 46 then (K 1 h0 z0) else (cg_d y1 (fun a28 => (cg_I h0 8 0 a28 (fun v29 => (if v29 = 1 then (cg_d y1 (fun a30 => (cg_R h0 8 7 a30 (fun v31 => (cg_R h0 12 2 y0 (fun v32 => (cg_d v31 (fun a33 => (cg_d v32 (fun a34 => (jd_eq z0 a33 a34 (fun v35 => (if v35 = 0 then (K 0 h0 z0) else (K 1 h0 z0)))))))))))))) else (K 0 h0 z0))))))))))))
set_option maxRecDepth 100000 in
set_option maxHeartbeats 8000000 in
theorem cw_Step_takes (l : Launch) (D : va_G) (dA : Nat → ClassId) (s0 : State) (hE : ms_EV D dA s0) (y0 : Nat) (y1 : Option Nat) (h0 : hm_T) (z0 : hz_T) (K : Int32 → hm_T → hz_T → Prop) (hg : w_Step_takes dA y0 y1 K h0 z0) : ht_C l D s0 yM152 bM152 2 (Option.some Jvm.ClassFile.FieldType.boolean) 2 44 0 0 [.ref y0, va_rf y1] (fun h z => h = h0 ∧ z = z0) (fun h z vv h1 z1 => ∃ v, vv = some (.int v) ∧ K v h1 z1) := by
  refine ht_C.mk hE.1 (by decide) (by simp [lg_sl, cat_rf, cat_int, cat_ref, cat_null, cat_long]) [(0, .ref y0), (1, va_rf y1)] (by simp [lv_args, cat_rf, cat_int, cat_ref, cat_null, cat_long]) ?_
  intro p e s m below meth c ls h z X hin hpre I hl
  have hx := X.1
  have hb := X.2.1
  have hml := X.2.2.1
  have hown : s.vm.findClass "MarkupStore$Step" = some m.cls := X.2.2.2.1
  have hts := X.2.2.2.2.2.2.1
  have hK := X.2.2.2.2.2.2.2.2.1
  rw [hpre.1, hpre.2] at I
  clear hpre
  have hF := hg
  unfold w_Step_takes at hF
  clear h z
  refine lv_aload_n hx hb d152_0 rfl (lv_at hl 0 rfl) ?_
  obtain ⟨fs9, v21, c9, e9, hF⟩ := hF
  refine va_get (D := D) (ci := 12) (v := .int v21) (C := kR12) (T := kT12) (N := 5) hx hb hts ku12 hown hK (hm_one I.1 c9) 0 rfl rfl 1 (by decide) (hts _ ms_k926) (fun _ h => h) e9 d152_1 ?_
  clear e9 c9 fs9
  by_cases h9_35 : v21 = 35
  · have hF := Eq.mp (if_pos h9_35) hF
    refine lv_lookup (off := 60) (tgt := 64) hx hb d152_4 (by decide) (by rw [h9_35]; decide) (by decide) ?_
    refine lv_aload_nR hx hb d152_64 rfl (lv_at hl 1 rfl) ?_
    obtain ⟨a22, e9, hF⟩ := hF
    refine W.eq (g2 := F0 m 65 ls [.ref a22]) (by rw [e9]; rfl) ?_
    clear e9
    obtain ⟨fs9, v23, c9, e9, hF⟩ := hF
    refine va_get (D := D) (ci := 8) (v := .int v23) (C := kR8) (T := kT8) (N := 9) hx hb hts ku8 hown hK (hm_one I.1 c9) 0 rfl rfl 0 (by decide) (hts _ ms_k441) (fun _ h => h) e9 d152_65 ?_
    clear e9 c9 fs9
    refine lv_iconst (v := 2) hx hb d152_68 (by decide) ?_
    refine lv_icmp_ne hx hb d152_69 rfl (fun h9 => ?_) (fun h9 => ?_)
    · have hF := Eq.mp (if_neg h9) hF
      refine lv_iconst (v := 0) hx hb d152_76 (by decide) ?_
      exact ht_zret X d152_77 I (Nat.le_of_ble_eq_true rfl) (Nat.le_of_ble_eq_true rfl) ⟨_, rfl, hF⟩ rfl
    · have hF := Eq.mp (if_pos h9) hF
      refine lv_iconst (v := 1) hx hb d152_72 (by decide) ?_
      refine lv_goto hx hb d152_73 rfl ?_
      exact ht_zret X d152_77 I (Nat.le_of_ble_eq_true rfl) (Nat.le_of_ble_eq_true rfl) ⟨_, rfl, hF⟩ rfl
  have hF := Eq.mp (if_neg h9_35) hF
  by_cases h9_37 : v21 = 37
  · have hF := Eq.mp (if_pos h9_37) hF
    refine lv_lookup (off := 74) (tgt := 78) hx hb d152_4 (by decide) (by rw [h9_37]; decide) (by decide) ?_
    refine lv_aload_nR hx hb d152_78 rfl (lv_at hl 1 rfl) ?_
    obtain ⟨a24, e9, hF⟩ := hF
    refine W.eq (g2 := F0 m 79 ls [.ref a24]) (by rw [e9]; rfl) ?_
    clear e9
    obtain ⟨fs9, v25, c9, e9, hF⟩ := hF
    refine va_get (D := D) (ci := 8) (v := .int v25) (C := kR8) (T := kT8) (N := 9) hx hb hts ku8 hown hK (hm_one I.1 c9) 0 rfl rfl 0 (by decide) (hts _ ms_k441) (fun _ h => h) e9 d152_79 ?_
    clear e9 c9 fs9
    refine lv_iconst (v := 3) hx hb d152_82 (by decide) ?_
    refine lv_icmp_ne hx hb d152_83 rfl (fun h9 => ?_) (fun h9 => ?_)
    · have hF := Eq.mp (if_neg h9) hF
      refine lv_iconst (v := 0) hx hb d152_90 (by decide) ?_
      exact ht_zret X d152_91 I (Nat.le_of_ble_eq_true rfl) (Nat.le_of_ble_eq_true rfl) ⟨_, rfl, hF⟩ rfl
    · have hF := Eq.mp (if_pos h9) hF
      refine lv_iconst (v := 1) hx hb d152_86 (by decide) ?_
      refine lv_goto hx hb d152_87 rfl ?_
      exact ht_zret X d152_91 I (Nat.le_of_ble_eq_true rfl) (Nat.le_of_ble_eq_true rfl) ⟨_, rfl, hF⟩ rfl
  have hF := Eq.mp (if_neg h9_37) hF
  by_cases h9_42 : v21 = 42
  · have hF := Eq.mp (if_pos h9_42) hF
    refine lv_lookup (off := 46) (tgt := 50) hx hb d152_4 (by decide) (by rw [h9_42]; decide) (by decide) ?_
    refine lv_aload_nR hx hb d152_50 rfl (lv_at hl 1 rfl) ?_
    obtain ⟨a26, e9, hF⟩ := hF
    refine W.eq (g2 := F0 m 51 ls [.ref a26]) (by rw [e9]; rfl) ?_
    clear e9
    obtain ⟨fs9, v27, c9, e9, hF⟩ := hF
    refine va_get (D := D) (ci := 8) (v := .int v27) (C := kR8) (T := kT8) (N := 9) hx hb hts ku8 hown hK (hm_one I.1 c9) 0 rfl rfl 0 (by decide) (hts _ ms_k441) (fun _ h => h) e9 d152_51 ?_
    clear e9 c9 fs9
    refine lv_iconst (v := 1) hx hb d152_54 (by decide) ?_
    refine lv_icmp_ne hx hb d152_55 rfl (fun h9 => ?_) (fun h9 => ?_)
    · have hF := Eq.mp (if_neg h9) hF
      refine lv_iconst (v := 0) hx hb d152_62 (by decide) ?_
      exact ht_zret X d152_63 I (Nat.le_of_ble_eq_true rfl) (Nat.le_of_ble_eq_true rfl) ⟨_, rfl, hF⟩ rfl
    · have hF := Eq.mp (if_pos h9) hF
      refine lv_iconst (v := 1) hx hb d152_58 (by decide) ?_
      refine lv_goto hx hb d152_59 rfl ?_
      exact ht_zret X d152_63 I (Nat.le_of_ble_eq_true rfl) (Nat.le_of_ble_eq_true rfl) ⟨_, rfl, hF⟩ rfl
  have hF := Eq.mp (if_neg h9_42) hF
  by_cases h9_46 : v21 = 46
  · have hF := Eq.mp (if_pos h9_46) hF
    refine lv_lookup (off := 44) (tgt := 48) hx hb d152_4 (by decide) (by rw [h9_46]; decide) (by decide) ?_
    refine lv_iconst (v := 1) hx hb d152_48 (by decide) ?_
    exact ht_zret X d152_49 I (Nat.le_of_ble_eq_true rfl) (Nat.le_of_ble_eq_true rfl) ⟨_, rfl, hF⟩ rfl
  have hF := Eq.mp (if_neg h9_46) hF
  refine lv_lookup (off := 88) (tgt := 92) hx hb d152_4 (by decide) (by have i35 : Int32.toInt v21 ≠ 35 := mm_ti (k := 35) h9_35; have i37 : Int32.toInt v21 ≠ 37 := mm_ti (k := 37) h9_37; have i42 : Int32.toInt v21 ≠ 42 := mm_ti (k := 42) h9_42; have i46 : Int32.toInt v21 ≠ 46 := mm_ti (k := 46) h9_46; simp [Op.lookupswitch.offset, i35, Ne.symm i35, i37, Ne.symm i37, i42, Ne.symm i42, i46, Ne.symm i46]) (by decide) ?_
  refine lv_aload_nR hx hb d152_92 rfl (lv_at hl 1 rfl) ?_
  obtain ⟨a28, e9, hF⟩ := hF
  refine W.eq (g2 := F0 m 93 ls [.ref a28]) (by rw [e9]; rfl) ?_
  clear e9
  obtain ⟨fs9, v29, c9, e9, hF⟩ := hF
  refine va_get (D := D) (ci := 8) (v := .int v29) (C := kR8) (T := kT8) (N := 9) hx hb hts ku8 hown hK (hm_one I.1 c9) 0 rfl rfl 0 (by decide) (hts _ ms_k441) (fun _ h => h) e9 d152_93 ?_
  clear e9 c9 fs9
  refine lv_iconst (v := 1) hx hb d152_96 (by decide) ?_
  refine lv_icmp_ne hx hb d152_97 rfl (fun h9 => ?_) (fun h9 => ?_)
  · have hF := Eq.mp (if_neg h9) hF
    refine lv_iconst (v := 0) hx hb d152_118 (by decide) ?_
    exact ht_zret X d152_119 I (Nat.le_of_ble_eq_true rfl) (Nat.le_of_ble_eq_true rfl) ⟨_, rfl, hF⟩ rfl
  · have hF := Eq.mp (if_pos h9) hF
    refine lv_aload_nR hx hb d152_100 rfl (lv_at hl 1 rfl) ?_
    obtain ⟨a30, e9, hF⟩ := hF
    refine W.eq (g2 := F0 m 101 ls [.ref a30]) (by rw [e9]; rfl) ?_
    clear e9
    obtain ⟨fs9, v31, c9, e9, hF⟩ := hF
    refine va_get (D := D) (ci := 8) (v := va_rf v31) (C := kR8) (T := kT8) (N := 9) hx hb hts ku8 hown hK (hm_one I.1 c9) 0 rfl rfl 7 (by decide) (hts _ ms_k468) (fun _ h => h) e9 d152_101 ?_
    clear e9 c9 fs9
    refine lv_aload_n hx hb d152_104 rfl (lv_at hl 0 rfl) ?_
    obtain ⟨fs9, v32, c9, e9, hF⟩ := hF
    refine va_get (D := D) (ci := 12) (v := va_rf v32) (C := kR12) (T := kT12) (N := 5) hx hb hts ku12 hown hK (hm_one I.1 c9) 0 rfl rfl 2 (by decide) (hts _ ms_k928) (fun _ h => h) e9 d152_105 ?_
    clear e9 c9 fs9
    obtain ⟨a33, e9, hF⟩ := hF
    refine W.eq (g2 := F0 m 108 ls [va_rf v32, .ref a33]) (by rw [e9]; rfl) ?_
    clear e9
    obtain ⟨a34, e9, hF⟩ := hF
    refine W.eq (g2 := F0 m 108 ls [.ref a34, .ref a33]) (by rw [e9]; rfl) ?_
    clear e9
    obtain ⟨u9, xs9, u8, ys9, z9, z8, p1, p2, p3, p4, hF⟩ := hF
    refine ht_V (C := "java/lang/String") (rest := []) (as := [.ref a34]) X hl (c_Seq l D dA s0 hE a33 u9 xs9 a34 u8 ys9 p1 p2 p3 p4) (List.forall_mem_cons.mpr ⟨ms_k1103, List.forall_mem_cons.mpr ⟨ms_k616, List.forall_mem_cons.mpr ⟨ms_k617, List.forall_mem_cons.mpr ⟨ms_k4, List.forall_mem_cons.mpr ⟨ms_k618, fun _ h => absurd h List.not_mem_nil⟩⟩⟩⟩⟩) ⟨rfl, by decide +kernel, by decide +kernel, (by decide +kernel : (parseMethodDescriptor "(Ljava/lang/Object;)Z").map (fun d => d.parameters.length) = some 1)⟩ (hz_recv I z9) I ⟨z9, z8⟩ ⟨⟨Nat.le_of_ble_eq_true rfl, Nat.le_of_ble_eq_true rfl⟩, Nat.le_of_ble_eq_true rfl, Nat.le_of_ble_eq_true rfl⟩ rfl (Nat.le_of_ble_eq_true rfl) d152_108 (fun vv h9 z7 H locs hR I9 => ?_)
    obtain ⟨e1, e2, e3⟩ := hR
    rw [e2, e3] at I9
    subst e1
    clear I
    have I := I9
    clear I9 e2 e3 h9 z7
    refine W.eq (g2 := F0 m 111 ls [.int (if xs9 = ys9 then 1 else 0)]) rfl ?_
    generalize (if xs9 = ys9 then 1 else 0) = v35 at hF ⊢
    refine lv_if_eq hx hb d152_111 rfl (fun h9 => ?_) (fun h9 => ?_)
    · have hF := Eq.mp (if_pos h9) hF
      refine lv_iconst (v := 0) hx hb d152_118 (by decide) ?_
      exact ht_zret X d152_119 I (Nat.le_of_ble_eq_true rfl) (Nat.le_of_ble_eq_true rfl) ⟨_, rfl, hF⟩ rfl
    · have hF := Eq.mp (if_neg h9) hF
      refine lv_iconst (v := 1) hx hb d152_114 (by decide) ?_
      refine lv_goto hx hb d152_115 rfl ?_
      exact ht_zret X d152_119 I (Nat.le_of_ble_eq_true rfl) (Nat.le_of_ble_eq_true rfl) ⟨_, rfl, hF⟩ rfl

def w_TextReader_failed6 (dA : Nat → ClassId) (y0 : Nat) (K : Int32 → hm_T → hz_T → Prop) (h0 : hm_T) (z0 : hz_T) : Prop := (cg_I h0 6 2 y0 (fun v21 => (if v21 = (-1) then (K 0 h0 z0) else (K 1 h0 z0))))
set_option maxRecDepth 100000 in
set_option maxHeartbeats 8000000 in
theorem cw_TextReader_failed6 (l : Launch) (D : va_G) (dA : Nat → ClassId) (s0 : State) (hE : ms_EV D dA s0) (y0 : Nat) (h0 : hm_T) (z0 : hz_T) (K : Int32 → hm_T → hz_T → Prop) (hg : w_TextReader_failed6 dA y0 K h0 z0) : ht_C l D s0 yM153 bM153 1 (Option.some Jvm.ClassFile.FieldType.boolean) 0 0 0 0 [.ref y0] (fun h z => h = h0 ∧ z = z0) (fun h z vv h1 z1 => ∃ v, vv = some (.int v) ∧ K v h1 z1) := by
  refine ht_C.mk hE.1 (by decide) (Nat.le_of_ble_eq_true rfl) [(0, .ref y0)] rfl ?_
  intro p e s m below meth c ls h z X hin hpre I hl
  have hx := X.1
  have hb := X.2.1
  have hml := X.2.2.1
  have hown : s.vm.findClass "MarkupStore$TextReader" = some m.cls := X.2.2.2.1
  have hts := X.2.2.2.2.2.2.1
  have hK := X.2.2.2.2.2.2.2.2.1
  rw [hpre.1, hpre.2] at I
  clear hpre
  have hF := hg
  unfold w_TextReader_failed6 at hF
  clear h z
  refine lv_aload_n hx hb d153_0 rfl (lv_at hl 0 rfl) ?_
  obtain ⟨fs9, v21, c9, e9, hF⟩ := hF
  refine va_get (D := D) (ci := 6) (v := .int v21) (C := kR6) (T := kT6) (N := 6) hx hb hts ku6 hown hK (hm_one I.1 c9) 0 rfl rfl 2 (by decide) (hts _ ms_k362) (fun _ h => h) e9 d153_1 ?_
  clear e9 c9 fs9
  refine lv_iconst (v := (-1)) hx hb d153_4 (by decide) ?_
  refine lv_icmp_eq hx hb d153_5 rfl (fun h9 => ?_) (fun h9 => ?_)
  · have hF := Eq.mp (if_pos h9) hF
    refine lv_iconst (v := 0) hx hb d153_12 (by decide) ?_
    exact ht_zret X d153_13 I (Nat.le_of_ble_eq_true rfl) (Nat.le_of_ble_eq_true rfl) ⟨_, rfl, hF⟩ rfl
  · have hF := Eq.mp (if_neg h9) hF
    refine lv_iconst (v := 1) hx hb d153_8 (by decide) ?_
    refine lv_goto hx hb d153_9 rfl ?_
    exact ht_zret X d153_13 I (Nat.le_of_ble_eq_true rfl) (Nat.le_of_ble_eq_true rfl) ⟨_, rfl, hF⟩ rfl

def w_TextReader_failed10 (dA : Nat → ClassId) (y0 : Nat) (K : Int32 → hm_T → hz_T → Prop) (h0 : hm_T) (z0 : hz_T) : Prop := (cg_I h0 10 2 y0 (fun v21 => (if v21 = (-1) then (K 0 h0 z0) else (K 1 h0 z0))))
set_option maxRecDepth 100000 in
set_option maxHeartbeats 8000000 in
theorem cw_TextReader_failed10 (l : Launch) (D : va_G) (dA : Nat → ClassId) (s0 : State) (hE : ms_EV D dA s0) (y0 : Nat) (h0 : hm_T) (z0 : hz_T) (K : Int32 → hm_T → hz_T → Prop) (hg : w_TextReader_failed10 dA y0 K h0 z0) : ht_C l D s0 yM153 bM153 1 (Option.some Jvm.ClassFile.FieldType.boolean) 0 0 0 0 [.ref y0] (fun h z => h = h0 ∧ z = z0) (fun h z vv h1 z1 => ∃ v, vv = some (.int v) ∧ K v h1 z1) := by
  refine ht_C.mk hE.1 (by decide) (Nat.le_of_ble_eq_true rfl) [(0, .ref y0)] rfl ?_
  intro p e s m below meth c ls h z X hin hpre I hl
  have hx := X.1
  have hb := X.2.1
  have hml := X.2.2.1
  have hown : s.vm.findClass "MarkupStore$TextReader" = some m.cls := X.2.2.2.1
  have hts := X.2.2.2.2.2.2.1
  have hK := X.2.2.2.2.2.2.2.2.1
  rw [hpre.1, hpre.2] at I
  clear hpre
  have hF := hg
  unfold w_TextReader_failed10 at hF
  clear h z
  refine lv_aload_n hx hb d153_0 rfl (lv_at hl 0 rfl) ?_
  obtain ⟨fs9, v21, c9, e9, hF⟩ := hF
  refine va_get (D := D) (ci := 10) (v := .int v21) (C := kR10) (T := kT10) (N := 3) hx hb hts ku10 hown hK (hm_one I.1 c9) 0 rfl rfl 2 (by decide) (hts _ ms_k362) (fun _ h => h) e9 d153_1 ?_
  clear e9 c9 fs9
  refine lv_iconst (v := (-1)) hx hb d153_4 (by decide) ?_
  refine lv_icmp_eq hx hb d153_5 rfl (fun h9 => ?_) (fun h9 => ?_)
  · have hF := Eq.mp (if_pos h9) hF
    refine lv_iconst (v := 0) hx hb d153_12 (by decide) ?_
    exact ht_zret X d153_13 I (Nat.le_of_ble_eq_true rfl) (Nat.le_of_ble_eq_true rfl) ⟨_, rfl, hF⟩ rfl
  · have hF := Eq.mp (if_neg h9) hF
    refine lv_iconst (v := 1) hx hb d153_8 (by decide) ?_
    refine lv_goto hx hb d153_9 rfl ?_
    exact ht_zret X d153_13 I (Nat.le_of_ble_eq_true rfl) (Nat.le_of_ble_eq_true rfl) ⟨_, rfl, hF⟩ rfl

def w_TextReader_failAt6 (dA : Nat → ClassId) (y0 : Nat) (y1 : Int32) (K : Int32 → hm_T → hz_T → Prop) (h0 : hm_T) (z0 : hz_T) : Prop := (cg_p h0 6 2 y0 (.int y1) (fun h21 => (K 0 h21 z0)))
set_option maxRecDepth 100000 in
set_option maxHeartbeats 8000000 in
theorem cw_TextReader_failAt6 (l : Launch) (D : va_G) (dA : Nat → ClassId) (s0 : State) (hE : ms_EV D dA s0) (y0 : Nat) (y1 : Int32) (h0 : hm_T) (z0 : hz_T) (K : Int32 → hm_T → hz_T → Prop) (hg : w_TextReader_failAt6 dA y0 y1 K h0 z0) : ht_C l D s0 yM154 bM154 2 (Option.some Jvm.ClassFile.FieldType.boolean) 0 0 0 0 [.ref y0, .int y1] (fun h z => h = h0 ∧ z = z0) (fun h z vv h1 z1 => ∃ v, vv = some (.int v) ∧ K v h1 z1) := by
  refine ht_C.mk hE.1 (by decide) (Nat.le_of_ble_eq_true rfl) [(0, .ref y0), (1, .int y1)] rfl ?_
  intro p e s m below meth c ls h z X hin hpre I hl
  have hx := X.1
  have hb := X.2.1
  have hml := X.2.2.1
  have hown : s.vm.findClass "MarkupStore$TextReader" = some m.cls := X.2.2.2.1
  have hts := X.2.2.2.2.2.2.1
  have hK := X.2.2.2.2.2.2.2.2.1
  rw [hpre.1, hpre.2] at I
  clear hpre
  have hF := hg
  unfold w_TextReader_failAt6 at hF
  clear h z
  refine lv_aload_n hx hb d154_0 rfl (lv_at hl 0 rfl) ?_
  refine lv_iload_n hx hb d154_1 rfl (lv_at hl 1 rfl) ?_
  obtain ⟨fs9, c9, k9, hF⟩ := hF
  refine hm_put (ci := 6) (v := .int y1) (ty := .int) (C := kR6) (T := kT6) (N := 6) X I ku6 kt6 kp6 kn6 c9 rfl 2 (by decide) ms_k362 (fun _ h => h) rfl (by decide +kernel) rfl rfl k9 d154_2 (fun h21 H locs e9 f9 I => ?_)
  rw [← hm_eqU e9 f9] at hF
  clear e9 f9 c9 k9
  refine lv_iconst (v := 0) hx hb d154_5 (by decide) ?_
  exact ht_zret X d154_6 I (Nat.le_of_ble_eq_true rfl) (Nat.le_of_ble_eq_true rfl) ⟨_, rfl, hF⟩ rfl

def w_TextReader_failAt10 (dA : Nat → ClassId) (y0 : Nat) (y1 : Int32) (K : Int32 → hm_T → hz_T → Prop) (h0 : hm_T) (z0 : hz_T) : Prop := (cg_p h0 10 2 y0 (.int y1) (fun h21 => (K 0 h21 z0)))
set_option maxRecDepth 100000 in
set_option maxHeartbeats 8000000 in
theorem cw_TextReader_failAt10 (l : Launch) (D : va_G) (dA : Nat → ClassId) (s0 : State) (hE : ms_EV D dA s0) (y0 : Nat) (y1 : Int32) (h0 : hm_T) (z0 : hz_T) (K : Int32 → hm_T → hz_T → Prop) (hg : w_TextReader_failAt10 dA y0 y1 K h0 z0) : ht_C l D s0 yM154 bM154 2 (Option.some Jvm.ClassFile.FieldType.boolean) 0 0 0 0 [.ref y0, .int y1] (fun h z => h = h0 ∧ z = z0) (fun h z vv h1 z1 => ∃ v, vv = some (.int v) ∧ K v h1 z1) := by
  refine ht_C.mk hE.1 (by decide) (Nat.le_of_ble_eq_true rfl) [(0, .ref y0), (1, .int y1)] rfl ?_
  intro p e s m below meth c ls h z X hin hpre I hl
  have hx := X.1
  have hb := X.2.1
  have hml := X.2.2.1
  have hown : s.vm.findClass "MarkupStore$TextReader" = some m.cls := X.2.2.2.1
  have hts := X.2.2.2.2.2.2.1
  have hK := X.2.2.2.2.2.2.2.2.1
  rw [hpre.1, hpre.2] at I
  clear hpre
  have hF := hg
  unfold w_TextReader_failAt10 at hF
  clear h z
  refine lv_aload_n hx hb d154_0 rfl (lv_at hl 0 rfl) ?_
  refine lv_iload_n hx hb d154_1 rfl (lv_at hl 1 rfl) ?_
  obtain ⟨fs9, c9, k9, hF⟩ := hF
  refine hm_put (ci := 10) (v := .int y1) (ty := .int) (C := kR10) (T := kT10) (N := 3) X I ku10 kt10 kp10 kn10 c9 rfl 2 (by decide) ms_k362 (fun _ h => h) rfl (by decide +kernel) rfl rfl k9 d154_2 (fun h21 H locs e9 f9 I => ?_)
  rw [← hm_eqU e9 f9] at hF
  clear e9 f9 c9 k9
  refine lv_iconst (v := 0) hx hb d154_5 (by decide) ?_
  exact ht_zret X d154_6 I (Nat.le_of_ble_eq_true rfl) (Nat.le_of_ble_eq_true rfl) ⟨_, rfl, hF⟩ rfl

def w_TextReader_seen6 (dA : Nat → ClassId) (y0 : Nat) (y1 : Int32) (K : Int32 → hm_T → hz_T → Prop) (h0 : hm_T) (z0 : hz_T) : Prop := (cg_R h0 6 0 y0 (fun v21 => (cg_d v21 (fun a22 => (jd_len z0 a22 (fun v23 => (if v23 ≤ y1 then (K 0 h0 z0) else (cg_R h0 6 0 y0 (fun v24 => (cg_d v24 (fun a25 => (jd_at z0 a25 y1 (fun v26 => (cg_ch v26 (K v26 h0 z0)))))))))))))))
set_option maxRecDepth 100000 in
set_option maxHeartbeats 8000000 in
theorem cw_TextReader_seen6 (l : Launch) (D : va_G) (dA : Nat → ClassId) (s0 : State) (hE : ms_EV D dA s0) (y0 : Nat) (y1 : Int32) (h0 : hm_T) (z0 : hz_T) (K : Int32 → hm_T → hz_T → Prop) (hg : w_TextReader_seen6 dA y0 y1 K h0 z0) : ht_C l D s0 yM155 bM155 2 (Option.some Jvm.ClassFile.FieldType.char) 4 85 0 0 [.ref y0, .int y1] (fun h z => h = h0 ∧ z = z0) (fun h z vv h1 z1 => ∃ v, vv = some (.int v) ∧ K v h1 z1) := by
  refine ht_C.mk hE.1 (by decide) (Nat.le_of_ble_eq_true rfl) [(0, .ref y0), (1, .int y1)] rfl ?_
  intro p e s m below meth c ls h z X hin hpre I hl
  have hx := X.1
  have hb := X.2.1
  have hml := X.2.2.1
  have hown : s.vm.findClass "MarkupStore$TextReader" = some m.cls := X.2.2.2.1
  have hts := X.2.2.2.2.2.2.1
  have hK := X.2.2.2.2.2.2.2.2.1
  rw [hpre.1, hpre.2] at I
  clear hpre
  have hF := hg
  unfold w_TextReader_seen6 at hF
  clear h z
  refine lv_iload_n hx hb d155_0 rfl (lv_at hl 1 rfl) ?_
  refine lv_aload_n hx hb d155_1 rfl (lv_at hl 0 rfl) ?_
  obtain ⟨fs9, v21, c9, e9, hF⟩ := hF
  refine va_get (D := D) (ci := 6) (v := va_rf v21) (C := kR6) (T := kT6) (N := 6) hx hb hts ku6 hown hK (hm_one I.1 c9) 0 rfl rfl 0 (by decide) (hts _ ms_k352) (fun _ h => h) e9 d155_2 ?_
  clear e9 c9 fs9
  obtain ⟨a22, e9, hF⟩ := hF
  refine W.eq (g2 := F0 m 5 ls [.ref a22, .int y1]) (by rw [e9]; rfl) ?_
  clear e9
  obtain ⟨u9, xs9, z9, hF⟩ := hF
  refine ht_V (C := "java/lang/String") (rest := [.int y1]) (as := []) X hl (c_Slen l D dA s0 hE a22 u9 xs9) (List.forall_mem_cons.mpr ⟨ms_k390, List.forall_mem_cons.mpr ⟨ms_k391, List.forall_mem_cons.mpr ⟨ms_k392, List.forall_mem_cons.mpr ⟨ms_k4, List.forall_mem_cons.mpr ⟨ms_k393, fun _ h => absurd h List.not_mem_nil⟩⟩⟩⟩⟩) ⟨rfl, by decide +kernel, by decide +kernel, (by decide +kernel : (parseMethodDescriptor "()I").map (fun d => d.parameters.length) = some 0)⟩ (hz_recv I z9) I z9 ⟨⟨Nat.le_of_ble_eq_true rfl, Nat.le_of_ble_eq_true rfl⟩, Nat.le_of_ble_eq_true rfl, Nat.le_of_ble_eq_true rfl⟩ rfl (Nat.le_of_ble_eq_true rfl) d155_5 (fun vv h9 z7 H locs hR I9 => ?_)
  obtain ⟨e1, e2, e3⟩ := hR
  rw [e2, e3] at I9
  subst e1
  clear I
  have I := I9
  clear I9 e2 e3 h9 z7
  refine W.eq (g2 := F0 m 8 ls [.int (nI xs9.length), .int y1]) rfl ?_
  generalize (nI xs9.length) = v23 at hF ⊢
  refine lv_icmp_ge hx hb d155_8 rfl (fun h9 => ?_) (fun h9 => ?_)
  · have hF := Eq.mp (if_pos h9) hF
    refine lv_iconst (v := 0) hx hb d155_22 (by decide) ?_
    exact ht_zret X d155_23 I (Nat.le_of_ble_eq_true rfl) (Nat.le_of_ble_eq_true rfl) ⟨_, rfl, hF⟩ rfl
  · have hF := Eq.mp (if_neg h9) hF
    refine lv_aload_n hx hb d155_11 rfl (lv_at hl 0 rfl) ?_
    obtain ⟨fs9, v24, c9, e9, hF⟩ := hF
    refine va_get (D := D) (ci := 6) (v := va_rf v24) (C := kR6) (T := kT6) (N := 6) hx hb hts ku6 hown hK (hm_one I.1 c9) 0 rfl rfl 0 (by decide) (hts _ ms_k352) (fun _ h => h) e9 d155_12 ?_
    clear e9 c9 fs9
    refine lv_iload_n hx hb d155_15 rfl (lv_at hl 1 rfl) ?_
    obtain ⟨a25, e9, hF⟩ := hF
    refine W.eq (g2 := F0 m 16 ls [.int y1, .ref a25]) (by rw [e9]; rfl) ?_
    clear e9
    obtain ⟨u9, xs9, j9, z9, e8, p1, p2, p3, hF⟩ := hF
    refine ms_top (y := nI j9) e8 ?_
    refine ht_V (C := "java/lang/String") (rest := []) (as := [.int (nI j9)]) X hl (c_SchAt l D dA s0 hE a25 u9 xs9 j9 p1 p2 p3) (List.forall_mem_cons.mpr ⟨ms_k398, List.forall_mem_cons.mpr ⟨ms_k399, List.forall_mem_cons.mpr ⟨ms_k400, List.forall_mem_cons.mpr ⟨ms_k4, List.forall_mem_cons.mpr ⟨ms_k401, fun _ h => absurd h List.not_mem_nil⟩⟩⟩⟩⟩) ⟨rfl, by decide +kernel, by decide +kernel, (by decide +kernel : (parseMethodDescriptor "(I)C").map (fun d => d.parameters.length) = some 1)⟩ (hz_recv I z9) I z9 ⟨⟨Nat.le_of_ble_eq_true rfl, Nat.le_of_ble_eq_true rfl⟩, Nat.le_of_ble_eq_true rfl, Nat.le_of_ble_eq_true rfl⟩ rfl (Nat.le_of_ble_eq_true rfl) d155_16 (fun vv h9 z7 H locs hR I9 => ?_)
    obtain ⟨e1, e2, e3⟩ := hR
    rw [e2, e3] at I9
    subst e1
    clear I
    have I := I9
    clear I9 e2 e3 h9 z7
    refine W.eq (g2 := F0 m 19 ls [.int (nI (xs9.getD j9 0))]) rfl ?_
    generalize (nI (xs9.getD j9 0)) = v26 at hF ⊢
    refine lv_goto hx hb d155_19 rfl ?_
    obtain ⟨hz9, hF⟩ := hF
    exact ht_zret X d155_23 I (Nat.le_of_ble_eq_true rfl) (Nat.le_of_ble_eq_true rfl) ⟨_, rfl, hF⟩ (congrArg Value.int hz9)

def w_TextReader_seen10 (dA : Nat → ClassId) (y0 : Nat) (y1 : Int32) (K : Int32 → hm_T → hz_T → Prop) (h0 : hm_T) (z0 : hz_T) : Prop := (cg_R h0 10 0 y0 (fun v21 => (cg_d v21 (fun a22 => (jd_len z0 a22 (fun v23 => (if v23 ≤ y1 then (K 0 h0 z0) else (cg_R h0 10 0 y0 (fun v24 => (cg_d v24 (fun a25 => (jd_at z0 a25 y1 (fun v26 => (cg_ch v26 (K v26 h0 z0)))))))))))))))
set_option maxRecDepth 100000 in
set_option maxHeartbeats 8000000 in
theorem cw_TextReader_seen10 (l : Launch) (D : va_G) (dA : Nat → ClassId) (s0 : State) (hE : ms_EV D dA s0) (y0 : Nat) (y1 : Int32) (h0 : hm_T) (z0 : hz_T) (K : Int32 → hm_T → hz_T → Prop) (hg : w_TextReader_seen10 dA y0 y1 K h0 z0) : ht_C l D s0 yM155 bM155 2 (Option.some Jvm.ClassFile.FieldType.char) 4 85 0 0 [.ref y0, .int y1] (fun h z => h = h0 ∧ z = z0) (fun h z vv h1 z1 => ∃ v, vv = some (.int v) ∧ K v h1 z1) := by
  refine ht_C.mk hE.1 (by decide) (Nat.le_of_ble_eq_true rfl) [(0, .ref y0), (1, .int y1)] rfl ?_
  intro p e s m below meth c ls h z X hin hpre I hl
  have hx := X.1
  have hb := X.2.1
  have hml := X.2.2.1
  have hown : s.vm.findClass "MarkupStore$TextReader" = some m.cls := X.2.2.2.1
  have hts := X.2.2.2.2.2.2.1
  have hK := X.2.2.2.2.2.2.2.2.1
  rw [hpre.1, hpre.2] at I
  clear hpre
  have hF := hg
  unfold w_TextReader_seen10 at hF
  clear h z
  refine lv_iload_n hx hb d155_0 rfl (lv_at hl 1 rfl) ?_
  refine lv_aload_n hx hb d155_1 rfl (lv_at hl 0 rfl) ?_
  obtain ⟨fs9, v21, c9, e9, hF⟩ := hF
  refine va_get (D := D) (ci := 10) (v := va_rf v21) (C := kR10) (T := kT10) (N := 3) hx hb hts ku10 hown hK (hm_one I.1 c9) 0 rfl rfl 0 (by decide) (hts _ ms_k352) (fun _ h => h) e9 d155_2 ?_
  clear e9 c9 fs9
  obtain ⟨a22, e9, hF⟩ := hF
  refine W.eq (g2 := F0 m 5 ls [.ref a22, .int y1]) (by rw [e9]; rfl) ?_
  clear e9
  obtain ⟨u9, xs9, z9, hF⟩ := hF
  refine ht_V (C := "java/lang/String") (rest := [.int y1]) (as := []) X hl (c_Slen l D dA s0 hE a22 u9 xs9) (List.forall_mem_cons.mpr ⟨ms_k390, List.forall_mem_cons.mpr ⟨ms_k391, List.forall_mem_cons.mpr ⟨ms_k392, List.forall_mem_cons.mpr ⟨ms_k4, List.forall_mem_cons.mpr ⟨ms_k393, fun _ h => absurd h List.not_mem_nil⟩⟩⟩⟩⟩) ⟨rfl, by decide +kernel, by decide +kernel, (by decide +kernel : (parseMethodDescriptor "()I").map (fun d => d.parameters.length) = some 0)⟩ (hz_recv I z9) I z9 ⟨⟨Nat.le_of_ble_eq_true rfl, Nat.le_of_ble_eq_true rfl⟩, Nat.le_of_ble_eq_true rfl, Nat.le_of_ble_eq_true rfl⟩ rfl (Nat.le_of_ble_eq_true rfl) d155_5 (fun vv h9 z7 H locs hR I9 => ?_)
  obtain ⟨e1, e2, e3⟩ := hR
  rw [e2, e3] at I9
  subst e1
  clear I
  have I := I9
  clear I9 e2 e3 h9 z7
  refine W.eq (g2 := F0 m 8 ls [.int (nI xs9.length), .int y1]) rfl ?_
  generalize (nI xs9.length) = v23 at hF ⊢
  refine lv_icmp_ge hx hb d155_8 rfl (fun h9 => ?_) (fun h9 => ?_)
  · have hF := Eq.mp (if_pos h9) hF
    refine lv_iconst (v := 0) hx hb d155_22 (by decide) ?_
    exact ht_zret X d155_23 I (Nat.le_of_ble_eq_true rfl) (Nat.le_of_ble_eq_true rfl) ⟨_, rfl, hF⟩ rfl
  · have hF := Eq.mp (if_neg h9) hF
    refine lv_aload_n hx hb d155_11 rfl (lv_at hl 0 rfl) ?_
    obtain ⟨fs9, v24, c9, e9, hF⟩ := hF
    refine va_get (D := D) (ci := 10) (v := va_rf v24) (C := kR10) (T := kT10) (N := 3) hx hb hts ku10 hown hK (hm_one I.1 c9) 0 rfl rfl 0 (by decide) (hts _ ms_k352) (fun _ h => h) e9 d155_12 ?_
    clear e9 c9 fs9
    refine lv_iload_n hx hb d155_15 rfl (lv_at hl 1 rfl) ?_
    obtain ⟨a25, e9, hF⟩ := hF
    refine W.eq (g2 := F0 m 16 ls [.int y1, .ref a25]) (by rw [e9]; rfl) ?_
    clear e9
    obtain ⟨u9, xs9, j9, z9, e8, p1, p2, p3, hF⟩ := hF
    refine ms_top (y := nI j9) e8 ?_
    refine ht_V (C := "java/lang/String") (rest := []) (as := [.int (nI j9)]) X hl (c_SchAt l D dA s0 hE a25 u9 xs9 j9 p1 p2 p3) (List.forall_mem_cons.mpr ⟨ms_k398, List.forall_mem_cons.mpr ⟨ms_k399, List.forall_mem_cons.mpr ⟨ms_k400, List.forall_mem_cons.mpr ⟨ms_k4, List.forall_mem_cons.mpr ⟨ms_k401, fun _ h => absurd h List.not_mem_nil⟩⟩⟩⟩⟩) ⟨rfl, by decide +kernel, by decide +kernel, (by decide +kernel : (parseMethodDescriptor "(I)C").map (fun d => d.parameters.length) = some 1)⟩ (hz_recv I z9) I z9 ⟨⟨Nat.le_of_ble_eq_true rfl, Nat.le_of_ble_eq_true rfl⟩, Nat.le_of_ble_eq_true rfl, Nat.le_of_ble_eq_true rfl⟩ rfl (Nat.le_of_ble_eq_true rfl) d155_16 (fun vv h9 z7 H locs hR I9 => ?_)
    obtain ⟨e1, e2, e3⟩ := hR
    rw [e2, e3] at I9
    subst e1
    clear I
    have I := I9
    clear I9 e2 e3 h9 z7
    refine W.eq (g2 := F0 m 19 ls [.int (nI (xs9.getD j9 0))]) rfl ?_
    generalize (nI (xs9.getD j9 0)) = v26 at hF ⊢
    refine lv_goto hx hb d155_19 rfl ?_
    obtain ⟨hz9, hF⟩ := hF
    exact ht_zret X d155_23 I (Nat.le_of_ble_eq_true rfl) (Nat.le_of_ble_eq_true rfl) ⟨_, rfl, hF⟩ (congrArg Value.int hz9)

def w_TextReader_take6 (dA : Nat → ClassId) (y0 : Nat) (y1 : Int32) (K : Int32 → hm_T → hz_T → Prop) (h0 : hm_T) (z0 : hz_T) : Prop := (cg_I h0 6 1 y0 (fun v21 => (cg_c h0 6 y0 ((w_TextReader_seen6 dA y0 v21 (fun v22 h23 z24 => (if v22 = y1 then (cg_I h23 6 1 y0 (fun v25 => (cg_p h23 6 1 y0 (.int (v25 + 1)) (fun h26 => (K 1 h26 z24))))) else (cg_I h23 6 1 y0 (fun v27 => (cg_c h23 6 y0 ((w_TextReader_failAt6 dA y0 v27 (fun v28 h29 z30 => (cg_z v28 (K v28 h29 z30))) h23 z24))))))) h0 z0)))))
set_option maxRecDepth 100000 in
set_option maxHeartbeats 8000000 in
theorem cw_TextReader_take6 (l : Launch) (D : va_G) (dA : Nat → ClassId) (s0 : State) (hE : ms_EV D dA s0) (y0 : Nat) (y1 : Int32) (h0 : hm_T) (z0 : hz_T) (K : Int32 → hm_T → hz_T → Prop) (hg : w_TextReader_take6 dA y0 y1 K h0 z0) : ht_C l D s0 yM156 bM156 2 (Option.some Jvm.ClassFile.FieldType.boolean) 5 106 0 0 [.ref y0, .int y1] (fun h z => h = h0 ∧ z = z0) (fun h z vv h1 z1 => ∃ v, vv = some (.int v) ∧ K v h1 z1) := by
  refine ht_C.mk hE.1 (by decide) (Nat.le_of_ble_eq_true rfl) [(0, .ref y0), (1, .int y1)] rfl ?_
  intro p e s m below meth c ls h z X hin hpre I hl
  have hx := X.1
  have hb := X.2.1
  have hml := X.2.2.1
  have hown : s.vm.findClass "MarkupStore$TextReader" = some m.cls := X.2.2.2.1
  have hts := X.2.2.2.2.2.2.1
  have hK := X.2.2.2.2.2.2.2.2.1
  rw [hpre.1, hpre.2] at I
  clear hpre
  have hF := hg
  unfold w_TextReader_take6 at hF
  clear h z
  refine lv_aload_n hx hb d156_0 rfl (lv_at hl 0 rfl) ?_
  refine lv_aload_n hx hb d156_1 rfl (lv_at hl 0 rfl) ?_
  obtain ⟨fs9, v21, c9, e9, hF⟩ := hF
  refine va_get (D := D) (ci := 6) (v := .int v21) (C := kR6) (T := kT6) (N := 6) hx hb hts ku6 hown hK (hm_one I.1 c9) 0 rfl rfl 1 (by decide) (hts _ ms_k357) (fun _ h => h) e9 d156_2 ?_
  clear e9 c9 fs9
  obtain ⟨fs9, c9, hF⟩ := hF
  refine ht_U (C := "MarkupStore$MarkupReader") (x := ⟨"MarkupStore$TextReader", "seen", "(I)C"⟩) (owner := "MarkupStore$TextReader") (rest := []) (as := [.int v21]) X hl (cw_TextReader_seen6 l D dA s0 hE y0 v21 h0 z0 _ hF) (List.forall_mem_cons.mpr ⟨ms_k547, List.forall_mem_cons.mpr ⟨ms_k1839, List.forall_mem_cons.mpr ⟨ms_k1840, List.forall_mem_cons.mpr ⟨ms_k388, List.forall_mem_cons.mpr ⟨ms_k14, List.forall_mem_cons.mpr ⟨ms_k389, fun _ h => absurd h List.not_mem_nil⟩⟩⟩⟩⟩⟩) rfl ⟨by decide +kernel, by decide +kernel, (by decide +kernel : (parseMethodDescriptor "(I)C").map (fun d => d.parameters.length) = some 1)⟩ (hm_recv hK I rfl c9) I ⟨rfl, rfl⟩ ⟨⟨Nat.le_of_ble_eq_true rfl, Nat.le_of_ble_eq_true rfl⟩, Nat.le_of_ble_eq_true rfl, Nat.le_of_ble_eq_true rfl⟩ rfl (Nat.le_of_ble_eq_true rfl) d156_5 (fun vv h23 z24 H locs hR I9 => ?_)
  obtain ⟨v22, e1, hF⟩ := hR
  subst e1
  clear I
  have I := I9
  clear I9 c9 fs9
  refine W.eq (g2 := F0 m 8 ls [.int v22]) rfl ?_
  refine lv_iload_n hx hb d156_8 rfl (lv_at hl 1 rfl) ?_
  refine lv_icmp_eq hx hb d156_9 rfl (fun h9 => ?_) (fun h9 => ?_)
  · have hF := Eq.mp (if_pos h9) hF
    refine lv_aload_n hx hb d156_21 rfl (lv_at hl 0 rfl) ?_
    refine lv_dup hx hb d156_22 rfl ?_
    obtain ⟨fs9, v25, c9, e9, hF⟩ := hF
    refine va_get (D := D) (ci := 6) (v := .int v25) (C := kR6) (T := kT6) (N := 6) hx hb hts ku6 hown hK (hm_one I.1 c9) 0 rfl rfl 1 (by decide) (hts _ ms_k357) (fun _ h => h) e9 d156_23 ?_
    clear e9 c9 fs9
    refine lv_iconst (v := 1) hx hb d156_26 (by decide) ?_
    refine lv_iadd hx hb d156_27 ?_
    obtain ⟨fs9, c9, k9, hF⟩ := hF
    refine hm_put (ci := 6) (v := .int (v25 + 1)) (ty := .int) (C := kR6) (T := kT6) (N := 6) X I ku6 kt6 kp6 kn6 c9 rfl 1 (by decide) ms_k357 (fun _ h => h) rfl (by decide +kernel) rfl rfl k9 d156_28 (fun h26 H locs e9 f9 I => ?_)
    rw [← hm_eqU e9 f9] at hF
    clear e9 f9 c9 k9
    refine lv_iconst (v := 1) hx hb d156_31 (by decide) ?_
    exact ht_zret X d156_32 I (Nat.le_of_ble_eq_true rfl) (Nat.le_of_ble_eq_true rfl) ⟨_, rfl, hF⟩ rfl
  · have hF := Eq.mp (if_neg h9) hF
    refine lv_aload_n hx hb d156_12 rfl (lv_at hl 0 rfl) ?_
    refine lv_aload_n hx hb d156_13 rfl (lv_at hl 0 rfl) ?_
    obtain ⟨fs9, v27, c9, e9, hF⟩ := hF
    refine va_get (D := D) (ci := 6) (v := .int v27) (C := kR6) (T := kT6) (N := 6) hx hb hts ku6 hown hK (hm_one I.1 c9) 0 rfl rfl 1 (by decide) (hts _ ms_k357) (fun _ h => h) e9 d156_14 ?_
    clear e9 c9 fs9
    obtain ⟨fs9, c9, hF⟩ := hF
    refine ht_U (C := "MarkupStore$MarkupReader") (x := ⟨"MarkupStore$TextReader", "failAt", "(I)Z"⟩) (owner := "MarkupStore$TextReader") (rest := []) (as := [.int v27]) X hl (cw_TextReader_failAt6 l D dA s0 hE y0 v27 h23 z24 _ hF) (List.forall_mem_cons.mpr ⟨ms_k549, List.forall_mem_cons.mpr ⟨ms_k1842, List.forall_mem_cons.mpr ⟨ms_k1843, List.forall_mem_cons.mpr ⟨ms_k417, List.forall_mem_cons.mpr ⟨ms_k14, List.forall_mem_cons.mpr ⟨ms_k418, fun _ h => absurd h List.not_mem_nil⟩⟩⟩⟩⟩⟩) rfl ⟨by decide +kernel, by decide +kernel, (by decide +kernel : (parseMethodDescriptor "(I)Z").map (fun d => d.parameters.length) = some 1)⟩ (hm_recv hK I rfl c9) I ⟨rfl, rfl⟩ ⟨⟨Nat.le_of_ble_eq_true rfl, Nat.le_of_ble_eq_true rfl⟩, Nat.le_of_ble_eq_true rfl, Nat.le_of_ble_eq_true rfl⟩ rfl (Nat.le_of_ble_eq_true rfl) d156_17 (fun vv h29 z30 H locs hR I9 => ?_)
    obtain ⟨v28, e1, hF⟩ := hR
    subst e1
    clear I
    have I := I9
    clear I9 c9 fs9
    refine W.eq (g2 := F0 m 20 ls [.int v28]) rfl ?_
    obtain ⟨hz9, hF⟩ := hF
    exact ht_zret X d156_20 I (Nat.le_of_ble_eq_true rfl) (Nat.le_of_ble_eq_true rfl) ⟨_, rfl, hF⟩ (cg_zn hz9).1

def w_TextReader_take10 (dA : Nat → ClassId) (y0 : Nat) (y1 : Int32) (K : Int32 → hm_T → hz_T → Prop) (h0 : hm_T) (z0 : hz_T) : Prop := (cg_I h0 10 1 y0 (fun v21 => (cg_c h0 10 y0 ((w_TextReader_seen10 dA y0 v21 (fun v22 h23 z24 => (if v22 = y1 then (cg_I h23 10 1 y0 (fun v25 => (cg_p h23 10 1 y0 (.int (v25 + 1)) (fun h26 => (K 1 h26 z24))))) else (cg_I h23 10 1 y0 (fun v27 => (cg_c h23 10 y0 ((w_TextReader_failAt10 dA y0 v27 (fun v28 h29 z30 => (cg_z v28 (K v28 h29 z30))) h23 z24))))))) h0 z0)))))
set_option maxRecDepth 100000 in
set_option maxHeartbeats 8000000 in
theorem cw_TextReader_take10 (l : Launch) (D : va_G) (dA : Nat → ClassId) (s0 : State) (hE : ms_EV D dA s0) (y0 : Nat) (y1 : Int32) (h0 : hm_T) (z0 : hz_T) (K : Int32 → hm_T → hz_T → Prop) (hg : w_TextReader_take10 dA y0 y1 K h0 z0) : ht_C l D s0 yM156 bM156 2 (Option.some Jvm.ClassFile.FieldType.boolean) 5 106 0 0 [.ref y0, .int y1] (fun h z => h = h0 ∧ z = z0) (fun h z vv h1 z1 => ∃ v, vv = some (.int v) ∧ K v h1 z1) := by
  refine ht_C.mk hE.1 (by decide) (Nat.le_of_ble_eq_true rfl) [(0, .ref y0), (1, .int y1)] rfl ?_
  intro p e s m below meth c ls h z X hin hpre I hl
  have hx := X.1
  have hb := X.2.1
  have hml := X.2.2.1
  have hown : s.vm.findClass "MarkupStore$TextReader" = some m.cls := X.2.2.2.1
  have hts := X.2.2.2.2.2.2.1
  have hK := X.2.2.2.2.2.2.2.2.1
  rw [hpre.1, hpre.2] at I
  clear hpre
  have hF := hg
  unfold w_TextReader_take10 at hF
  clear h z
  refine lv_aload_n hx hb d156_0 rfl (lv_at hl 0 rfl) ?_
  refine lv_aload_n hx hb d156_1 rfl (lv_at hl 0 rfl) ?_
  obtain ⟨fs9, v21, c9, e9, hF⟩ := hF
  refine va_get (D := D) (ci := 10) (v := .int v21) (C := kR10) (T := kT10) (N := 3) hx hb hts ku10 hown hK (hm_one I.1 c9) 0 rfl rfl 1 (by decide) (hts _ ms_k357) (fun _ h => h) e9 d156_2 ?_
  clear e9 c9 fs9
  obtain ⟨fs9, c9, hF⟩ := hF
  refine ht_U (C := "MarkupStore$PathReader") (x := ⟨"MarkupStore$TextReader", "seen", "(I)C"⟩) (owner := "MarkupStore$TextReader") (rest := []) (as := [.int v21]) X hl (cw_TextReader_seen10 l D dA s0 hE y0 v21 h0 z0 _ hF) (List.forall_mem_cons.mpr ⟨ms_k547, List.forall_mem_cons.mpr ⟨ms_k1839, List.forall_mem_cons.mpr ⟨ms_k1841, List.forall_mem_cons.mpr ⟨ms_k388, List.forall_mem_cons.mpr ⟨ms_k14, List.forall_mem_cons.mpr ⟨ms_k389, fun _ h => absurd h List.not_mem_nil⟩⟩⟩⟩⟩⟩) rfl ⟨by decide +kernel, by decide +kernel, (by decide +kernel : (parseMethodDescriptor "(I)C").map (fun d => d.parameters.length) = some 1)⟩ (hm_recv hK I rfl c9) I ⟨rfl, rfl⟩ ⟨⟨Nat.le_of_ble_eq_true rfl, Nat.le_of_ble_eq_true rfl⟩, Nat.le_of_ble_eq_true rfl, Nat.le_of_ble_eq_true rfl⟩ rfl (Nat.le_of_ble_eq_true rfl) d156_5 (fun vv h23 z24 H locs hR I9 => ?_)
  obtain ⟨v22, e1, hF⟩ := hR
  subst e1
  clear I
  have I := I9
  clear I9 c9 fs9
  refine W.eq (g2 := F0 m 8 ls [.int v22]) rfl ?_
  refine lv_iload_n hx hb d156_8 rfl (lv_at hl 1 rfl) ?_
  refine lv_icmp_eq hx hb d156_9 rfl (fun h9 => ?_) (fun h9 => ?_)
  · have hF := Eq.mp (if_pos h9) hF
    refine lv_aload_n hx hb d156_21 rfl (lv_at hl 0 rfl) ?_
    refine lv_dup hx hb d156_22 rfl ?_
    obtain ⟨fs9, v25, c9, e9, hF⟩ := hF
    refine va_get (D := D) (ci := 10) (v := .int v25) (C := kR10) (T := kT10) (N := 3) hx hb hts ku10 hown hK (hm_one I.1 c9) 0 rfl rfl 1 (by decide) (hts _ ms_k357) (fun _ h => h) e9 d156_23 ?_
    clear e9 c9 fs9
    refine lv_iconst (v := 1) hx hb d156_26 (by decide) ?_
    refine lv_iadd hx hb d156_27 ?_
    obtain ⟨fs9, c9, k9, hF⟩ := hF
    refine hm_put (ci := 10) (v := .int (v25 + 1)) (ty := .int) (C := kR10) (T := kT10) (N := 3) X I ku10 kt10 kp10 kn10 c9 rfl 1 (by decide) ms_k357 (fun _ h => h) rfl (by decide +kernel) rfl rfl k9 d156_28 (fun h26 H locs e9 f9 I => ?_)
    rw [← hm_eqU e9 f9] at hF
    clear e9 f9 c9 k9
    refine lv_iconst (v := 1) hx hb d156_31 (by decide) ?_
    exact ht_zret X d156_32 I (Nat.le_of_ble_eq_true rfl) (Nat.le_of_ble_eq_true rfl) ⟨_, rfl, hF⟩ rfl
  · have hF := Eq.mp (if_neg h9) hF
    refine lv_aload_n hx hb d156_12 rfl (lv_at hl 0 rfl) ?_
    refine lv_aload_n hx hb d156_13 rfl (lv_at hl 0 rfl) ?_
    obtain ⟨fs9, v27, c9, e9, hF⟩ := hF
    refine va_get (D := D) (ci := 10) (v := .int v27) (C := kR10) (T := kT10) (N := 3) hx hb hts ku10 hown hK (hm_one I.1 c9) 0 rfl rfl 1 (by decide) (hts _ ms_k357) (fun _ h => h) e9 d156_14 ?_
    clear e9 c9 fs9
    obtain ⟨fs9, c9, hF⟩ := hF
    refine ht_U (C := "MarkupStore$PathReader") (x := ⟨"MarkupStore$TextReader", "failAt", "(I)Z"⟩) (owner := "MarkupStore$TextReader") (rest := []) (as := [.int v27]) X hl (cw_TextReader_failAt10 l D dA s0 hE y0 v27 h23 z24 _ hF) (List.forall_mem_cons.mpr ⟨ms_k549, List.forall_mem_cons.mpr ⟨ms_k1842, List.forall_mem_cons.mpr ⟨ms_k1844, List.forall_mem_cons.mpr ⟨ms_k417, List.forall_mem_cons.mpr ⟨ms_k14, List.forall_mem_cons.mpr ⟨ms_k418, fun _ h => absurd h List.not_mem_nil⟩⟩⟩⟩⟩⟩) rfl ⟨by decide +kernel, by decide +kernel, (by decide +kernel : (parseMethodDescriptor "(I)Z").map (fun d => d.parameters.length) = some 1)⟩ (hm_recv hK I rfl c9) I ⟨rfl, rfl⟩ ⟨⟨Nat.le_of_ble_eq_true rfl, Nat.le_of_ble_eq_true rfl⟩, Nat.le_of_ble_eq_true rfl, Nat.le_of_ble_eq_true rfl⟩ rfl (Nat.le_of_ble_eq_true rfl) d156_17 (fun vv h29 z30 H locs hR I9 => ?_)
    obtain ⟨v28, e1, hF⟩ := hR
    subst e1
    clear I
    have I := I9
    clear I9 c9 fs9
    refine W.eq (g2 := F0 m 20 ls [.int v28]) rfl ?_
    obtain ⟨hz9, hF⟩ := hF
    exact ht_zret X d156_20 I (Nat.le_of_ble_eq_true rfl) (Nat.le_of_ble_eq_true rfl) ⟨_, rfl, hF⟩ (cg_zn hz9).1

def w_TextReader_readEnd6_25 (dA : Nat → ClassId) (y0 : Nat) (K : Int32 → hm_T → hz_T → Prop) (h : hm_T) (z : hz_T) : Prop := (K 1 h z)
def w_TextReader_readEnd6 (dA : Nat → ClassId) (y0 : Nat) (K : Int32 → hm_T → hz_T → Prop) (h0 : hm_T) (z0 : hz_T) : Prop := (cg_I h0 6 1 y0 (fun v21 => (cg_R h0 6 0 y0 (fun v22 => (cg_d v22 (fun a23 => (jd_len z0 a23 (fun v24 => (if v21 = v24 then (w_TextReader_readEnd6_25 dA y0 K h0 z0) else (cg_I h0 6 1 y0 (fun v25 => (cg_c h0 6 y0 ((w_TextReader_failAt6 dA y0 v25 (fun v26 h27 z28 => (if v26 = 0 then (K 0 h27 z28) else (w_TextReader_readEnd6_25 dA y0 K h27 z28))) h0 z0))))))))))))))
set_option maxRecDepth 100000 in
set_option maxHeartbeats 8000000 in
theorem cw_TextReader_readEnd6 (l : Launch) (D : va_G) (dA : Nat → ClassId) (s0 : State) (hE : ms_EV D dA s0) (y0 : Nat) (h0 : hm_T) (z0 : hz_T) (K : Int32 → hm_T → hz_T → Prop) (hg : w_TextReader_readEnd6 dA y0 K h0 z0) : ht_C l D s0 yM157 bM157 1 (Option.some Jvm.ClassFile.FieldType.boolean) 2 40 0 0 [.ref y0] (fun h z => h = h0 ∧ z = z0) (fun h z vv h1 z1 => ∃ v, vv = some (.int v) ∧ K v h1 z1) := by
  refine ht_C.mk hE.1 (by decide) (Nat.le_of_ble_eq_true rfl) [(0, .ref y0)] rfl ?_
  intro p e s m below meth c ls h z X hin hpre I hl
  have hx := X.1
  have hb := X.2.1
  have hml := X.2.2.1
  have hown : s.vm.findClass "MarkupStore$TextReader" = some m.cls := X.2.2.2.1
  have hts := X.2.2.2.2.2.2.1
  have hK := X.2.2.2.2.2.2.2.2.1
  rw [hpre.1, hpre.2] at I
  clear hpre
  have b25 : ∀ (ls : Array Slot) (h : hm_T) (z : hz_T) (H : Heap) (locs : List Loc), w_TextReader_readEnd6_25 dA y0 K h z → lv_has ls 1 [] → hm_I D s0 s h z H locs → W p l e { frames := 2, cells := 0, slots := 0, locals := 40 } s m ([.ref y0] : List Value).toArray below meth c H locs 0 0 (MQ below (ht_Q D s0 (fun vv h1 z1 => ∃ v, vv = some (.int v) ∧ K v h1 z1)) ([.ref y0] : List Value).toArray s 0 0 (fun q => s0.heap.size ≤ q)) (F0 m 25 ls []) := by
    intro ls h z H locs hF hl I
    unfold w_TextReader_readEnd6_25 at hF
    refine lv_iconst (v := 1) hx hb d157_25 (by decide) ?_
    refine lv_goto hx hb d157_26 rfl ?_
    exact ht_zret X d157_30 I (Nat.le_of_ble_eq_true rfl) (Nat.le_of_ble_eq_true rfl) ⟨_, rfl, hF⟩ rfl
  have hF := hg
  unfold w_TextReader_readEnd6 at hF
  clear h z
  refine lv_aload_n hx hb d157_0 rfl (lv_at hl 0 rfl) ?_
  obtain ⟨fs9, v21, c9, e9, hF⟩ := hF
  refine va_get (D := D) (ci := 6) (v := .int v21) (C := kR6) (T := kT6) (N := 6) hx hb hts ku6 hown hK (hm_one I.1 c9) 0 rfl rfl 1 (by decide) (hts _ ms_k357) (fun _ h => h) e9 d157_1 ?_
  clear e9 c9 fs9
  refine lv_aload_n hx hb d157_4 rfl (lv_at hl 0 rfl) ?_
  obtain ⟨fs9, v22, c9, e9, hF⟩ := hF
  refine va_get (D := D) (ci := 6) (v := va_rf v22) (C := kR6) (T := kT6) (N := 6) hx hb hts ku6 hown hK (hm_one I.1 c9) 0 rfl rfl 0 (by decide) (hts _ ms_k352) (fun _ h => h) e9 d157_5 ?_
  clear e9 c9 fs9
  obtain ⟨a23, e9, hF⟩ := hF
  refine W.eq (g2 := F0 m 8 ls [.ref a23, .int v21]) (by rw [e9]; rfl) ?_
  clear e9
  obtain ⟨u9, xs9, z9, hF⟩ := hF
  refine ht_V (C := "java/lang/String") (rest := [.int v21]) (as := []) X hl (c_Slen l D dA s0 hE a23 u9 xs9) (List.forall_mem_cons.mpr ⟨ms_k390, List.forall_mem_cons.mpr ⟨ms_k391, List.forall_mem_cons.mpr ⟨ms_k392, List.forall_mem_cons.mpr ⟨ms_k4, List.forall_mem_cons.mpr ⟨ms_k393, fun _ h => absurd h List.not_mem_nil⟩⟩⟩⟩⟩) ⟨rfl, by decide +kernel, by decide +kernel, (by decide +kernel : (parseMethodDescriptor "()I").map (fun d => d.parameters.length) = some 0)⟩ (hz_recv I z9) I z9 ⟨⟨Nat.le_of_ble_eq_true rfl, Nat.le_of_ble_eq_true rfl⟩, Nat.le_of_ble_eq_true rfl, Nat.le_of_ble_eq_true rfl⟩ rfl (Nat.le_of_ble_eq_true rfl) d157_8 (fun vv h9 z7 H locs hR I9 => ?_)
  obtain ⟨e1, e2, e3⟩ := hR
  rw [e2, e3] at I9
  subst e1
  clear I
  have I := I9
  clear I9 e2 e3 h9 z7
  refine W.eq (g2 := F0 m 11 ls [.int (nI xs9.length), .int v21]) rfl ?_
  generalize (nI xs9.length) = v24 at hF ⊢
  refine lv_icmp_eq hx hb d157_11 rfl (fun h9 => ?_) (fun h9 => ?_)
  · have hF := Eq.mp (if_pos h9) hF
    exact b25 ls h0 z0 _ _ hF (hl.sub [] rfl) I
  · have hF := Eq.mp (if_neg h9) hF
    refine lv_aload_n hx hb d157_14 rfl (lv_at hl 0 rfl) ?_
    refine lv_aload_n hx hb d157_15 rfl (lv_at hl 0 rfl) ?_
    obtain ⟨fs9, v25, c9, e9, hF⟩ := hF
    refine va_get (D := D) (ci := 6) (v := .int v25) (C := kR6) (T := kT6) (N := 6) hx hb hts ku6 hown hK (hm_one I.1 c9) 0 rfl rfl 1 (by decide) (hts _ ms_k357) (fun _ h => h) e9 d157_16 ?_
    clear e9 c9 fs9
    obtain ⟨fs9, c9, hF⟩ := hF
    refine ht_U (C := "MarkupStore$MarkupReader") (x := ⟨"MarkupStore$TextReader", "failAt", "(I)Z"⟩) (owner := "MarkupStore$TextReader") (rest := []) (as := [.int v25]) X hl (cw_TextReader_failAt6 l D dA s0 hE y0 v25 h0 z0 _ hF) (List.forall_mem_cons.mpr ⟨ms_k549, List.forall_mem_cons.mpr ⟨ms_k1842, List.forall_mem_cons.mpr ⟨ms_k1843, List.forall_mem_cons.mpr ⟨ms_k417, List.forall_mem_cons.mpr ⟨ms_k14, List.forall_mem_cons.mpr ⟨ms_k418, fun _ h => absurd h List.not_mem_nil⟩⟩⟩⟩⟩⟩) rfl ⟨by decide +kernel, by decide +kernel, (by decide +kernel : (parseMethodDescriptor "(I)Z").map (fun d => d.parameters.length) = some 1)⟩ (hm_recv hK I rfl c9) I ⟨rfl, rfl⟩ ⟨⟨Nat.le_of_ble_eq_true rfl, Nat.le_of_ble_eq_true rfl⟩, Nat.le_of_ble_eq_true rfl, Nat.le_of_ble_eq_true rfl⟩ rfl (Nat.le_of_ble_eq_true rfl) d157_19 (fun vv h27 z28 H locs hR I9 => ?_)
    obtain ⟨v26, e1, hF⟩ := hR
    subst e1
    clear I
    have I := I9
    clear I9 c9 fs9
    refine W.eq (g2 := F0 m 22 ls [.int v26]) rfl ?_
    refine lv_if_eq hx hb d157_22 rfl (fun h9 => ?_) (fun h9 => ?_)
    · have hF := Eq.mp (if_pos h9) hF
      refine lv_iconst (v := 0) hx hb d157_29 (by decide) ?_
      exact ht_zret X d157_30 I (Nat.le_of_ble_eq_true rfl) (Nat.le_of_ble_eq_true rfl) ⟨_, rfl, hF⟩ rfl
    · have hF := Eq.mp (if_neg h9) hF
      exact b25 ls h27 z28 _ _ hF (hl.sub [] rfl) I

def w_TextReader_readEnd10_25 (dA : Nat → ClassId) (y0 : Nat) (K : Int32 → hm_T → hz_T → Prop) (h : hm_T) (z : hz_T) : Prop := (K 1 h z)
def w_TextReader_readEnd10 (dA : Nat → ClassId) (y0 : Nat) (K : Int32 → hm_T → hz_T → Prop) (h0 : hm_T) (z0 : hz_T) : Prop := (cg_I h0 10 1 y0 (fun v21 => (cg_R h0 10 0 y0 (fun v22 => (cg_d v22 (fun a23 => (jd_len z0 a23 (fun v24 => (if v21 = v24 then (w_TextReader_readEnd10_25 dA y0 K h0 z0) else (cg_I h0 10 1 y0 (fun v25 => (cg_c h0 10 y0 ((w_TextReader_failAt10 dA y0 v25 (fun v26 h27 z28 => (if v26 = 0 then (K 0 h27 z28) else (w_TextReader_readEnd10_25 dA y0 K h27 z28))) h0 z0))))))))))))))
set_option maxRecDepth 100000 in
set_option maxHeartbeats 8000000 in
theorem cw_TextReader_readEnd10 (l : Launch) (D : va_G) (dA : Nat → ClassId) (s0 : State) (hE : ms_EV D dA s0) (y0 : Nat) (h0 : hm_T) (z0 : hz_T) (K : Int32 → hm_T → hz_T → Prop) (hg : w_TextReader_readEnd10 dA y0 K h0 z0) : ht_C l D s0 yM157 bM157 1 (Option.some Jvm.ClassFile.FieldType.boolean) 2 40 0 0 [.ref y0] (fun h z => h = h0 ∧ z = z0) (fun h z vv h1 z1 => ∃ v, vv = some (.int v) ∧ K v h1 z1) := by
  refine ht_C.mk hE.1 (by decide) (Nat.le_of_ble_eq_true rfl) [(0, .ref y0)] rfl ?_
  intro p e s m below meth c ls h z X hin hpre I hl
  have hx := X.1
  have hb := X.2.1
  have hml := X.2.2.1
  have hown : s.vm.findClass "MarkupStore$TextReader" = some m.cls := X.2.2.2.1
  have hts := X.2.2.2.2.2.2.1
  have hK := X.2.2.2.2.2.2.2.2.1
  rw [hpre.1, hpre.2] at I
  clear hpre
  have b25 : ∀ (ls : Array Slot) (h : hm_T) (z : hz_T) (H : Heap) (locs : List Loc), w_TextReader_readEnd10_25 dA y0 K h z → lv_has ls 1 [] → hm_I D s0 s h z H locs → W p l e { frames := 2, cells := 0, slots := 0, locals := 40 } s m ([.ref y0] : List Value).toArray below meth c H locs 0 0 (MQ below (ht_Q D s0 (fun vv h1 z1 => ∃ v, vv = some (.int v) ∧ K v h1 z1)) ([.ref y0] : List Value).toArray s 0 0 (fun q => s0.heap.size ≤ q)) (F0 m 25 ls []) := by
    intro ls h z H locs hF hl I
    unfold w_TextReader_readEnd10_25 at hF
    refine lv_iconst (v := 1) hx hb d157_25 (by decide) ?_
    refine lv_goto hx hb d157_26 rfl ?_
    exact ht_zret X d157_30 I (Nat.le_of_ble_eq_true rfl) (Nat.le_of_ble_eq_true rfl) ⟨_, rfl, hF⟩ rfl
  have hF := hg
  unfold w_TextReader_readEnd10 at hF
  clear h z
  refine lv_aload_n hx hb d157_0 rfl (lv_at hl 0 rfl) ?_
  obtain ⟨fs9, v21, c9, e9, hF⟩ := hF
  refine va_get (D := D) (ci := 10) (v := .int v21) (C := kR10) (T := kT10) (N := 3) hx hb hts ku10 hown hK (hm_one I.1 c9) 0 rfl rfl 1 (by decide) (hts _ ms_k357) (fun _ h => h) e9 d157_1 ?_
  clear e9 c9 fs9
  refine lv_aload_n hx hb d157_4 rfl (lv_at hl 0 rfl) ?_
  obtain ⟨fs9, v22, c9, e9, hF⟩ := hF
  refine va_get (D := D) (ci := 10) (v := va_rf v22) (C := kR10) (T := kT10) (N := 3) hx hb hts ku10 hown hK (hm_one I.1 c9) 0 rfl rfl 0 (by decide) (hts _ ms_k352) (fun _ h => h) e9 d157_5 ?_
  clear e9 c9 fs9
  obtain ⟨a23, e9, hF⟩ := hF
  refine W.eq (g2 := F0 m 8 ls [.ref a23, .int v21]) (by rw [e9]; rfl) ?_
  clear e9
  obtain ⟨u9, xs9, z9, hF⟩ := hF
  refine ht_V (C := "java/lang/String") (rest := [.int v21]) (as := []) X hl (c_Slen l D dA s0 hE a23 u9 xs9) (List.forall_mem_cons.mpr ⟨ms_k390, List.forall_mem_cons.mpr ⟨ms_k391, List.forall_mem_cons.mpr ⟨ms_k392, List.forall_mem_cons.mpr ⟨ms_k4, List.forall_mem_cons.mpr ⟨ms_k393, fun _ h => absurd h List.not_mem_nil⟩⟩⟩⟩⟩) ⟨rfl, by decide +kernel, by decide +kernel, (by decide +kernel : (parseMethodDescriptor "()I").map (fun d => d.parameters.length) = some 0)⟩ (hz_recv I z9) I z9 ⟨⟨Nat.le_of_ble_eq_true rfl, Nat.le_of_ble_eq_true rfl⟩, Nat.le_of_ble_eq_true rfl, Nat.le_of_ble_eq_true rfl⟩ rfl (Nat.le_of_ble_eq_true rfl) d157_8 (fun vv h9 z7 H locs hR I9 => ?_)
  obtain ⟨e1, e2, e3⟩ := hR
  rw [e2, e3] at I9
  subst e1
  clear I
  have I := I9
  clear I9 e2 e3 h9 z7
  refine W.eq (g2 := F0 m 11 ls [.int (nI xs9.length), .int v21]) rfl ?_
  generalize (nI xs9.length) = v24 at hF ⊢
  refine lv_icmp_eq hx hb d157_11 rfl (fun h9 => ?_) (fun h9 => ?_)
  · have hF := Eq.mp (if_pos h9) hF
    exact b25 ls h0 z0 _ _ hF (hl.sub [] rfl) I
  · have hF := Eq.mp (if_neg h9) hF
    refine lv_aload_n hx hb d157_14 rfl (lv_at hl 0 rfl) ?_
    refine lv_aload_n hx hb d157_15 rfl (lv_at hl 0 rfl) ?_
    obtain ⟨fs9, v25, c9, e9, hF⟩ := hF
    refine va_get (D := D) (ci := 10) (v := .int v25) (C := kR10) (T := kT10) (N := 3) hx hb hts ku10 hown hK (hm_one I.1 c9) 0 rfl rfl 1 (by decide) (hts _ ms_k357) (fun _ h => h) e9 d157_16 ?_
    clear e9 c9 fs9
    obtain ⟨fs9, c9, hF⟩ := hF
    refine ht_U (C := "MarkupStore$PathReader") (x := ⟨"MarkupStore$TextReader", "failAt", "(I)Z"⟩) (owner := "MarkupStore$TextReader") (rest := []) (as := [.int v25]) X hl (cw_TextReader_failAt10 l D dA s0 hE y0 v25 h0 z0 _ hF) (List.forall_mem_cons.mpr ⟨ms_k549, List.forall_mem_cons.mpr ⟨ms_k1842, List.forall_mem_cons.mpr ⟨ms_k1844, List.forall_mem_cons.mpr ⟨ms_k417, List.forall_mem_cons.mpr ⟨ms_k14, List.forall_mem_cons.mpr ⟨ms_k418, fun _ h => absurd h List.not_mem_nil⟩⟩⟩⟩⟩⟩) rfl ⟨by decide +kernel, by decide +kernel, (by decide +kernel : (parseMethodDescriptor "(I)Z").map (fun d => d.parameters.length) = some 1)⟩ (hm_recv hK I rfl c9) I ⟨rfl, rfl⟩ ⟨⟨Nat.le_of_ble_eq_true rfl, Nat.le_of_ble_eq_true rfl⟩, Nat.le_of_ble_eq_true rfl, Nat.le_of_ble_eq_true rfl⟩ rfl (Nat.le_of_ble_eq_true rfl) d157_19 (fun vv h27 z28 H locs hR I9 => ?_)
    obtain ⟨v26, e1, hF⟩ := hR
    subst e1
    clear I
    have I := I9
    clear I9 c9 fs9
    refine W.eq (g2 := F0 m 22 ls [.int v26]) rfl ?_
    refine lv_if_eq hx hb d157_22 rfl (fun h9 => ?_) (fun h9 => ?_)
    · have hF := Eq.mp (if_pos h9) hF
      refine lv_iconst (v := 0) hx hb d157_29 (by decide) ?_
      exact ht_zret X d157_30 I (Nat.le_of_ble_eq_true rfl) (Nat.le_of_ble_eq_true rfl) ⟨_, rfl, hF⟩ rfl
    · have hF := Eq.mp (if_neg h9) hF
      exact b25 ls h27 z28 _ _ hF (hl.sub [] rfl) I

def w_Tree_find_25 (dA : Nat → ClassId) (y0 : Nat) (K : Option Nat → hm_T → hz_T → Prop) (h : hm_T) (z : hz_T) : Prop := (K none h z)
def w_Tree_find (dA : Nat → ClassId) (y0 : Nat) (y1 : Int32) (K : Option Nat → hm_T → hz_T → Prop) (h0 : hm_T) (z0 : hz_T) : Prop := (if y1 < 0 then (w_Tree_find_25 dA y0 K h0 z0) else (cg_I h0 1 1 y0 (fun v21 => (if v21 ≤ y1 then (w_Tree_find_25 dA y0 K h0 z0) else (cg_R h0 1 0 y0 (fun v22 => (cg_d v22 (fun a23 => (cg_ar dA h0 5 a23 y1 (fun v24 => (cg_d v24 (fun a25 => (cg_I h0 8 6 a25 (fun v26 => (if v26 = (-1) then (w_Tree_find_25 dA y0 K h0 z0) else (cg_R h0 1 0 y0 (fun v27 => (cg_d v27 (fun a28 => (cg_ar dA h0 5 a28 y1 (fun v29 => (K v29 h0 z0))))))))))))))))))))))
set_option maxRecDepth 100000 in
set_option maxHeartbeats 8000000 in
theorem cw_Tree_find (l : Launch) (D : va_G) (dA : Nat → ClassId) (s0 : State) (hE : ms_EV D dA s0) (y0 : Nat) (y1 : Int32) (h0 : hm_T) (z0 : hz_T) (K : Option Nat → hm_T → hz_T → Prop) (hg : w_Tree_find dA y0 y1 K h0 z0) : ht_C l D s0 yM158 bM158 2 (Option.some (Jvm.ClassFile.FieldType.object "MarkupStore$Node")) 0 0 0 0 [.ref y0, .int y1] (fun h z => h = h0 ∧ z = z0) (fun h z vv h1 z1 => ∃ v, vv = some (va_rf v) ∧ K v h1 z1) := by
  refine ht_C.mk hE.1 (by decide) (Nat.le_of_ble_eq_true rfl) [(0, .ref y0), (1, .int y1)] rfl ?_
  intro p e s m below meth c ls h z X hin hpre I hl
  have hx := X.1
  have hb := X.2.1
  have hml := X.2.2.1
  have hown : s.vm.findClass "MarkupStore$Tree" = some m.cls := X.2.2.2.1
  have hts := X.2.2.2.2.2.2.1
  have hK := X.2.2.2.2.2.2.2.2.1
  rw [hpre.1, hpre.2] at I
  clear hpre
  have b25 : ∀ (ls : Array Slot) (h : hm_T) (z : hz_T) (H : Heap) (locs : List Loc), w_Tree_find_25 dA y0 K h z → lv_has ls 2 [] → hm_I D s0 s h z H locs → W p l e { frames := 0, cells := 0, slots := 0, locals := 0 } s m ([.ref y0, .int y1] : List Value).toArray below meth c H locs 0 0 (MQ below (ht_Q D s0 (fun vv h1 z1 => ∃ v, vv = some (va_rf v) ∧ K v h1 z1)) ([.ref y0, .int y1] : List Value).toArray s 0 0 (fun q => s0.heap.size ≤ q)) (F0 m 25 ls []) := by
    intro ls h z H locs hF hl I
    unfold w_Tree_find_25 at hF
    refine lv_null hx hb d158_25 ?_
    exact ht_aret X d158_26 I (Nat.le_of_ble_eq_true rfl) (Nat.le_of_ble_eq_true rfl) ⟨none, rfl, hF⟩ (Or.inl ⟨_, rfl⟩) (Or.inl rfl)
  have hF := hg
  unfold w_Tree_find at hF
  clear h z
  refine lv_iload_n hx hb d158_0 rfl (lv_at hl 1 rfl) ?_
  refine lv_if_lt hx hb d158_1 rfl (fun h9 => ?_) (fun h9 => ?_)
  · have hF := Eq.mp (if_pos h9) hF
    exact b25 ls h0 z0 _ _ hF (hl.sub [] rfl) I
  · have hF := Eq.mp (if_neg h9) hF
    refine lv_iload_n hx hb d158_4 rfl (lv_at hl 1 rfl) ?_
    refine lv_aload_n hx hb d158_5 rfl (lv_at hl 0 rfl) ?_
    obtain ⟨fs9, v21, c9, e9, hF⟩ := hF
    refine va_get (D := D) (ci := 1) (v := .int v21) (C := kR1) (T := kT1) (N := 6) hx hb hts ku1 hown hK (hm_one I.1 c9) 0 rfl rfl 1 (by decide) (hts _ ms_k81) (fun _ h => h) e9 d158_6 ?_
    clear e9 c9 fs9
    refine lv_icmp_ge hx hb d158_9 rfl (fun h9 => ?_) (fun h9 => ?_)
    · have hF := Eq.mp (if_pos h9) hF
      exact b25 ls h0 z0 _ _ hF (hl.sub [] rfl) I
    · have hF := Eq.mp (if_neg h9) hF
      refine lv_aload_n hx hb d158_12 rfl (lv_at hl 0 rfl) ?_
      obtain ⟨fs9, v22, c9, e9, hF⟩ := hF
      refine va_get (D := D) (ci := 1) (v := va_rf v22) (C := kR1) (T := kT1) (N := 6) hx hb hts ku1 hown hK (hm_one I.1 c9) 0 rfl rfl 0 (by decide) (hts _ ms_k80) (fun _ h => h) e9 d158_13 ?_
      clear e9 c9 fs9
      refine lv_iload_n hx hb d158_16 rfl (lv_at hl 1 rfl) ?_
      obtain ⟨a23, e9, hF⟩ := hF
      refine W.eq (g2 := F0 m 17 ls [.int y1, .ref a23]) (by rw [e9]; rfl) ?_
      clear e9
      obtain ⟨n8, f8, c9, i9, hF⟩ := hF
      refine va_aldq hx hb hK (hm_one I.1 c9) 0 5 rfl rfl i9 d158_17 ?_
      generalize f8 (Int32.toNatClampNeg y1) = v24 at hF ⊢
      clear c9 i9
      obtain ⟨a25, e9, hF⟩ := hF
      refine W.eq (g2 := F0 m 18 ls [.ref a25]) (by rw [e9]; rfl) ?_
      clear e9
      obtain ⟨fs9, v26, c9, e9, hF⟩ := hF
      refine va_get (D := D) (ci := 8) (v := .int v26) (C := kR8) (T := kT8) (N := 9) hx hb hts ku8 hown hK (hm_one I.1 c9) 0 rfl rfl 6 (by decide) (hts _ ms_k463) (fun _ h => h) e9 d158_18 ?_
      clear e9 c9 fs9
      refine lv_iconst (v := (-1)) hx hb d158_21 (by decide) ?_
      refine lv_icmp_ne hx hb d158_22 rfl (fun h9 => ?_) (fun h9 => ?_)
      · have hF := Eq.mp (if_neg h9) hF
        refine lv_aload_n hx hb d158_27 rfl (lv_at hl 0 rfl) ?_
        obtain ⟨fs9, v27, c9, e9, hF⟩ := hF
        refine va_get (D := D) (ci := 1) (v := va_rf v27) (C := kR1) (T := kT1) (N := 6) hx hb hts ku1 hown hK (hm_one I.1 c9) 0 rfl rfl 0 (by decide) (hts _ ms_k80) (fun _ h => h) e9 d158_28 ?_
        clear e9 c9 fs9
        refine lv_iload_n hx hb d158_31 rfl (lv_at hl 1 rfl) ?_
        obtain ⟨a28, e9, hF⟩ := hF
        refine W.eq (g2 := F0 m 32 ls [.int y1, .ref a28]) (by rw [e9]; rfl) ?_
        clear e9
        obtain ⟨n8, f8, c9, i9, hF⟩ := hF
        refine va_aldq hx hb hK (hm_one I.1 c9) 0 5 rfl rfl i9 d158_32 ?_
        generalize f8 (Int32.toNatClampNeg y1) = v29 at hF ⊢
        clear c9 i9
        exact ht_aret X d158_33 I (Nat.le_of_ble_eq_true rfl) (Nat.le_of_ble_eq_true rfl) ⟨v29, rfl, hF⟩ (Or.inl ⟨_, rfl⟩) (rf_or _)
      · have hF := Eq.mp (if_pos h9) hF
        exact b25 ls h0 z0 _ _ hF (hl.sub [] rfl) I

def w_Tree_mayMake (dA : Nat → ClassId) (y0 : Nat) (y1 : Int32) (K : Int32 → hm_T → hz_T → Prop) (h0 : hm_T) (z0 : hz_T) : Prop := (cg_I h0 1 1 y0 (fun v21 => (if 200 < (v21 + y1) then (K 0 h0 z0) else (K 1 h0 z0))))
set_option maxRecDepth 100000 in
set_option maxHeartbeats 8000000 in
theorem cw_Tree_mayMake (l : Launch) (D : va_G) (dA : Nat → ClassId) (s0 : State) (hE : ms_EV D dA s0) (y0 : Nat) (y1 : Int32) (h0 : hm_T) (z0 : hz_T) (K : Int32 → hm_T → hz_T → Prop) (hg : w_Tree_mayMake dA y0 y1 K h0 z0) : ht_C l D s0 yM159 bM159 2 (Option.some Jvm.ClassFile.FieldType.boolean) 0 0 0 0 [.ref y0, .int y1] (fun h z => h = h0 ∧ z = z0) (fun h z vv h1 z1 => ∃ v, vv = some (.int v) ∧ K v h1 z1) := by
  refine ht_C.mk hE.1 (by decide) (Nat.le_of_ble_eq_true rfl) [(0, .ref y0), (1, .int y1)] rfl ?_
  intro p e s m below meth c ls h z X hin hpre I hl
  have hx := X.1
  have hb := X.2.1
  have hml := X.2.2.1
  have hown : s.vm.findClass "MarkupStore$Tree" = some m.cls := X.2.2.2.1
  have hts := X.2.2.2.2.2.2.1
  have hK := X.2.2.2.2.2.2.2.2.1
  rw [hpre.1, hpre.2] at I
  clear hpre
  have hF := hg
  unfold w_Tree_mayMake at hF
  clear h z
  refine lv_aload_n hx hb d159_0 rfl (lv_at hl 0 rfl) ?_
  obtain ⟨fs9, v21, c9, e9, hF⟩ := hF
  refine va_get (D := D) (ci := 1) (v := .int v21) (C := kR1) (T := kT1) (N := 6) hx hb hts ku1 hown hK (hm_one I.1 c9) 0 rfl rfl 1 (by decide) (hts _ ms_k81) (fun _ h => h) e9 d159_1 ?_
  clear e9 c9 fs9
  refine lv_iload_n hx hb d159_4 rfl (lv_at hl 1 rfl) ?_
  refine lv_iadd hx hb d159_5 ?_
  refine lv_sipush (v := 200) hx hb d159_6 (by decide) ?_
  refine lv_icmp_gt hx hb d159_9 rfl (fun h9 => ?_) (fun h9 => ?_)
  · have hF := Eq.mp (if_pos h9) hF
    refine lv_iconst (v := 0) hx hb d159_16 (by decide) ?_
    exact ht_zret X d159_17 I (Nat.le_of_ble_eq_true rfl) (Nat.le_of_ble_eq_true rfl) ⟨_, rfl, hF⟩ rfl
  · have hF := Eq.mp (if_neg h9) hF
    refine lv_iconst (v := 1) hx hb d159_12 (by decide) ?_
    refine lv_goto hx hb d159_13 rfl ?_
    exact ht_zret X d159_17 I (Nat.le_of_ble_eq_true rfl) (Nat.le_of_ble_eq_true rfl) ⟨_, rfl, hF⟩ rfl

def w_Tree_endOf_37 (dA : Nat → ClassId) (y0 : Nat) (K : Int32 → hm_T → hz_T → Prop) (x2 : Int32) (h : hm_T) (z : hz_T) : Prop := (K x2 h z)
def w_Tree_endOf_7 (dA : Nat → ClassId) (y0 : Nat) (K : Int32 → hm_T → hz_T → Prop) : Nat → Option Nat → Int32 → hm_T → hz_T → Prop
  | 0, _, _, _, _ => False
  | n9 + 1, x1, x2, h, z => (cg_I h 1 3 y0 (fun v23 => (if v23 ≤ x2 then (w_Tree_endOf_37 dA y0 K x2 h z) else (cg_R h 1 2 y0 (fun v24 => (cg_d v24 (fun a25 => (cg_ar dA h 5 a25 x2 (fun v26 => (cg_d v26 (fun a27 => (cg_I h 8 2 a27 (fun v28 => (cg_d x1 (fun a29 => (cg_I h 8 2 a29 (fun v30 => (if v28 ≤ v30 then (w_Tree_endOf_37 dA y0 K x2 h z) else ((w_Tree_endOf_7 dA y0 K n9) x1 (x2 + 1) h z)))))))))))))))))))
def w_Tree_endOf (dA : Nat → ClassId) (y0 : Nat) (y1 : Option Nat) (K : Int32 → hm_T → hz_T → Prop) (h0 : hm_T) (z0 : hz_T) : Prop := (cg_d y1 (fun a21 => (cg_I h0 8 6 a21 (fun v22 => (w_Tree_endOf_7 dA y0 K mF y1 (v22 + 1) h0 z0)))))
set_option maxRecDepth 100000 in
set_option maxHeartbeats 8000000 in
theorem cw_Tree_endOf (l : Launch) (D : va_G) (dA : Nat → ClassId) (s0 : State) (hE : ms_EV D dA s0) (y0 : Nat) (y1 : Option Nat) (h0 : hm_T) (z0 : hz_T) (K : Int32 → hm_T → hz_T → Prop) (hg : w_Tree_endOf dA y0 y1 K h0 z0) : ht_C l D s0 yM160 bM160 3 (Option.some Jvm.ClassFile.FieldType.int) 0 0 0 0 [.ref y0, va_rf y1] (fun h z => h = h0 ∧ z = z0) (fun h z vv h1 z1 => ∃ v, vv = some (.int v) ∧ K v h1 z1) := by
  refine ht_C.mk hE.1 (by decide) (by simp [lg_sl, cat_rf, cat_int, cat_ref, cat_null, cat_long]) [(0, .ref y0), (1, va_rf y1)] (by simp [lv_args, cat_rf, cat_int, cat_ref, cat_null, cat_long]) ?_
  intro p e s m below meth c ls h z X hin hpre I hl
  have hx := X.1
  have hb := X.2.1
  have hml := X.2.2.1
  have hown : s.vm.findClass "MarkupStore$Tree" = some m.cls := X.2.2.2.1
  have hts := X.2.2.2.2.2.2.1
  have hK := X.2.2.2.2.2.2.2.2.1
  rw [hpre.1, hpre.2] at I
  clear hpre
  have b37 : ∀ (ls : Array Slot) (x2 : Int32) (h : hm_T) (z : hz_T) (H : Heap) (locs : List Loc), w_Tree_endOf_37 dA y0 K x2 h z → lv_has ls 3 [(2, .int x2)] → hm_I D s0 s h z H locs → W p l e { frames := 0, cells := 0, slots := 0, locals := 0 } s m ([.ref y0, va_rf y1] : List Value).toArray below meth c H locs 0 0 (MQ below (ht_Q D s0 (fun vv h1 z1 => ∃ v, vv = some (.int v) ∧ K v h1 z1)) ([.ref y0, va_rf y1] : List Value).toArray s 0 0 (fun q => s0.heap.size ≤ q)) (F0 m 37 ls []) := by
    intro ls x2 h z H locs hF hl I
    unfold w_Tree_endOf_37 at hF
    refine lv_iload_n hx hb d160_37 rfl (lv_at hl 0 rfl) ?_
    exact ht_iret X d160_38 I (Nat.le_of_ble_eq_true rfl) (Nat.le_of_ble_eq_true rfl) ⟨_, rfl, hF⟩
  have b7 : ∀ n9 : Nat, ∀ (ls : Array Slot) (x1 : Option Nat) (x2 : Int32) (h : hm_T) (z : hz_T) (H : Heap) (locs : List Loc), w_Tree_endOf_7 dA y0 K n9 x1 x2 h z → lv_has ls 3 [(0, .ref y0), (1, va_rf x1), (2, .int x2)] → hm_I D s0 s h z H locs → W p l e { frames := 0, cells := 0, slots := 0, locals := 0 } s m ([.ref y0, va_rf y1] : List Value).toArray below meth c H locs 0 0 (MQ below (ht_Q D s0 (fun vv h1 z1 => ∃ v, vv = some (.int v) ∧ K v h1 z1)) ([.ref y0, va_rf y1] : List Value).toArray s 0 0 (fun q => s0.heap.size ≤ q)) (F0 m 7 ls []) := by
    intro n9
    induction n9 with
    | zero => intro ls x1 x2 h z H locs hF; cases hF
    | succ n9 hk7 =>
    intro ls x1 x2 h z H locs hF hl I
    unfold w_Tree_endOf_7 at hF
    refine lv_iload_n hx hb d160_7 rfl (lv_at hl 2 rfl) ?_
    refine lv_aload_n hx hb d160_8 rfl (lv_at hl 0 rfl) ?_
    obtain ⟨fs9, v23, c9, e9, hF⟩ := hF
    refine va_get (D := D) (ci := 1) (v := .int v23) (C := kR1) (T := kT1) (N := 6) hx hb hts ku1 hown hK (hm_one I.1 c9) 0 rfl rfl 3 (by decide) (hts _ ms_k87) (fun _ h => h) e9 d160_9 ?_
    clear e9 c9 fs9
    refine lv_icmp_ge hx hb d160_12 rfl (fun h9 => ?_) (fun h9 => ?_)
    · have hF := Eq.mp (if_pos h9) hF
      exact b37 ls x2 h z _ _ hF (hl.sub [2] rfl) I
    · have hF := Eq.mp (if_neg h9) hF
      refine lv_aload_n hx hb d160_15 rfl (lv_at hl 0 rfl) ?_
      obtain ⟨fs9, v24, c9, e9, hF⟩ := hF
      refine va_get (D := D) (ci := 1) (v := va_rf v24) (C := kR1) (T := kT1) (N := 6) hx hb hts ku1 hown hK (hm_one I.1 c9) 0 rfl rfl 2 (by decide) (hts _ ms_k82) (fun _ h => h) e9 d160_16 ?_
      clear e9 c9 fs9
      refine lv_iload_n hx hb d160_19 rfl (lv_at hl 2 rfl) ?_
      obtain ⟨a25, e9, hF⟩ := hF
      refine W.eq (g2 := F0 m 20 ls [.int x2, .ref a25]) (by rw [e9]; rfl) ?_
      clear e9
      obtain ⟨n8, f8, c9, i9, hF⟩ := hF
      refine va_aldq hx hb hK (hm_one I.1 c9) 0 5 rfl rfl i9 d160_20 ?_
      generalize f8 (Int32.toNatClampNeg x2) = v26 at hF ⊢
      clear c9 i9
      obtain ⟨a27, e9, hF⟩ := hF
      refine W.eq (g2 := F0 m 21 ls [.ref a27]) (by rw [e9]; rfl) ?_
      clear e9
      obtain ⟨fs9, v28, c9, e9, hF⟩ := hF
      refine va_get (D := D) (ci := 8) (v := .int v28) (C := kR8) (T := kT8) (N := 9) hx hb hts ku8 hown hK (hm_one I.1 c9) 0 rfl rfl 2 (by decide) (hts _ ms_k450) (fun _ h => h) e9 d160_21 ?_
      clear e9 c9 fs9
      refine lv_aload_nR hx hb d160_24 rfl (lv_at hl 1 rfl) ?_
      obtain ⟨a29, e9, hF⟩ := hF
      refine W.eq (g2 := F0 m 25 ls [.ref a29, .int v28]) (by rw [e9]; rfl) ?_
      clear e9
      obtain ⟨fs9, v30, c9, e9, hF⟩ := hF
      refine va_get (D := D) (ci := 8) (v := .int v30) (C := kR8) (T := kT8) (N := 9) hx hb hts ku8 hown hK (hm_one I.1 c9) 0 rfl rfl 2 (by decide) (hts _ ms_k450) (fun _ h => h) e9 d160_25 ?_
      clear e9 c9 fs9
      refine lv_icmp_le hx hb d160_28 rfl (fun h9 => ?_) (fun h9 => ?_)
      · have hF := Eq.mp (if_pos h9) hF
        exact b37 ls x2 h z _ _ hF (hl.sub [2] rfl) I
      · have hF := Eq.mp (if_neg h9) hF
        refine lv_iinc (k := 2) (v := (x2 + 1)) hx hb d160_31 hl rfl (rfl) (by decide) (show _ = [(2, .int (x2 + 1)), (0, .ref y0), (1, va_rf x1)] by simp [cat_rf, cat_int, cat_ref, cat_null, cat_long]) (fun ls hl => ?_)
        have hl : lv_has ls 3 [(2, .int (x2 + 1)), (0, .ref y0), (1, va_rf x1)] := hl
        refine lv_goto hx hb d160_34 rfl ?_
        exact hk7 ls x1 (x2 + 1) h z _ _ hF (hl.sub [1, 2, 0] rfl) I
  have hF := hg
  unfold w_Tree_endOf at hF
  clear h z
  refine lv_aload_nR hx hb d160_0 rfl (lv_at hl 1 rfl) ?_
  obtain ⟨a21, e9, hF⟩ := hF
  refine W.eq (g2 := F0 m 1 ls [.ref a21]) (by rw [e9]; rfl) ?_
  clear e9
  obtain ⟨fs9, v22, c9, e9, hF⟩ := hF
  refine va_get (D := D) (ci := 8) (v := .int v22) (C := kR8) (T := kT8) (N := 9) hx hb hts ku8 hown hK (hm_one I.1 c9) 0 rfl rfl 6 (by decide) (hts _ ms_k463) (fun _ h => h) e9 d160_1 ?_
  clear e9 c9 fs9
  refine lv_iconst (v := 1) hx hb d160_4 (by decide) ?_
  refine lv_iadd hx hb d160_5 ?_
  refine lv_istore_n (i := 2) hx hb d160_6 rfl hl (by decide) (show _ = [(2, .int (v22 + 1)), (0, .ref y0), (1, va_rf y1)] by simp [cat_rf, cat_int, cat_ref, cat_null, cat_long]) (fun ls hl => ?_)
  have hl : lv_has ls 3 [(2, .int (v22 + 1)), (0, .ref y0), (1, va_rf y1)] := hl
  exact b7 mF ls y1 (v22 + 1) h0 z0 _ _ hF (hl.sub [1, 2, 0] rfl) I

def w_Tree_childBefore_4 (dA : Nat → ClassId) (y0 : Nat) (K : Option Nat → hm_T → hz_T → Prop) : Nat → Option Nat → Int32 → hm_T → hz_T → Prop
  | 0, _, _, _, _ => False
  | n9 + 1, x1, x3, h, z => (cg_d x1 (fun a21 => (cg_I h 8 6 a21 (fun v22 => (if x3 ≤ v22 then (K none h z) else (cg_R h 1 2 y0 (fun v23 => (cg_d v23 (fun a24 => (cg_ar dA h 5 a24 x3 (fun v25 => (cg_d v25 (fun a26 => (cg_R h 8 1 a26 (fun v27 => (if v27 = x1 then (cg_R h 1 2 y0 (fun v28 => (cg_d v28 (fun a29 => (cg_ar dA h 5 a29 x3 (fun v30 => (K v30 h z))))))) else ((w_Tree_childBefore_4 dA y0 K n9) x1 (x3 + (-1)) h z)))))))))))))))))
def w_Tree_childBefore (dA : Nat → ClassId) (y0 : Nat) (y1 : Option Nat) (y2 : Int32) (K : Option Nat → hm_T → hz_T → Prop) (h0 : hm_T) (z0 : hz_T) : Prop := (w_Tree_childBefore_4 dA y0 K mF y1 (y2 - 1) h0 z0)
set_option maxRecDepth 100000 in
set_option maxHeartbeats 8000000 in
theorem cw_Tree_childBefore (l : Launch) (D : va_G) (dA : Nat → ClassId) (s0 : State) (hE : ms_EV D dA s0) (y0 : Nat) (y1 : Option Nat) (y2 : Int32) (h0 : hm_T) (z0 : hz_T) (K : Option Nat → hm_T → hz_T → Prop) (hg : w_Tree_childBefore dA y0 y1 y2 K h0 z0) : ht_C l D s0 yM161 bM161 4 (Option.some (Jvm.ClassFile.FieldType.object "MarkupStore$Node")) 0 0 0 0 [.ref y0, va_rf y1, .int y2] (fun h z => h = h0 ∧ z = z0) (fun h z vv h1 z1 => ∃ v, vv = some (va_rf v) ∧ K v h1 z1) := by
  refine ht_C.mk hE.1 (by decide) (by simp [lg_sl, cat_rf, cat_int, cat_ref, cat_null, cat_long]) [(0, .ref y0), (1, va_rf y1), (2, .int y2)] (by simp [lv_args, cat_rf, cat_int, cat_ref, cat_null, cat_long]) ?_
  intro p e s m below meth c ls h z X hin hpre I hl
  have hx := X.1
  have hb := X.2.1
  have hml := X.2.2.1
  have hown : s.vm.findClass "MarkupStore$Tree" = some m.cls := X.2.2.2.1
  have hts := X.2.2.2.2.2.2.1
  have hK := X.2.2.2.2.2.2.2.2.1
  rw [hpre.1, hpre.2] at I
  clear hpre
  have b4 : ∀ n9 : Nat, ∀ (ls : Array Slot) (x1 : Option Nat) (x3 : Int32) (h : hm_T) (z : hz_T) (H : Heap) (locs : List Loc), w_Tree_childBefore_4 dA y0 K n9 x1 x3 h z → lv_has ls 4 [(0, .ref y0), (1, va_rf x1), (3, .int x3)] → hm_I D s0 s h z H locs → W p l e { frames := 0, cells := 0, slots := 0, locals := 0 } s m ([.ref y0, va_rf y1, .int y2] : List Value).toArray below meth c H locs 0 0 (MQ below (ht_Q D s0 (fun vv h1 z1 => ∃ v, vv = some (va_rf v) ∧ K v h1 z1)) ([.ref y0, va_rf y1, .int y2] : List Value).toArray s 0 0 (fun q => s0.heap.size ≤ q)) (F0 m 4 ls []) := by
    intro n9
    induction n9 with
    | zero => intro ls x1 x3 h z H locs hF; cases hF
    | succ n9 hk4 =>
    intro ls x1 x3 h z H locs hF hl I
    unfold w_Tree_childBefore_4 at hF
    refine lv_iload_n hx hb d161_4 rfl (lv_at hl 2 rfl) ?_
    refine lv_aload_nR hx hb d161_5 rfl (lv_at hl 1 rfl) ?_
    obtain ⟨a21, e9, hF⟩ := hF
    refine W.eq (g2 := F0 m 6 ls [.ref a21, .int x3]) (by rw [e9]; rfl) ?_
    clear e9
    obtain ⟨fs9, v22, c9, e9, hF⟩ := hF
    refine va_get (D := D) (ci := 8) (v := .int v22) (C := kR8) (T := kT8) (N := 9) hx hb hts ku8 hown hK (hm_one I.1 c9) 0 rfl rfl 6 (by decide) (hts _ ms_k463) (fun _ h => h) e9 d161_6 ?_
    clear e9 c9 fs9
    refine lv_icmp_le hx hb d161_9 rfl (fun h9 => ?_) (fun h9 => ?_)
    · have hF := Eq.mp (if_pos h9) hF
      refine lv_null hx hb d161_38 ?_
      exact ht_aret X d161_39 I (Nat.le_of_ble_eq_true rfl) (Nat.le_of_ble_eq_true rfl) ⟨none, rfl, hF⟩ (Or.inl ⟨_, rfl⟩) (Or.inl rfl)
    · have hF := Eq.mp (if_neg h9) hF
      refine lv_aload_n hx hb d161_12 rfl (lv_at hl 0 rfl) ?_
      obtain ⟨fs9, v23, c9, e9, hF⟩ := hF
      refine va_get (D := D) (ci := 1) (v := va_rf v23) (C := kR1) (T := kT1) (N := 6) hx hb hts ku1 hown hK (hm_one I.1 c9) 0 rfl rfl 2 (by decide) (hts _ ms_k82) (fun _ h => h) e9 d161_13 ?_
      clear e9 c9 fs9
      refine lv_iload_n hx hb d161_16 rfl (lv_at hl 2 rfl) ?_
      obtain ⟨a24, e9, hF⟩ := hF
      refine W.eq (g2 := F0 m 17 ls [.int x3, .ref a24]) (by rw [e9]; rfl) ?_
      clear e9
      obtain ⟨n8, f8, c9, i9, hF⟩ := hF
      refine va_aldq hx hb hK (hm_one I.1 c9) 0 5 rfl rfl i9 d161_17 ?_
      generalize f8 (Int32.toNatClampNeg x3) = v25 at hF ⊢
      clear c9 i9
      obtain ⟨a26, e9, hF⟩ := hF
      refine W.eq (g2 := F0 m 18 ls [.ref a26]) (by rw [e9]; rfl) ?_
      clear e9
      obtain ⟨fs9, v27, c9, e9, hF⟩ := hF
      refine va_get (D := D) (ci := 8) (v := va_rf v27) (C := kR8) (T := kT8) (N := 9) hx hb hts ku8 hown hK (hm_one I.1 c9) 0 rfl rfl 1 (by decide) (hts _ ms_k447) (fun _ h => h) e9 d161_18 ?_
      clear e9 c9 fs9
      refine lv_aload_nR hx hb d161_21 rfl (lv_at hl 1 rfl) ?_
      refine lv_acmp_ne (rx := v27) (ry := x1) hx hb d161_22 rfl (fun h9 => ?_) (fun h9 => ?_)
      · have hF := Eq.mp (if_neg h9) hF
        refine lv_iinc (k := 2) (v := (x3 + (-1))) hx hb d161_32 hl rfl (rfl) (by decide) rfl (fun ls hl => ?_)
        have hl : lv_has ls 4 [(3, .int (x3 + (-1))), (0, .ref y0), (1, va_rf x1)] := hl
        refine lv_goto hx hb d161_35 rfl ?_
        exact hk4 ls x1 (x3 + (-1)) h z _ _ hF (hl.sub [1, 2, 0] rfl) I
      · have hF := Eq.mp (if_pos h9) hF
        refine lv_aload_n hx hb d161_25 rfl (lv_at hl 0 rfl) ?_
        obtain ⟨fs9, v28, c9, e9, hF⟩ := hF
        refine va_get (D := D) (ci := 1) (v := va_rf v28) (C := kR1) (T := kT1) (N := 6) hx hb hts ku1 hown hK (hm_one I.1 c9) 0 rfl rfl 2 (by decide) (hts _ ms_k82) (fun _ h => h) e9 d161_26 ?_
        clear e9 c9 fs9
        refine lv_iload_n hx hb d161_29 rfl (lv_at hl 2 rfl) ?_
        obtain ⟨a29, e9, hF⟩ := hF
        refine W.eq (g2 := F0 m 30 ls [.int x3, .ref a29]) (by rw [e9]; rfl) ?_
        clear e9
        obtain ⟨n8, f8, c9, i9, hF⟩ := hF
        refine va_aldq hx hb hK (hm_one I.1 c9) 0 5 rfl rfl i9 d161_30 ?_
        generalize f8 (Int32.toNatClampNeg x3) = v30 at hF ⊢
        clear c9 i9
        exact ht_aret X d161_31 I (Nat.le_of_ble_eq_true rfl) (Nat.le_of_ble_eq_true rfl) ⟨v30, rfl, hF⟩ (Or.inl ⟨_, rfl⟩) (rf_or _)
  have hF := hg
  unfold w_Tree_childBefore at hF
  clear h z
  refine lv_iload_n hx hb d161_0 rfl (lv_at hl 2 rfl) ?_
  refine lv_iconst (v := 1) hx hb d161_1 (by decide) ?_
  refine lv_isub hx hb d161_2 ?_
  refine lv_istore_n hx hb d161_3 rfl hl (by decide) rfl (fun ls hl => ?_)
  have hl : lv_has ls 4 [(3, .int (y2 - 1)), (0, .ref y0), (1, va_rf y1), (2, .int y2)] := hl
  exact b4 mF ls y1 (y2 - 1) h0 z0 _ _ hF (hl.sub [1, 2, 0] rfl) I

def w_Tree_childFrom_2 (dA : Nat → ClassId) (y0 : Nat) (K : Option Nat → hm_T → hz_T → Prop) : Nat → Option Nat → Int32 → hm_T → hz_T → Prop
  | 0, _, _, _, _ => False
  | n9 + 1, x1, x3, h, z => (cg_I h 1 3 y0 (fun v21 => (if v21 ≤ x3 then (K none h z) else (cg_R h 1 2 y0 (fun v22 => (cg_d v22 (fun a23 => (cg_ar dA h 5 a23 x3 (fun v24 => (cg_d v24 (fun a25 => (cg_R h 8 1 a25 (fun v26 => (if v26 = x1 then (cg_R h 1 2 y0 (fun v27 => (cg_d v27 (fun a28 => (cg_ar dA h 5 a28 x3 (fun v29 => (K v29 h z))))))) else ((w_Tree_childFrom_2 dA y0 K n9) x1 (x3 + 1) h z)))))))))))))))
def w_Tree_childFrom (dA : Nat → ClassId) (y0 : Nat) (y1 : Option Nat) (y2 : Int32) (K : Option Nat → hm_T → hz_T → Prop) (h0 : hm_T) (z0 : hz_T) : Prop := (w_Tree_childFrom_2 dA y0 K mF y1 y2 h0 z0)
set_option maxRecDepth 100000 in
set_option maxHeartbeats 8000000 in
theorem cw_Tree_childFrom (l : Launch) (D : va_G) (dA : Nat → ClassId) (s0 : State) (hE : ms_EV D dA s0) (y0 : Nat) (y1 : Option Nat) (y2 : Int32) (h0 : hm_T) (z0 : hz_T) (K : Option Nat → hm_T → hz_T → Prop) (hg : w_Tree_childFrom dA y0 y1 y2 K h0 z0) : ht_C l D s0 yM162 bM162 4 (Option.some (Jvm.ClassFile.FieldType.object "MarkupStore$Node")) 0 0 0 0 [.ref y0, va_rf y1, .int y2] (fun h z => h = h0 ∧ z = z0) (fun h z vv h1 z1 => ∃ v, vv = some (va_rf v) ∧ K v h1 z1) := by
  refine ht_C.mk hE.1 (by decide) (by simp [lg_sl, cat_rf, cat_int, cat_ref, cat_null, cat_long]) [(0, .ref y0), (1, va_rf y1), (2, .int y2)] (by simp [lv_args, cat_rf, cat_int, cat_ref, cat_null, cat_long]) ?_
  intro p e s m below meth c ls h z X hin hpre I hl
  have hx := X.1
  have hb := X.2.1
  have hml := X.2.2.1
  have hown : s.vm.findClass "MarkupStore$Tree" = some m.cls := X.2.2.2.1
  have hts := X.2.2.2.2.2.2.1
  have hK := X.2.2.2.2.2.2.2.2.1
  rw [hpre.1, hpre.2] at I
  clear hpre
  have b2 : ∀ n9 : Nat, ∀ (ls : Array Slot) (x1 : Option Nat) (x3 : Int32) (h : hm_T) (z : hz_T) (H : Heap) (locs : List Loc), w_Tree_childFrom_2 dA y0 K n9 x1 x3 h z → lv_has ls 4 [(0, .ref y0), (1, va_rf x1), (3, .int x3)] → hm_I D s0 s h z H locs → W p l e { frames := 0, cells := 0, slots := 0, locals := 0 } s m ([.ref y0, va_rf y1, .int y2] : List Value).toArray below meth c H locs 0 0 (MQ below (ht_Q D s0 (fun vv h1 z1 => ∃ v, vv = some (va_rf v) ∧ K v h1 z1)) ([.ref y0, va_rf y1, .int y2] : List Value).toArray s 0 0 (fun q => s0.heap.size ≤ q)) (F0 m 2 ls []) := by
    intro n9
    induction n9 with
    | zero => intro ls x1 x3 h z H locs hF; cases hF
    | succ n9 hk2 =>
    intro ls x1 x3 h z H locs hF hl I
    unfold w_Tree_childFrom_2 at hF
    refine lv_iload_n hx hb d162_2 rfl (lv_at hl 2 rfl) ?_
    refine lv_aload_n hx hb d162_3 rfl (lv_at hl 0 rfl) ?_
    obtain ⟨fs9, v21, c9, e9, hF⟩ := hF
    refine va_get (D := D) (ci := 1) (v := .int v21) (C := kR1) (T := kT1) (N := 6) hx hb hts ku1 hown hK (hm_one I.1 c9) 0 rfl rfl 3 (by decide) (hts _ ms_k87) (fun _ h => h) e9 d162_4 ?_
    clear e9 c9 fs9
    refine lv_icmp_ge hx hb d162_7 rfl (fun h9 => ?_) (fun h9 => ?_)
    · have hF := Eq.mp (if_pos h9) hF
      refine lv_null hx hb d162_36 ?_
      exact ht_aret X d162_37 I (Nat.le_of_ble_eq_true rfl) (Nat.le_of_ble_eq_true rfl) ⟨none, rfl, hF⟩ (Or.inl ⟨_, rfl⟩) (Or.inl rfl)
    · have hF := Eq.mp (if_neg h9) hF
      refine lv_aload_n hx hb d162_10 rfl (lv_at hl 0 rfl) ?_
      obtain ⟨fs9, v22, c9, e9, hF⟩ := hF
      refine va_get (D := D) (ci := 1) (v := va_rf v22) (C := kR1) (T := kT1) (N := 6) hx hb hts ku1 hown hK (hm_one I.1 c9) 0 rfl rfl 2 (by decide) (hts _ ms_k82) (fun _ h => h) e9 d162_11 ?_
      clear e9 c9 fs9
      refine lv_iload_n hx hb d162_14 rfl (lv_at hl 2 rfl) ?_
      obtain ⟨a23, e9, hF⟩ := hF
      refine W.eq (g2 := F0 m 15 ls [.int x3, .ref a23]) (by rw [e9]; rfl) ?_
      clear e9
      obtain ⟨n8, f8, c9, i9, hF⟩ := hF
      refine va_aldq hx hb hK (hm_one I.1 c9) 0 5 rfl rfl i9 d162_15 ?_
      generalize f8 (Int32.toNatClampNeg x3) = v24 at hF ⊢
      clear c9 i9
      obtain ⟨a25, e9, hF⟩ := hF
      refine W.eq (g2 := F0 m 16 ls [.ref a25]) (by rw [e9]; rfl) ?_
      clear e9
      obtain ⟨fs9, v26, c9, e9, hF⟩ := hF
      refine va_get (D := D) (ci := 8) (v := va_rf v26) (C := kR8) (T := kT8) (N := 9) hx hb hts ku8 hown hK (hm_one I.1 c9) 0 rfl rfl 1 (by decide) (hts _ ms_k447) (fun _ h => h) e9 d162_16 ?_
      clear e9 c9 fs9
      refine lv_aload_nR hx hb d162_19 rfl (lv_at hl 1 rfl) ?_
      refine lv_acmp_ne (rx := v26) (ry := x1) hx hb d162_20 rfl (fun h9 => ?_) (fun h9 => ?_)
      · have hF := Eq.mp (if_neg h9) hF
        refine lv_iinc (k := 2) (v := (x3 + 1)) hx hb d162_30 hl rfl (rfl) (by decide) rfl (fun ls hl => ?_)
        have hl : lv_has ls 4 [(3, .int (x3 + 1)), (0, .ref y0), (1, va_rf x1)] := hl
        refine lv_goto hx hb d162_33 rfl ?_
        exact hk2 ls x1 (x3 + 1) h z _ _ hF (hl.sub [1, 2, 0] rfl) I
      · have hF := Eq.mp (if_pos h9) hF
        refine lv_aload_n hx hb d162_23 rfl (lv_at hl 0 rfl) ?_
        obtain ⟨fs9, v27, c9, e9, hF⟩ := hF
        refine va_get (D := D) (ci := 1) (v := va_rf v27) (C := kR1) (T := kT1) (N := 6) hx hb hts ku1 hown hK (hm_one I.1 c9) 0 rfl rfl 2 (by decide) (hts _ ms_k82) (fun _ h => h) e9 d162_24 ?_
        clear e9 c9 fs9
        refine lv_iload_n hx hb d162_27 rfl (lv_at hl 2 rfl) ?_
        obtain ⟨a28, e9, hF⟩ := hF
        refine W.eq (g2 := F0 m 28 ls [.int x3, .ref a28]) (by rw [e9]; rfl) ?_
        clear e9
        obtain ⟨n8, f8, c9, i9, hF⟩ := hF
        refine va_aldq hx hb hK (hm_one I.1 c9) 0 5 rfl rfl i9 d162_28 ?_
        generalize f8 (Int32.toNatClampNeg x3) = v29 at hF ⊢
        clear c9 i9
        exact ht_aret X d162_29 I (Nat.le_of_ble_eq_true rfl) (Nat.le_of_ble_eq_true rfl) ⟨v29, rfl, hF⟩ (Or.inl ⟨_, rfl⟩) (rf_or _)
  have hF := hg
  unfold w_Tree_childFrom at hF
  clear h z
  refine lv_iload_n hx hb d162_0 rfl (lv_at hl 2 rfl) ?_
  refine lv_istore_n hx hb d162_1 rfl hl (by decide) rfl (fun ls hl => ?_)
  have hl : lv_has ls 4 [(3, .int y2), (0, .ref y0), (1, va_rf y1), (2, .int y2)] := hl
  exact b2 mF ls y1 y2 h0 z0 _ _ hF (hl.sub [1, 2, 0] rfl) I

def w_Tree_childrenWithin_29 (dA : Nat → ClassId) (y0 : Nat) (K : Int32 → hm_T → hz_T → Prop) (k6 : Option Nat → Int32 → Int32 → Int32 → hm_T → hz_T → Prop) (x1 : Option Nat) (x3 : Int32) (x4 : Int32) (x5 : Int32) (h : hm_T) (z : hz_T) : Prop := (k6 x1 x3 x4 (x5 + 1) h z)
def w_Tree_childrenWithin_6 (dA : Nat → ClassId) (y0 : Nat) (K : Int32 → hm_T → hz_T → Prop) : Nat → Option Nat → Int32 → Int32 → Int32 → hm_T → hz_T → Prop
  | 0, _, _, _, _, _, _ => False
  | n9 + 1, x1, x3, x4, x5, h, z => (if x3 ≤ x5 then (K x4 h z) else (cg_R h 1 2 y0 (fun v21 => (cg_d v21 (fun a22 => (cg_ar dA h 5 a22 x5 (fun v23 => (cg_d v23 (fun a24 => (cg_R h 8 1 a24 (fun v25 => (if v25 = x1 then (w_Tree_childrenWithin_29 dA y0 K (w_Tree_childrenWithin_6 dA y0 K n9) x1 x3 (x4 + 1) x5 h z) else (w_Tree_childrenWithin_29 dA y0 K (w_Tree_childrenWithin_6 dA y0 K n9) x1 x3 x4 x5 h z)))))))))))))
def w_Tree_childrenWithin (dA : Nat → ClassId) (y0 : Nat) (y1 : Option Nat) (y2 : Int32) (y3 : Int32) (K : Int32 → hm_T → hz_T → Prop) (h0 : hm_T) (z0 : hz_T) : Prop := (w_Tree_childrenWithin_6 dA y0 K mF y1 y3 0 y2 h0 z0)
set_option maxRecDepth 100000 in
set_option maxHeartbeats 8000000 in
theorem cw_Tree_childrenWithin (l : Launch) (D : va_G) (dA : Nat → ClassId) (s0 : State) (hE : ms_EV D dA s0) (y0 : Nat) (y1 : Option Nat) (y2 : Int32) (y3 : Int32) (h0 : hm_T) (z0 : hz_T) (K : Int32 → hm_T → hz_T → Prop) (hg : w_Tree_childrenWithin dA y0 y1 y2 y3 K h0 z0) : ht_C l D s0 yM163 bM163 6 (Option.some Jvm.ClassFile.FieldType.int) 0 0 0 0 [.ref y0, va_rf y1, .int y2, .int y3] (fun h z => h = h0 ∧ z = z0) (fun h z vv h1 z1 => ∃ v, vv = some (.int v) ∧ K v h1 z1) := by
  refine ht_C.mk hE.1 (by decide) (by simp [lg_sl, cat_rf, cat_int, cat_ref, cat_null, cat_long]) [(0, .ref y0), (1, va_rf y1), (2, .int y2), (3, .int y3)] (by simp [lv_args, cat_rf, cat_int, cat_ref, cat_null, cat_long]) ?_
  intro p e s m below meth c ls h z X hin hpre I hl
  have hx := X.1
  have hb := X.2.1
  have hml := X.2.2.1
  have hown : s.vm.findClass "MarkupStore$Tree" = some m.cls := X.2.2.2.1
  have hts := X.2.2.2.2.2.2.1
  have hK := X.2.2.2.2.2.2.2.2.1
  rw [hpre.1, hpre.2] at I
  clear hpre
  have b29 : ∀ (k6 : Option Nat → Int32 → Int32 → Int32 → hm_T → hz_T → Prop), (∀ (ls : Array Slot) (x1 : Option Nat) (x3 : Int32) (x4 : Int32) (x5 : Int32) (h : hm_T) (z : hz_T) (H : Heap) (locs : List Loc), k6 x1 x3 x4 x5 h z → lv_has ls 6 [(0, .ref y0), (1, va_rf x1), (3, .int x3), (4, .int x4), (5, .int x5)] → hm_I D s0 s h z H locs → W p l e { frames := 0, cells := 0, slots := 0, locals := 0 } s m ([.ref y0, va_rf y1, .int y2, .int y3] : List Value).toArray below meth c H locs 0 0 (MQ below (ht_Q D s0 (fun vv h1 z1 => ∃ v, vv = some (.int v) ∧ K v h1 z1)) ([.ref y0, va_rf y1, .int y2, .int y3] : List Value).toArray s 0 0 (fun q => s0.heap.size ≤ q)) (F0 m 6 ls [])) → ∀ (ls : Array Slot) (x1 : Option Nat) (x3 : Int32) (x4 : Int32) (x5 : Int32) (h : hm_T) (z : hz_T) (H : Heap) (locs : List Loc), w_Tree_childrenWithin_29 dA y0 K k6 x1 x3 x4 x5 h z → lv_has ls 6 [(0, .ref y0), (1, va_rf x1), (3, .int x3), (4, .int x4), (5, .int x5)] → hm_I D s0 s h z H locs → W p l e { frames := 0, cells := 0, slots := 0, locals := 0 } s m ([.ref y0, va_rf y1, .int y2, .int y3] : List Value).toArray below meth c H locs 0 0 (MQ below (ht_Q D s0 (fun vv h1 z1 => ∃ v, vv = some (.int v) ∧ K v h1 z1)) ([.ref y0, va_rf y1, .int y2, .int y3] : List Value).toArray s 0 0 (fun q => s0.heap.size ≤ q)) (F0 m 29 ls []) := by
    intro k6 hk6 ls x1 x3 x4 x5 h z H locs hF hl I
    unfold w_Tree_childrenWithin_29 at hF
    refine lv_iinc (k := 4) (v := (x5 + 1)) hx hb d163_29 hl rfl (rfl) (by decide) rfl (fun ls hl => ?_)
    have hl : lv_has ls 6 [(5, .int (x5 + 1)), (0, .ref y0), (1, va_rf x1), (3, .int x3), (4, .int x4)] := hl
    refine lv_goto hx hb d163_32 rfl ?_
    exact hk6 ls x1 x3 x4 (x5 + 1) h z _ _ hF (hl.sub [1, 2, 3, 4, 0] rfl) I
  have b6 : ∀ n9 : Nat, ∀ (ls : Array Slot) (x1 : Option Nat) (x3 : Int32) (x4 : Int32) (x5 : Int32) (h : hm_T) (z : hz_T) (H : Heap) (locs : List Loc), w_Tree_childrenWithin_6 dA y0 K n9 x1 x3 x4 x5 h z → lv_has ls 6 [(0, .ref y0), (1, va_rf x1), (3, .int x3), (4, .int x4), (5, .int x5)] → hm_I D s0 s h z H locs → W p l e { frames := 0, cells := 0, slots := 0, locals := 0 } s m ([.ref y0, va_rf y1, .int y2, .int y3] : List Value).toArray below meth c H locs 0 0 (MQ below (ht_Q D s0 (fun vv h1 z1 => ∃ v, vv = some (.int v) ∧ K v h1 z1)) ([.ref y0, va_rf y1, .int y2, .int y3] : List Value).toArray s 0 0 (fun q => s0.heap.size ≤ q)) (F0 m 6 ls []) := by
    intro n9
    induction n9 with
    | zero => intro ls x1 x3 x4 x5 h z H locs hF; cases hF
    | succ n9 hk6 =>
    intro ls x1 x3 x4 x5 h z H locs hF hl I
    unfold w_Tree_childrenWithin_6 at hF
    refine lv_iload hx hb d163_6 (lv_at hl 4 rfl) ?_
    refine lv_iload_n hx hb d163_8 rfl (lv_at hl 2 rfl) ?_
    refine lv_icmp_ge hx hb d163_9 rfl (fun h9 => ?_) (fun h9 => ?_)
    · have hF := Eq.mp (if_pos h9) hF
      refine lv_iload hx hb d163_35 (lv_at hl 3 rfl) ?_
      exact ht_iret X d163_37 I (Nat.le_of_ble_eq_true rfl) (Nat.le_of_ble_eq_true rfl) ⟨_, rfl, hF⟩
    · have hF := Eq.mp (if_neg h9) hF
      refine lv_aload_n hx hb d163_12 rfl (lv_at hl 0 rfl) ?_
      obtain ⟨fs9, v21, c9, e9, hF⟩ := hF
      refine va_get (D := D) (ci := 1) (v := va_rf v21) (C := kR1) (T := kT1) (N := 6) hx hb hts ku1 hown hK (hm_one I.1 c9) 0 rfl rfl 2 (by decide) (hts _ ms_k82) (fun _ h => h) e9 d163_13 ?_
      clear e9 c9 fs9
      refine lv_iload hx hb d163_16 (lv_at hl 4 rfl) ?_
      obtain ⟨a22, e9, hF⟩ := hF
      refine W.eq (g2 := F0 m 18 ls [.int x5, .ref a22]) (by rw [e9]; rfl) ?_
      clear e9
      obtain ⟨n8, f8, c9, i9, hF⟩ := hF
      refine va_aldq hx hb hK (hm_one I.1 c9) 0 5 rfl rfl i9 d163_18 ?_
      generalize f8 (Int32.toNatClampNeg x5) = v23 at hF ⊢
      clear c9 i9
      obtain ⟨a24, e9, hF⟩ := hF
      refine W.eq (g2 := F0 m 19 ls [.ref a24]) (by rw [e9]; rfl) ?_
      clear e9
      obtain ⟨fs9, v25, c9, e9, hF⟩ := hF
      refine va_get (D := D) (ci := 8) (v := va_rf v25) (C := kR8) (T := kT8) (N := 9) hx hb hts ku8 hown hK (hm_one I.1 c9) 0 rfl rfl 1 (by decide) (hts _ ms_k447) (fun _ h => h) e9 d163_19 ?_
      clear e9 c9 fs9
      refine lv_aload_nR hx hb d163_22 rfl (lv_at hl 1 rfl) ?_
      refine lv_acmp_ne (rx := v25) (ry := x1) hx hb d163_23 rfl (fun h9 => ?_) (fun h9 => ?_)
      · have hF := Eq.mp (if_neg h9) hF
        exact b29 (w_Tree_childrenWithin_6 dA y0 K n9) hk6 ls x1 x3 x4 x5 h z _ _ hF (hl.sub [0, 1, 2, 3, 4] rfl) I
      · have hF := Eq.mp (if_pos h9) hF
        refine lv_iinc (k := 3) (v := (x4 + 1)) hx hb d163_26 hl rfl (rfl) (by decide) rfl (fun ls hl => ?_)
        have hl : lv_has ls 6 [(4, .int (x4 + 1)), (0, .ref y0), (1, va_rf x1), (3, .int x3), (5, .int x5)] := hl
        exact b29 (w_Tree_childrenWithin_6 dA y0 K n9) hk6 ls x1 x3 (x4 + 1) x5 h z _ _ hF (hl.sub [1, 2, 3, 0, 4] rfl) I
  have hF := hg
  unfold w_Tree_childrenWithin at hF
  clear h z
  refine lv_iconst (v := 0) hx hb d163_0 (by decide) ?_
  refine lv_istore hx hb d163_1 hl (by decide) rfl (fun ls hl => ?_)
  have hl : lv_has ls 6 [(4, .int 0), (0, .ref y0), (1, va_rf y1), (2, .int y2), (3, .int y3)] := hl
  refine lv_iload_n hx hb d163_3 rfl (lv_at hl 3 rfl) ?_
  refine lv_istore hx hb d163_4 hl (by decide) rfl (fun ls hl => ?_)
  have hl : lv_has ls 6 [(5, .int y2), (4, .int 0), (0, .ref y0), (1, va_rf y1), (2, .int y2), (3, .int y3)] := hl
  exact b6 mF ls y1 y3 0 y2 h0 z0 _ _ hF (hl.sub [2, 3, 5, 1, 0] rfl) I

def w_Tree_setPlaces_2 (dA : Nat → ClassId) (y0 : Nat) (K : hm_T → hz_T → Prop) : Nat → Int32 → hm_T → hz_T → Prop
  | 0, _, _, _ => False
  | n9 + 1, x1, h, z => (cg_I h 1 3 y0 (fun v21 => (if v21 ≤ x1 then (K h z) else (cg_R h 1 2 y0 (fun v22 => (cg_d v22 (fun a23 => (cg_ar dA h 5 a23 x1 (fun v24 => (cg_d v24 (fun a25 => (cg_p h 8 6 a25 (.int x1) (fun h26 => ((w_Tree_setPlaces_2 dA y0 K n9) (x1 + 1) h26 z))))))))))))))
def w_Tree_setPlaces (dA : Nat → ClassId) (y0 : Nat) (K : hm_T → hz_T → Prop) (h0 : hm_T) (z0 : hz_T) : Prop := (w_Tree_setPlaces_2 dA y0 K mF 0 h0 z0)
set_option maxRecDepth 100000 in
set_option maxHeartbeats 8000000 in
theorem cw_Tree_setPlaces (l : Launch) (D : va_G) (dA : Nat → ClassId) (s0 : State) (hE : ms_EV D dA s0) (y0 : Nat) (h0 : hm_T) (z0 : hz_T) (K : hm_T → hz_T → Prop) (hg : w_Tree_setPlaces dA y0 K h0 z0) : ht_C l D s0 yM164 bM164 2 (Option.none : Option Jvm.ClassFile.FieldType) 0 0 0 0 [.ref y0] (fun h z => h = h0 ∧ z = z0) (fun h z vv h1 z1 => vv = none ∧ K h1 z1) := by
  refine ht_C.mk hE.1 (by decide) (Nat.le_of_ble_eq_true rfl) [(0, .ref y0)] rfl ?_
  intro p e s m below meth c ls h z X hin hpre I hl
  have hx := X.1
  have hb := X.2.1
  have hml := X.2.2.1
  have hown : s.vm.findClass "MarkupStore$Tree" = some m.cls := X.2.2.2.1
  have hts := X.2.2.2.2.2.2.1
  have hK := X.2.2.2.2.2.2.2.2.1
  rw [hpre.1, hpre.2] at I
  clear hpre
  have b2 : ∀ n9 : Nat, ∀ (ls : Array Slot) (x1 : Int32) (h : hm_T) (z : hz_T) (H : Heap) (locs : List Loc), w_Tree_setPlaces_2 dA y0 K n9 x1 h z → lv_has ls 2 [(0, .ref y0), (1, .int x1)] → hm_I D s0 s h z H locs → W p l e { frames := 0, cells := 0, slots := 0, locals := 0 } s m ([.ref y0] : List Value).toArray below meth c H locs 0 0 (MQ below (ht_Q D s0 (fun vv h1 z1 => vv = none ∧ K h1 z1)) ([.ref y0] : List Value).toArray s 0 0 (fun q => s0.heap.size ≤ q)) (F0 m 2 ls []) := by
    intro n9
    induction n9 with
    | zero => intro ls x1 h z H locs hF; cases hF
    | succ n9 hk2 =>
    intro ls x1 h z H locs hF hl I
    unfold w_Tree_setPlaces_2 at hF
    refine lv_iload_n hx hb d164_2 rfl (lv_at hl 1 rfl) ?_
    refine lv_aload_n hx hb d164_3 rfl (lv_at hl 0 rfl) ?_
    obtain ⟨fs9, v21, c9, e9, hF⟩ := hF
    refine va_get (D := D) (ci := 1) (v := .int v21) (C := kR1) (T := kT1) (N := 6) hx hb hts ku1 hown hK (hm_one I.1 c9) 0 rfl rfl 3 (by decide) (hts _ ms_k87) (fun _ h => h) e9 d164_4 ?_
    clear e9 c9 fs9
    refine lv_icmp_ge hx hb d164_7 rfl (fun h9 => ?_) (fun h9 => ?_)
    · have hF := Eq.mp (if_pos h9) hF
      exact ht_vret X d164_26 I (Nat.le_of_ble_eq_true rfl) (Nat.le_of_ble_eq_true rfl) ⟨rfl, hF⟩
    · have hF := Eq.mp (if_neg h9) hF
      refine lv_aload_n hx hb d164_10 rfl (lv_at hl 0 rfl) ?_
      obtain ⟨fs9, v22, c9, e9, hF⟩ := hF
      refine va_get (D := D) (ci := 1) (v := va_rf v22) (C := kR1) (T := kT1) (N := 6) hx hb hts ku1 hown hK (hm_one I.1 c9) 0 rfl rfl 2 (by decide) (hts _ ms_k82) (fun _ h => h) e9 d164_11 ?_
      clear e9 c9 fs9
      refine lv_iload_n hx hb d164_14 rfl (lv_at hl 1 rfl) ?_
      obtain ⟨a23, e9, hF⟩ := hF
      refine W.eq (g2 := F0 m 15 ls [.int x1, .ref a23]) (by rw [e9]; rfl) ?_
      clear e9
      obtain ⟨n8, f8, c9, i9, hF⟩ := hF
      refine va_aldq hx hb hK (hm_one I.1 c9) 0 5 rfl rfl i9 d164_15 ?_
      generalize f8 (Int32.toNatClampNeg x1) = v24 at hF ⊢
      clear c9 i9
      refine lv_iload_n hx hb d164_16 rfl (lv_at hl 1 rfl) ?_
      obtain ⟨a25, e9, hF⟩ := hF
      refine W.eq (g2 := F0 m 17 ls [.int x1, .ref a25]) (by rw [e9]; rfl) ?_
      clear e9
      obtain ⟨fs9, c9, k9, hF⟩ := hF
      refine hm_put (ci := 8) (v := .int x1) (ty := .int) (C := kR8) (T := kT8) (N := 9) X I ku8 kt8 kp8 kn8 c9 rfl 6 (by decide) ms_k463 (fun _ h => h) rfl (by decide +kernel) rfl rfl k9 d164_17 (fun h26 H locs e9 f9 I => ?_)
      rw [← hm_eqU e9 f9] at hF
      clear e9 f9 c9 k9
      refine lv_iinc (k := 1) (v := (x1 + 1)) hx hb d164_20 hl rfl (rfl) (by decide) rfl (fun ls hl => ?_)
      have hl : lv_has ls 2 [(1, .int (x1 + 1)), (0, .ref y0)] := hl
      refine lv_goto hx hb d164_23 rfl ?_
      exact hk2 ls (x1 + 1) h26 z _ _ hF (hl.sub [1, 0] rfl) I
  have hF := hg
  unfold w_Tree_setPlaces at hF
  clear h z
  refine lv_iconst (v := 0) hx hb d164_0 (by decide) ?_
  refine lv_istore_n hx hb d164_1 rfl hl (by decide) rfl (fun ls hl => ?_)
  have hl : lv_has ls 2 [(1, .int 0), (0, .ref y0)] := hl
  exact b2 mF ls 0 h0 z0 _ _ hF (hl.sub [1, 0] rfl) I

def w_Walker_has (dA : Nat → ClassId) (y0 : Int64) (y2 : Int32) (K : Int32 → hm_T → hz_T → Prop) (h0 : hm_T) (z0 : hz_T) : Prop := (if (mm_cmp ((y0 >>> (y2.toInt64 &&& 63)) &&& (1 : Int64)) (1 : Int64)) = 0 then (K 1 h0 z0) else (K 0 h0 z0))
set_option maxRecDepth 100000 in
set_option maxHeartbeats 8000000 in
theorem cw_Walker_has (l : Launch) (D : va_G) (dA : Nat → ClassId) (s0 : State) (hE : ms_EV D dA s0) (y0 : Int64) (y2 : Int32) (h0 : hm_T) (z0 : hz_T) (K : Int32 → hm_T → hz_T → Prop) (hg : w_Walker_has dA y0 y2 K h0 z0) : ht_C l D s0 yM165 bM165 3 (Option.some Jvm.ClassFile.FieldType.boolean) 0 0 0 0 [.long y0, .int y2] (fun h z => h = h0 ∧ z = z0) (fun h z vv h1 z1 => ∃ v, vv = some (.int v) ∧ K v h1 z1) := by
  refine ht_C.mk hE.1 (by decide) (Nat.le_of_ble_eq_true rfl) [(0, .long y0), (2, .int y2)] rfl ?_
  intro p e s m below meth c ls h z X hin hpre I hl
  have hx := X.1
  have hb := X.2.1
  have hml := X.2.2.1
  have hown : s.vm.findClass "MarkupStore$Walker" = some m.cls := X.2.2.2.1
  have hts := X.2.2.2.2.2.2.1
  have hK := X.2.2.2.2.2.2.2.2.1
  rw [hpre.1, hpre.2] at I
  clear hpre
  have hF := hg
  unfold w_Walker_has at hF
  clear h z
  refine lv_lload_n hx hb d165_0 rfl (lv_at hl 0 rfl) ?_
  refine lv_iload_n hx hb d165_1 rfl (lv_at hl 1 rfl) ?_
  refine lv_lshr (v := (y0 >>> (y2.toInt64 &&& 63))) hx hb d165_2 rfl ?_
  refine lv_lconst (v := (1 : Int64)) hx hb d165_3 (by decide) ?_
  refine lv_land hx hb d165_4 ?_
  refine lv_lconst (v := (1 : Int64)) hx hb d165_5 (by decide) ?_
  refine lv_lcmp hx hb d165_6 ?_
  refine lv_if_ne hx hb d165_7 rfl (fun h9 => ?_) (fun h9 => ?_)
  · have hF := Eq.mp (if_neg h9) hF
    refine lv_iconst (v := 0) hx hb d165_14 (by decide) ?_
    exact ht_zret X d165_15 I (Nat.le_of_ble_eq_true rfl) (Nat.le_of_ble_eq_true rfl) ⟨_, rfl, hF⟩ rfl
  · have hF := Eq.mp (if_pos h9) hF
    refine lv_iconst (v := 1) hx hb d165_10 (by decide) ?_
    refine lv_goto hx hb d165_11 rfl ?_
    exact ht_zret X d165_15 I (Nat.le_of_ble_eq_true rfl) (Nat.le_of_ble_eq_true rfl) ⟨_, rfl, hF⟩ rfl

def w_Walker_withAttribute_86 (dA : Nat → ClassId) (y0 : Nat) (K : Int64 → hm_T → hz_T → Prop) (k5 : Option Nat → Int64 → Int32 → hm_T → hz_T → Prop) (x1 : Option Nat) (x4 : Int32) (w0 : Int64) (w1 : Int64) (h : hm_T) (z : hz_T) : Prop := (k5 x1 (w1 ||| w0) (x4 + 1) h z)
def w_Walker_withAttribute_70 (dA : Nat → ClassId) (y0 : Nat) (K : Int64 → hm_T → hz_T → Prop) (k5 : Option Nat → Int64 → Int32 → hm_T → hz_T → Prop) (x1 : Option Nat) (x2 : Int64) (x4 : Int32) (w0 : Int32) (h : hm_T) (z : hz_T) : Prop := (if w0 = 0 then (w_Walker_withAttribute_86 dA y0 K k5 x1 x4 (0 : Int64) x2 h z) else (w_Walker_withAttribute_86 dA y0 K k5 x1 x4 ((1 : Int64) <<< (x4.toInt64 &&& 63)) x2 h z))
def w_Walker_withAttribute_69 (dA : Nat → ClassId) (y0 : Nat) (K : Int64 → hm_T → hz_T → Prop) (k5 : Option Nat → Int64 → Int32 → hm_T → hz_T → Prop) (x1 : Option Nat) (x2 : Int64) (x4 : Int32) (h : hm_T) (z : hz_T) : Prop := (w_Walker_withAttribute_70 dA y0 K k5 x1 x2 x4 0 h z)
def w_Walker_withAttribute_65 (dA : Nat → ClassId) (y0 : Nat) (K : Int64 → hm_T → hz_T → Prop) (k5 : Option Nat → Int64 → Int32 → hm_T → hz_T → Prop) (x1 : Option Nat) (x2 : Int64) (x4 : Int32) (h : hm_T) (z : hz_T) : Prop := (w_Walker_withAttribute_70 dA y0 K k5 x1 x2 x4 1 h z)
def w_Walker_withAttribute_5 (dA : Nat → ClassId) (y0 : Nat) (K : Int64 → hm_T → hz_T → Prop) : Nat → Option Nat → Int64 → Int32 → hm_T → hz_T → Prop
  | 0, _, _, _, _, _ => False
  | n9 + 1, x1, x2, x4, h, z => (cg_R h 14 0 y0 (fun v21 => (cg_d v21 (fun a22 => (cg_I h 1 3 a22 (fun v23 => (if v23 ≤ x4 then (K x2 h z) else (cg_R h 14 0 y0 (fun v24 => (cg_d v24 (fun a25 => (cg_R h 1 2 a25 (fun v26 => (cg_d v26 (fun a27 => (cg_ar dA h 5 a27 x4 (fun v28 => (cg_d x1 (fun a29 => (cg_R h 13 3 a29 (fun v30 => (cg_d v28 (fun a31 => (cg_c h 8 a31 ((w_Node_attributeNamed dA a31 v30 (fun v32 h33 z34 => (if v32 = none then (w_Walker_withAttribute_69 dA y0 K (w_Walker_withAttribute_5 dA y0 K n9) x1 x2 x4 h33 z34) else (cg_d x1 (fun a35 => (cg_I h33 13 5 a35 (fun v36 => (if v36 = 32 then (w_Walker_withAttribute_65 dA y0 K (w_Walker_withAttribute_5 dA y0 K n9) x1 x2 x4 h33 z34) else (cg_d v32 (fun a37 => (cg_c h33 9 a37 ((w_Attribute_value dA a37 (fun v38 h39 z40 => (cg_d x1 (fun a41 => (cg_R h39 13 6 a41 (fun v42 => (cg_d v38 (fun a43 => (cg_d v42 (fun a44 => (jd_eq z40 a43 a44 (fun v45 => (if v45 = 0 then (w_Walker_withAttribute_69 dA y0 K (w_Walker_withAttribute_5 dA y0 K n9) x1 x2 x4 h39 z40) else (w_Walker_withAttribute_65 dA y0 K (w_Walker_withAttribute_5 dA y0 K n9) x1 x2 x4 h39 z40))))))))))))) h33 z34)))))))))))) h z))))))))))))))))))))))))))
def w_Walker_withAttribute (dA : Nat → ClassId) (y0 : Nat) (y1 : Option Nat) (K : Int64 → hm_T → hz_T → Prop) (h0 : hm_T) (z0 : hz_T) : Prop := (w_Walker_withAttribute_5 dA y0 K mF y1 (0 : Int64) 0 h0 z0)
set_option maxRecDepth 100000 in
set_option maxHeartbeats 8000000 in
theorem cw_Walker_withAttribute (l : Launch) (D : va_G) (dA : Nat → ClassId) (s0 : State) (hE : ms_EV D dA s0) (y0 : Nat) (y1 : Option Nat) (h0 : hm_T) (z0 : hz_T) (K : Int64 → hm_T → hz_T → Prop) (hg : w_Walker_withAttribute dA y0 y1 K h0 z0) : ht_C l D s0 yM166 bM166 7 (Option.some Jvm.ClassFile.FieldType.long) 4 86 0 0 [.ref y0, va_rf y1] (fun h z => h = h0 ∧ z = z0) (fun h z vv h1 z1 => ∃ v, vv = some (.long v) ∧ K v h1 z1) := by
  refine ht_C.mk hE.1 (by decide) (by simp [lg_sl, cat_rf, cat_int, cat_ref, cat_null, cat_long]) [(0, .ref y0), (1, va_rf y1)] (by simp [lv_args, cat_rf, cat_int, cat_ref, cat_null, cat_long]) ?_
  intro p e s m below meth c ls h z X hin hpre I hl
  have hx := X.1
  have hb := X.2.1
  have hml := X.2.2.1
  have hown : s.vm.findClass "MarkupStore$Walker" = some m.cls := X.2.2.2.1
  have hts := X.2.2.2.2.2.2.1
  have hK := X.2.2.2.2.2.2.2.2.1
  rw [hpre.1, hpre.2] at I
  clear hpre
  have b86 : ∀ (k5 : Option Nat → Int64 → Int32 → hm_T → hz_T → Prop), (∀ (ls : Array Slot) (x1 : Option Nat) (x2 : Int64) (x4 : Int32) (h : hm_T) (z : hz_T) (H : Heap) (locs : List Loc), k5 x1 x2 x4 h z → lv_has ls 7 [(0, .ref y0), (1, va_rf x1), (2, .long x2), (4, .int x4)] → hm_I D s0 s h z H locs → W p l e { frames := 4, cells := 0, slots := 0, locals := 86 } s m ([.ref y0, va_rf y1] : List Value).toArray below meth c H locs 0 0 (MQ below (ht_Q D s0 (fun vv h1 z1 => ∃ v, vv = some (.long v) ∧ K v h1 z1)) ([.ref y0, va_rf y1] : List Value).toArray s 0 0 (fun q => s0.heap.size ≤ q)) (F0 m 5 ls [])) → ∀ (ls : Array Slot) (x1 : Option Nat) (x4 : Int32) (w0 : Int64) (w1 : Int64) (h : hm_T) (z : hz_T) (H : Heap) (locs : List Loc), w_Walker_withAttribute_86 dA y0 K k5 x1 x4 w0 w1 h z → lv_has ls 7 [(0, .ref y0), (1, va_rf x1), (4, .int x4)] → hm_I D s0 s h z H locs → W p l e { frames := 4, cells := 0, slots := 0, locals := 86 } s m ([.ref y0, va_rf y1] : List Value).toArray below meth c H locs 0 0 (MQ below (ht_Q D s0 (fun vv h1 z1 => ∃ v, vv = some (.long v) ∧ K v h1 z1)) ([.ref y0, va_rf y1] : List Value).toArray s 0 0 (fun q => s0.heap.size ≤ q)) (F0 m 86 ls [.long w0, .long w1]) := by
    intro k5 hk5 ls x1 x4 w0 w1 h z H locs hF hl I
    unfold w_Walker_withAttribute_86 at hF
    refine lv_lor hx hb d166_86 ?_
    refine lv_lstore_n (i := 2) hx hb d166_87 rfl hl (by decide) (show _ = [(2, .long (w1 ||| w0)), (0, .ref y0), (1, va_rf x1), (4, .int x4)] by simp [cat_rf, cat_int, cat_ref, cat_null, cat_long]) (fun ls hl => ?_)
    have hl : lv_has ls 7 [(2, .long (w1 ||| w0)), (0, .ref y0), (1, va_rf x1), (4, .int x4)] := hl
    refine lv_iinc (k := 3) (v := (x4 + 1)) hx hb d166_88 hl rfl (rfl) (by decide) rfl (fun ls hl => ?_)
    have hl : lv_has ls 7 [(4, .int (x4 + 1)), (2, .long (w1 ||| w0)), (0, .ref y0), (1, va_rf x1)] := hl
    refine lv_goto hx hb d166_91 rfl ?_
    exact hk5 ls x1 (w1 ||| w0) (x4 + 1) h z _ _ hF (hl.sub [2, 3, 1, 0] rfl) I
  have b70 : ∀ (k5 : Option Nat → Int64 → Int32 → hm_T → hz_T → Prop), (∀ (ls : Array Slot) (x1 : Option Nat) (x2 : Int64) (x4 : Int32) (h : hm_T) (z : hz_T) (H : Heap) (locs : List Loc), k5 x1 x2 x4 h z → lv_has ls 7 [(0, .ref y0), (1, va_rf x1), (2, .long x2), (4, .int x4)] → hm_I D s0 s h z H locs → W p l e { frames := 4, cells := 0, slots := 0, locals := 86 } s m ([.ref y0, va_rf y1] : List Value).toArray below meth c H locs 0 0 (MQ below (ht_Q D s0 (fun vv h1 z1 => ∃ v, vv = some (.long v) ∧ K v h1 z1)) ([.ref y0, va_rf y1] : List Value).toArray s 0 0 (fun q => s0.heap.size ≤ q)) (F0 m 5 ls [])) → ∀ (ls : Array Slot) (x1 : Option Nat) (x2 : Int64) (x4 : Int32) (w0 : Int32) (h : hm_T) (z : hz_T) (H : Heap) (locs : List Loc), w_Walker_withAttribute_70 dA y0 K k5 x1 x2 x4 w0 h z → lv_has ls 7 [(0, .ref y0), (1, va_rf x1), (2, .long x2), (4, .int x4)] → hm_I D s0 s h z H locs → W p l e { frames := 4, cells := 0, slots := 0, locals := 86 } s m ([.ref y0, va_rf y1] : List Value).toArray below meth c H locs 0 0 (MQ below (ht_Q D s0 (fun vv h1 z1 => ∃ v, vv = some (.long v) ∧ K v h1 z1)) ([.ref y0, va_rf y1] : List Value).toArray s 0 0 (fun q => s0.heap.size ≤ q)) (F0 m 70 ls [.int w0]) := by
    intro k5 hk5 ls x1 x2 x4 w0 h z H locs hF hl I
    unfold w_Walker_withAttribute_70 at hF
    refine lv_istore hx hb d166_70 hl (by decide) rfl (fun ls hl => ?_)
    have hl : lv_has ls 7 [(6, .int w0), (0, .ref y0), (1, va_rf x1), (2, .long x2), (4, .int x4)] := hl
    refine lv_lload_n hx hb d166_72 rfl (lv_at hl 3 rfl) ?_
    refine lv_iload hx hb d166_73 (lv_at hl 0 rfl) ?_
    refine lv_if_eq hx hb d166_75 rfl (fun h9 => ?_) (fun h9 => ?_)
    · have hF := Eq.mp (if_pos h9) hF
      refine lv_lconst (v := (0 : Int64)) hx hb d166_85 (by decide) ?_
      exact b86 k5 hk5 ls x1 x4 (0 : Int64) x2 h z _ _ hF (hl.sub [1, 2, 4] rfl) I
    · have hF := Eq.mp (if_neg h9) hF
      refine lv_lconst (v := (1 : Int64)) hx hb d166_78 (by decide) ?_
      refine lv_iload hx hb d166_79 (lv_at hl 4 rfl) ?_
      refine lv_lshl (v := ((1 : Int64) <<< (x4.toInt64 &&& 63))) hx hb d166_81 rfl ?_
      refine lv_goto hx hb d166_82 rfl ?_
      exact b86 k5 hk5 ls x1 x4 ((1 : Int64) <<< (x4.toInt64 &&& 63)) x2 h z _ _ hF (hl.sub [1, 2, 4] rfl) I
  have b69 : ∀ (k5 : Option Nat → Int64 → Int32 → hm_T → hz_T → Prop), (∀ (ls : Array Slot) (x1 : Option Nat) (x2 : Int64) (x4 : Int32) (h : hm_T) (z : hz_T) (H : Heap) (locs : List Loc), k5 x1 x2 x4 h z → lv_has ls 7 [(0, .ref y0), (1, va_rf x1), (2, .long x2), (4, .int x4)] → hm_I D s0 s h z H locs → W p l e { frames := 4, cells := 0, slots := 0, locals := 86 } s m ([.ref y0, va_rf y1] : List Value).toArray below meth c H locs 0 0 (MQ below (ht_Q D s0 (fun vv h1 z1 => ∃ v, vv = some (.long v) ∧ K v h1 z1)) ([.ref y0, va_rf y1] : List Value).toArray s 0 0 (fun q => s0.heap.size ≤ q)) (F0 m 5 ls [])) → ∀ (ls : Array Slot) (x1 : Option Nat) (x2 : Int64) (x4 : Int32) (h : hm_T) (z : hz_T) (H : Heap) (locs : List Loc), w_Walker_withAttribute_69 dA y0 K k5 x1 x2 x4 h z → lv_has ls 7 [(0, .ref y0), (1, va_rf x1), (2, .long x2), (4, .int x4)] → hm_I D s0 s h z H locs → W p l e { frames := 4, cells := 0, slots := 0, locals := 86 } s m ([.ref y0, va_rf y1] : List Value).toArray below meth c H locs 0 0 (MQ below (ht_Q D s0 (fun vv h1 z1 => ∃ v, vv = some (.long v) ∧ K v h1 z1)) ([.ref y0, va_rf y1] : List Value).toArray s 0 0 (fun q => s0.heap.size ≤ q)) (F0 m 69 ls []) := by
    intro k5 hk5 ls x1 x2 x4 h z H locs hF hl I
    unfold w_Walker_withAttribute_69 at hF
    refine lv_iconst (v := 0) hx hb d166_69 (by decide) ?_
    exact b70 k5 hk5 ls x1 x2 x4 0 h z _ _ hF (hl.sub [0, 1, 2, 3] rfl) I
  have b65 : ∀ (k5 : Option Nat → Int64 → Int32 → hm_T → hz_T → Prop), (∀ (ls : Array Slot) (x1 : Option Nat) (x2 : Int64) (x4 : Int32) (h : hm_T) (z : hz_T) (H : Heap) (locs : List Loc), k5 x1 x2 x4 h z → lv_has ls 7 [(0, .ref y0), (1, va_rf x1), (2, .long x2), (4, .int x4)] → hm_I D s0 s h z H locs → W p l e { frames := 4, cells := 0, slots := 0, locals := 86 } s m ([.ref y0, va_rf y1] : List Value).toArray below meth c H locs 0 0 (MQ below (ht_Q D s0 (fun vv h1 z1 => ∃ v, vv = some (.long v) ∧ K v h1 z1)) ([.ref y0, va_rf y1] : List Value).toArray s 0 0 (fun q => s0.heap.size ≤ q)) (F0 m 5 ls [])) → ∀ (ls : Array Slot) (x1 : Option Nat) (x2 : Int64) (x4 : Int32) (h : hm_T) (z : hz_T) (H : Heap) (locs : List Loc), w_Walker_withAttribute_65 dA y0 K k5 x1 x2 x4 h z → lv_has ls 7 [(0, .ref y0), (1, va_rf x1), (2, .long x2), (4, .int x4)] → hm_I D s0 s h z H locs → W p l e { frames := 4, cells := 0, slots := 0, locals := 86 } s m ([.ref y0, va_rf y1] : List Value).toArray below meth c H locs 0 0 (MQ below (ht_Q D s0 (fun vv h1 z1 => ∃ v, vv = some (.long v) ∧ K v h1 z1)) ([.ref y0, va_rf y1] : List Value).toArray s 0 0 (fun q => s0.heap.size ≤ q)) (F0 m 65 ls []) := by
    intro k5 hk5 ls x1 x2 x4 h z H locs hF hl I
    unfold w_Walker_withAttribute_65 at hF
    refine lv_iconst (v := 1) hx hb d166_65 (by decide) ?_
    refine lv_goto hx hb d166_66 rfl ?_
    exact b70 k5 hk5 ls x1 x2 x4 1 h z _ _ hF (hl.sub [0, 1, 2, 3] rfl) I
  have b5 : ∀ n9 : Nat, ∀ (ls : Array Slot) (x1 : Option Nat) (x2 : Int64) (x4 : Int32) (h : hm_T) (z : hz_T) (H : Heap) (locs : List Loc), w_Walker_withAttribute_5 dA y0 K n9 x1 x2 x4 h z → lv_has ls 7 [(0, .ref y0), (1, va_rf x1), (2, .long x2), (4, .int x4)] → hm_I D s0 s h z H locs → W p l e { frames := 4, cells := 0, slots := 0, locals := 86 } s m ([.ref y0, va_rf y1] : List Value).toArray below meth c H locs 0 0 (MQ below (ht_Q D s0 (fun vv h1 z1 => ∃ v, vv = some (.long v) ∧ K v h1 z1)) ([.ref y0, va_rf y1] : List Value).toArray s 0 0 (fun q => s0.heap.size ≤ q)) (F0 m 5 ls []) := by
    intro n9
    induction n9 with
    | zero => intro ls x1 x2 x4 h z H locs hF; cases hF
    | succ n9 hk5 =>
    intro ls x1 x2 x4 h z H locs hF hl I
    unfold w_Walker_withAttribute_5 at hF
    refine lv_iload hx hb d166_5 (lv_at hl 3 rfl) ?_
    refine lv_aload_n hx hb d166_7 rfl (lv_at hl 0 rfl) ?_
    obtain ⟨fs9, v21, c9, e9, hF⟩ := hF
    refine va_get (D := D) (ci := 14) (v := va_rf v21) (C := kR14) (T := kT14) (N := 1) hx hb hts ku14 hown hK (hm_one I.1 c9) 0 rfl rfl 0 (by decide) (hts _ ms_k1088) (fun _ h => h) e9 d166_8 ?_
    clear e9 c9 fs9
    obtain ⟨a22, e9, hF⟩ := hF
    refine W.eq (g2 := F0 m 11 ls [.ref a22, .int x4]) (by rw [e9]; rfl) ?_
    clear e9
    obtain ⟨fs9, v23, c9, e9, hF⟩ := hF
    refine va_get (D := D) (ci := 1) (v := .int v23) (C := kR1) (T := kT1) (N := 6) hx hb hts ku1 hown hK (hm_one I.1 c9) 0 rfl rfl 3 (by decide) (hts _ ms_k88) (fun _ h => h) e9 d166_11 ?_
    clear e9 c9 fs9
    refine lv_icmp_ge hx hb d166_14 rfl (fun h9 => ?_) (fun h9 => ?_)
    · have hF := Eq.mp (if_pos h9) hF
      refine lv_lload_n hx hb d166_94 rfl (lv_at hl 2 rfl) ?_
      exact ht_lret X d166_95 I (Nat.le_of_ble_eq_true rfl) (Nat.le_of_ble_eq_true rfl) ⟨_, rfl, hF⟩
    · have hF := Eq.mp (if_neg h9) hF
      refine lv_aload_n hx hb d166_17 rfl (lv_at hl 0 rfl) ?_
      obtain ⟨fs9, v24, c9, e9, hF⟩ := hF
      refine va_get (D := D) (ci := 14) (v := va_rf v24) (C := kR14) (T := kT14) (N := 1) hx hb hts ku14 hown hK (hm_one I.1 c9) 0 rfl rfl 0 (by decide) (hts _ ms_k1088) (fun _ h => h) e9 d166_18 ?_
      clear e9 c9 fs9
      obtain ⟨a25, e9, hF⟩ := hF
      refine W.eq (g2 := F0 m 21 ls [.ref a25]) (by rw [e9]; rfl) ?_
      clear e9
      obtain ⟨fs9, v26, c9, e9, hF⟩ := hF
      refine va_get (D := D) (ci := 1) (v := va_rf v26) (C := kR1) (T := kT1) (N := 6) hx hb hts ku1 hown hK (hm_one I.1 c9) 0 rfl rfl 2 (by decide) (hts _ ms_k84) (fun _ h => h) e9 d166_21 ?_
      clear e9 c9 fs9
      refine lv_iload hx hb d166_24 (lv_at hl 3 rfl) ?_
      obtain ⟨a27, e9, hF⟩ := hF
      refine W.eq (g2 := F0 m 26 ls [.int x4, .ref a27]) (by rw [e9]; rfl) ?_
      clear e9
      obtain ⟨n8, f8, c9, i9, hF⟩ := hF
      refine va_aldq hx hb hK (hm_one I.1 c9) 0 5 rfl rfl i9 d166_26 ?_
      generalize f8 (Int32.toNatClampNeg x4) = v28 at hF ⊢
      clear c9 i9
      refine lv_aload_nR hx hb d166_27 rfl (lv_at hl 1 rfl) ?_
      obtain ⟨a29, e9, hF⟩ := hF
      refine W.eq (g2 := F0 m 28 ls [.ref a29, va_rf v28]) (by rw [e9]; rfl) ?_
      clear e9
      obtain ⟨fs9, v30, c9, e9, hF⟩ := hF
      refine va_get (D := D) (ci := 13) (v := va_rf v30) (C := kR13) (T := kT13) (N := 8) hx hb hts ku13 hown hK (hm_one I.1 c9) 0 rfl rfl 3 (by decide) (hts _ ms_k1030) (fun _ h => h) e9 d166_28 ?_
      clear e9 c9 fs9
      obtain ⟨a31, e9, hF⟩ := hF
      refine W.eq (g2 := F0 m 31 ls [va_rf v30, .ref a31]) (by rw [e9]; rfl) ?_
      clear e9
      obtain ⟨fs9, c9, hF⟩ := hF
      refine ht_V (C := "MarkupStore$Node") (rest := []) (as := [va_rf v30]) X hl (cw_Node_attributeNamed l D dA s0 hE a31 v30 h z _ hF) (List.forall_mem_cons.mpr ⟨ms_k1113, List.forall_mem_cons.mpr ⟨ms_k591, List.forall_mem_cons.mpr ⟨ms_k592, List.forall_mem_cons.mpr ⟨ms_k19, List.forall_mem_cons.mpr ⟨ms_k593, fun _ h => absurd h List.not_mem_nil⟩⟩⟩⟩⟩) ⟨rfl, by decide +kernel, by decide +kernel, (by decide +kernel : (parseMethodDescriptor "(Ljava/lang/String;)LMarkupStore$Attribute;").map (fun d => d.parameters.length) = some 1)⟩ (hm_recv hK I rfl c9) I ⟨rfl, rfl⟩ ⟨⟨Nat.le_of_ble_eq_true rfl, Nat.le_of_ble_eq_true rfl⟩, Nat.le_of_ble_eq_true rfl, Nat.le_of_ble_eq_true rfl⟩ rfl (Nat.le_of_ble_eq_true rfl) d166_31 (fun vv h33 z34 H locs hR I9 => ?_)
      obtain ⟨v32, e1, hF⟩ := hR
      subst e1
      clear I
      have I := I9
      clear I9 c9 fs9
      refine W.eq (g2 := F0 m 34 ls [va_rf v32]) rfl ?_
      refine lv_astoreR hx hb d166_34 hl (by decide) rfl (fun ls hl => ?_)
      have hl : lv_has ls 7 [(5, va_rf v32), (0, .ref y0), (1, va_rf x1), (2, .long x2), (4, .int x4)] := hl
      refine lv_aloadR hx hb d166_36 (lv_at hl 0 rfl) ?_
      refine lv_ifnullR hx hb d166_38 rfl (fun h9 => ?_) (fun h9 => ?_)
      · have hF := Eq.mp (if_pos h9) hF
        exact b69 (w_Walker_withAttribute_5 dA y0 K n9) hk5 ls x1 x2 x4 h33 z34 _ _ hF (hl.sub [1, 2, 3, 4] rfl) I
      · have hF := Eq.mp (if_neg h9) hF
        refine lv_aload_nR hx hb d166_41 rfl (lv_at hl 2 rfl) ?_
        obtain ⟨a35, e9, hF⟩ := hF
        refine W.eq (g2 := F0 m 42 ls [.ref a35]) (by rw [e9]; rfl) ?_
        clear e9
        obtain ⟨fs9, v36, c9, e9, hF⟩ := hF
        refine va_get (D := D) (ci := 13) (v := .int v36) (C := kR13) (T := kT13) (N := 8) hx hb hts ku13 hown hK (hm_one I.1 c9) 0 rfl rfl 5 (by decide) (hts _ ms_k1036) (fun _ h => h) e9 d166_42 ?_
        clear e9 c9 fs9
        refine lv_bipush (v := 32) hx hb d166_45 (by decide) ?_
        refine lv_icmp_eq hx hb d166_47 rfl (fun h9 => ?_) (fun h9 => ?_)
        · have hF := Eq.mp (if_pos h9) hF
          exact b65 (w_Walker_withAttribute_5 dA y0 K n9) hk5 ls x1 x2 x4 h33 z34 _ _ hF (hl.sub [1, 2, 3, 4] rfl) I
        · have hF := Eq.mp (if_neg h9) hF
          refine lv_aloadR hx hb d166_50 (lv_at hl 0 rfl) ?_
          obtain ⟨a37, e9, hF⟩ := hF
          refine W.eq (g2 := F0 m 52 ls [.ref a37]) (by rw [e9]; rfl) ?_
          clear e9
          obtain ⟨fs9, c9, hF⟩ := hF
          refine ht_V (C := "MarkupStore$Attribute") (rest := []) (as := []) X hl (cw_Attribute_value l D dA s0 hE a37 h33 z34 _ hF) (List.forall_mem_cons.mpr ⟨ms_k1114, List.forall_mem_cons.mpr ⟨ms_k1115, List.forall_mem_cons.mpr ⟨ms_k1116, List.forall_mem_cons.mpr ⟨ms_k22, List.forall_mem_cons.mpr ⟨ms_k1117, fun _ h => absurd h List.not_mem_nil⟩⟩⟩⟩⟩) ⟨rfl, by decide +kernel, by decide +kernel, (by decide +kernel : (parseMethodDescriptor "()Ljava/lang/String;").map (fun d => d.parameters.length) = some 0)⟩ (hm_recv hK I rfl c9) I ⟨rfl, rfl⟩ ⟨⟨Nat.le_of_ble_eq_true rfl, Nat.le_of_ble_eq_true rfl⟩, Nat.le_of_ble_eq_true rfl, Nat.le_of_ble_eq_true rfl⟩ rfl (Nat.le_of_ble_eq_true rfl) d166_52 (fun vv h39 z40 H locs hR I9 => ?_)
          obtain ⟨v38, e1, hF⟩ := hR
          subst e1
          clear I
          have I := I9
          clear I9 c9 fs9
          refine W.eq (g2 := F0 m 55 ls [va_rf v38]) rfl ?_
          refine lv_aload_nR hx hb d166_55 rfl (lv_at hl 2 rfl) ?_
          obtain ⟨a41, e9, hF⟩ := hF
          refine W.eq (g2 := F0 m 56 ls [.ref a41, va_rf v38]) (by rw [e9]; rfl) ?_
          clear e9
          obtain ⟨fs9, v42, c9, e9, hF⟩ := hF
          refine va_get (D := D) (ci := 13) (v := va_rf v42) (C := kR13) (T := kT13) (N := 8) hx hb hts ku13 hown hK (hm_one I.1 c9) 0 rfl rfl 6 (by decide) (hts _ ms_k1039) (fun _ h => h) e9 d166_56 ?_
          clear e9 c9 fs9
          obtain ⟨a43, e9, hF⟩ := hF
          refine W.eq (g2 := F0 m 59 ls [va_rf v42, .ref a43]) (by rw [e9]; rfl) ?_
          clear e9
          obtain ⟨a44, e9, hF⟩ := hF
          refine W.eq (g2 := F0 m 59 ls [.ref a44, .ref a43]) (by rw [e9]; rfl) ?_
          clear e9
          obtain ⟨u9, xs9, u8, ys9, z9, z8, p1, p2, p3, p4, hF⟩ := hF
          refine ht_V (C := "java/lang/String") (rest := []) (as := [.ref a44]) X hl (c_Seq l D dA s0 hE a43 u9 xs9 a44 u8 ys9 p1 p2 p3 p4) (List.forall_mem_cons.mpr ⟨ms_k1118, List.forall_mem_cons.mpr ⟨ms_k616, List.forall_mem_cons.mpr ⟨ms_k617, List.forall_mem_cons.mpr ⟨ms_k4, List.forall_mem_cons.mpr ⟨ms_k618, fun _ h => absurd h List.not_mem_nil⟩⟩⟩⟩⟩) ⟨rfl, by decide +kernel, by decide +kernel, (by decide +kernel : (parseMethodDescriptor "(Ljava/lang/Object;)Z").map (fun d => d.parameters.length) = some 1)⟩ (hz_recv I z9) I ⟨z9, z8⟩ ⟨⟨Nat.le_of_ble_eq_true rfl, Nat.le_of_ble_eq_true rfl⟩, Nat.le_of_ble_eq_true rfl, Nat.le_of_ble_eq_true rfl⟩ rfl (Nat.le_of_ble_eq_true rfl) d166_59 (fun vv h9 z7 H locs hR I9 => ?_)
          obtain ⟨e1, e2, e3⟩ := hR
          rw [e2, e3] at I9
          subst e1
          clear I
          have I := I9
          clear I9 e2 e3 h9 z7
          refine W.eq (g2 := F0 m 62 ls [.int (if xs9 = ys9 then 1 else 0)]) rfl ?_
          generalize (if xs9 = ys9 then 1 else 0) = v45 at hF ⊢
          refine lv_if_eq hx hb d166_62 rfl (fun h9 => ?_) (fun h9 => ?_)
          · have hF := Eq.mp (if_pos h9) hF
            exact b69 (w_Walker_withAttribute_5 dA y0 K n9) hk5 ls x1 x2 x4 h39 z40 _ _ hF (hl.sub [1, 2, 3, 4] rfl) I
          · have hF := Eq.mp (if_neg h9) hF
            exact b65 (w_Walker_withAttribute_5 dA y0 K n9) hk5 ls x1 x2 x4 h39 z40 _ _ hF (hl.sub [1, 2, 3, 4] rfl) I
  have hF := hg
  unfold w_Walker_withAttribute at hF
  clear h z
  refine lv_lconst (v := (0 : Int64)) hx hb d166_0 (by decide) ?_
  refine lv_lstore_n (i := 2) hx hb d166_1 rfl hl (by decide) (show _ = [(2, .long (0 : Int64)), (0, .ref y0), (1, va_rf y1)] by simp [cat_rf, cat_int, cat_ref, cat_null, cat_long]) (fun ls hl => ?_)
  have hl : lv_has ls 7 [(2, .long (0 : Int64)), (0, .ref y0), (1, va_rf y1)] := hl
  refine lv_iconst (v := 0) hx hb d166_2 (by decide) ?_
  refine lv_istore hx hb d166_3 hl (by decide) rfl (fun ls hl => ?_)
  have hl : lv_has ls 7 [(4, .int 0), (2, .long (0 : Int64)), (0, .ref y0), (1, va_rf y1)] := hl
  exact b5 mF ls y1 (0 : Int64) 0 h0 z0 _ _ hF (hl.sub [2, 3, 1, 0] rfl) I

def w_Walker_stringValueFits_142 (dA : Nat → ClassId) (y0 : Nat) (K : Int32 → hm_T → hz_T → Prop) (k24 : Option Nat → Option Nat → Option Nat → Int32 → Int32 → Int32 → hm_T → hz_T → Prop) (x1 : Option Nat) (x2 : Option Nat) (x3 : Option Nat) (x4 : Int32) (x5 : Int32) (x6 : Int32) (h : hm_T) (z : hz_T) : Prop := (k24 x1 x2 x3 x4 x5 (x6 + 1) h z)
def w_Walker_stringValueFits_70 (dA : Nat → ClassId) (y0 : Nat) (K : Int32 → hm_T → hz_T → Prop) (k24 : Option Nat → Option Nat → Option Nat → Int32 → Int32 → Int32 → hm_T → hz_T → Prop) : Nat → Option Nat → Option Nat → Option Nat → Int32 → Int32 → Int32 → Option Nat → Int32 → Int32 → hm_T → hz_T → Prop
  | 0, _, _, _, _, _, _, _, _, _, _, _ => False
  | n9 + 1, x1, x2, x3, x4, x5, x6, x7, x8, x9, h, z => (if x8 = 0 then (w_Walker_stringValueFits_142 dA y0 K k24 x1 x2 x3 x4 x5 x6 h z) else (cg_d x7 (fun a39 => (cg_R h 8 7 a39 (fun v40 => (cg_d v40 (fun a41 => (jd_len z a41 (fun v42 => (if v42 ≤ x9 then (w_Walker_stringValueFits_142 dA y0 K k24 x1 x2 x3 x4 x5 x6 h z) else (cg_d x3 (fun a43 => (jd_len z a43 (fun v44 => (if x4 = v44 then (cg_d x2 (fun a51 => (cg_I h 13 5 a51 (fun v52 => (if v52 = 126 then (K 1 h z) else (K 0 h z)))))) else (cg_d x7 (fun a45 => (cg_R h 8 7 a45 (fun v46 => (cg_d v46 (fun a47 => (jd_at z a47 x9 (fun v48 => (cg_d x3 (fun a49 => (jd_at z a49 x4 (fun v50 => (if v48 = v50 then ((w_Walker_stringValueFits_70 dA y0 K k24 n9) x1 x2 x3 (x4 + 1) x5 x6 x7 x8 (x9 + 1) h z) else (K 0 h z)))))))))))))))))))))))))))))
def w_Walker_stringValueFits_65 (dA : Nat → ClassId) (y0 : Nat) (K : Int32 → hm_T → hz_T → Prop) (k24 : Option Nat → Option Nat → Option Nat → Int32 → Int32 → Int32 → hm_T → hz_T → Prop) (x1 : Option Nat) (x2 : Option Nat) (x3 : Option Nat) (x4 : Int32) (x5 : Int32) (x6 : Int32) (x7 : Option Nat) (w0 : Int32) (h : hm_T) (z : hz_T) : Prop := (w_Walker_stringValueFits_70 dA y0 K k24 mF x1 x2 x3 x4 x5 x6 x7 w0 0 h z)
def w_Walker_stringValueFits_60 (dA : Nat → ClassId) (y0 : Nat) (K : Int32 → hm_T → hz_T → Prop) (k24 : Option Nat → Option Nat → Option Nat → Int32 → Int32 → Int32 → hm_T → hz_T → Prop) (x1 : Option Nat) (x2 : Option Nat) (x3 : Option Nat) (x4 : Int32) (x5 : Int32) (x6 : Int32) (x7 : Option Nat) (h : hm_T) (z : hz_T) : Prop := (w_Walker_stringValueFits_65 dA y0 K k24 x1 x2 x3 x4 x5 x6 x7 1 h z)
def w_Walker_stringValueFits_24 (dA : Nat → ClassId) (y0 : Nat) (K : Int32 → hm_T → hz_T → Prop) : Nat → Option Nat → Option Nat → Option Nat → Int32 → Int32 → Int32 → hm_T → hz_T → Prop
  | 0, _, _, _, _, _, _, _, _ => False
  | n9 + 1, x1, x2, x3, x4, x5, x6, h, z => (if x5 ≤ x6 then (cg_d x3 (fun a30 => (jd_len z a30 (fun v31 => (if x4 = v31 then (K 1 h z) else (K 0 h z)))))) else (cg_R h 14 0 y0 (fun v32 => (cg_d v32 (fun a33 => (cg_R h 1 2 a33 (fun v34 => (cg_d v34 (fun a35 => (cg_ar dA h 5 a35 x6 (fun v36 => (cg_d v36 (fun a37 => (cg_I h 8 0 a37 (fun v38 => (if v38 = 2 then (w_Walker_stringValueFits_60 dA y0 K (w_Walker_stringValueFits_24 dA y0 K n9) x1 x2 x3 x4 x5 x6 v36 h z) else (cg_d x1 (fun a53 => (cg_I h 8 0 a53 (fun v54 => (if v54 = 3 then (w_Walker_stringValueFits_60 dA y0 K (w_Walker_stringValueFits_24 dA y0 K n9) x1 x2 x3 x4 x5 x6 v36 h z) else (w_Walker_stringValueFits_65 dA y0 K (w_Walker_stringValueFits_24 dA y0 K n9) x1 x2 x3 x4 x5 x6 v36 0 h z))))))))))))))))))))))
def w_Walker_stringValueFits (dA : Nat → ClassId) (y0 : Nat) (y1 : Option Nat) (y2 : Option Nat) (K : Int32 → hm_T → hz_T → Prop) (h0 : hm_T) (z0 : hz_T) : Prop := (cg_d y2 (fun a21 => (cg_R h0 13 6 a21 (fun v22 => (cg_R h0 14 0 y0 (fun v23 => (cg_d v23 (fun a24 => (cg_c h0 1 a24 ((w_Tree_endOf dA a24 y1 (fun v25 h26 z27 => (cg_d y1 (fun a28 => (cg_I h26 8 6 a28 (fun v29 => (w_Walker_stringValueFits_24 dA y0 K mF y1 y2 v22 0 v25 v29 h26 z27)))))) h0 z0)))))))))))
set_option maxRecDepth 100000 in
set_option maxHeartbeats 8000000 in
theorem cw_Walker_stringValueFits (l : Launch) (D : va_G) (dA : Nat → ClassId) (s0 : State) (hE : ms_EV D dA s0) (y0 : Nat) (y1 : Option Nat) (y2 : Option Nat) (h0 : hm_T) (z0 : hz_T) (K : Int32 → hm_T → hz_T → Prop) (hg : w_Walker_stringValueFits dA y0 y1 y2 K h0 z0) : ht_C l D s0 yM167 bM167 10 (Option.some Jvm.ClassFile.FieldType.boolean) 4 85 0 0 [.ref y0, va_rf y1, va_rf y2] (fun h z => h = h0 ∧ z = z0) (fun h z vv h1 z1 => ∃ v, vv = some (.int v) ∧ K v h1 z1) := by
  refine ht_C.mk hE.1 (by decide) (by simp [lg_sl, cat_rf, cat_int, cat_ref, cat_null, cat_long]) [(0, .ref y0), (1, va_rf y1), (2, va_rf y2)] (by simp [lv_args, cat_rf, cat_int, cat_ref, cat_null, cat_long]) ?_
  intro p e s m below meth c ls h z X hin hpre I hl
  have hx := X.1
  have hb := X.2.1
  have hml := X.2.2.1
  have hown : s.vm.findClass "MarkupStore$Walker" = some m.cls := X.2.2.2.1
  have hts := X.2.2.2.2.2.2.1
  have hK := X.2.2.2.2.2.2.2.2.1
  rw [hpre.1, hpre.2] at I
  clear hpre
  have b142 : ∀ (k24 : Option Nat → Option Nat → Option Nat → Int32 → Int32 → Int32 → hm_T → hz_T → Prop), (∀ (ls : Array Slot) (x1 : Option Nat) (x2 : Option Nat) (x3 : Option Nat) (x4 : Int32) (x5 : Int32) (x6 : Int32) (h : hm_T) (z : hz_T) (H : Heap) (locs : List Loc), k24 x1 x2 x3 x4 x5 x6 h z → lv_has ls 10 [(0, .ref y0), (1, va_rf x1), (2, va_rf x2), (3, va_rf x3), (4, .int x4), (5, .int x5), (6, .int x6)] → hm_I D s0 s h z H locs → W p l e { frames := 4, cells := 0, slots := 0, locals := 85 } s m ([.ref y0, va_rf y1, va_rf y2] : List Value).toArray below meth c H locs 0 0 (MQ below (ht_Q D s0 (fun vv h1 z1 => ∃ v, vv = some (.int v) ∧ K v h1 z1)) ([.ref y0, va_rf y1, va_rf y2] : List Value).toArray s 0 0 (fun q => s0.heap.size ≤ q)) (F0 m 24 ls [])) → ∀ (ls : Array Slot) (x1 : Option Nat) (x2 : Option Nat) (x3 : Option Nat) (x4 : Int32) (x5 : Int32) (x6 : Int32) (h : hm_T) (z : hz_T) (H : Heap) (locs : List Loc), w_Walker_stringValueFits_142 dA y0 K k24 x1 x2 x3 x4 x5 x6 h z → lv_has ls 10 [(0, .ref y0), (1, va_rf x1), (2, va_rf x2), (3, va_rf x3), (4, .int x4), (5, .int x5), (6, .int x6)] → hm_I D s0 s h z H locs → W p l e { frames := 4, cells := 0, slots := 0, locals := 85 } s m ([.ref y0, va_rf y1, va_rf y2] : List Value).toArray below meth c H locs 0 0 (MQ below (ht_Q D s0 (fun vv h1 z1 => ∃ v, vv = some (.int v) ∧ K v h1 z1)) ([.ref y0, va_rf y1, va_rf y2] : List Value).toArray s 0 0 (fun q => s0.heap.size ≤ q)) (F0 m 142 ls []) := by
    intro k24 hk24 ls x1 x2 x3 x4 x5 x6 h z H locs hF hl I
    unfold w_Walker_stringValueFits_142 at hF
    refine lv_iinc (k := 6) (v := (x6 + 1)) hx hb d167_142 hl rfl (rfl) (by decide) rfl (fun ls hl => ?_)
    have hl : lv_has ls 10 [(6, .int (x6 + 1)), (0, .ref y0), (1, va_rf x1), (2, va_rf x2), (3, va_rf x3), (4, .int x4), (5, .int x5)] := hl
    refine lv_goto hx hb d167_145 rfl ?_
    exact hk24 ls x1 x2 x3 x4 x5 (x6 + 1) h z _ _ hF (hl.sub [1, 2, 3, 4, 5, 6, 0] rfl) I
  have b70 : ∀ (k24 : Option Nat → Option Nat → Option Nat → Int32 → Int32 → Int32 → hm_T → hz_T → Prop), (∀ (ls : Array Slot) (x1 : Option Nat) (x2 : Option Nat) (x3 : Option Nat) (x4 : Int32) (x5 : Int32) (x6 : Int32) (h : hm_T) (z : hz_T) (H : Heap) (locs : List Loc), k24 x1 x2 x3 x4 x5 x6 h z → lv_has ls 10 [(0, .ref y0), (1, va_rf x1), (2, va_rf x2), (3, va_rf x3), (4, .int x4), (5, .int x5), (6, .int x6)] → hm_I D s0 s h z H locs → W p l e { frames := 4, cells := 0, slots := 0, locals := 85 } s m ([.ref y0, va_rf y1, va_rf y2] : List Value).toArray below meth c H locs 0 0 (MQ below (ht_Q D s0 (fun vv h1 z1 => ∃ v, vv = some (.int v) ∧ K v h1 z1)) ([.ref y0, va_rf y1, va_rf y2] : List Value).toArray s 0 0 (fun q => s0.heap.size ≤ q)) (F0 m 24 ls [])) → ∀ n9 : Nat, ∀ (ls : Array Slot) (x1 : Option Nat) (x2 : Option Nat) (x3 : Option Nat) (x4 : Int32) (x5 : Int32) (x6 : Int32) (x7 : Option Nat) (x8 : Int32) (x9 : Int32) (h : hm_T) (z : hz_T) (H : Heap) (locs : List Loc), w_Walker_stringValueFits_70 dA y0 K k24 n9 x1 x2 x3 x4 x5 x6 x7 x8 x9 h z → lv_has ls 10 [(0, .ref y0), (1, va_rf x1), (2, va_rf x2), (3, va_rf x3), (4, .int x4), (5, .int x5), (6, .int x6), (7, va_rf x7), (8, .int x8), (9, .int x9)] → hm_I D s0 s h z H locs → W p l e { frames := 4, cells := 0, slots := 0, locals := 85 } s m ([.ref y0, va_rf y1, va_rf y2] : List Value).toArray below meth c H locs 0 0 (MQ below (ht_Q D s0 (fun vv h1 z1 => ∃ v, vv = some (.int v) ∧ K v h1 z1)) ([.ref y0, va_rf y1, va_rf y2] : List Value).toArray s 0 0 (fun q => s0.heap.size ≤ q)) (F0 m 70 ls []) := by
    intro k24 hk24 n9
    induction n9 with
    | zero => intro ls x1 x2 x3 x4 x5 x6 x7 x8 x9 h z H locs hF; cases hF
    | succ n9 hk70 =>
    intro ls x1 x2 x3 x4 x5 x6 x7 x8 x9 h z H locs hF hl I
    unfold w_Walker_stringValueFits_70 at hF
    refine lv_iload hx hb d167_70 (lv_at hl 8 rfl) ?_
    refine lv_if_eq hx hb d167_72 rfl (fun h9 => ?_) (fun h9 => ?_)
    · have hF := Eq.mp (if_pos h9) hF
      exact b142 k24 hk24 ls x1 x2 x3 x4 x5 x6 h z _ _ hF (hl.sub [0, 1, 2, 3, 4, 5, 6] rfl) I
    · have hF := Eq.mp (if_neg h9) hF
      refine lv_iload hx hb d167_75 (lv_at hl 9 rfl) ?_
      refine lv_aloadR hx hb d167_77 (lv_at hl 7 rfl) ?_
      obtain ⟨a39, e9, hF⟩ := hF
      refine W.eq (g2 := F0 m 79 ls [.ref a39, .int x9]) (by rw [e9]; rfl) ?_
      clear e9
      obtain ⟨fs9, v40, c9, e9, hF⟩ := hF
      refine va_get (D := D) (ci := 8) (v := va_rf v40) (C := kR8) (T := kT8) (N := 9) hx hb hts ku8 hown hK (hm_one I.1 c9) 0 rfl rfl 7 (by decide) (hts _ ms_k471) (fun _ h => h) e9 d167_79 ?_
      clear e9 c9 fs9
      obtain ⟨a41, e9, hF⟩ := hF
      refine W.eq (g2 := F0 m 82 ls [.ref a41, .int x9]) (by rw [e9]; rfl) ?_
      clear e9
      obtain ⟨u9, xs9, z9, hF⟩ := hF
      refine ht_V (C := "java/lang/String") (rest := [.int x9]) (as := []) X hl (c_Slen l D dA s0 hE a41 u9 xs9) (List.forall_mem_cons.mpr ⟨ms_k1132, List.forall_mem_cons.mpr ⟨ms_k391, List.forall_mem_cons.mpr ⟨ms_k392, List.forall_mem_cons.mpr ⟨ms_k4, List.forall_mem_cons.mpr ⟨ms_k393, fun _ h => absurd h List.not_mem_nil⟩⟩⟩⟩⟩) ⟨rfl, by decide +kernel, by decide +kernel, (by decide +kernel : (parseMethodDescriptor "()I").map (fun d => d.parameters.length) = some 0)⟩ (hz_recv I z9) I z9 ⟨⟨Nat.le_of_ble_eq_true rfl, Nat.le_of_ble_eq_true rfl⟩, Nat.le_of_ble_eq_true rfl, Nat.le_of_ble_eq_true rfl⟩ rfl (Nat.le_of_ble_eq_true rfl) d167_82 (fun vv h9 z7 H locs hR I9 => ?_)
      obtain ⟨e1, e2, e3⟩ := hR
      rw [e2, e3] at I9
      subst e1
      clear I
      have I := I9
      clear I9 e2 e3 h9 z7
      refine W.eq (g2 := F0 m 85 ls [.int (nI xs9.length), .int x9]) rfl ?_
      generalize (nI xs9.length) = v42 at hF ⊢
      refine lv_icmp_ge hx hb d167_85 rfl (fun h9 => ?_) (fun h9 => ?_)
      · have hF := Eq.mp (if_pos h9) hF
        exact b142 k24 hk24 ls x1 x2 x3 x4 x5 x6 h z _ _ hF (hl.sub [0, 1, 2, 3, 4, 5, 6] rfl) I
      · have hF := Eq.mp (if_neg h9) hF
        refine lv_iload hx hb d167_88 (lv_at hl 4 rfl) ?_
        refine lv_aload_nR hx hb d167_90 rfl (lv_at hl 3 rfl) ?_
        obtain ⟨a43, e9, hF⟩ := hF
        refine W.eq (g2 := F0 m 91 ls [.ref a43, .int x4]) (by rw [e9]; rfl) ?_
        clear e9
        obtain ⟨u9, xs9, z9, hF⟩ := hF
        refine ht_V (C := "java/lang/String") (rest := [.int x4]) (as := []) X hl (c_Slen l D dA s0 hE a43 u9 xs9) (List.forall_mem_cons.mpr ⟨ms_k1132, List.forall_mem_cons.mpr ⟨ms_k391, List.forall_mem_cons.mpr ⟨ms_k392, List.forall_mem_cons.mpr ⟨ms_k4, List.forall_mem_cons.mpr ⟨ms_k393, fun _ h => absurd h List.not_mem_nil⟩⟩⟩⟩⟩) ⟨rfl, by decide +kernel, by decide +kernel, (by decide +kernel : (parseMethodDescriptor "()I").map (fun d => d.parameters.length) = some 0)⟩ (hz_recv I z9) I z9 ⟨⟨Nat.le_of_ble_eq_true rfl, Nat.le_of_ble_eq_true rfl⟩, Nat.le_of_ble_eq_true rfl, Nat.le_of_ble_eq_true rfl⟩ rfl (Nat.le_of_ble_eq_true rfl) d167_91 (fun vv h9 z7 H locs hR I9 => ?_)
        obtain ⟨e1, e2, e3⟩ := hR
        rw [e2, e3] at I9
        subst e1
        clear I
        have I := I9
        clear I9 e2 e3 h9 z7
        refine W.eq (g2 := F0 m 94 ls [.int (nI xs9.length), .int x4]) rfl ?_
        generalize (nI xs9.length) = v44 at hF ⊢
        refine lv_icmp_ne hx hb d167_94 rfl (fun h9 => ?_) (fun h9 => ?_)
        · have hF := Eq.mp (if_neg h9) hF
          refine lv_aloadR hx hb d167_112 (lv_at hl 7 rfl) ?_
          obtain ⟨a45, e9, hF⟩ := hF
          refine W.eq (g2 := F0 m 114 ls [.ref a45]) (by rw [e9]; rfl) ?_
          clear e9
          obtain ⟨fs9, v46, c9, e9, hF⟩ := hF
          refine va_get (D := D) (ci := 8) (v := va_rf v46) (C := kR8) (T := kT8) (N := 9) hx hb hts ku8 hown hK (hm_one I.1 c9) 0 rfl rfl 7 (by decide) (hts _ ms_k471) (fun _ h => h) e9 d167_114 ?_
          clear e9 c9 fs9
          refine lv_iload hx hb d167_117 (lv_at hl 9 rfl) ?_
          obtain ⟨a47, e9, hF⟩ := hF
          refine W.eq (g2 := F0 m 119 ls [.int x9, .ref a47]) (by rw [e9]; rfl) ?_
          clear e9
          obtain ⟨u9, xs9, j9, z9, e8, p1, p2, p3, hF⟩ := hF
          refine ms_top (y := nI j9) e8 ?_
          refine ht_V (C := "java/lang/String") (rest := []) (as := [.int (nI j9)]) X hl (c_SchAt l D dA s0 hE a47 u9 xs9 j9 p1 p2 p3) (List.forall_mem_cons.mpr ⟨ms_k1133, List.forall_mem_cons.mpr ⟨ms_k399, List.forall_mem_cons.mpr ⟨ms_k400, List.forall_mem_cons.mpr ⟨ms_k4, List.forall_mem_cons.mpr ⟨ms_k401, fun _ h => absurd h List.not_mem_nil⟩⟩⟩⟩⟩) ⟨rfl, by decide +kernel, by decide +kernel, (by decide +kernel : (parseMethodDescriptor "(I)C").map (fun d => d.parameters.length) = some 1)⟩ (hz_recv I z9) I z9 ⟨⟨Nat.le_of_ble_eq_true rfl, Nat.le_of_ble_eq_true rfl⟩, Nat.le_of_ble_eq_true rfl, Nat.le_of_ble_eq_true rfl⟩ rfl (Nat.le_of_ble_eq_true rfl) d167_119 (fun vv h9 z7 H locs hR I9 => ?_)
          obtain ⟨e1, e2, e3⟩ := hR
          rw [e2, e3] at I9
          subst e1
          clear I
          have I := I9
          clear I9 e2 e3 h9 z7
          refine W.eq (g2 := F0 m 122 ls [.int (nI (xs9.getD j9 0))]) rfl ?_
          generalize (nI (xs9.getD j9 0)) = v48 at hF ⊢
          refine lv_aload_nR hx hb d167_122 rfl (lv_at hl 3 rfl) ?_
          refine lv_iload hx hb d167_123 (lv_at hl 4 rfl) ?_
          obtain ⟨a49, e9, hF⟩ := hF
          refine W.eq (g2 := F0 m 125 ls [.int x4, .ref a49, .int v48]) (by rw [e9]; rfl) ?_
          clear e9
          obtain ⟨u9, xs9, j9, z9, e8, p1, p2, p3, hF⟩ := hF
          refine ms_top (y := nI j9) e8 ?_
          refine ht_V (C := "java/lang/String") (rest := [.int v48]) (as := [.int (nI j9)]) X hl (c_SchAt l D dA s0 hE a49 u9 xs9 j9 p1 p2 p3) (List.forall_mem_cons.mpr ⟨ms_k1133, List.forall_mem_cons.mpr ⟨ms_k399, List.forall_mem_cons.mpr ⟨ms_k400, List.forall_mem_cons.mpr ⟨ms_k4, List.forall_mem_cons.mpr ⟨ms_k401, fun _ h => absurd h List.not_mem_nil⟩⟩⟩⟩⟩) ⟨rfl, by decide +kernel, by decide +kernel, (by decide +kernel : (parseMethodDescriptor "(I)C").map (fun d => d.parameters.length) = some 1)⟩ (hz_recv I z9) I z9 ⟨⟨Nat.le_of_ble_eq_true rfl, Nat.le_of_ble_eq_true rfl⟩, Nat.le_of_ble_eq_true rfl, Nat.le_of_ble_eq_true rfl⟩ rfl (Nat.le_of_ble_eq_true rfl) d167_125 (fun vv h9 z7 H locs hR I9 => ?_)
          obtain ⟨e1, e2, e3⟩ := hR
          rw [e2, e3] at I9
          subst e1
          clear I
          have I := I9
          clear I9 e2 e3 h9 z7
          refine W.eq (g2 := F0 m 128 ls [.int (nI (xs9.getD j9 0)), .int v48]) rfl ?_
          generalize (nI (xs9.getD j9 0)) = v50 at hF ⊢
          refine lv_icmp_eq hx hb d167_128 rfl (fun h9 => ?_) (fun h9 => ?_)
          · have hF := Eq.mp (if_pos h9) hF
            refine lv_iinc (k := 4) (v := (x4 + 1)) hx hb d167_133 hl rfl (rfl) (by decide) (show _ = [(4, .int (x4 + 1)), (0, .ref y0), (1, va_rf x1), (2, va_rf x2), (3, va_rf x3), (5, .int x5), (6, .int x6), (7, va_rf x7), (8, .int x8), (9, .int x9)] by simp [cat_rf, cat_int, cat_ref, cat_null, cat_long]) (fun ls hl => ?_)
            have hl : lv_has ls 10 [(4, .int (x4 + 1)), (0, .ref y0), (1, va_rf x1), (2, va_rf x2), (3, va_rf x3), (5, .int x5), (6, .int x6), (7, va_rf x7), (8, .int x8), (9, .int x9)] := hl
            refine lv_iinc (k := 9) (v := (x9 + 1)) hx hb d167_136 hl rfl (rfl) (by decide) rfl (fun ls hl => ?_)
            have hl : lv_has ls 10 [(9, .int (x9 + 1)), (4, .int (x4 + 1)), (0, .ref y0), (1, va_rf x1), (2, va_rf x2), (3, va_rf x3), (5, .int x5), (6, .int x6), (7, va_rf x7), (8, .int x8)] := hl
            refine lv_goto hx hb d167_139 rfl ?_
            exact hk70 ls x1 x2 x3 (x4 + 1) x5 x6 x7 x8 (x9 + 1) h z _ _ hF (hl.sub [2, 3, 4, 5, 1, 6, 7, 8, 9, 0] rfl) I
          · have hF := Eq.mp (if_neg h9) hF
            refine lv_iconst (v := 0) hx hb d167_131 (by decide) ?_
            exact ht_zret X d167_132 I (Nat.le_of_ble_eq_true rfl) (Nat.le_of_ble_eq_true rfl) ⟨_, rfl, hF⟩ rfl
        · have hF := Eq.mp (if_pos h9) hF
          refine lv_aload_nR hx hb d167_97 rfl (lv_at hl 2 rfl) ?_
          obtain ⟨a51, e9, hF⟩ := hF
          refine W.eq (g2 := F0 m 98 ls [.ref a51]) (by rw [e9]; rfl) ?_
          clear e9
          obtain ⟨fs9, v52, c9, e9, hF⟩ := hF
          refine va_get (D := D) (ci := 13) (v := .int v52) (C := kR13) (T := kT13) (N := 8) hx hb hts ku13 hown hK (hm_one I.1 c9) 0 rfl rfl 5 (by decide) (hts _ ms_k1036) (fun _ h => h) e9 d167_98 ?_
          clear e9 c9 fs9
          refine lv_bipush (v := 126) hx hb d167_101 (by decide) ?_
          refine lv_icmp_ne hx hb d167_103 rfl (fun h9 => ?_) (fun h9 => ?_)
          · have hF := Eq.mp (if_neg h9) hF
            refine lv_iconst (v := 0) hx hb d167_110 (by decide) ?_
            exact ht_zret X d167_111 I (Nat.le_of_ble_eq_true rfl) (Nat.le_of_ble_eq_true rfl) ⟨_, rfl, hF⟩ rfl
          · have hF := Eq.mp (if_pos h9) hF
            refine lv_iconst (v := 1) hx hb d167_106 (by decide) ?_
            refine lv_goto hx hb d167_107 rfl ?_
            exact ht_zret X d167_111 I (Nat.le_of_ble_eq_true rfl) (Nat.le_of_ble_eq_true rfl) ⟨_, rfl, hF⟩ rfl
  have b65 : ∀ (k24 : Option Nat → Option Nat → Option Nat → Int32 → Int32 → Int32 → hm_T → hz_T → Prop), (∀ (ls : Array Slot) (x1 : Option Nat) (x2 : Option Nat) (x3 : Option Nat) (x4 : Int32) (x5 : Int32) (x6 : Int32) (h : hm_T) (z : hz_T) (H : Heap) (locs : List Loc), k24 x1 x2 x3 x4 x5 x6 h z → lv_has ls 10 [(0, .ref y0), (1, va_rf x1), (2, va_rf x2), (3, va_rf x3), (4, .int x4), (5, .int x5), (6, .int x6)] → hm_I D s0 s h z H locs → W p l e { frames := 4, cells := 0, slots := 0, locals := 85 } s m ([.ref y0, va_rf y1, va_rf y2] : List Value).toArray below meth c H locs 0 0 (MQ below (ht_Q D s0 (fun vv h1 z1 => ∃ v, vv = some (.int v) ∧ K v h1 z1)) ([.ref y0, va_rf y1, va_rf y2] : List Value).toArray s 0 0 (fun q => s0.heap.size ≤ q)) (F0 m 24 ls [])) → ∀ (ls : Array Slot) (x1 : Option Nat) (x2 : Option Nat) (x3 : Option Nat) (x4 : Int32) (x5 : Int32) (x6 : Int32) (x7 : Option Nat) (w0 : Int32) (h : hm_T) (z : hz_T) (H : Heap) (locs : List Loc), w_Walker_stringValueFits_65 dA y0 K k24 x1 x2 x3 x4 x5 x6 x7 w0 h z → lv_has ls 10 [(0, .ref y0), (1, va_rf x1), (2, va_rf x2), (3, va_rf x3), (4, .int x4), (5, .int x5), (6, .int x6), (7, va_rf x7)] → hm_I D s0 s h z H locs → W p l e { frames := 4, cells := 0, slots := 0, locals := 85 } s m ([.ref y0, va_rf y1, va_rf y2] : List Value).toArray below meth c H locs 0 0 (MQ below (ht_Q D s0 (fun vv h1 z1 => ∃ v, vv = some (.int v) ∧ K v h1 z1)) ([.ref y0, va_rf y1, va_rf y2] : List Value).toArray s 0 0 (fun q => s0.heap.size ≤ q)) (F0 m 65 ls [.int w0]) := by
    intro k24 hk24 ls x1 x2 x3 x4 x5 x6 x7 w0 h z H locs hF hl I
    unfold w_Walker_stringValueFits_65 at hF
    refine lv_istore (i := 8) hx hb d167_65 hl (by decide) (show _ = [(8, .int w0), (0, .ref y0), (1, va_rf x1), (2, va_rf x2), (3, va_rf x3), (4, .int x4), (5, .int x5), (6, .int x6), (7, va_rf x7)] by simp [cat_rf, cat_int, cat_ref, cat_null, cat_long]) (fun ls hl => ?_)
    have hl : lv_has ls 10 [(8, .int w0), (0, .ref y0), (1, va_rf x1), (2, va_rf x2), (3, va_rf x3), (4, .int x4), (5, .int x5), (6, .int x6), (7, va_rf x7)] := hl
    refine lv_iconst (v := 0) hx hb d167_67 (by decide) ?_
    refine lv_istore hx hb d167_68 hl (by decide) rfl (fun ls hl => ?_)
    have hl : lv_has ls 10 [(9, .int 0), (8, .int w0), (0, .ref y0), (1, va_rf x1), (2, va_rf x2), (3, va_rf x3), (4, .int x4), (5, .int x5), (6, .int x6), (7, va_rf x7)] := hl
    exact b70 k24 hk24 mF ls x1 x2 x3 x4 x5 x6 x7 w0 0 h z _ _ hF (hl.sub [2, 3, 4, 5, 6, 7, 8, 9, 1, 0] rfl) I
  have b60 : ∀ (k24 : Option Nat → Option Nat → Option Nat → Int32 → Int32 → Int32 → hm_T → hz_T → Prop), (∀ (ls : Array Slot) (x1 : Option Nat) (x2 : Option Nat) (x3 : Option Nat) (x4 : Int32) (x5 : Int32) (x6 : Int32) (h : hm_T) (z : hz_T) (H : Heap) (locs : List Loc), k24 x1 x2 x3 x4 x5 x6 h z → lv_has ls 10 [(0, .ref y0), (1, va_rf x1), (2, va_rf x2), (3, va_rf x3), (4, .int x4), (5, .int x5), (6, .int x6)] → hm_I D s0 s h z H locs → W p l e { frames := 4, cells := 0, slots := 0, locals := 85 } s m ([.ref y0, va_rf y1, va_rf y2] : List Value).toArray below meth c H locs 0 0 (MQ below (ht_Q D s0 (fun vv h1 z1 => ∃ v, vv = some (.int v) ∧ K v h1 z1)) ([.ref y0, va_rf y1, va_rf y2] : List Value).toArray s 0 0 (fun q => s0.heap.size ≤ q)) (F0 m 24 ls [])) → ∀ (ls : Array Slot) (x1 : Option Nat) (x2 : Option Nat) (x3 : Option Nat) (x4 : Int32) (x5 : Int32) (x6 : Int32) (x7 : Option Nat) (h : hm_T) (z : hz_T) (H : Heap) (locs : List Loc), w_Walker_stringValueFits_60 dA y0 K k24 x1 x2 x3 x4 x5 x6 x7 h z → lv_has ls 10 [(0, .ref y0), (1, va_rf x1), (2, va_rf x2), (3, va_rf x3), (4, .int x4), (5, .int x5), (6, .int x6), (7, va_rf x7)] → hm_I D s0 s h z H locs → W p l e { frames := 4, cells := 0, slots := 0, locals := 85 } s m ([.ref y0, va_rf y1, va_rf y2] : List Value).toArray below meth c H locs 0 0 (MQ below (ht_Q D s0 (fun vv h1 z1 => ∃ v, vv = some (.int v) ∧ K v h1 z1)) ([.ref y0, va_rf y1, va_rf y2] : List Value).toArray s 0 0 (fun q => s0.heap.size ≤ q)) (F0 m 60 ls []) := by
    intro k24 hk24 ls x1 x2 x3 x4 x5 x6 x7 h z H locs hF hl I
    unfold w_Walker_stringValueFits_60 at hF
    refine lv_iconst (v := 1) hx hb d167_60 (by decide) ?_
    refine lv_goto hx hb d167_61 rfl ?_
    exact b65 k24 hk24 ls x1 x2 x3 x4 x5 x6 x7 1 h z _ _ hF (hl.sub [0, 1, 2, 3, 4, 5, 6, 7] rfl) I
  have b24 : ∀ n9 : Nat, ∀ (ls : Array Slot) (x1 : Option Nat) (x2 : Option Nat) (x3 : Option Nat) (x4 : Int32) (x5 : Int32) (x6 : Int32) (h : hm_T) (z : hz_T) (H : Heap) (locs : List Loc), w_Walker_stringValueFits_24 dA y0 K n9 x1 x2 x3 x4 x5 x6 h z → lv_has ls 10 [(0, .ref y0), (1, va_rf x1), (2, va_rf x2), (3, va_rf x3), (4, .int x4), (5, .int x5), (6, .int x6)] → hm_I D s0 s h z H locs → W p l e { frames := 4, cells := 0, slots := 0, locals := 85 } s m ([.ref y0, va_rf y1, va_rf y2] : List Value).toArray below meth c H locs 0 0 (MQ below (ht_Q D s0 (fun vv h1 z1 => ∃ v, vv = some (.int v) ∧ K v h1 z1)) ([.ref y0, va_rf y1, va_rf y2] : List Value).toArray s 0 0 (fun q => s0.heap.size ≤ q)) (F0 m 24 ls []) := by
    intro n9
    induction n9 with
    | zero => intro ls x1 x2 x3 x4 x5 x6 h z H locs hF; cases hF
    | succ n9 hk24 =>
    intro ls x1 x2 x3 x4 x5 x6 h z H locs hF hl I
    unfold w_Walker_stringValueFits_24 at hF
    refine lv_iload hx hb d167_24 (lv_at hl 6 rfl) ?_
    refine lv_iload hx hb d167_26 (lv_at hl 5 rfl) ?_
    refine lv_icmp_ge hx hb d167_28 rfl (fun h9 => ?_) (fun h9 => ?_)
    · have hF := Eq.mp (if_pos h9) hF
      refine lv_iload hx hb d167_148 (lv_at hl 4 rfl) ?_
      refine lv_aload_nR hx hb d167_150 rfl (lv_at hl 3 rfl) ?_
      obtain ⟨a30, e9, hF⟩ := hF
      refine W.eq (g2 := F0 m 151 ls [.ref a30, .int x4]) (by rw [e9]; rfl) ?_
      clear e9
      obtain ⟨u9, xs9, z9, hF⟩ := hF
      refine ht_V (C := "java/lang/String") (rest := [.int x4]) (as := []) X hl (c_Slen l D dA s0 hE a30 u9 xs9) (List.forall_mem_cons.mpr ⟨ms_k1132, List.forall_mem_cons.mpr ⟨ms_k391, List.forall_mem_cons.mpr ⟨ms_k392, List.forall_mem_cons.mpr ⟨ms_k4, List.forall_mem_cons.mpr ⟨ms_k393, fun _ h => absurd h List.not_mem_nil⟩⟩⟩⟩⟩) ⟨rfl, by decide +kernel, by decide +kernel, (by decide +kernel : (parseMethodDescriptor "()I").map (fun d => d.parameters.length) = some 0)⟩ (hz_recv I z9) I z9 ⟨⟨Nat.le_of_ble_eq_true rfl, Nat.le_of_ble_eq_true rfl⟩, Nat.le_of_ble_eq_true rfl, Nat.le_of_ble_eq_true rfl⟩ rfl (Nat.le_of_ble_eq_true rfl) d167_151 (fun vv h9 z7 H locs hR I9 => ?_)
      obtain ⟨e1, e2, e3⟩ := hR
      rw [e2, e3] at I9
      subst e1
      clear I
      have I := I9
      clear I9 e2 e3 h9 z7
      refine W.eq (g2 := F0 m 154 ls [.int (nI xs9.length), .int x4]) rfl ?_
      generalize (nI xs9.length) = v31 at hF ⊢
      refine lv_icmp_ne hx hb d167_154 rfl (fun h9 => ?_) (fun h9 => ?_)
      · have hF := Eq.mp (if_neg h9) hF
        refine lv_iconst (v := 0) hx hb d167_161 (by decide) ?_
        exact ht_zret X d167_162 I (Nat.le_of_ble_eq_true rfl) (Nat.le_of_ble_eq_true rfl) ⟨_, rfl, hF⟩ rfl
      · have hF := Eq.mp (if_pos h9) hF
        refine lv_iconst (v := 1) hx hb d167_157 (by decide) ?_
        refine lv_goto hx hb d167_158 rfl ?_
        exact ht_zret X d167_162 I (Nat.le_of_ble_eq_true rfl) (Nat.le_of_ble_eq_true rfl) ⟨_, rfl, hF⟩ rfl
    · have hF := Eq.mp (if_neg h9) hF
      refine lv_aload_n hx hb d167_31 rfl (lv_at hl 0 rfl) ?_
      obtain ⟨fs9, v32, c9, e9, hF⟩ := hF
      refine va_get (D := D) (ci := 14) (v := va_rf v32) (C := kR14) (T := kT14) (N := 1) hx hb hts ku14 hown hK (hm_one I.1 c9) 0 rfl rfl 0 (by decide) (hts _ ms_k1088) (fun _ h => h) e9 d167_32 ?_
      clear e9 c9 fs9
      obtain ⟨a33, e9, hF⟩ := hF
      refine W.eq (g2 := F0 m 35 ls [.ref a33]) (by rw [e9]; rfl) ?_
      clear e9
      obtain ⟨fs9, v34, c9, e9, hF⟩ := hF
      refine va_get (D := D) (ci := 1) (v := va_rf v34) (C := kR1) (T := kT1) (N := 6) hx hb hts ku1 hown hK (hm_one I.1 c9) 0 rfl rfl 2 (by decide) (hts _ ms_k84) (fun _ h => h) e9 d167_35 ?_
      clear e9 c9 fs9
      refine lv_iload hx hb d167_38 (lv_at hl 6 rfl) ?_
      obtain ⟨a35, e9, hF⟩ := hF
      refine W.eq (g2 := F0 m 40 ls [.int x6, .ref a35]) (by rw [e9]; rfl) ?_
      clear e9
      obtain ⟨n8, f8, c9, i9, hF⟩ := hF
      refine va_aldq hx hb hK (hm_one I.1 c9) 0 5 rfl rfl i9 d167_40 ?_
      generalize f8 (Int32.toNatClampNeg x6) = v36 at hF ⊢
      clear c9 i9
      refine lv_astoreR hx hb d167_41 hl (by decide) rfl (fun ls hl => ?_)
      have hl : lv_has ls 10 [(7, va_rf v36), (0, .ref y0), (1, va_rf x1), (2, va_rf x2), (3, va_rf x3), (4, .int x4), (5, .int x5), (6, .int x6)] := hl
      refine lv_aloadR hx hb d167_43 (lv_at hl 0 rfl) ?_
      obtain ⟨a37, e9, hF⟩ := hF
      refine W.eq (g2 := F0 m 45 ls [.ref a37]) (by rw [e9]; rfl) ?_
      clear e9
      obtain ⟨fs9, v38, c9, e9, hF⟩ := hF
      refine va_get (D := D) (ci := 8) (v := .int v38) (C := kR8) (T := kT8) (N := 9) hx hb hts ku8 hown hK (hm_one I.1 c9) 0 rfl rfl 0 (by decide) (hts _ ms_k443) (fun _ h => h) e9 d167_45 ?_
      clear e9 c9 fs9
      refine lv_iconst (v := 2) hx hb d167_48 (by decide) ?_
      refine lv_icmp_eq hx hb d167_49 rfl (fun h9 => ?_) (fun h9 => ?_)
      · have hF := Eq.mp (if_pos h9) hF
        exact b60 (w_Walker_stringValueFits_24 dA y0 K n9) hk24 ls x1 x2 x3 x4 x5 x6 v36 h z _ _ hF (hl.sub [1, 2, 3, 4, 5, 6, 7, 0] rfl) I
      · have hF := Eq.mp (if_neg h9) hF
        refine lv_aload_nR hx hb d167_52 rfl (lv_at hl 2 rfl) ?_
        obtain ⟨a53, e9, hF⟩ := hF
        refine W.eq (g2 := F0 m 53 ls [.ref a53]) (by rw [e9]; rfl) ?_
        clear e9
        obtain ⟨fs9, v54, c9, e9, hF⟩ := hF
        refine va_get (D := D) (ci := 8) (v := .int v54) (C := kR8) (T := kT8) (N := 9) hx hb hts ku8 hown hK (hm_one I.1 c9) 0 rfl rfl 0 (by decide) (hts _ ms_k443) (fun _ h => h) e9 d167_53 ?_
        clear e9 c9 fs9
        refine lv_iconst (v := 3) hx hb d167_56 (by decide) ?_
        refine lv_icmp_ne hx hb d167_57 rfl (fun h9 => ?_) (fun h9 => ?_)
        · have hF := Eq.mp (if_neg h9) hF
          refine lv_iconst (v := 0) hx hb d167_64 (by decide) ?_
          exact b65 (w_Walker_stringValueFits_24 dA y0 K n9) hk24 ls x1 x2 x3 x4 x5 x6 v36 0 h z _ _ hF (hl.sub [1, 2, 3, 4, 5, 6, 7, 0] rfl) I
        · have hF := Eq.mp (if_pos h9) hF
          exact b60 (w_Walker_stringValueFits_24 dA y0 K n9) hk24 ls x1 x2 x3 x4 x5 x6 v36 h z _ _ hF (hl.sub [1, 2, 3, 4, 5, 6, 7, 0] rfl) I
  have hF := hg
  unfold w_Walker_stringValueFits at hF
  clear h z
  refine lv_aload_nR hx hb d167_0 rfl (lv_at hl 2 rfl) ?_
  obtain ⟨a21, e9, hF⟩ := hF
  refine W.eq (g2 := F0 m 1 ls [.ref a21]) (by rw [e9]; rfl) ?_
  clear e9
  obtain ⟨fs9, v22, c9, e9, hF⟩ := hF
  refine va_get (D := D) (ci := 13) (v := va_rf v22) (C := kR13) (T := kT13) (N := 8) hx hb hts ku13 hown hK (hm_one I.1 c9) 0 rfl rfl 6 (by decide) (hts _ ms_k1039) (fun _ h => h) e9 d167_1 ?_
  clear e9 c9 fs9
  refine lv_astore_nR (i := 3) hx hb d167_4 rfl hl (by decide) (show _ = [(3, va_rf v22), (0, .ref y0), (1, va_rf y1), (2, va_rf y2)] by simp [cat_rf, cat_int, cat_ref, cat_null, cat_long]) (fun ls hl => ?_)
  have hl : lv_has ls 10 [(3, va_rf v22), (0, .ref y0), (1, va_rf y1), (2, va_rf y2)] := hl
  refine lv_iconst (v := 0) hx hb d167_5 (by decide) ?_
  refine lv_istore (i := 4) hx hb d167_6 hl (by decide) (show _ = [(4, .int 0), (3, va_rf v22), (0, .ref y0), (1, va_rf y1), (2, va_rf y2)] by simp [cat_rf, cat_int, cat_ref, cat_null, cat_long]) (fun ls hl => ?_)
  have hl : lv_has ls 10 [(4, .int 0), (3, va_rf v22), (0, .ref y0), (1, va_rf y1), (2, va_rf y2)] := hl
  refine lv_aload_n hx hb d167_8 rfl (lv_at hl 2 rfl) ?_
  obtain ⟨fs9, v23, c9, e9, hF⟩ := hF
  refine va_get (D := D) (ci := 14) (v := va_rf v23) (C := kR14) (T := kT14) (N := 1) hx hb hts ku14 hown hK (hm_one I.1 c9) 0 rfl rfl 0 (by decide) (hts _ ms_k1088) (fun _ h => h) e9 d167_9 ?_
  clear e9 c9 fs9
  refine lv_aload_nR hx hb d167_12 rfl (lv_at hl 3 rfl) ?_
  obtain ⟨a24, e9, hF⟩ := hF
  refine W.eq (g2 := F0 m 13 ls [va_rf y1, .ref a24]) (by rw [e9]; rfl) ?_
  clear e9
  obtain ⟨fs9, c9, hF⟩ := hF
  refine ht_V (C := "MarkupStore$Tree") (rest := []) (as := [va_rf y1]) X hl (cw_Tree_endOf l D dA s0 hE a24 y1 h0 z0 _ hF) (List.forall_mem_cons.mpr ⟨ms_k1131, List.forall_mem_cons.mpr ⟨ms_k750, List.forall_mem_cons.mpr ⟨ms_k751, List.forall_mem_cons.mpr ⟨ms_k6, List.forall_mem_cons.mpr ⟨ms_k752, fun _ h => absurd h List.not_mem_nil⟩⟩⟩⟩⟩) ⟨rfl, by decide +kernel, by decide +kernel, (by decide +kernel : (parseMethodDescriptor "(LMarkupStore$Node;)I").map (fun d => d.parameters.length) = some 1)⟩ (hm_recv hK I rfl c9) I ⟨rfl, rfl⟩ ⟨⟨Nat.le_of_ble_eq_true rfl, Nat.le_of_ble_eq_true rfl⟩, Nat.le_of_ble_eq_true rfl, Nat.le_of_ble_eq_true rfl⟩ rfl (Nat.le_of_ble_eq_true rfl) d167_13 (fun vv h26 z27 H locs hR I9 => ?_)
  obtain ⟨v25, e1, hF⟩ := hR
  subst e1
  clear I
  have I := I9
  clear I9 c9 fs9
  refine W.eq (g2 := F0 m 16 ls [.int v25]) rfl ?_
  refine lv_istore hx hb d167_16 hl (by decide) rfl (fun ls hl => ?_)
  have hl : lv_has ls 10 [(5, .int v25), (4, .int 0), (3, va_rf v22), (0, .ref y0), (1, va_rf y1), (2, va_rf y2)] := hl
  refine lv_aload_nR hx hb d167_18 rfl (lv_at hl 4 rfl) ?_
  obtain ⟨a28, e9, hF⟩ := hF
  refine W.eq (g2 := F0 m 19 ls [.ref a28]) (by rw [e9]; rfl) ?_
  clear e9
  obtain ⟨fs9, v29, c9, e9, hF⟩ := hF
  refine va_get (D := D) (ci := 8) (v := .int v29) (C := kR8) (T := kT8) (N := 9) hx hb hts ku8 hown hK (hm_one I.1 c9) 0 rfl rfl 6 (by decide) (hts _ ms_k465) (fun _ h => h) e9 d167_19 ?_
  clear e9 c9 fs9
  refine lv_istore hx hb d167_22 hl (by decide) rfl (fun ls hl => ?_)
  have hl : lv_has ls 10 [(6, .int v29), (5, .int v25), (4, .int 0), (3, va_rf v22), (0, .ref y0), (1, va_rf y1), (2, va_rf y2)] := hl
  exact b24 mF ls y1 y2 v22 0 v25 v29 h26 z27 _ _ hF (hl.sub [4, 5, 6, 3, 2, 1, 0] rfl) I

def w_Walker_atPosition_83 (dA : Nat → ClassId) (y0 : Nat) (K : Int64 → hm_T → hz_T → Prop) (k6 : Int32 → Int64 → Int32 → Int32 → Int32 → hm_T → hz_T → Prop) (x1 : Int32) (x2 : Int64) (x4 : Int32) (x5 : Int32) (x6 : Int32) (h : hm_T) (z : hz_T) : Prop := (k6 x1 x2 x4 x5 (x6 + 1) h z)
def w_Walker_atPosition_64 (dA : Nat → ClassId) (y0 : Nat) (K : Int64 → hm_T → hz_T → Prop) (k6 : Int32 → Int64 → Int32 → Int32 → Int32 → hm_T → hz_T → Prop) (x1 : Int32) (x2 : Int64) (x4 : Int32) (x6 : Int32) (x8 : Int64) (w0 : Int32) (w1 : Int32) (h : hm_T) (z : hz_T) : Prop := (if (mm_cmp x8 (0 : Int64)) = 0 then (w_Walker_atPosition_83 dA y0 K k6 x1 x2 x4 (w1 + w0) x6 h z) else (if (w1 + w0) = x1 then (K x8 h z) else (w_Walker_atPosition_83 dA y0 K k6 x1 x2 x4 (w1 + w0) x6 h z)))
def w_Walker_atPosition_40 (dA : Nat → ClassId) (y0 : Nat) (K : Int64 → hm_T → hz_T → Prop) (k6 : Int32 → Int64 → Int32 → Int32 → Int32 → hm_T → hz_T → Prop) (x1 : Int32) (x2 : Int64) (x4 : Int32) (x5 : Int32) (x6 : Int32) (w0 : Int32) (h : hm_T) (z : hz_T) : Prop := (if (mm_cmp (x2 &&& ((1 : Int64) <<< (w0.toInt64 &&& 63))) (0 : Int64)) = 0 then (w_Walker_atPosition_64 dA y0 K k6 x1 x2 x4 x6 (x2 &&& ((1 : Int64) <<< (w0.toInt64 &&& 63))) 0 x5 h z) else (w_Walker_atPosition_64 dA y0 K k6 x1 x2 x4 x6 (x2 &&& ((1 : Int64) <<< (w0.toInt64 &&& 63))) 1 x5 h z))
def w_Walker_atPosition_6 (dA : Nat → ClassId) (y0 : Nat) (K : Int64 → hm_T → hz_T → Prop) : Nat → Int32 → Int64 → Int32 → Int32 → Int32 → hm_T → hz_T → Prop
  | 0, _, _, _, _, _, _, _ => False
  | n9 + 1, x1, x2, x4, x5, x6, h, z => (cg_R h 14 0 y0 (fun v21 => (cg_d v21 (fun a22 => (cg_I h 1 3 a22 (fun v23 => (if v23 ≤ x6 then (K (0 : Int64) h z) else (if x4 = 0 then (w_Walker_atPosition_40 dA y0 K (w_Walker_atPosition_6 dA y0 K n9) x1 x2 x4 x5 x6 x6 h z) else (cg_R h 14 0 y0 (fun v24 => (cg_d v24 (fun a25 => (cg_I h 1 3 a25 (fun v26 => (w_Walker_atPosition_40 dA y0 K (w_Walker_atPosition_6 dA y0 K n9) x1 x2 x4 x5 x6 ((v26 - 1) - x6) h z)))))))))))))))
def w_Walker_atPosition (dA : Nat → ClassId) (y0 : Nat) (y1 : Int32) (y2 : Int64) (y4 : Int32) (K : Int64 → hm_T → hz_T → Prop) (h0 : hm_T) (z0 : hz_T) : Prop := (w_Walker_atPosition_6 dA y0 K mF y1 y2 y4 0 0 h0 z0)
set_option maxRecDepth 100000 in
set_option maxHeartbeats 8000000 in
theorem cw_Walker_atPosition (l : Launch) (D : va_G) (dA : Nat → ClassId) (s0 : State) (hE : ms_EV D dA s0) (y0 : Nat) (y1 : Int32) (y2 : Int64) (y4 : Int32) (h0 : hm_T) (z0 : hz_T) (K : Int64 → hm_T → hz_T → Prop) (hg : w_Walker_atPosition dA y0 y1 y2 y4 K h0 z0) : ht_C l D s0 yM168 bM168 10 (Option.some Jvm.ClassFile.FieldType.long) 0 0 0 0 [.ref y0, .int y1, .long y2, .int y4] (fun h z => h = h0 ∧ z = z0) (fun h z vv h1 z1 => ∃ v, vv = some (.long v) ∧ K v h1 z1) := by
  refine ht_C.mk hE.1 (by decide) (Nat.le_of_ble_eq_true rfl) [(0, .ref y0), (1, .int y1), (2, .long y2), (4, .int y4)] rfl ?_
  intro p e s m below meth c ls h z X hin hpre I hl
  have hx := X.1
  have hb := X.2.1
  have hml := X.2.2.1
  have hown : s.vm.findClass "MarkupStore$Walker" = some m.cls := X.2.2.2.1
  have hts := X.2.2.2.2.2.2.1
  have hK := X.2.2.2.2.2.2.2.2.1
  rw [hpre.1, hpre.2] at I
  clear hpre
  have b83 : ∀ (k6 : Int32 → Int64 → Int32 → Int32 → Int32 → hm_T → hz_T → Prop), (∀ (ls : Array Slot) (x1 : Int32) (x2 : Int64) (x4 : Int32) (x5 : Int32) (x6 : Int32) (h : hm_T) (z : hz_T) (H : Heap) (locs : List Loc), k6 x1 x2 x4 x5 x6 h z → lv_has ls 10 [(0, .ref y0), (1, .int x1), (2, .long x2), (4, .int x4), (5, .int x5), (6, .int x6)] → hm_I D s0 s h z H locs → W p l e { frames := 0, cells := 0, slots := 0, locals := 0 } s m ([.ref y0, .int y1, .long y2, .int y4] : List Value).toArray below meth c H locs 0 0 (MQ below (ht_Q D s0 (fun vv h1 z1 => ∃ v, vv = some (.long v) ∧ K v h1 z1)) ([.ref y0, .int y1, .long y2, .int y4] : List Value).toArray s 0 0 (fun q => s0.heap.size ≤ q)) (F0 m 6 ls [])) → ∀ (ls : Array Slot) (x1 : Int32) (x2 : Int64) (x4 : Int32) (x5 : Int32) (x6 : Int32) (h : hm_T) (z : hz_T) (H : Heap) (locs : List Loc), w_Walker_atPosition_83 dA y0 K k6 x1 x2 x4 x5 x6 h z → lv_has ls 10 [(0, .ref y0), (1, .int x1), (2, .long x2), (4, .int x4), (5, .int x5), (6, .int x6)] → hm_I D s0 s h z H locs → W p l e { frames := 0, cells := 0, slots := 0, locals := 0 } s m ([.ref y0, .int y1, .long y2, .int y4] : List Value).toArray below meth c H locs 0 0 (MQ below (ht_Q D s0 (fun vv h1 z1 => ∃ v, vv = some (.long v) ∧ K v h1 z1)) ([.ref y0, .int y1, .long y2, .int y4] : List Value).toArray s 0 0 (fun q => s0.heap.size ≤ q)) (F0 m 83 ls []) := by
    intro k6 hk6 ls x1 x2 x4 x5 x6 h z H locs hF hl I
    unfold w_Walker_atPosition_83 at hF
    refine lv_iinc (k := 5) (v := (x6 + 1)) hx hb d168_83 hl rfl (rfl) (by decide) rfl (fun ls hl => ?_)
    have hl : lv_has ls 10 [(6, .int (x6 + 1)), (0, .ref y0), (1, .int x1), (2, .long x2), (4, .int x4), (5, .int x5)] := hl
    refine lv_goto hx hb d168_86 rfl ?_
    exact hk6 ls x1 x2 x4 x5 (x6 + 1) h z _ _ hF (hl.sub [1, 2, 3, 4, 5, 0] rfl) I
  have b64 : ∀ (k6 : Int32 → Int64 → Int32 → Int32 → Int32 → hm_T → hz_T → Prop), (∀ (ls : Array Slot) (x1 : Int32) (x2 : Int64) (x4 : Int32) (x5 : Int32) (x6 : Int32) (h : hm_T) (z : hz_T) (H : Heap) (locs : List Loc), k6 x1 x2 x4 x5 x6 h z → lv_has ls 10 [(0, .ref y0), (1, .int x1), (2, .long x2), (4, .int x4), (5, .int x5), (6, .int x6)] → hm_I D s0 s h z H locs → W p l e { frames := 0, cells := 0, slots := 0, locals := 0 } s m ([.ref y0, .int y1, .long y2, .int y4] : List Value).toArray below meth c H locs 0 0 (MQ below (ht_Q D s0 (fun vv h1 z1 => ∃ v, vv = some (.long v) ∧ K v h1 z1)) ([.ref y0, .int y1, .long y2, .int y4] : List Value).toArray s 0 0 (fun q => s0.heap.size ≤ q)) (F0 m 6 ls [])) → ∀ (ls : Array Slot) (x1 : Int32) (x2 : Int64) (x4 : Int32) (x6 : Int32) (x8 : Int64) (w0 : Int32) (w1 : Int32) (h : hm_T) (z : hz_T) (H : Heap) (locs : List Loc), w_Walker_atPosition_64 dA y0 K k6 x1 x2 x4 x6 x8 w0 w1 h z → lv_has ls 10 [(0, .ref y0), (1, .int x1), (2, .long x2), (4, .int x4), (6, .int x6), (8, .long x8)] → hm_I D s0 s h z H locs → W p l e { frames := 0, cells := 0, slots := 0, locals := 0 } s m ([.ref y0, .int y1, .long y2, .int y4] : List Value).toArray below meth c H locs 0 0 (MQ below (ht_Q D s0 (fun vv h1 z1 => ∃ v, vv = some (.long v) ∧ K v h1 z1)) ([.ref y0, .int y1, .long y2, .int y4] : List Value).toArray s 0 0 (fun q => s0.heap.size ≤ q)) (F0 m 64 ls [.int w0, .int w1]) := by
    intro k6 hk6 ls x1 x2 x4 x6 x8 w0 w1 h z H locs hF hl I
    unfold w_Walker_atPosition_64 at hF
    refine lv_iadd hx hb d168_64 ?_
    refine lv_istore hx hb d168_65 hl (by decide) rfl (fun ls hl => ?_)
    have hl : lv_has ls 10 [(5, .int (w1 + w0)), (0, .ref y0), (1, .int x1), (2, .long x2), (4, .int x4), (6, .int x6), (8, .long x8)] := hl
    refine lv_lload hx hb d168_67 (lv_at hl 6 rfl) ?_
    refine lv_lconst (v := (0 : Int64)) hx hb d168_69 (by decide) ?_
    refine lv_lcmp hx hb d168_70 ?_
    refine lv_if_eq hx hb d168_71 rfl (fun h9 => ?_) (fun h9 => ?_)
    · have hF := Eq.mp (if_pos h9) hF
      exact b83 k6 hk6 ls x1 x2 x4 (w1 + w0) x6 h z _ _ hF (hl.sub [1, 2, 3, 4, 0, 5] rfl) I
    · have hF := Eq.mp (if_neg h9) hF
      refine lv_iload hx hb d168_74 (lv_at hl 0 rfl) ?_
      refine lv_iload_n hx hb d168_76 rfl (lv_at hl 2 rfl) ?_
      refine lv_icmp_ne hx hb d168_77 rfl (fun h9 => ?_) (fun h9 => ?_)
      · have hF := Eq.mp (if_neg h9) hF
        exact b83 k6 hk6 ls x1 x2 x4 (w1 + w0) x6 h z _ _ hF (hl.sub [1, 2, 3, 4, 0, 5] rfl) I
      · have hF := Eq.mp (if_pos h9) hF
        refine lv_lload hx hb d168_80 (lv_at hl 6 rfl) ?_
        exact ht_lret X d168_82 I (Nat.le_of_ble_eq_true rfl) (Nat.le_of_ble_eq_true rfl) ⟨_, rfl, hF⟩
  have b40 : ∀ (k6 : Int32 → Int64 → Int32 → Int32 → Int32 → hm_T → hz_T → Prop), (∀ (ls : Array Slot) (x1 : Int32) (x2 : Int64) (x4 : Int32) (x5 : Int32) (x6 : Int32) (h : hm_T) (z : hz_T) (H : Heap) (locs : List Loc), k6 x1 x2 x4 x5 x6 h z → lv_has ls 10 [(0, .ref y0), (1, .int x1), (2, .long x2), (4, .int x4), (5, .int x5), (6, .int x6)] → hm_I D s0 s h z H locs → W p l e { frames := 0, cells := 0, slots := 0, locals := 0 } s m ([.ref y0, .int y1, .long y2, .int y4] : List Value).toArray below meth c H locs 0 0 (MQ below (ht_Q D s0 (fun vv h1 z1 => ∃ v, vv = some (.long v) ∧ K v h1 z1)) ([.ref y0, .int y1, .long y2, .int y4] : List Value).toArray s 0 0 (fun q => s0.heap.size ≤ q)) (F0 m 6 ls [])) → ∀ (ls : Array Slot) (x1 : Int32) (x2 : Int64) (x4 : Int32) (x5 : Int32) (x6 : Int32) (w0 : Int32) (h : hm_T) (z : hz_T) (H : Heap) (locs : List Loc), w_Walker_atPosition_40 dA y0 K k6 x1 x2 x4 x5 x6 w0 h z → lv_has ls 10 [(0, .ref y0), (1, .int x1), (2, .long x2), (4, .int x4), (5, .int x5), (6, .int x6)] → hm_I D s0 s h z H locs → W p l e { frames := 0, cells := 0, slots := 0, locals := 0 } s m ([.ref y0, .int y1, .long y2, .int y4] : List Value).toArray below meth c H locs 0 0 (MQ below (ht_Q D s0 (fun vv h1 z1 => ∃ v, vv = some (.long v) ∧ K v h1 z1)) ([.ref y0, .int y1, .long y2, .int y4] : List Value).toArray s 0 0 (fun q => s0.heap.size ≤ q)) (F0 m 40 ls [.int w0]) := by
    intro k6 hk6 ls x1 x2 x4 x5 x6 w0 h z H locs hF hl I
    unfold w_Walker_atPosition_40 at hF
    refine lv_istore hx hb d168_40 hl (by decide) rfl (fun ls hl => ?_)
    have hl : lv_has ls 10 [(7, .int w0), (0, .ref y0), (1, .int x1), (2, .long x2), (4, .int x4), (5, .int x5), (6, .int x6)] := hl
    refine lv_lload_n hx hb d168_42 rfl (lv_at hl 3 rfl) ?_
    refine lv_lconst (v := (1 : Int64)) hx hb d168_43 (by decide) ?_
    refine lv_iload hx hb d168_44 (lv_at hl 0 rfl) ?_
    refine lv_lshl (v := ((1 : Int64) <<< (w0.toInt64 &&& 63))) hx hb d168_46 rfl ?_
    refine lv_land hx hb d168_47 ?_
    refine lv_lstore hx hb d168_48 hl (by decide) rfl (fun ls hl => ?_)
    have hl : lv_has ls 10 [(8, .long (x2 &&& ((1 : Int64) <<< (w0.toInt64 &&& 63)))), (7, .int w0), (0, .ref y0), (1, .int x1), (2, .long x2), (4, .int x4), (5, .int x5), (6, .int x6)] := hl
    refine lv_iload hx hb d168_50 (lv_at hl 6 rfl) ?_
    refine lv_lload hx hb d168_52 (lv_at hl 0 rfl) ?_
    refine lv_lconst (v := (0 : Int64)) hx hb d168_54 (by decide) ?_
    refine lv_lcmp hx hb d168_55 ?_
    refine lv_if_ne hx hb d168_56 rfl (fun h9 => ?_) (fun h9 => ?_)
    · have hF := Eq.mp (if_neg h9) hF
      refine lv_iconst (v := 1) hx hb d168_63 (by decide) ?_
      exact b64 k6 hk6 ls x1 x2 x4 x6 (x2 &&& ((1 : Int64) <<< (w0.toInt64 &&& 63))) 1 x5 h z _ _ hF (hl.sub [2, 3, 4, 5, 7, 0] rfl) I
    · have hF := Eq.mp (if_pos h9) hF
      refine lv_iconst (v := 0) hx hb d168_59 (by decide) ?_
      refine lv_goto hx hb d168_60 rfl ?_
      exact b64 k6 hk6 ls x1 x2 x4 x6 (x2 &&& ((1 : Int64) <<< (w0.toInt64 &&& 63))) 0 x5 h z _ _ hF (hl.sub [2, 3, 4, 5, 7, 0] rfl) I
  have b6 : ∀ n9 : Nat, ∀ (ls : Array Slot) (x1 : Int32) (x2 : Int64) (x4 : Int32) (x5 : Int32) (x6 : Int32) (h : hm_T) (z : hz_T) (H : Heap) (locs : List Loc), w_Walker_atPosition_6 dA y0 K n9 x1 x2 x4 x5 x6 h z → lv_has ls 10 [(0, .ref y0), (1, .int x1), (2, .long x2), (4, .int x4), (5, .int x5), (6, .int x6)] → hm_I D s0 s h z H locs → W p l e { frames := 0, cells := 0, slots := 0, locals := 0 } s m ([.ref y0, .int y1, .long y2, .int y4] : List Value).toArray below meth c H locs 0 0 (MQ below (ht_Q D s0 (fun vv h1 z1 => ∃ v, vv = some (.long v) ∧ K v h1 z1)) ([.ref y0, .int y1, .long y2, .int y4] : List Value).toArray s 0 0 (fun q => s0.heap.size ≤ q)) (F0 m 6 ls []) := by
    intro n9
    induction n9 with
    | zero => intro ls x1 x2 x4 x5 x6 h z H locs hF; cases hF
    | succ n9 hk6 =>
    intro ls x1 x2 x4 x5 x6 h z H locs hF hl I
    unfold w_Walker_atPosition_6 at hF
    refine lv_iload hx hb d168_6 (lv_at hl 5 rfl) ?_
    refine lv_aload_n hx hb d168_8 rfl (lv_at hl 0 rfl) ?_
    obtain ⟨fs9, v21, c9, e9, hF⟩ := hF
    refine va_get (D := D) (ci := 14) (v := va_rf v21) (C := kR14) (T := kT14) (N := 1) hx hb hts ku14 hown hK (hm_one I.1 c9) 0 rfl rfl 0 (by decide) (hts _ ms_k1088) (fun _ h => h) e9 d168_9 ?_
    clear e9 c9 fs9
    obtain ⟨a22, e9, hF⟩ := hF
    refine W.eq (g2 := F0 m 12 ls [.ref a22, .int x6]) (by rw [e9]; rfl) ?_
    clear e9
    obtain ⟨fs9, v23, c9, e9, hF⟩ := hF
    refine va_get (D := D) (ci := 1) (v := .int v23) (C := kR1) (T := kT1) (N := 6) hx hb hts ku1 hown hK (hm_one I.1 c9) 0 rfl rfl 3 (by decide) (hts _ ms_k88) (fun _ h => h) e9 d168_12 ?_
    clear e9 c9 fs9
    refine lv_icmp_ge hx hb d168_15 rfl (fun h9 => ?_) (fun h9 => ?_)
    · have hF := Eq.mp (if_pos h9) hF
      refine lv_lconst (v := (0 : Int64)) hx hb d168_89 (by decide) ?_
      exact ht_lret X d168_90 I (Nat.le_of_ble_eq_true rfl) (Nat.le_of_ble_eq_true rfl) ⟨_, rfl, hF⟩
    · have hF := Eq.mp (if_neg h9) hF
      refine lv_iload hx hb d168_18 (lv_at hl 3 rfl) ?_
      refine lv_if_eq hx hb d168_20 rfl (fun h9 => ?_) (fun h9 => ?_)
      · have hF := Eq.mp (if_pos h9) hF
        refine lv_iload hx hb d168_38 (lv_at hl 5 rfl) ?_
        exact b40 (w_Walker_atPosition_6 dA y0 K n9) hk6 ls x1 x2 x4 x5 x6 x6 h z _ _ hF (hl.sub [0, 1, 2, 3, 4, 5] rfl) I
      · have hF := Eq.mp (if_neg h9) hF
        refine lv_aload_n hx hb d168_23 rfl (lv_at hl 0 rfl) ?_
        obtain ⟨fs9, v24, c9, e9, hF⟩ := hF
        refine va_get (D := D) (ci := 14) (v := va_rf v24) (C := kR14) (T := kT14) (N := 1) hx hb hts ku14 hown hK (hm_one I.1 c9) 0 rfl rfl 0 (by decide) (hts _ ms_k1088) (fun _ h => h) e9 d168_24 ?_
        clear e9 c9 fs9
        obtain ⟨a25, e9, hF⟩ := hF
        refine W.eq (g2 := F0 m 27 ls [.ref a25]) (by rw [e9]; rfl) ?_
        clear e9
        obtain ⟨fs9, v26, c9, e9, hF⟩ := hF
        refine va_get (D := D) (ci := 1) (v := .int v26) (C := kR1) (T := kT1) (N := 6) hx hb hts ku1 hown hK (hm_one I.1 c9) 0 rfl rfl 3 (by decide) (hts _ ms_k88) (fun _ h => h) e9 d168_27 ?_
        clear e9 c9 fs9
        refine lv_iconst (v := 1) hx hb d168_30 (by decide) ?_
        refine lv_isub hx hb d168_31 ?_
        refine lv_iload hx hb d168_32 (lv_at hl 5 rfl) ?_
        refine lv_isub hx hb d168_34 ?_
        refine lv_goto hx hb d168_35 rfl ?_
        exact b40 (w_Walker_atPosition_6 dA y0 K n9) hk6 ls x1 x2 x4 x5 x6 ((v26 - 1) - x6) h z _ _ hF (hl.sub [0, 1, 2, 3, 4, 5] rfl) I
  have hF := hg
  unfold w_Walker_atPosition at hF
  clear h z
  refine lv_iconst (v := 0) hx hb d168_0 (by decide) ?_
  refine lv_istore hx hb d168_1 hl (by decide) rfl (fun ls hl => ?_)
  have hl : lv_has ls 10 [(5, .int 0), (0, .ref y0), (1, .int y1), (2, .long y2), (4, .int y4)] := hl
  refine lv_iconst (v := 0) hx hb d168_3 (by decide) ?_
  refine lv_istore hx hb d168_4 hl (by decide) rfl (fun ls hl => ?_)
  have hl : lv_has ls 10 [(6, .int 0), (5, .int 0), (0, .ref y0), (1, .int y1), (2, .long y2), (4, .int y4)] := hl
  exact b6 mF ls y1 y2 y4 0 0 h0 z0 _ _ hF (hl.sub [2, 3, 4, 5, 1, 0] rfl) I

def w_Walker_ancestors_8 (dA : Nat → ClassId) (y0 : Nat) (K : Int64 → hm_T → hz_T → Prop) : Nat → Int64 → Option Nat → hm_T → hz_T → Prop
  | 0, _, _, _, _ => False
  | n9 + 1, x2, x4, h, z => (if x4 = none then (K x2 h z) else (cg_d x4 (fun a23 => (cg_I h 8 6 a23 (fun v24 => (cg_d x4 (fun a25 => (cg_R h 8 1 a25 (fun v26 => ((w_Walker_ancestors_8 dA y0 K n9) (x2 ||| ((1 : Int64) <<< (v24.toInt64 &&& 63))) v26 h z))))))))))
def w_Walker_ancestors (dA : Nat → ClassId) (y0 : Nat) (y1 : Option Nat) (K : Int64 → hm_T → hz_T → Prop) (h0 : hm_T) (z0 : hz_T) : Prop := (cg_d y1 (fun a21 => (cg_R h0 8 1 a21 (fun v22 => (w_Walker_ancestors_8 dA y0 K mF (0 : Int64) v22 h0 z0)))))
set_option maxRecDepth 100000 in
set_option maxHeartbeats 8000000 in
theorem cw_Walker_ancestors (l : Launch) (D : va_G) (dA : Nat → ClassId) (s0 : State) (hE : ms_EV D dA s0) (y0 : Nat) (y1 : Option Nat) (h0 : hm_T) (z0 : hz_T) (K : Int64 → hm_T → hz_T → Prop) (hg : w_Walker_ancestors dA y0 y1 K h0 z0) : ht_C l D s0 yM169 bM169 5 (Option.some Jvm.ClassFile.FieldType.long) 0 0 0 0 [.ref y0, va_rf y1] (fun h z => h = h0 ∧ z = z0) (fun h z vv h1 z1 => ∃ v, vv = some (.long v) ∧ K v h1 z1) := by
  refine ht_C.mk hE.1 (by decide) (by simp [lg_sl, cat_rf, cat_int, cat_ref, cat_null, cat_long]) [(0, .ref y0), (1, va_rf y1)] (by simp [lv_args, cat_rf, cat_int, cat_ref, cat_null, cat_long]) ?_
  intro p e s m below meth c ls h z X hin hpre I hl
  have hx := X.1
  have hb := X.2.1
  have hml := X.2.2.1
  have hown : s.vm.findClass "MarkupStore$Walker" = some m.cls := X.2.2.2.1
  have hts := X.2.2.2.2.2.2.1
  have hK := X.2.2.2.2.2.2.2.2.1
  rw [hpre.1, hpre.2] at I
  clear hpre
  have b8 : ∀ n9 : Nat, ∀ (ls : Array Slot) (x2 : Int64) (x4 : Option Nat) (h : hm_T) (z : hz_T) (H : Heap) (locs : List Loc), w_Walker_ancestors_8 dA y0 K n9 x2 x4 h z → lv_has ls 5 [(2, .long x2), (4, va_rf x4)] → hm_I D s0 s h z H locs → W p l e { frames := 0, cells := 0, slots := 0, locals := 0 } s m ([.ref y0, va_rf y1] : List Value).toArray below meth c H locs 0 0 (MQ below (ht_Q D s0 (fun vv h1 z1 => ∃ v, vv = some (.long v) ∧ K v h1 z1)) ([.ref y0, va_rf y1] : List Value).toArray s 0 0 (fun q => s0.heap.size ≤ q)) (F0 m 8 ls []) := by
    intro n9
    induction n9 with
    | zero => intro ls x2 x4 h z H locs hF; cases hF
    | succ n9 hk8 =>
    intro ls x2 x4 h z H locs hF hl I
    unfold w_Walker_ancestors_8 at hF
    refine lv_aloadR hx hb d169_8 (lv_at hl 1 rfl) ?_
    refine lv_ifnullR hx hb d169_10 rfl (fun h9 => ?_) (fun h9 => ?_)
    · have hF := Eq.mp (if_pos h9) hF
      refine lv_lload_n hx hb d169_33 rfl (lv_at hl 0 rfl) ?_
      exact ht_lret X d169_34 I (Nat.le_of_ble_eq_true rfl) (Nat.le_of_ble_eq_true rfl) ⟨_, rfl, hF⟩
    · have hF := Eq.mp (if_neg h9) hF
      refine lv_lload_n hx hb d169_13 rfl (lv_at hl 0 rfl) ?_
      refine lv_lconst (v := (1 : Int64)) hx hb d169_14 (by decide) ?_
      refine lv_aloadR hx hb d169_15 (lv_at hl 1 rfl) ?_
      obtain ⟨a23, e9, hF⟩ := hF
      refine W.eq (g2 := F0 m 17 ls [.ref a23, .long (1 : Int64), .long x2]) (by rw [e9]; rfl) ?_
      clear e9
      obtain ⟨fs9, v24, c9, e9, hF⟩ := hF
      refine va_get (D := D) (ci := 8) (v := .int v24) (C := kR8) (T := kT8) (N := 9) hx hb hts ku8 hown hK (hm_one I.1 c9) 0 rfl rfl 6 (by decide) (hts _ ms_k465) (fun _ h => h) e9 d169_17 ?_
      clear e9 c9 fs9
      refine lv_lshl (v := ((1 : Int64) <<< (v24.toInt64 &&& 63))) hx hb d169_20 rfl ?_
      refine lv_lor hx hb d169_21 ?_
      refine lv_lstore_n hx hb d169_22 rfl hl (by decide) rfl (fun ls hl => ?_)
      have hl : lv_has ls 5 [(2, .long (x2 ||| ((1 : Int64) <<< (v24.toInt64 &&& 63)))), (4, va_rf x4)] := hl
      refine lv_aloadR hx hb d169_23 (lv_at hl 1 rfl) ?_
      obtain ⟨a25, e9, hF⟩ := hF
      refine W.eq (g2 := F0 m 25 ls [.ref a25]) (by rw [e9]; rfl) ?_
      clear e9
      obtain ⟨fs9, v26, c9, e9, hF⟩ := hF
      refine va_get (D := D) (ci := 8) (v := va_rf v26) (C := kR8) (T := kT8) (N := 9) hx hb hts ku8 hown hK (hm_one I.1 c9) 0 rfl rfl 1 (by decide) (hts _ ms_k448) (fun _ h => h) e9 d169_25 ?_
      clear e9 c9 fs9
      refine lv_astoreR hx hb d169_28 hl (by decide) rfl (fun ls hl => ?_)
      have hl : lv_has ls 5 [(4, va_rf v26), (2, .long (x2 ||| ((1 : Int64) <<< (v24.toInt64 &&& 63))))] := hl
      refine lv_goto hx hb d169_30 rfl ?_
      exact hk8 ls (x2 ||| ((1 : Int64) <<< (v24.toInt64 &&& 63))) v26 h z _ _ hF (hl.sub [1, 0] rfl) I
  have hF := hg
  unfold w_Walker_ancestors at hF
  clear h z
  refine lv_lconst (v := (0 : Int64)) hx hb d169_0 (by decide) ?_
  refine lv_lstore_n (i := 2) hx hb d169_1 rfl hl (by decide) (show _ = [(2, .long (0 : Int64)), (0, .ref y0), (1, va_rf y1)] by simp [cat_rf, cat_int, cat_ref, cat_null, cat_long]) (fun ls hl => ?_)
  have hl : lv_has ls 5 [(2, .long (0 : Int64)), (0, .ref y0), (1, va_rf y1)] := hl
  refine lv_aload_nR hx hb d169_2 rfl (lv_at hl 2 rfl) ?_
  obtain ⟨a21, e9, hF⟩ := hF
  refine W.eq (g2 := F0 m 3 ls [.ref a21]) (by rw [e9]; rfl) ?_
  clear e9
  obtain ⟨fs9, v22, c9, e9, hF⟩ := hF
  refine va_get (D := D) (ci := 8) (v := va_rf v22) (C := kR8) (T := kT8) (N := 9) hx hb hts ku8 hown hK (hm_one I.1 c9) 0 rfl rfl 1 (by decide) (hts _ ms_k448) (fun _ h => h) e9 d169_3 ?_
  clear e9 c9 fs9
  refine lv_astoreR hx hb d169_6 hl (by decide) rfl (fun ls hl => ?_)
  have hl : lv_has ls 5 [(4, va_rf v22), (2, .long (0 : Int64)), (0, .ref y0), (1, va_rf y1)] := hl
  exact b8 mF ls (0 : Int64) v22 h0 z0 _ _ hF (hl.sub [1, 0] rfl) I

def w_Walker_children_55 (dA : Nat → ClassId) (y0 : Nat) (K : Int64 → hm_T → hz_T → Prop) (x2 : Int64) (h : hm_T) (z : hz_T) : Prop := (K x2 h z)
def w_Walker_children_47 (dA : Nat → ClassId) (y0 : Nat) (K : Int64 → hm_T → hz_T → Prop) (k5 : Option Nat → Int64 → Int32 → hm_T → hz_T → Prop) (x1 : Option Nat) (x4 : Int32) (w0 : Int64) (w1 : Int64) (h : hm_T) (z : hz_T) : Prop := (k5 x1 (w1 ||| w0) (x4 + 1) h z)
def w_Walker_children_5 (dA : Nat → ClassId) (y0 : Nat) (K : Int64 → hm_T → hz_T → Prop) : Nat → Option Nat → Int64 → Int32 → hm_T → hz_T → Prop
  | 0, _, _, _, _, _ => False
  | n9 + 1, x1, x2, x4, h, z => (if x1 = none then (w_Walker_children_55 dA y0 K x2 h z) else (cg_R h 14 0 y0 (fun v21 => (cg_d v21 (fun a22 => (cg_I h 1 3 a22 (fun v23 => (if v23 ≤ x4 then (w_Walker_children_55 dA y0 K x2 h z) else (cg_R h 14 0 y0 (fun v24 => (cg_d v24 (fun a25 => (cg_R h 1 2 a25 (fun v26 => (cg_d v26 (fun a27 => (cg_ar dA h 5 a27 x4 (fun v28 => (cg_d v28 (fun a29 => (cg_R h 8 1 a29 (fun v30 => (if v30 = x1 then (w_Walker_children_47 dA y0 K (w_Walker_children_5 dA y0 K n9) x1 x4 ((1 : Int64) <<< (x4.toInt64 &&& 63)) x2 h z) else (w_Walker_children_47 dA y0 K (w_Walker_children_5 dA y0 K n9) x1 x4 (0 : Int64) x2 h z))))))))))))))))))))))))
def w_Walker_children (dA : Nat → ClassId) (y0 : Nat) (y1 : Option Nat) (K : Int64 → hm_T → hz_T → Prop) (h0 : hm_T) (z0 : hz_T) : Prop := (w_Walker_children_5 dA y0 K mF y1 (0 : Int64) 0 h0 z0)
set_option maxRecDepth 100000 in
set_option maxHeartbeats 8000000 in
theorem cw_Walker_children (l : Launch) (D : va_G) (dA : Nat → ClassId) (s0 : State) (hE : ms_EV D dA s0) (y0 : Nat) (y1 : Option Nat) (h0 : hm_T) (z0 : hz_T) (K : Int64 → hm_T → hz_T → Prop) (hg : w_Walker_children dA y0 y1 K h0 z0) : ht_C l D s0 yM170 bM170 5 (Option.some Jvm.ClassFile.FieldType.long) 0 0 0 0 [.ref y0, va_rf y1] (fun h z => h = h0 ∧ z = z0) (fun h z vv h1 z1 => ∃ v, vv = some (.long v) ∧ K v h1 z1) := by
  refine ht_C.mk hE.1 (by decide) (by simp [lg_sl, cat_rf, cat_int, cat_ref, cat_null, cat_long]) [(0, .ref y0), (1, va_rf y1)] (by simp [lv_args, cat_rf, cat_int, cat_ref, cat_null, cat_long]) ?_
  intro p e s m below meth c ls h z X hin hpre I hl
  have hx := X.1
  have hb := X.2.1
  have hml := X.2.2.1
  have hown : s.vm.findClass "MarkupStore$Walker" = some m.cls := X.2.2.2.1
  have hts := X.2.2.2.2.2.2.1
  have hK := X.2.2.2.2.2.2.2.2.1
  rw [hpre.1, hpre.2] at I
  clear hpre
  have b55 : ∀ (ls : Array Slot) (x2 : Int64) (h : hm_T) (z : hz_T) (H : Heap) (locs : List Loc), w_Walker_children_55 dA y0 K x2 h z → lv_has ls 5 [(2, .long x2)] → hm_I D s0 s h z H locs → W p l e { frames := 0, cells := 0, slots := 0, locals := 0 } s m ([.ref y0, va_rf y1] : List Value).toArray below meth c H locs 0 0 (MQ below (ht_Q D s0 (fun vv h1 z1 => ∃ v, vv = some (.long v) ∧ K v h1 z1)) ([.ref y0, va_rf y1] : List Value).toArray s 0 0 (fun q => s0.heap.size ≤ q)) (F0 m 55 ls []) := by
    intro ls x2 h z H locs hF hl I
    unfold w_Walker_children_55 at hF
    refine lv_lload_n hx hb d170_55 rfl (lv_at hl 0 rfl) ?_
    exact ht_lret X d170_56 I (Nat.le_of_ble_eq_true rfl) (Nat.le_of_ble_eq_true rfl) ⟨_, rfl, hF⟩
  have b47 : ∀ (k5 : Option Nat → Int64 → Int32 → hm_T → hz_T → Prop), (∀ (ls : Array Slot) (x1 : Option Nat) (x2 : Int64) (x4 : Int32) (h : hm_T) (z : hz_T) (H : Heap) (locs : List Loc), k5 x1 x2 x4 h z → lv_has ls 5 [(0, .ref y0), (1, va_rf x1), (2, .long x2), (4, .int x4)] → hm_I D s0 s h z H locs → W p l e { frames := 0, cells := 0, slots := 0, locals := 0 } s m ([.ref y0, va_rf y1] : List Value).toArray below meth c H locs 0 0 (MQ below (ht_Q D s0 (fun vv h1 z1 => ∃ v, vv = some (.long v) ∧ K v h1 z1)) ([.ref y0, va_rf y1] : List Value).toArray s 0 0 (fun q => s0.heap.size ≤ q)) (F0 m 5 ls [])) → ∀ (ls : Array Slot) (x1 : Option Nat) (x4 : Int32) (w0 : Int64) (w1 : Int64) (h : hm_T) (z : hz_T) (H : Heap) (locs : List Loc), w_Walker_children_47 dA y0 K k5 x1 x4 w0 w1 h z → lv_has ls 5 [(0, .ref y0), (1, va_rf x1), (4, .int x4)] → hm_I D s0 s h z H locs → W p l e { frames := 0, cells := 0, slots := 0, locals := 0 } s m ([.ref y0, va_rf y1] : List Value).toArray below meth c H locs 0 0 (MQ below (ht_Q D s0 (fun vv h1 z1 => ∃ v, vv = some (.long v) ∧ K v h1 z1)) ([.ref y0, va_rf y1] : List Value).toArray s 0 0 (fun q => s0.heap.size ≤ q)) (F0 m 47 ls [.long w0, .long w1]) := by
    intro k5 hk5 ls x1 x4 w0 w1 h z H locs hF hl I
    unfold w_Walker_children_47 at hF
    refine lv_lor hx hb d170_47 ?_
    refine lv_lstore_n (i := 2) hx hb d170_48 rfl hl (by decide) (show _ = [(2, .long (w1 ||| w0)), (0, .ref y0), (1, va_rf x1), (4, .int x4)] by simp [cat_rf, cat_int, cat_ref, cat_null, cat_long]) (fun ls hl => ?_)
    have hl : lv_has ls 5 [(2, .long (w1 ||| w0)), (0, .ref y0), (1, va_rf x1), (4, .int x4)] := hl
    refine lv_iinc (k := 3) (v := (x4 + 1)) hx hb d170_49 hl rfl (rfl) (by decide) rfl (fun ls hl => ?_)
    have hl : lv_has ls 5 [(4, .int (x4 + 1)), (2, .long (w1 ||| w0)), (0, .ref y0), (1, va_rf x1)] := hl
    refine lv_goto hx hb d170_52 rfl ?_
    exact hk5 ls x1 (w1 ||| w0) (x4 + 1) h z _ _ hF (hl.sub [2, 3, 1, 0] rfl) I
  have b5 : ∀ n9 : Nat, ∀ (ls : Array Slot) (x1 : Option Nat) (x2 : Int64) (x4 : Int32) (h : hm_T) (z : hz_T) (H : Heap) (locs : List Loc), w_Walker_children_5 dA y0 K n9 x1 x2 x4 h z → lv_has ls 5 [(0, .ref y0), (1, va_rf x1), (2, .long x2), (4, .int x4)] → hm_I D s0 s h z H locs → W p l e { frames := 0, cells := 0, slots := 0, locals := 0 } s m ([.ref y0, va_rf y1] : List Value).toArray below meth c H locs 0 0 (MQ below (ht_Q D s0 (fun vv h1 z1 => ∃ v, vv = some (.long v) ∧ K v h1 z1)) ([.ref y0, va_rf y1] : List Value).toArray s 0 0 (fun q => s0.heap.size ≤ q)) (F0 m 5 ls []) := by
    intro n9
    induction n9 with
    | zero => intro ls x1 x2 x4 h z H locs hF; cases hF
    | succ n9 hk5 =>
    intro ls x1 x2 x4 h z H locs hF hl I
    unfold w_Walker_children_5 at hF
    refine lv_aload_nR hx hb d170_5 rfl (lv_at hl 1 rfl) ?_
    refine lv_ifnullR hx hb d170_6 rfl (fun h9 => ?_) (fun h9 => ?_)
    · have hF := Eq.mp (if_pos h9) hF
      exact b55 ls x2 h z _ _ hF (hl.sub [2] rfl) I
    · have hF := Eq.mp (if_neg h9) hF
      refine lv_iload hx hb d170_9 (lv_at hl 3 rfl) ?_
      refine lv_aload_n hx hb d170_11 rfl (lv_at hl 0 rfl) ?_
      obtain ⟨fs9, v21, c9, e9, hF⟩ := hF
      refine va_get (D := D) (ci := 14) (v := va_rf v21) (C := kR14) (T := kT14) (N := 1) hx hb hts ku14 hown hK (hm_one I.1 c9) 0 rfl rfl 0 (by decide) (hts _ ms_k1088) (fun _ h => h) e9 d170_12 ?_
      clear e9 c9 fs9
      obtain ⟨a22, e9, hF⟩ := hF
      refine W.eq (g2 := F0 m 15 ls [.ref a22, .int x4]) (by rw [e9]; rfl) ?_
      clear e9
      obtain ⟨fs9, v23, c9, e9, hF⟩ := hF
      refine va_get (D := D) (ci := 1) (v := .int v23) (C := kR1) (T := kT1) (N := 6) hx hb hts ku1 hown hK (hm_one I.1 c9) 0 rfl rfl 3 (by decide) (hts _ ms_k88) (fun _ h => h) e9 d170_15 ?_
      clear e9 c9 fs9
      refine lv_icmp_ge hx hb d170_18 rfl (fun h9 => ?_) (fun h9 => ?_)
      · have hF := Eq.mp (if_pos h9) hF
        exact b55 ls x2 h z _ _ hF (hl.sub [2] rfl) I
      · have hF := Eq.mp (if_neg h9) hF
        refine lv_lload_n hx hb d170_21 rfl (lv_at hl 2 rfl) ?_
        refine lv_aload_n hx hb d170_22 rfl (lv_at hl 0 rfl) ?_
        obtain ⟨fs9, v24, c9, e9, hF⟩ := hF
        refine va_get (D := D) (ci := 14) (v := va_rf v24) (C := kR14) (T := kT14) (N := 1) hx hb hts ku14 hown hK (hm_one I.1 c9) 0 rfl rfl 0 (by decide) (hts _ ms_k1088) (fun _ h => h) e9 d170_23 ?_
        clear e9 c9 fs9
        obtain ⟨a25, e9, hF⟩ := hF
        refine W.eq (g2 := F0 m 26 ls [.ref a25, .long x2]) (by rw [e9]; rfl) ?_
        clear e9
        obtain ⟨fs9, v26, c9, e9, hF⟩ := hF
        refine va_get (D := D) (ci := 1) (v := va_rf v26) (C := kR1) (T := kT1) (N := 6) hx hb hts ku1 hown hK (hm_one I.1 c9) 0 rfl rfl 2 (by decide) (hts _ ms_k84) (fun _ h => h) e9 d170_26 ?_
        clear e9 c9 fs9
        refine lv_iload hx hb d170_29 (lv_at hl 3 rfl) ?_
        obtain ⟨a27, e9, hF⟩ := hF
        refine W.eq (g2 := F0 m 31 ls [.int x4, .ref a27, .long x2]) (by rw [e9]; rfl) ?_
        clear e9
        obtain ⟨n8, f8, c9, i9, hF⟩ := hF
        refine va_aldq hx hb hK (hm_one I.1 c9) 0 5 rfl rfl i9 d170_31 ?_
        generalize f8 (Int32.toNatClampNeg x4) = v28 at hF ⊢
        clear c9 i9
        obtain ⟨a29, e9, hF⟩ := hF
        refine W.eq (g2 := F0 m 32 ls [.ref a29, .long x2]) (by rw [e9]; rfl) ?_
        clear e9
        obtain ⟨fs9, v30, c9, e9, hF⟩ := hF
        refine va_get (D := D) (ci := 8) (v := va_rf v30) (C := kR8) (T := kT8) (N := 9) hx hb hts ku8 hown hK (hm_one I.1 c9) 0 rfl rfl 1 (by decide) (hts _ ms_k448) (fun _ h => h) e9 d170_32 ?_
        clear e9 c9 fs9
        refine lv_aload_nR hx hb d170_35 rfl (lv_at hl 1 rfl) ?_
        refine lv_acmp_ne (rx := v30) (ry := x1) hx hb d170_36 rfl (fun h9 => ?_) (fun h9 => ?_)
        · have hF := Eq.mp (if_neg h9) hF
          refine lv_lconst (v := (0 : Int64)) hx hb d170_46 (by decide) ?_
          exact b47 (w_Walker_children_5 dA y0 K n9) hk5 ls x1 x4 (0 : Int64) x2 h z _ _ hF (hl.sub [0, 1, 3] rfl) I
        · have hF := Eq.mp (if_pos h9) hF
          refine lv_lconst (v := (1 : Int64)) hx hb d170_39 (by decide) ?_
          refine lv_iload hx hb d170_40 (lv_at hl 3 rfl) ?_
          refine lv_lshl (v := ((1 : Int64) <<< (x4.toInt64 &&& 63))) hx hb d170_42 rfl ?_
          refine lv_goto hx hb d170_43 rfl ?_
          exact b47 (w_Walker_children_5 dA y0 K n9) hk5 ls x1 x4 ((1 : Int64) <<< (x4.toInt64 &&& 63)) x2 h z _ _ hF (hl.sub [0, 1, 3] rfl) I
  have hF := hg
  unfold w_Walker_children at hF
  clear h z
  refine lv_lconst (v := (0 : Int64)) hx hb d170_0 (by decide) ?_
  refine lv_lstore_n (i := 2) hx hb d170_1 rfl hl (by decide) (show _ = [(2, .long (0 : Int64)), (0, .ref y0), (1, va_rf y1)] by simp [cat_rf, cat_int, cat_ref, cat_null, cat_long]) (fun ls hl => ?_)
  have hl : lv_has ls 5 [(2, .long (0 : Int64)), (0, .ref y0), (1, va_rf y1)] := hl
  refine lv_iconst (v := 0) hx hb d170_2 (by decide) ?_
  refine lv_istore hx hb d170_3 hl (by decide) rfl (fun ls hl => ?_)
  have hl : lv_has ls 5 [(4, .int 0), (2, .long (0 : Int64)), (0, .ref y0), (1, va_rf y1)] := hl
  exact b5 mF ls y1 (0 : Int64) 0 h0 z0 _ _ hF (hl.sub [2, 3, 1, 0] rfl) I

def w_Walker_range (dA : Nat → ClassId) (y0 : Int32) (y1 : Int32) (K : Int64 → hm_T → hz_T → Prop) (h0 : hm_T) (z0 : hz_T) : Prop := (K (((1 : Int64) <<< (y1.toInt64 &&& 63)) - ((1 : Int64) <<< (y0.toInt64 &&& 63))) h0 z0)
set_option maxRecDepth 100000 in
set_option maxHeartbeats 8000000 in
theorem cw_Walker_range (l : Launch) (D : va_G) (dA : Nat → ClassId) (s0 : State) (hE : ms_EV D dA s0) (y0 : Int32) (y1 : Int32) (h0 : hm_T) (z0 : hz_T) (K : Int64 → hm_T → hz_T → Prop) (hg : w_Walker_range dA y0 y1 K h0 z0) : ht_C l D s0 yM171 bM171 2 (Option.some Jvm.ClassFile.FieldType.long) 0 0 0 0 [.int y0, .int y1] (fun h z => h = h0 ∧ z = z0) (fun h z vv h1 z1 => ∃ v, vv = some (.long v) ∧ K v h1 z1) := by
  refine ht_C.mk hE.1 (by decide) (Nat.le_of_ble_eq_true rfl) [(0, .int y0), (1, .int y1)] rfl ?_
  intro p e s m below meth c ls h z X hin hpre I hl
  have hx := X.1
  have hb := X.2.1
  have hml := X.2.2.1
  have hown : s.vm.findClass "MarkupStore$Walker" = some m.cls := X.2.2.2.1
  have hts := X.2.2.2.2.2.2.1
  have hK := X.2.2.2.2.2.2.2.2.1
  rw [hpre.1, hpre.2] at I
  clear hpre
  have hF := hg
  unfold w_Walker_range at hF
  clear h z
  refine lv_lconst (v := (1 : Int64)) hx hb d171_0 (by decide) ?_
  refine lv_iload_n hx hb d171_1 rfl (lv_at hl 1 rfl) ?_
  refine lv_lshl (v := ((1 : Int64) <<< (y1.toInt64 &&& 63))) hx hb d171_2 rfl ?_
  refine lv_lconst (v := (1 : Int64)) hx hb d171_3 (by decide) ?_
  refine lv_iload_n hx hb d171_4 rfl (lv_at hl 0 rfl) ?_
  refine lv_lshl (v := ((1 : Int64) <<< (y0.toInt64 &&& 63))) hx hb d171_5 rfl ?_
  refine lv_lsub hx hb d171_6 ?_
  exact ht_lret X d171_7 I (Nat.le_of_ble_eq_true rfl) (Nat.le_of_ble_eq_true rfl) ⟨_, rfl, hF⟩

def w_Store_kind (dA : Nat → ClassId) (y0 : Nat) (y1 : Int32) (K : Int32 → hm_T → hz_T → Prop) (h0 : hm_T) (z0 : hz_T) : Prop := (cg_R h0 0 2 y0 (fun v21 => (cg_d v21 (fun a22 => (cg_c h0 1 a22 ((w_Tree_find dA a22 y1 (fun v23 h24 z25 => (if v23 = none then (K (-1000) h24 z25) else (cg_d v23 (fun a26 => (cg_I h24 8 0 a26 (fun v27 => (K v27 h24 z25))))))) h0 z0)))))))
set_option maxRecDepth 100000 in
set_option maxHeartbeats 8000000 in
theorem cw_Store_kind (l : Launch) (D : va_G) (dA : Nat → ClassId) (s0 : State) (hE : ms_EV D dA s0) (y0 : Nat) (y1 : Int32) (h0 : hm_T) (z0 : hz_T) (K : Int32 → hm_T → hz_T → Prop) (hg : w_Store_kind dA y0 y1 K h0 z0) : ht_C l D s0 yM172 bM172 3 (Option.some Jvm.ClassFile.FieldType.int) 1 21 0 0 [.ref y0, .int y1] (fun h z => h = h0 ∧ z = z0) (fun h z vv h1 z1 => ∃ v, vv = some (.int v) ∧ K v h1 z1) := by
  refine ht_C.mk hE.1 (by decide) (Nat.le_of_ble_eq_true rfl) [(0, .ref y0), (1, .int y1)] rfl ?_
  intro p e s m below meth c ls h z X hin hpre I hl
  have hx := X.1
  have hb := X.2.1
  have hml := X.2.2.1
  have hown : s.vm.findClass "MarkupStore" = some m.cls := X.2.2.2.1
  have hts := X.2.2.2.2.2.2.1
  have hK := X.2.2.2.2.2.2.2.2.1
  rw [hpre.1, hpre.2] at I
  clear hpre
  have hF := hg
  unfold w_Store_kind at hF
  clear h z
  refine lv_aload_n hx hb d172_0 rfl (lv_at hl 0 rfl) ?_
  obtain ⟨fs9, v21, c9, e9, hF⟩ := hF
  refine va_get (D := D) (ci := 0) (v := va_rf v21) (C := kR0) (T := kT0) (N := 6) hx hb hts ku0 hown hK (hm_one I.1 c9) 0 rfl rfl 2 (by decide) (hts _ ms_k107) (fun _ h => h) e9 d172_1 ?_
  clear e9 c9 fs9
  refine lv_iload_n hx hb d172_4 rfl (lv_at hl 1 rfl) ?_
  obtain ⟨a22, e9, hF⟩ := hF
  refine W.eq (g2 := F0 m 5 ls [.int y1, .ref a22]) (by rw [e9]; rfl) ?_
  clear e9
  obtain ⟨fs9, c9, hF⟩ := hF
  refine ht_V (C := "MarkupStore$Tree") (rest := []) (as := [.int y1]) X hl (cw_Tree_find l D dA s0 hE a22 y1 h0 z0 _ hF) (List.forall_mem_cons.mpr ⟨ms_k745, List.forall_mem_cons.mpr ⟨ms_k746, List.forall_mem_cons.mpr ⟨ms_k747, List.forall_mem_cons.mpr ⟨ms_k6, List.forall_mem_cons.mpr ⟨ms_k748, fun _ h => absurd h List.not_mem_nil⟩⟩⟩⟩⟩) ⟨rfl, by decide +kernel, by decide +kernel, (by decide +kernel : (parseMethodDescriptor "(I)LMarkupStore$Node;").map (fun d => d.parameters.length) = some 1)⟩ (hm_recv hK I rfl c9) I ⟨rfl, rfl⟩ ⟨⟨Nat.le_of_ble_eq_true rfl, Nat.le_of_ble_eq_true rfl⟩, Nat.le_of_ble_eq_true rfl, Nat.le_of_ble_eq_true rfl⟩ rfl (Nat.le_of_ble_eq_true rfl) d172_5 (fun vv h24 z25 H locs hR I9 => ?_)
  obtain ⟨v23, e1, hF⟩ := hR
  subst e1
  clear I
  have I := I9
  clear I9 c9 fs9
  refine W.eq (g2 := F0 m 8 ls [va_rf v23]) rfl ?_
  refine lv_astore_nR hx hb d172_8 rfl hl (by decide) rfl (fun ls hl => ?_)
  have hl : lv_has ls 3 [(2, va_rf v23), (0, .ref y0), (1, .int y1)] := hl
  refine lv_aload_nR hx hb d172_9 rfl (lv_at hl 0 rfl) ?_
  refine lv_ifnonnullR hx hb d172_10 rfl (fun h9 => ?_) (fun h9 => ?_)
  · have hF := Eq.mp (if_neg h9) hF
    refine lv_aload_nR hx hb d172_19 rfl (lv_at hl 0 rfl) ?_
    obtain ⟨a26, e9, hF⟩ := hF
    refine W.eq (g2 := F0 m 20 ls [.ref a26]) (by rw [e9]; rfl) ?_
    clear e9
    obtain ⟨fs9, v27, c9, e9, hF⟩ := hF
    refine va_get (D := D) (ci := 8) (v := .int v27) (C := kR8) (T := kT8) (N := 9) hx hb hts ku8 hown hK (hm_one I.1 c9) 0 rfl rfl 0 (by decide) (hts _ ms_k442) (fun _ h => h) e9 d172_20 ?_
    clear e9 c9 fs9
    exact ht_iret X d172_23 I (Nat.le_of_ble_eq_true rfl) (Nat.le_of_ble_eq_true rfl) ⟨_, rfl, hF⟩
  · have hF := Eq.mp (if_pos h9) hF
    refine lv_sipush (v := (-1000)) hx hb d172_13 (by decide) ?_
    refine lv_goto hx hb d172_16 rfl ?_
    exact ht_iret X d172_23 I (Nat.le_of_ble_eq_true rfl) (Nat.le_of_ble_eq_true rfl) ⟨_, rfl, hF⟩

def w_Store_node (dA : Nat → ClassId) (y0 : Nat) (y1 : Int32) (y2 : Int32) (K : Int32 → hm_T → hz_T → Prop) (h0 : hm_T) (z0 : hz_T) : Prop := (cg_R h0 0 2 y0 (fun v21 => (cg_d v21 (fun a22 => (cg_c h0 1 a22 ((w_Tree_find dA a22 y1 (fun v23 h24 z25 => (if v23 = none then (K (-1000) h24 z25) else (if y2 = 0 then (cg_d v23 (fun a26 => (cg_R h24 8 1 a26 (fun v27 => (if v27 = none then (K (-1) h24 z25) else (cg_d v23 (fun a28 => (cg_R h24 8 1 a28 (fun v29 => (cg_d v29 (fun a30 => (cg_I h24 8 5 a30 (fun v31 => (K v31 h24 z25)))))))))))))) else (if y2 = 1 then (cg_R h24 0 2 y0 (fun v32 => (cg_R h24 0 2 y0 (fun v33 => (cg_d v33 (fun a34 => (cg_I h24 1 3 a34 (fun v35 => (cg_d v32 (fun a36 => (cg_c h24 1 a36 ((w_Tree_childrenWithin dA a36 v23 0 v35 (fun v37 h38 z39 => (K v37 h38 z39)) h24 z25))))))))))))) else (if y2 = 2 then (cg_d v23 (fun a40 => (cg_R h24 8 1 a40 (fun v41 => (if v41 = none then (K 0 h24 z25) else (cg_R h24 0 2 y0 (fun v42 => (cg_d v23 (fun a43 => (cg_R h24 8 1 a43 (fun v44 => (cg_d v23 (fun a45 => (cg_I h24 8 6 a45 (fun v46 => (cg_d v42 (fun a47 => (cg_c h24 1 a47 ((w_Tree_childrenWithin dA a47 v44 0 v46 (fun v48 h49 z50 => (K v48 h49 z50)) h24 z25)))))))))))))))))))) else (if y2 = 3 then (cg_d v23 (fun a51 => (cg_R h24 8 4 a51 (fun v52 => (cg_d v52 (fun a53 => (jd_sz h24 a53 (fun v54 => (K v54 h24 z25))))))))) else (if y2 = 4 then (cg_d v23 (fun a55 => (cg_R h24 8 7 a55 (fun v56 => (cg_d v56 (fun a57 => (jd_len z25 a57 (fun v58 => (K v58 h24 z25))))))))) else (if y2 = 5 then (cg_d v23 (fun a59 => (cg_R h24 8 3 a59 (fun v60 => (cg_d v60 (fun a61 => (cg_al dA h24 0 a61 (fun v62 => (K v62 h24 z25))))))))) else (if y2 = 6 then (cg_d v23 (fun a63 => (cg_I h24 8 6 a63 (fun v64 => (K v64 h24 z25))))) else (K (-1000) h24 z25)))))))))) h0 z0)))))))
set_option maxRecDepth 100000 in
set_option maxHeartbeats 8000000 in
theorem cw_Store_node (l : Launch) (D : va_G) (dA : Nat → ClassId) (s0 : State) (hE : ms_EV D dA s0) (y0 : Nat) (y1 : Int32) (y2 : Int32) (h0 : hm_T) (z0 : hz_T) (K : Int32 → hm_T → hz_T → Prop) (hg : w_Store_node dA y0 y1 y2 K h0 z0) : ht_C l D s0 yM173 bM173 4 (Option.some Jvm.ClassFile.FieldType.int) 2 40 0 0 [.ref y0, .int y1, .int y2] (fun h z => h = h0 ∧ z = z0) (fun h z vv h1 z1 => ∃ v, vv = some (.int v) ∧ K v h1 z1) := by
  refine ht_C.mk hE.1 (by decide) (Nat.le_of_ble_eq_true rfl) [(0, .ref y0), (1, .int y1), (2, .int y2)] rfl ?_
  intro p e s m below meth c ls h z X hin hpre I hl
  have hx := X.1
  have hb := X.2.1
  have hml := X.2.2.1
  have hown : s.vm.findClass "MarkupStore" = some m.cls := X.2.2.2.1
  have hts := X.2.2.2.2.2.2.1
  have hK := X.2.2.2.2.2.2.2.2.1
  rw [hpre.1, hpre.2] at I
  clear hpre
  have hF := hg
  unfold w_Store_node at hF
  clear h z
  refine lv_aload_n hx hb d173_0 rfl (lv_at hl 0 rfl) ?_
  obtain ⟨fs9, v21, c9, e9, hF⟩ := hF
  refine va_get (D := D) (ci := 0) (v := va_rf v21) (C := kR0) (T := kT0) (N := 6) hx hb hts ku0 hown hK (hm_one I.1 c9) 0 rfl rfl 2 (by decide) (hts _ ms_k107) (fun _ h => h) e9 d173_1 ?_
  clear e9 c9 fs9
  refine lv_iload_n hx hb d173_4 rfl (lv_at hl 1 rfl) ?_
  obtain ⟨a22, e9, hF⟩ := hF
  refine W.eq (g2 := F0 m 5 ls [.int y1, .ref a22]) (by rw [e9]; rfl) ?_
  clear e9
  obtain ⟨fs9, c9, hF⟩ := hF
  refine ht_V (C := "MarkupStore$Tree") (rest := []) (as := [.int y1]) X hl (cw_Tree_find l D dA s0 hE a22 y1 h0 z0 _ hF) (List.forall_mem_cons.mpr ⟨ms_k745, List.forall_mem_cons.mpr ⟨ms_k746, List.forall_mem_cons.mpr ⟨ms_k747, List.forall_mem_cons.mpr ⟨ms_k6, List.forall_mem_cons.mpr ⟨ms_k748, fun _ h => absurd h List.not_mem_nil⟩⟩⟩⟩⟩) ⟨rfl, by decide +kernel, by decide +kernel, (by decide +kernel : (parseMethodDescriptor "(I)LMarkupStore$Node;").map (fun d => d.parameters.length) = some 1)⟩ (hm_recv hK I rfl c9) I ⟨rfl, rfl⟩ ⟨⟨Nat.le_of_ble_eq_true rfl, Nat.le_of_ble_eq_true rfl⟩, Nat.le_of_ble_eq_true rfl, Nat.le_of_ble_eq_true rfl⟩ rfl (Nat.le_of_ble_eq_true rfl) d173_5 (fun vv h24 z25 H locs hR I9 => ?_)
  obtain ⟨v23, e1, hF⟩ := hR
  subst e1
  clear I
  have I := I9
  clear I9 c9 fs9
  refine W.eq (g2 := F0 m 8 ls [va_rf v23]) rfl ?_
  refine lv_astore_nR hx hb d173_8 rfl hl (by decide) rfl (fun ls hl => ?_)
  have hl : lv_has ls 4 [(3, va_rf v23), (0, .ref y0), (1, .int y1), (2, .int y2)] := hl
  refine lv_aload_nR hx hb d173_9 rfl (lv_at hl 0 rfl) ?_
  refine lv_ifnonnullR hx hb d173_10 rfl (fun h9 => ?_) (fun h9 => ?_)
  · have hF := Eq.mp (if_neg h9) hF
    refine lv_iload_n hx hb d173_17 rfl (lv_at hl 3 rfl) ?_
    by_cases h9_0 : y2 = 0
    · have hF := Eq.mp (if_pos h9_0) hF
      refine lv_tableIn (off := 42) (tgt := 60) hx hb d173_18 (by rw [h9_0]; decide) (by rw [h9_0]; decide) (by rw [h9_0]; rfl) (by decide) ?_
      refine lv_aload_nR hx hb d173_60 rfl (lv_at hl 0 rfl) ?_
      obtain ⟨a26, e9, hF⟩ := hF
      refine W.eq (g2 := F0 m 61 ls [.ref a26]) (by rw [e9]; rfl) ?_
      clear e9
      obtain ⟨fs9, v27, c9, e9, hF⟩ := hF
      refine va_get (D := D) (ci := 8) (v := va_rf v27) (C := kR8) (T := kT8) (N := 9) hx hb hts ku8 hown hK (hm_one I.1 c9) 0 rfl rfl 1 (by decide) (hts _ ms_k446) (fun _ h => h) e9 d173_61 ?_
      clear e9 c9 fs9
      refine lv_ifnonnullR hx hb d173_64 rfl (fun h9 => ?_) (fun h9 => ?_)
      · have hF := Eq.mp (if_neg h9) hF
        refine lv_aload_nR hx hb d173_71 rfl (lv_at hl 0 rfl) ?_
        obtain ⟨a28, e9, hF⟩ := hF
        refine W.eq (g2 := F0 m 72 ls [.ref a28]) (by rw [e9]; rfl) ?_
        clear e9
        obtain ⟨fs9, v29, c9, e9, hF⟩ := hF
        refine va_get (D := D) (ci := 8) (v := va_rf v29) (C := kR8) (T := kT8) (N := 9) hx hb hts ku8 hown hK (hm_one I.1 c9) 0 rfl rfl 1 (by decide) (hts _ ms_k446) (fun _ h => h) e9 d173_72 ?_
        clear e9 c9 fs9
        obtain ⟨a30, e9, hF⟩ := hF
        refine W.eq (g2 := F0 m 75 ls [.ref a30]) (by rw [e9]; rfl) ?_
        clear e9
        obtain ⟨fs9, v31, c9, e9, hF⟩ := hF
        refine va_get (D := D) (ci := 8) (v := .int v31) (C := kR8) (T := kT8) (N := 9) hx hb hts ku8 hown hK (hm_one I.1 c9) 0 rfl rfl 5 (by decide) (hts _ ms_k461) (fun _ h => h) e9 d173_75 ?_
        clear e9 c9 fs9
        exact ht_iret X d173_78 I (Nat.le_of_ble_eq_true rfl) (Nat.le_of_ble_eq_true rfl) ⟨_, rfl, hF⟩
      · have hF := Eq.mp (if_pos h9) hF
        refine lv_iconst (v := (-1)) hx hb d173_67 (by decide) ?_
        refine lv_goto hx hb d173_68 rfl ?_
        exact ht_iret X d173_78 I (Nat.le_of_ble_eq_true rfl) (Nat.le_of_ble_eq_true rfl) ⟨_, rfl, hF⟩
    have hF := Eq.mp (if_neg h9_0) hF
    by_cases h9_1 : y2 = 1
    · have hF := Eq.mp (if_pos h9_1) hF
      refine lv_tableIn (off := 61) (tgt := 79) hx hb d173_18 (by rw [h9_1]; decide) (by rw [h9_1]; decide) (by rw [h9_1]; rfl) (by decide) ?_
      refine lv_aload_n hx hb d173_79 rfl (lv_at hl 1 rfl) ?_
      obtain ⟨fs9, v32, c9, e9, hF⟩ := hF
      refine va_get (D := D) (ci := 0) (v := va_rf v32) (C := kR0) (T := kT0) (N := 6) hx hb hts ku0 hown hK (hm_one I.1 c9) 0 rfl rfl 2 (by decide) (hts _ ms_k107) (fun _ h => h) e9 d173_80 ?_
      clear e9 c9 fs9
      refine lv_aload_nR hx hb d173_83 rfl (lv_at hl 0 rfl) ?_
      refine lv_iconst (v := 0) hx hb d173_84 (by decide) ?_
      refine lv_aload_n hx hb d173_85 rfl (lv_at hl 1 rfl) ?_
      obtain ⟨fs9, v33, c9, e9, hF⟩ := hF
      refine va_get (D := D) (ci := 0) (v := va_rf v33) (C := kR0) (T := kT0) (N := 6) hx hb hts ku0 hown hK (hm_one I.1 c9) 0 rfl rfl 2 (by decide) (hts _ ms_k107) (fun _ h => h) e9 d173_86 ?_
      clear e9 c9 fs9
      obtain ⟨a34, e9, hF⟩ := hF
      refine W.eq (g2 := F0 m 89 ls [.ref a34, .int 0, va_rf v23, va_rf v32]) (by rw [e9]; rfl) ?_
      clear e9
      obtain ⟨fs9, v35, c9, e9, hF⟩ := hF
      refine va_get (D := D) (ci := 1) (v := .int v35) (C := kR1) (T := kT1) (N := 6) hx hb hts ku1 hown hK (hm_one I.1 c9) 0 rfl rfl 3 (by decide) (hts _ ms_k89) (fun _ h => h) e9 d173_89 ?_
      clear e9 c9 fs9
      obtain ⟨a36, e9, hF⟩ := hF
      refine W.eq (g2 := F0 m 92 ls [.int v35, .int 0, va_rf v23, .ref a36]) (by rw [e9]; rfl) ?_
      clear e9
      obtain ⟨fs9, c9, hF⟩ := hF
      refine ht_V (C := "MarkupStore$Tree") (rest := []) (as := [va_rf v23, .int 0, .int v35]) X hl (cw_Tree_childrenWithin l D dA s0 hE a36 v23 0 v35 h24 z25 _ hF) (List.forall_mem_cons.mpr ⟨ms_k1222, List.forall_mem_cons.mpr ⟨ms_k1223, List.forall_mem_cons.mpr ⟨ms_k1224, List.forall_mem_cons.mpr ⟨ms_k6, List.forall_mem_cons.mpr ⟨ms_k1225, fun _ h => absurd h List.not_mem_nil⟩⟩⟩⟩⟩) ⟨rfl, by decide +kernel, by decide +kernel, (by decide +kernel : (parseMethodDescriptor "(LMarkupStore$Node;II)I").map (fun d => d.parameters.length) = some 3)⟩ (hm_recv hK I rfl c9) I ⟨rfl, rfl⟩ ⟨⟨Nat.le_of_ble_eq_true rfl, Nat.le_of_ble_eq_true rfl⟩, Nat.le_of_ble_eq_true rfl, Nat.le_of_ble_eq_true rfl⟩ rfl (Nat.le_of_ble_eq_true rfl) d173_92 (fun vv h38 z39 H locs hR I9 => ?_)
      obtain ⟨v37, e1, hF⟩ := hR
      subst e1
      clear I
      have I := I9
      clear I9 c9 fs9
      refine W.eq (g2 := F0 m 95 ls [.int v37]) rfl ?_
      exact ht_iret X d173_95 I (Nat.le_of_ble_eq_true rfl) (Nat.le_of_ble_eq_true rfl) ⟨_, rfl, hF⟩
    have hF := Eq.mp (if_neg h9_1) hF
    by_cases h9_2 : y2 = 2
    · have hF := Eq.mp (if_pos h9_2) hF
      refine lv_tableIn (off := 78) (tgt := 96) hx hb d173_18 (by rw [h9_2]; decide) (by rw [h9_2]; decide) (by rw [h9_2]; rfl) (by decide) ?_
      refine lv_aload_nR hx hb d173_96 rfl (lv_at hl 0 rfl) ?_
      obtain ⟨a40, e9, hF⟩ := hF
      refine W.eq (g2 := F0 m 97 ls [.ref a40]) (by rw [e9]; rfl) ?_
      clear e9
      obtain ⟨fs9, v41, c9, e9, hF⟩ := hF
      refine va_get (D := D) (ci := 8) (v := va_rf v41) (C := kR8) (T := kT8) (N := 9) hx hb hts ku8 hown hK (hm_one I.1 c9) 0 rfl rfl 1 (by decide) (hts _ ms_k446) (fun _ h => h) e9 d173_97 ?_
      clear e9 c9 fs9
      refine lv_ifnonnullR hx hb d173_100 rfl (fun h9 => ?_) (fun h9 => ?_)
      · have hF := Eq.mp (if_neg h9) hF
        refine lv_aload_n hx hb d173_107 rfl (lv_at hl 1 rfl) ?_
        obtain ⟨fs9, v42, c9, e9, hF⟩ := hF
        refine va_get (D := D) (ci := 0) (v := va_rf v42) (C := kR0) (T := kT0) (N := 6) hx hb hts ku0 hown hK (hm_one I.1 c9) 0 rfl rfl 2 (by decide) (hts _ ms_k107) (fun _ h => h) e9 d173_108 ?_
        clear e9 c9 fs9
        refine lv_aload_nR hx hb d173_111 rfl (lv_at hl 0 rfl) ?_
        obtain ⟨a43, e9, hF⟩ := hF
        refine W.eq (g2 := F0 m 112 ls [.ref a43, va_rf v42]) (by rw [e9]; rfl) ?_
        clear e9
        obtain ⟨fs9, v44, c9, e9, hF⟩ := hF
        refine va_get (D := D) (ci := 8) (v := va_rf v44) (C := kR8) (T := kT8) (N := 9) hx hb hts ku8 hown hK (hm_one I.1 c9) 0 rfl rfl 1 (by decide) (hts _ ms_k446) (fun _ h => h) e9 d173_112 ?_
        clear e9 c9 fs9
        refine lv_iconst (v := 0) hx hb d173_115 (by decide) ?_
        refine lv_aload_nR hx hb d173_116 rfl (lv_at hl 0 rfl) ?_
        obtain ⟨a45, e9, hF⟩ := hF
        refine W.eq (g2 := F0 m 117 ls [.ref a45, .int 0, va_rf v44, va_rf v42]) (by rw [e9]; rfl) ?_
        clear e9
        obtain ⟨fs9, v46, c9, e9, hF⟩ := hF
        refine va_get (D := D) (ci := 8) (v := .int v46) (C := kR8) (T := kT8) (N := 9) hx hb hts ku8 hown hK (hm_one I.1 c9) 0 rfl rfl 6 (by decide) (hts _ ms_k464) (fun _ h => h) e9 d173_117 ?_
        clear e9 c9 fs9
        obtain ⟨a47, e9, hF⟩ := hF
        refine W.eq (g2 := F0 m 120 ls [.int v46, .int 0, va_rf v44, .ref a47]) (by rw [e9]; rfl) ?_
        clear e9
        obtain ⟨fs9, c9, hF⟩ := hF
        refine ht_V (C := "MarkupStore$Tree") (rest := []) (as := [va_rf v44, .int 0, .int v46]) X hl (cw_Tree_childrenWithin l D dA s0 hE a47 v44 0 v46 h24 z25 _ hF) (List.forall_mem_cons.mpr ⟨ms_k1222, List.forall_mem_cons.mpr ⟨ms_k1223, List.forall_mem_cons.mpr ⟨ms_k1224, List.forall_mem_cons.mpr ⟨ms_k6, List.forall_mem_cons.mpr ⟨ms_k1225, fun _ h => absurd h List.not_mem_nil⟩⟩⟩⟩⟩) ⟨rfl, by decide +kernel, by decide +kernel, (by decide +kernel : (parseMethodDescriptor "(LMarkupStore$Node;II)I").map (fun d => d.parameters.length) = some 3)⟩ (hm_recv hK I rfl c9) I ⟨rfl, rfl⟩ ⟨⟨Nat.le_of_ble_eq_true rfl, Nat.le_of_ble_eq_true rfl⟩, Nat.le_of_ble_eq_true rfl, Nat.le_of_ble_eq_true rfl⟩ rfl (Nat.le_of_ble_eq_true rfl) d173_120 (fun vv h49 z50 H locs hR I9 => ?_)
        obtain ⟨v48, e1, hF⟩ := hR
        subst e1
        clear I
        have I := I9
        clear I9 c9 fs9
        refine W.eq (g2 := F0 m 123 ls [.int v48]) rfl ?_
        exact ht_iret X d173_123 I (Nat.le_of_ble_eq_true rfl) (Nat.le_of_ble_eq_true rfl) ⟨_, rfl, hF⟩
      · have hF := Eq.mp (if_pos h9) hF
        refine lv_iconst (v := 0) hx hb d173_103 (by decide) ?_
        refine lv_goto hx hb d173_104 rfl ?_
        exact ht_iret X d173_123 I (Nat.le_of_ble_eq_true rfl) (Nat.le_of_ble_eq_true rfl) ⟨_, rfl, hF⟩
    have hF := Eq.mp (if_neg h9_2) hF
    by_cases h9_3 : y2 = 3
    · have hF := Eq.mp (if_pos h9_3) hF
      refine lv_tableIn (off := 106) (tgt := 124) hx hb d173_18 (by rw [h9_3]; decide) (by rw [h9_3]; decide) (by rw [h9_3]; rfl) (by decide) ?_
      refine lv_aload_nR hx hb d173_124 rfl (lv_at hl 0 rfl) ?_
      obtain ⟨a51, e9, hF⟩ := hF
      refine W.eq (g2 := F0 m 125 ls [.ref a51]) (by rw [e9]; rfl) ?_
      clear e9
      obtain ⟨fs9, v52, c9, e9, hF⟩ := hF
      refine va_get (D := D) (ci := 8) (v := va_rf v52) (C := kR8) (T := kT8) (N := 9) hx hb hts ku8 hown hK (hm_one I.1 c9) 0 rfl rfl 4 (by decide) (hts _ ms_k458) (fun _ h => h) e9 d173_125 ?_
      clear e9 c9 fs9
      obtain ⟨a53, e9, hF⟩ := hF
      refine W.eq (g2 := F0 m 128 ls [.ref a53]) (by rw [e9]; rfl) ?_
      clear e9
      obtain ⟨d9, k9, mo9, c9, hF⟩ := hF
      refine ht_V (C := "java/util/ArrayList") (rest := []) (as := []) X hl (c_ALsize l D dA s0 hE a53 d9 k9 mo9) (List.forall_mem_cons.mpr ⟨ms_k705, List.forall_mem_cons.mpr ⟨ms_k595, List.forall_mem_cons.mpr ⟨ms_k596, List.forall_mem_cons.mpr ⟨ms_k18, List.forall_mem_cons.mpr ⟨ms_k597, fun _ h => absurd h List.not_mem_nil⟩⟩⟩⟩⟩) ⟨rfl, by decide +kernel, by decide +kernel, (by decide +kernel : (parseMethodDescriptor "()I").map (fun d => d.parameters.length) = some 0)⟩ (hm_recv hK I rfl c9) I c9 ⟨⟨Nat.le_of_ble_eq_true rfl, Nat.le_of_ble_eq_true rfl⟩, Nat.le_of_ble_eq_true rfl, Nat.le_of_ble_eq_true rfl⟩ rfl (Nat.le_of_ble_eq_true rfl) d173_128 (fun vv h9 z7 H locs hR I9 => ?_)
      obtain ⟨e1, e2, e3⟩ := hR
      rw [e2, e3] at I9
      subst e1
      clear I
      have I := I9
      clear I9 e2 e3 h9 z7
      refine W.eq (g2 := F0 m 131 ls [.int (nI k9)]) rfl ?_
      generalize (nI k9) = v54 at hF ⊢
      exact ht_iret X d173_131 I (Nat.le_of_ble_eq_true rfl) (Nat.le_of_ble_eq_true rfl) ⟨_, rfl, hF⟩
    have hF := Eq.mp (if_neg h9_3) hF
    by_cases h9_4 : y2 = 4
    · have hF := Eq.mp (if_pos h9_4) hF
      refine lv_tableIn (off := 114) (tgt := 132) hx hb d173_18 (by rw [h9_4]; decide) (by rw [h9_4]; decide) (by rw [h9_4]; rfl) (by decide) ?_
      refine lv_aload_nR hx hb d173_132 rfl (lv_at hl 0 rfl) ?_
      obtain ⟨a55, e9, hF⟩ := hF
      refine W.eq (g2 := F0 m 133 ls [.ref a55]) (by rw [e9]; rfl) ?_
      clear e9
      obtain ⟨fs9, v56, c9, e9, hF⟩ := hF
      refine va_get (D := D) (ci := 8) (v := va_rf v56) (C := kR8) (T := kT8) (N := 9) hx hb hts ku8 hown hK (hm_one I.1 c9) 0 rfl rfl 7 (by decide) (hts _ ms_k470) (fun _ h => h) e9 d173_133 ?_
      clear e9 c9 fs9
      obtain ⟨a57, e9, hF⟩ := hF
      refine W.eq (g2 := F0 m 136 ls [.ref a57]) (by rw [e9]; rfl) ?_
      clear e9
      obtain ⟨u9, xs9, z9, hF⟩ := hF
      refine ht_V (C := "java/lang/String") (rest := []) (as := []) X hl (c_Slen l D dA s0 hE a57 u9 xs9) (List.forall_mem_cons.mpr ⟨ms_k802, List.forall_mem_cons.mpr ⟨ms_k391, List.forall_mem_cons.mpr ⟨ms_k392, List.forall_mem_cons.mpr ⟨ms_k4, List.forall_mem_cons.mpr ⟨ms_k393, fun _ h => absurd h List.not_mem_nil⟩⟩⟩⟩⟩) ⟨rfl, by decide +kernel, by decide +kernel, (by decide +kernel : (parseMethodDescriptor "()I").map (fun d => d.parameters.length) = some 0)⟩ (hz_recv I z9) I z9 ⟨⟨Nat.le_of_ble_eq_true rfl, Nat.le_of_ble_eq_true rfl⟩, Nat.le_of_ble_eq_true rfl, Nat.le_of_ble_eq_true rfl⟩ rfl (Nat.le_of_ble_eq_true rfl) d173_136 (fun vv h9 z7 H locs hR I9 => ?_)
      obtain ⟨e1, e2, e3⟩ := hR
      rw [e2, e3] at I9
      subst e1
      clear I
      have I := I9
      clear I9 e2 e3 h9 z7
      refine W.eq (g2 := F0 m 139 ls [.int (nI xs9.length)]) rfl ?_
      generalize (nI xs9.length) = v58 at hF ⊢
      exact ht_iret X d173_139 I (Nat.le_of_ble_eq_true rfl) (Nat.le_of_ble_eq_true rfl) ⟨_, rfl, hF⟩
    have hF := Eq.mp (if_neg h9_4) hF
    by_cases h9_5 : y2 = 5
    · have hF := Eq.mp (if_pos h9_5) hF
      refine lv_tableIn (off := 122) (tgt := 140) hx hb d173_18 (by rw [h9_5]; decide) (by rw [h9_5]; decide) (by rw [h9_5]; rfl) (by decide) ?_
      refine lv_aload_nR hx hb d173_140 rfl (lv_at hl 0 rfl) ?_
      obtain ⟨a59, e9, hF⟩ := hF
      refine W.eq (g2 := F0 m 141 ls [.ref a59]) (by rw [e9]; rfl) ?_
      clear e9
      obtain ⟨fs9, v60, c9, e9, hF⟩ := hF
      refine va_get (D := D) (ci := 8) (v := va_rf v60) (C := kR8) (T := kT8) (N := 9) hx hb hts ku8 hown hK (hm_one I.1 c9) 0 rfl rfl 3 (by decide) (hts _ ms_k454) (fun _ h => h) e9 d173_141 ?_
      clear e9 c9 fs9
      obtain ⟨a61, e9, hF⟩ := hF
      refine W.eq (g2 := F0 m 144 ls [.ref a61]) (by rw [e9]; rfl) ?_
      clear e9
      obtain ⟨n8, f8, c9, hF⟩ := hF
      refine va_alen (v := nI n8) hx hb hK (hm_one I.1 c9) 0 0 rfl rfl rfl d173_144 ?_
      generalize nI n8 = v62 at hF ⊢
      clear c9
      exact ht_iret X d173_145 I (Nat.le_of_ble_eq_true rfl) (Nat.le_of_ble_eq_true rfl) ⟨_, rfl, hF⟩
    have hF := Eq.mp (if_neg h9_5) hF
    by_cases h9_6 : y2 = 6
    · have hF := Eq.mp (if_pos h9_6) hF
      refine lv_tableIn (off := 128) (tgt := 146) hx hb d173_18 (by rw [h9_6]; decide) (by rw [h9_6]; decide) (by rw [h9_6]; rfl) (by decide) ?_
      refine lv_aload_nR hx hb d173_146 rfl (lv_at hl 0 rfl) ?_
      obtain ⟨a63, e9, hF⟩ := hF
      refine W.eq (g2 := F0 m 147 ls [.ref a63]) (by rw [e9]; rfl) ?_
      clear e9
      obtain ⟨fs9, v64, c9, e9, hF⟩ := hF
      refine va_get (D := D) (ci := 8) (v := .int v64) (C := kR8) (T := kT8) (N := 9) hx hb hts ku8 hown hK (hm_one I.1 c9) 0 rfl rfl 6 (by decide) (hts _ ms_k464) (fun _ h => h) e9 d173_147 ?_
      clear e9 c9 fs9
      exact ht_iret X d173_150 I (Nat.le_of_ble_eq_true rfl) (Nat.le_of_ble_eq_true rfl) ⟨_, rfl, hF⟩
    have hF := Eq.mp (if_neg h9_6) hF
    refine lv_tableOut (tgt := 151) hx hb d173_18 (by have i0 : Int32.toInt y2 ≠ 0 := mm_ti (k := 0) h9_0; have i1 : Int32.toInt y2 ≠ 1 := mm_ti (k := 1) h9_1; have i2 : Int32.toInt y2 ≠ 2 := mm_ti (k := 2) h9_2; have i3 : Int32.toInt y2 ≠ 3 := mm_ti (k := 3) h9_3; have i4 : Int32.toInt y2 ≠ 4 := mm_ti (k := 4) h9_4; have i5 : Int32.toInt y2 ≠ 5 := mm_ti (k := 5) h9_5; have i6 : Int32.toInt y2 ≠ 6 := mm_ti (k := 6) h9_6; omega) (by decide) ?_
    refine lv_sipush (v := (-1000)) hx hb d173_151 (by decide) ?_
    exact ht_iret X d173_154 I (Nat.le_of_ble_eq_true rfl) (Nat.le_of_ble_eq_true rfl) ⟨_, rfl, hF⟩
  · have hF := Eq.mp (if_pos h9) hF
    refine lv_sipush (v := (-1000)) hx hb d173_13 (by decide) ?_
    exact ht_iret X d173_16 I (Nat.le_of_ble_eq_true rfl) (Nat.le_of_ble_eq_true rfl) ⟨_, rfl, hF⟩

def w_Store_letter_28 (dA : Nat → ClassId) (y0 : Nat) (K : Int32 → hm_T → hz_T → Prop) (h : hm_T) (z : hz_T) : Prop := (K 0 h z)
def w_Store_letter (dA : Nat → ClassId) (y0 : Nat) (y1 : Int32) (y2 : Int32) (K : Int32 → hm_T → hz_T → Prop) (h0 : hm_T) (z0 : hz_T) : Prop := (cg_R h0 0 2 y0 (fun v21 => (cg_d v21 (fun a22 => (cg_c h0 1 a22 ((w_Tree_find dA a22 y1 (fun v23 h24 z25 => (if v23 = none then (w_Store_letter_28 dA y0 K h24 z25) else (if y2 < 0 then (w_Store_letter_28 dA y0 K h24 z25) else (cg_d v23 (fun a26 => (cg_R h24 8 7 a26 (fun v27 => (cg_d v27 (fun a28 => (jd_len z25 a28 (fun v29 => (if y2 < v29 then (cg_d v23 (fun a30 => (cg_R h24 8 7 a30 (fun v31 => (cg_d v31 (fun a32 => (jd_at z25 a32 y2 (fun v33 => (K v33 h24 z25))))))))) else (w_Store_letter_28 dA y0 K h24 z25))))))))))))) h0 z0)))))))
set_option maxRecDepth 100000 in
set_option maxHeartbeats 8000000 in
theorem cw_Store_letter (l : Launch) (D : va_G) (dA : Nat → ClassId) (s0 : State) (hE : ms_EV D dA s0) (y0 : Nat) (y1 : Int32) (y2 : Int32) (h0 : hm_T) (z0 : hz_T) (K : Int32 → hm_T → hz_T → Prop) (hg : w_Store_letter dA y0 y1 y2 K h0 z0) : ht_C l D s0 yM174 bM174 4 (Option.some Jvm.ClassFile.FieldType.int) 4 85 0 0 [.ref y0, .int y1, .int y2] (fun h z => h = h0 ∧ z = z0) (fun h z vv h1 z1 => ∃ v, vv = some (.int v) ∧ K v h1 z1) := by
  refine ht_C.mk hE.1 (by decide) (Nat.le_of_ble_eq_true rfl) [(0, .ref y0), (1, .int y1), (2, .int y2)] rfl ?_
  intro p e s m below meth c ls h z X hin hpre I hl
  have hx := X.1
  have hb := X.2.1
  have hml := X.2.2.1
  have hown : s.vm.findClass "MarkupStore" = some m.cls := X.2.2.2.1
  have hts := X.2.2.2.2.2.2.1
  have hK := X.2.2.2.2.2.2.2.2.1
  rw [hpre.1, hpre.2] at I
  clear hpre
  have b28 : ∀ (ls : Array Slot) (h : hm_T) (z : hz_T) (H : Heap) (locs : List Loc), w_Store_letter_28 dA y0 K h z → lv_has ls 4 [] → hm_I D s0 s h z H locs → W p l e { frames := 4, cells := 0, slots := 0, locals := 85 } s m ([.ref y0, .int y1, .int y2] : List Value).toArray below meth c H locs 0 0 (MQ below (ht_Q D s0 (fun vv h1 z1 => ∃ v, vv = some (.int v) ∧ K v h1 z1)) ([.ref y0, .int y1, .int y2] : List Value).toArray s 0 0 (fun q => s0.heap.size ≤ q)) (F0 m 28 ls []) := by
    intro ls h z H locs hF hl I
    unfold w_Store_letter_28 at hF
    refine lv_iconst (v := 0) hx hb d174_28 (by decide) ?_
    refine lv_goto hx hb d174_29 rfl ?_
    exact ht_iret X d174_40 I (Nat.le_of_ble_eq_true rfl) (Nat.le_of_ble_eq_true rfl) ⟨_, rfl, hF⟩
  have hF := hg
  unfold w_Store_letter at hF
  clear h z
  refine lv_aload_n hx hb d174_0 rfl (lv_at hl 0 rfl) ?_
  obtain ⟨fs9, v21, c9, e9, hF⟩ := hF
  refine va_get (D := D) (ci := 0) (v := va_rf v21) (C := kR0) (T := kT0) (N := 6) hx hb hts ku0 hown hK (hm_one I.1 c9) 0 rfl rfl 2 (by decide) (hts _ ms_k107) (fun _ h => h) e9 d174_1 ?_
  clear e9 c9 fs9
  refine lv_iload_n hx hb d174_4 rfl (lv_at hl 1 rfl) ?_
  obtain ⟨a22, e9, hF⟩ := hF
  refine W.eq (g2 := F0 m 5 ls [.int y1, .ref a22]) (by rw [e9]; rfl) ?_
  clear e9
  obtain ⟨fs9, c9, hF⟩ := hF
  refine ht_V (C := "MarkupStore$Tree") (rest := []) (as := [.int y1]) X hl (cw_Tree_find l D dA s0 hE a22 y1 h0 z0 _ hF) (List.forall_mem_cons.mpr ⟨ms_k745, List.forall_mem_cons.mpr ⟨ms_k746, List.forall_mem_cons.mpr ⟨ms_k747, List.forall_mem_cons.mpr ⟨ms_k6, List.forall_mem_cons.mpr ⟨ms_k748, fun _ h => absurd h List.not_mem_nil⟩⟩⟩⟩⟩) ⟨rfl, by decide +kernel, by decide +kernel, (by decide +kernel : (parseMethodDescriptor "(I)LMarkupStore$Node;").map (fun d => d.parameters.length) = some 1)⟩ (hm_recv hK I rfl c9) I ⟨rfl, rfl⟩ ⟨⟨Nat.le_of_ble_eq_true rfl, Nat.le_of_ble_eq_true rfl⟩, Nat.le_of_ble_eq_true rfl, Nat.le_of_ble_eq_true rfl⟩ rfl (Nat.le_of_ble_eq_true rfl) d174_5 (fun vv h24 z25 H locs hR I9 => ?_)
  obtain ⟨v23, e1, hF⟩ := hR
  subst e1
  clear I
  have I := I9
  clear I9 c9 fs9
  refine W.eq (g2 := F0 m 8 ls [va_rf v23]) rfl ?_
  refine lv_astore_nR hx hb d174_8 rfl hl (by decide) rfl (fun ls hl => ?_)
  have hl : lv_has ls 4 [(3, va_rf v23), (0, .ref y0), (1, .int y1), (2, .int y2)] := hl
  refine lv_aload_nR hx hb d174_9 rfl (lv_at hl 0 rfl) ?_
  refine lv_ifnullR hx hb d174_10 rfl (fun h9 => ?_) (fun h9 => ?_)
  · have hF := Eq.mp (if_pos h9) hF
    exact b28 ls h24 z25 _ _ hF (hl.sub [] rfl) I
  · have hF := Eq.mp (if_neg h9) hF
    refine lv_iload_n hx hb d174_13 rfl (lv_at hl 3 rfl) ?_
    refine lv_if_lt hx hb d174_14 rfl (fun h9 => ?_) (fun h9 => ?_)
    · have hF := Eq.mp (if_pos h9) hF
      exact b28 ls h24 z25 _ _ hF (hl.sub [] rfl) I
    · have hF := Eq.mp (if_neg h9) hF
      refine lv_iload_n hx hb d174_17 rfl (lv_at hl 3 rfl) ?_
      refine lv_aload_nR hx hb d174_18 rfl (lv_at hl 0 rfl) ?_
      obtain ⟨a26, e9, hF⟩ := hF
      refine W.eq (g2 := F0 m 19 ls [.ref a26, .int y2]) (by rw [e9]; rfl) ?_
      clear e9
      obtain ⟨fs9, v27, c9, e9, hF⟩ := hF
      refine va_get (D := D) (ci := 8) (v := va_rf v27) (C := kR8) (T := kT8) (N := 9) hx hb hts ku8 hown hK (hm_one I.1 c9) 0 rfl rfl 7 (by decide) (hts _ ms_k470) (fun _ h => h) e9 d174_19 ?_
      clear e9 c9 fs9
      obtain ⟨a28, e9, hF⟩ := hF
      refine W.eq (g2 := F0 m 22 ls [.ref a28, .int y2]) (by rw [e9]; rfl) ?_
      clear e9
      obtain ⟨u9, xs9, z9, hF⟩ := hF
      refine ht_V (C := "java/lang/String") (rest := [.int y2]) (as := []) X hl (c_Slen l D dA s0 hE a28 u9 xs9) (List.forall_mem_cons.mpr ⟨ms_k802, List.forall_mem_cons.mpr ⟨ms_k391, List.forall_mem_cons.mpr ⟨ms_k392, List.forall_mem_cons.mpr ⟨ms_k4, List.forall_mem_cons.mpr ⟨ms_k393, fun _ h => absurd h List.not_mem_nil⟩⟩⟩⟩⟩) ⟨rfl, by decide +kernel, by decide +kernel, (by decide +kernel : (parseMethodDescriptor "()I").map (fun d => d.parameters.length) = some 0)⟩ (hz_recv I z9) I z9 ⟨⟨Nat.le_of_ble_eq_true rfl, Nat.le_of_ble_eq_true rfl⟩, Nat.le_of_ble_eq_true rfl, Nat.le_of_ble_eq_true rfl⟩ rfl (Nat.le_of_ble_eq_true rfl) d174_22 (fun vv h9 z7 H locs hR I9 => ?_)
      obtain ⟨e1, e2, e3⟩ := hR
      rw [e2, e3] at I9
      subst e1
      clear I
      have I := I9
      clear I9 e2 e3 h9 z7
      refine W.eq (g2 := F0 m 25 ls [.int (nI xs9.length), .int y2]) rfl ?_
      generalize (nI xs9.length) = v29 at hF ⊢
      refine lv_icmp_lt hx hb d174_25 rfl (fun h9 => ?_) (fun h9 => ?_)
      · have hF := Eq.mp (if_pos h9) hF
        refine lv_aload_nR hx hb d174_32 rfl (lv_at hl 0 rfl) ?_
        obtain ⟨a30, e9, hF⟩ := hF
        refine W.eq (g2 := F0 m 33 ls [.ref a30]) (by rw [e9]; rfl) ?_
        clear e9
        obtain ⟨fs9, v31, c9, e9, hF⟩ := hF
        refine va_get (D := D) (ci := 8) (v := va_rf v31) (C := kR8) (T := kT8) (N := 9) hx hb hts ku8 hown hK (hm_one I.1 c9) 0 rfl rfl 7 (by decide) (hts _ ms_k470) (fun _ h => h) e9 d174_33 ?_
        clear e9 c9 fs9
        refine lv_iload_n hx hb d174_36 rfl (lv_at hl 3 rfl) ?_
        obtain ⟨a32, e9, hF⟩ := hF
        refine W.eq (g2 := F0 m 37 ls [.int y2, .ref a32]) (by rw [e9]; rfl) ?_
        clear e9
        obtain ⟨u9, xs9, j9, z9, e8, p1, p2, p3, hF⟩ := hF
        refine ms_top (y := nI j9) e8 ?_
        refine ht_V (C := "java/lang/String") (rest := []) (as := [.int (nI j9)]) X hl (c_SchAt l D dA s0 hE a32 u9 xs9 j9 p1 p2 p3) (List.forall_mem_cons.mpr ⟨ms_k861, List.forall_mem_cons.mpr ⟨ms_k399, List.forall_mem_cons.mpr ⟨ms_k400, List.forall_mem_cons.mpr ⟨ms_k4, List.forall_mem_cons.mpr ⟨ms_k401, fun _ h => absurd h List.not_mem_nil⟩⟩⟩⟩⟩) ⟨rfl, by decide +kernel, by decide +kernel, (by decide +kernel : (parseMethodDescriptor "(I)C").map (fun d => d.parameters.length) = some 1)⟩ (hz_recv I z9) I z9 ⟨⟨Nat.le_of_ble_eq_true rfl, Nat.le_of_ble_eq_true rfl⟩, Nat.le_of_ble_eq_true rfl, Nat.le_of_ble_eq_true rfl⟩ rfl (Nat.le_of_ble_eq_true rfl) d174_37 (fun vv h9 z7 H locs hR I9 => ?_)
        obtain ⟨e1, e2, e3⟩ := hR
        rw [e2, e3] at I9
        subst e1
        clear I
        have I := I9
        clear I9 e2 e3 h9 z7
        refine W.eq (g2 := F0 m 40 ls [.int (nI (xs9.getD j9 0))]) rfl ?_
        generalize (nI (xs9.getD j9 0)) = v33 at hF ⊢
        exact ht_iret X d174_40 I (Nat.le_of_ble_eq_true rfl) (Nat.le_of_ble_eq_true rfl) ⟨_, rfl, hF⟩
      · have hF := Eq.mp (if_neg h9) hF
        exact b28 ls h24 z25 _ _ hF (hl.sub [] rfl) I

def w_Store_label_26 (dA : Nat → ClassId) (y0 : Nat) (K : Int32 → hm_T → hz_T → Prop) (h : hm_T) (z : hz_T) : Prop := (K 0 h z)
def w_Store_label (dA : Nat → ClassId) (y0 : Nat) (y1 : Int32) (y2 : Int32) (K : Int32 → hm_T → hz_T → Prop) (h0 : hm_T) (z0 : hz_T) : Prop := (cg_R h0 0 2 y0 (fun v21 => (cg_d v21 (fun a22 => (cg_c h0 1 a22 ((w_Tree_find dA a22 y1 (fun v23 h24 z25 => (if v23 = none then (w_Store_label_26 dA y0 K h24 z25) else (if y2 < 0 then (w_Store_label_26 dA y0 K h24 z25) else (cg_d v23 (fun a26 => (cg_R h24 8 3 a26 (fun v27 => (cg_d v27 (fun a28 => (cg_al dA h24 0 a28 (fun v29 => (if y2 < v29 then (cg_d v23 (fun a30 => (cg_R h24 8 3 a30 (fun v31 => (cg_d v31 (fun a32 => (cg_ai dA h24 0 a32 y2 (fun v33 => (K v33 h24 z25))))))))) else (w_Store_label_26 dA y0 K h24 z25))))))))))))) h0 z0)))))))
set_option maxRecDepth 100000 in
set_option maxHeartbeats 8000000 in
theorem cw_Store_label (l : Launch) (D : va_G) (dA : Nat → ClassId) (s0 : State) (hE : ms_EV D dA s0) (y0 : Nat) (y1 : Int32) (y2 : Int32) (h0 : hm_T) (z0 : hz_T) (K : Int32 → hm_T → hz_T → Prop) (hg : w_Store_label dA y0 y1 y2 K h0 z0) : ht_C l D s0 yM175 bM175 4 (Option.some Jvm.ClassFile.FieldType.int) 1 21 0 0 [.ref y0, .int y1, .int y2] (fun h z => h = h0 ∧ z = z0) (fun h z vv h1 z1 => ∃ v, vv = some (.int v) ∧ K v h1 z1) := by
  refine ht_C.mk hE.1 (by decide) (Nat.le_of_ble_eq_true rfl) [(0, .ref y0), (1, .int y1), (2, .int y2)] rfl ?_
  intro p e s m below meth c ls h z X hin hpre I hl
  have hx := X.1
  have hb := X.2.1
  have hml := X.2.2.1
  have hown : s.vm.findClass "MarkupStore" = some m.cls := X.2.2.2.1
  have hts := X.2.2.2.2.2.2.1
  have hK := X.2.2.2.2.2.2.2.2.1
  rw [hpre.1, hpre.2] at I
  clear hpre
  have b26 : ∀ (ls : Array Slot) (h : hm_T) (z : hz_T) (H : Heap) (locs : List Loc), w_Store_label_26 dA y0 K h z → lv_has ls 4 [] → hm_I D s0 s h z H locs → W p l e { frames := 1, cells := 0, slots := 0, locals := 21 } s m ([.ref y0, .int y1, .int y2] : List Value).toArray below meth c H locs 0 0 (MQ below (ht_Q D s0 (fun vv h1 z1 => ∃ v, vv = some (.int v) ∧ K v h1 z1)) ([.ref y0, .int y1, .int y2] : List Value).toArray s 0 0 (fun q => s0.heap.size ≤ q)) (F0 m 26 ls []) := by
    intro ls h z H locs hF hl I
    unfold w_Store_label_26 at hF
    refine lv_iconst (v := 0) hx hb d175_26 (by decide) ?_
    refine lv_goto hx hb d175_27 rfl ?_
    exact ht_iret X d175_36 I (Nat.le_of_ble_eq_true rfl) (Nat.le_of_ble_eq_true rfl) ⟨_, rfl, hF⟩
  have hF := hg
  unfold w_Store_label at hF
  clear h z
  refine lv_aload_n hx hb d175_0 rfl (lv_at hl 0 rfl) ?_
  obtain ⟨fs9, v21, c9, e9, hF⟩ := hF
  refine va_get (D := D) (ci := 0) (v := va_rf v21) (C := kR0) (T := kT0) (N := 6) hx hb hts ku0 hown hK (hm_one I.1 c9) 0 rfl rfl 2 (by decide) (hts _ ms_k107) (fun _ h => h) e9 d175_1 ?_
  clear e9 c9 fs9
  refine lv_iload_n hx hb d175_4 rfl (lv_at hl 1 rfl) ?_
  obtain ⟨a22, e9, hF⟩ := hF
  refine W.eq (g2 := F0 m 5 ls [.int y1, .ref a22]) (by rw [e9]; rfl) ?_
  clear e9
  obtain ⟨fs9, c9, hF⟩ := hF
  refine ht_V (C := "MarkupStore$Tree") (rest := []) (as := [.int y1]) X hl (cw_Tree_find l D dA s0 hE a22 y1 h0 z0 _ hF) (List.forall_mem_cons.mpr ⟨ms_k745, List.forall_mem_cons.mpr ⟨ms_k746, List.forall_mem_cons.mpr ⟨ms_k747, List.forall_mem_cons.mpr ⟨ms_k6, List.forall_mem_cons.mpr ⟨ms_k748, fun _ h => absurd h List.not_mem_nil⟩⟩⟩⟩⟩) ⟨rfl, by decide +kernel, by decide +kernel, (by decide +kernel : (parseMethodDescriptor "(I)LMarkupStore$Node;").map (fun d => d.parameters.length) = some 1)⟩ (hm_recv hK I rfl c9) I ⟨rfl, rfl⟩ ⟨⟨Nat.le_of_ble_eq_true rfl, Nat.le_of_ble_eq_true rfl⟩, Nat.le_of_ble_eq_true rfl, Nat.le_of_ble_eq_true rfl⟩ rfl (Nat.le_of_ble_eq_true rfl) d175_5 (fun vv h24 z25 H locs hR I9 => ?_)
  obtain ⟨v23, e1, hF⟩ := hR
  subst e1
  clear I
  have I := I9
  clear I9 c9 fs9
  refine W.eq (g2 := F0 m 8 ls [va_rf v23]) rfl ?_
  refine lv_astore_nR hx hb d175_8 rfl hl (by decide) rfl (fun ls hl => ?_)
  have hl : lv_has ls 4 [(3, va_rf v23), (0, .ref y0), (1, .int y1), (2, .int y2)] := hl
  refine lv_aload_nR hx hb d175_9 rfl (lv_at hl 0 rfl) ?_
  refine lv_ifnullR hx hb d175_10 rfl (fun h9 => ?_) (fun h9 => ?_)
  · have hF := Eq.mp (if_pos h9) hF
    exact b26 ls h24 z25 _ _ hF (hl.sub [] rfl) I
  · have hF := Eq.mp (if_neg h9) hF
    refine lv_iload_n hx hb d175_13 rfl (lv_at hl 3 rfl) ?_
    refine lv_if_lt hx hb d175_14 rfl (fun h9 => ?_) (fun h9 => ?_)
    · have hF := Eq.mp (if_pos h9) hF
      exact b26 ls h24 z25 _ _ hF (hl.sub [] rfl) I
    · have hF := Eq.mp (if_neg h9) hF
      refine lv_iload_n hx hb d175_17 rfl (lv_at hl 3 rfl) ?_
      refine lv_aload_nR hx hb d175_18 rfl (lv_at hl 0 rfl) ?_
      obtain ⟨a26, e9, hF⟩ := hF
      refine W.eq (g2 := F0 m 19 ls [.ref a26, .int y2]) (by rw [e9]; rfl) ?_
      clear e9
      obtain ⟨fs9, v27, c9, e9, hF⟩ := hF
      refine va_get (D := D) (ci := 8) (v := va_rf v27) (C := kR8) (T := kT8) (N := 9) hx hb hts ku8 hown hK (hm_one I.1 c9) 0 rfl rfl 3 (by decide) (hts _ ms_k454) (fun _ h => h) e9 d175_19 ?_
      clear e9 c9 fs9
      obtain ⟨a28, e9, hF⟩ := hF
      refine W.eq (g2 := F0 m 22 ls [.ref a28, .int y2]) (by rw [e9]; rfl) ?_
      clear e9
      obtain ⟨n8, f8, c9, hF⟩ := hF
      refine va_alen (v := nI n8) hx hb hK (hm_one I.1 c9) 0 0 rfl rfl rfl d175_22 ?_
      generalize nI n8 = v29 at hF ⊢
      clear c9
      refine lv_icmp_lt hx hb d175_23 rfl (fun h9 => ?_) (fun h9 => ?_)
      · have hF := Eq.mp (if_pos h9) hF
        refine lv_aload_nR hx hb d175_30 rfl (lv_at hl 0 rfl) ?_
        obtain ⟨a30, e9, hF⟩ := hF
        refine W.eq (g2 := F0 m 31 ls [.ref a30]) (by rw [e9]; rfl) ?_
        clear e9
        obtain ⟨fs9, v31, c9, e9, hF⟩ := hF
        refine va_get (D := D) (ci := 8) (v := va_rf v31) (C := kR8) (T := kT8) (N := 9) hx hb hts ku8 hown hK (hm_one I.1 c9) 0 rfl rfl 3 (by decide) (hts _ ms_k454) (fun _ h => h) e9 d175_31 ?_
        clear e9 c9 fs9
        refine lv_iload_n hx hb d175_34 rfl (lv_at hl 3 rfl) ?_
        obtain ⟨a32, e9, hF⟩ := hF
        refine W.eq (g2 := F0 m 35 ls [.int y2, .ref a32]) (by rw [e9]; rfl) ?_
        clear e9
        obtain ⟨n8, f8, c9, i9, hF⟩ := hF
        refine va_iald hx hb hK (hm_one I.1 c9) 0 0 rfl rfl i9 d175_35 ?_
        generalize f8 (Int32.toNatClampNeg y2) = v33 at hF ⊢
        clear c9 i9
        exact ht_iret X d175_36 I (Nat.le_of_ble_eq_true rfl) (Nat.le_of_ble_eq_true rfl) ⟨_, rfl, hF⟩
      · have hF := Eq.mp (if_neg h9) hF
        exact b26 ls h24 z25 _ _ hF (hl.sub [] rfl) I

def w_Store_isName_49 (dA : Nat → ClassId) (K : Int32 → hm_T → hz_T → Prop) (h : hm_T) (z : hz_T) : Prop := (K 0 h z)
def w_Store_isName_2 (dA : Nat → ClassId) (K : Int32 → hm_T → hz_T → Prop) : Nat → Option Nat → Int32 → hm_T → hz_T → Prop
  | 0, _, _, _, _ => False
  | n9 + 1, x0, x1, h, z => (cg_d x0 (fun a21 => (jd_len z a21 (fun v22 => (if v22 ≤ x1 then (cg_d x0 (fun a23 => (jd_emp z a23 (fun v24 => (if v24 = 0 then (cg_d x0 (fun a25 => (jd_len z a25 (fun v26 => (if 6 < v26 then (w_Store_isName_49 dA K h z) else (K 1 h z)))))) else (w_Store_isName_49 dA K h z)))))) else (cg_d x0 (fun a27 => (jd_at z a27 x1 (fun v28 => (w_Store_isSmallLetter dA v28 (fun v29 h30 z31 => (if v29 = 0 then (K 0 h30 z31) else ((w_Store_isName_2 dA K n9) x0 (x1 + 1) h30 z31))) h z))))))))))
def w_Store_isName (dA : Nat → ClassId) (y0 : Option Nat) (K : Int32 → hm_T → hz_T → Prop) (h0 : hm_T) (z0 : hz_T) : Prop := (w_Store_isName_2 dA K mF y0 0 h0 z0)
set_option maxRecDepth 100000 in
set_option maxHeartbeats 8000000 in
theorem cw_Store_isName (l : Launch) (D : va_G) (dA : Nat → ClassId) (s0 : State) (hE : ms_EV D dA s0) (y0 : Option Nat) (h0 : hm_T) (z0 : hz_T) (K : Int32 → hm_T → hz_T → Prop) (hg : w_Store_isName dA y0 K h0 z0) : ht_C l D s0 yM176 bM176 2 (Option.some Jvm.ClassFile.FieldType.boolean) 4 85 0 0 [va_rf y0] (fun h z => h = h0 ∧ z = z0) (fun h z vv h1 z1 => ∃ v, vv = some (.int v) ∧ K v h1 z1) := by
  refine ht_C.mk hE.1 (by decide) (by simp [lg_sl, cat_rf, cat_int, cat_ref, cat_null, cat_long]) [(0, va_rf y0)] (by simp [lv_args, cat_rf, cat_int, cat_ref, cat_null, cat_long]) ?_
  intro p e s m below meth c ls h z X hin hpre I hl
  have hx := X.1
  have hb := X.2.1
  have hml := X.2.2.1
  have hown : s.vm.findClass "MarkupStore" = some m.cls := X.2.2.2.1
  have hts := X.2.2.2.2.2.2.1
  have hK := X.2.2.2.2.2.2.2.2.1
  rw [hpre.1, hpre.2] at I
  clear hpre
  have b49 : ∀ (ls : Array Slot) (h : hm_T) (z : hz_T) (H : Heap) (locs : List Loc), w_Store_isName_49 dA K h z → lv_has ls 2 [] → hm_I D s0 s h z H locs → W p l e { frames := 4, cells := 0, slots := 0, locals := 85 } s m ([va_rf y0] : List Value).toArray below meth c H locs 0 0 (MQ below (ht_Q D s0 (fun vv h1 z1 => ∃ v, vv = some (.int v) ∧ K v h1 z1)) ([va_rf y0] : List Value).toArray s 0 0 (fun q => s0.heap.size ≤ q)) (F0 m 49 ls []) := by
    intro ls h z H locs hF hl I
    unfold w_Store_isName_49 at hF
    refine lv_iconst (v := 0) hx hb d176_49 (by decide) ?_
    exact ht_zret X d176_50 I (Nat.le_of_ble_eq_true rfl) (Nat.le_of_ble_eq_true rfl) ⟨_, rfl, hF⟩ rfl
  have b2 : ∀ n9 : Nat, ∀ (ls : Array Slot) (x0 : Option Nat) (x1 : Int32) (h : hm_T) (z : hz_T) (H : Heap) (locs : List Loc), w_Store_isName_2 dA K n9 x0 x1 h z → lv_has ls 2 [(0, va_rf x0), (1, .int x1)] → hm_I D s0 s h z H locs → W p l e { frames := 4, cells := 0, slots := 0, locals := 85 } s m ([va_rf y0] : List Value).toArray below meth c H locs 0 0 (MQ below (ht_Q D s0 (fun vv h1 z1 => ∃ v, vv = some (.int v) ∧ K v h1 z1)) ([va_rf y0] : List Value).toArray s 0 0 (fun q => s0.heap.size ≤ q)) (F0 m 2 ls []) := by
    intro n9
    induction n9 with
    | zero => intro ls x0 x1 h z H locs hF; cases hF
    | succ n9 hk2 =>
    intro ls x0 x1 h z H locs hF hl I
    unfold w_Store_isName_2 at hF
    refine lv_iload_n hx hb d176_2 rfl (lv_at hl 1 rfl) ?_
    refine lv_aload_nR hx hb d176_3 rfl (lv_at hl 0 rfl) ?_
    obtain ⟨a21, e9, hF⟩ := hF
    refine W.eq (g2 := F0 m 4 ls [.ref a21, .int x1]) (by rw [e9]; rfl) ?_
    clear e9
    obtain ⟨u9, xs9, z9, hF⟩ := hF
    refine ht_V (C := "java/lang/String") (rest := [.int x1]) (as := []) X hl (c_Slen l D dA s0 hE a21 u9 xs9) (List.forall_mem_cons.mpr ⟨ms_k802, List.forall_mem_cons.mpr ⟨ms_k391, List.forall_mem_cons.mpr ⟨ms_k392, List.forall_mem_cons.mpr ⟨ms_k4, List.forall_mem_cons.mpr ⟨ms_k393, fun _ h => absurd h List.not_mem_nil⟩⟩⟩⟩⟩) ⟨rfl, by decide +kernel, by decide +kernel, (by decide +kernel : (parseMethodDescriptor "()I").map (fun d => d.parameters.length) = some 0)⟩ (hz_recv I z9) I z9 ⟨⟨Nat.le_of_ble_eq_true rfl, Nat.le_of_ble_eq_true rfl⟩, Nat.le_of_ble_eq_true rfl, Nat.le_of_ble_eq_true rfl⟩ rfl (Nat.le_of_ble_eq_true rfl) d176_4 (fun vv h9 z7 H locs hR I9 => ?_)
    obtain ⟨e1, e2, e3⟩ := hR
    rw [e2, e3] at I9
    subst e1
    clear I
    have I := I9
    clear I9 e2 e3 h9 z7
    refine W.eq (g2 := F0 m 7 ls [.int (nI xs9.length), .int x1]) rfl ?_
    generalize (nI xs9.length) = v22 at hF ⊢
    refine lv_icmp_ge hx hb d176_7 rfl (fun h9 => ?_) (fun h9 => ?_)
    · have hF := Eq.mp (if_pos h9) hF
      refine lv_aload_nR hx hb d176_29 rfl (lv_at hl 0 rfl) ?_
      obtain ⟨a23, e9, hF⟩ := hF
      refine W.eq (g2 := F0 m 30 ls [.ref a23]) (by rw [e9]; rfl) ?_
      clear e9
      obtain ⟨u9, xs9, z9, p1, hF⟩ := hF
      refine ht_V (C := "java/lang/String") (rest := []) (as := []) X hl (c_Sempty l D dA s0 hE a23 u9 xs9 p1) (List.forall_mem_cons.mpr ⟨ms_k857, List.forall_mem_cons.mpr ⟨ms_k778, List.forall_mem_cons.mpr ⟨ms_k779, List.forall_mem_cons.mpr ⟨ms_k4, List.forall_mem_cons.mpr ⟨ms_k780, fun _ h => absurd h List.not_mem_nil⟩⟩⟩⟩⟩) ⟨rfl, by decide +kernel, by decide +kernel, (by decide +kernel : (parseMethodDescriptor "()Z").map (fun d => d.parameters.length) = some 0)⟩ (hz_recv I z9) I z9 ⟨⟨Nat.le_of_ble_eq_true rfl, Nat.le_of_ble_eq_true rfl⟩, Nat.le_of_ble_eq_true rfl, Nat.le_of_ble_eq_true rfl⟩ rfl (Nat.le_of_ble_eq_true rfl) d176_30 (fun vv h9 z7 H locs hR I9 => ?_)
      obtain ⟨e1, e2, e3⟩ := hR
      rw [e2, e3] at I9
      subst e1
      clear I
      have I := I9
      clear I9 e2 e3 h9 z7
      refine W.eq (g2 := F0 m 33 ls [.int (if xs9.length = 0 then 1 else 0)]) rfl ?_
      generalize (if xs9.length = 0 then 1 else 0) = v24 at hF ⊢
      refine lv_if_ne hx hb d176_33 rfl (fun h9 => ?_) (fun h9 => ?_)
      · have hF := Eq.mp (if_neg h9) hF
        exact b49 ls h z _ _ hF (hl.sub [] rfl) I
      · have hF := Eq.mp (if_pos h9) hF
        refine lv_aload_nR hx hb d176_36 rfl (lv_at hl 0 rfl) ?_
        obtain ⟨a25, e9, hF⟩ := hF
        refine W.eq (g2 := F0 m 37 ls [.ref a25]) (by rw [e9]; rfl) ?_
        clear e9
        obtain ⟨u9, xs9, z9, hF⟩ := hF
        refine ht_V (C := "java/lang/String") (rest := []) (as := []) X hl (c_Slen l D dA s0 hE a25 u9 xs9) (List.forall_mem_cons.mpr ⟨ms_k802, List.forall_mem_cons.mpr ⟨ms_k391, List.forall_mem_cons.mpr ⟨ms_k392, List.forall_mem_cons.mpr ⟨ms_k4, List.forall_mem_cons.mpr ⟨ms_k393, fun _ h => absurd h List.not_mem_nil⟩⟩⟩⟩⟩) ⟨rfl, by decide +kernel, by decide +kernel, (by decide +kernel : (parseMethodDescriptor "()I").map (fun d => d.parameters.length) = some 0)⟩ (hz_recv I z9) I z9 ⟨⟨Nat.le_of_ble_eq_true rfl, Nat.le_of_ble_eq_true rfl⟩, Nat.le_of_ble_eq_true rfl, Nat.le_of_ble_eq_true rfl⟩ rfl (Nat.le_of_ble_eq_true rfl) d176_37 (fun vv h9 z7 H locs hR I9 => ?_)
        obtain ⟨e1, e2, e3⟩ := hR
        rw [e2, e3] at I9
        subst e1
        clear I
        have I := I9
        clear I9 e2 e3 h9 z7
        refine W.eq (g2 := F0 m 40 ls [.int (nI xs9.length)]) rfl ?_
        generalize (nI xs9.length) = v26 at hF ⊢
        refine lv_bipush (v := 6) hx hb d176_40 (by decide) ?_
        refine lv_icmp_gt hx hb d176_42 rfl (fun h9 => ?_) (fun h9 => ?_)
        · have hF := Eq.mp (if_pos h9) hF
          exact b49 ls h z _ _ hF (hl.sub [] rfl) I
        · have hF := Eq.mp (if_neg h9) hF
          refine lv_iconst (v := 1) hx hb d176_45 (by decide) ?_
          refine lv_goto hx hb d176_46 rfl ?_
          exact ht_zret X d176_50 I (Nat.le_of_ble_eq_true rfl) (Nat.le_of_ble_eq_true rfl) ⟨_, rfl, hF⟩ rfl
    · have hF := Eq.mp (if_neg h9) hF
      refine lv_aload_nR hx hb d176_10 rfl (lv_at hl 0 rfl) ?_
      refine lv_iload_n hx hb d176_11 rfl (lv_at hl 1 rfl) ?_
      obtain ⟨a27, e9, hF⟩ := hF
      refine W.eq (g2 := F0 m 12 ls [.int x1, .ref a27]) (by rw [e9]; rfl) ?_
      clear e9
      obtain ⟨u9, xs9, j9, z9, e8, p1, p2, p3, hF⟩ := hF
      refine ms_top (y := nI j9) e8 ?_
      refine ht_V (C := "java/lang/String") (rest := []) (as := [.int (nI j9)]) X hl (c_SchAt l D dA s0 hE a27 u9 xs9 j9 p1 p2 p3) (List.forall_mem_cons.mpr ⟨ms_k861, List.forall_mem_cons.mpr ⟨ms_k399, List.forall_mem_cons.mpr ⟨ms_k400, List.forall_mem_cons.mpr ⟨ms_k4, List.forall_mem_cons.mpr ⟨ms_k401, fun _ h => absurd h List.not_mem_nil⟩⟩⟩⟩⟩) ⟨rfl, by decide +kernel, by decide +kernel, (by decide +kernel : (parseMethodDescriptor "(I)C").map (fun d => d.parameters.length) = some 1)⟩ (hz_recv I z9) I z9 ⟨⟨Nat.le_of_ble_eq_true rfl, Nat.le_of_ble_eq_true rfl⟩, Nat.le_of_ble_eq_true rfl, Nat.le_of_ble_eq_true rfl⟩ rfl (Nat.le_of_ble_eq_true rfl) d176_12 (fun vv h9 z7 H locs hR I9 => ?_)
      obtain ⟨e1, e2, e3⟩ := hR
      rw [e2, e3] at I9
      subst e1
      clear I
      have I := I9
      clear I9 e2 e3 h9 z7
      refine W.eq (g2 := F0 m 15 ls [.int (nI (xs9.getD j9 0))]) rfl ?_
      generalize (nI (xs9.getD j9 0)) = v28 at hF ⊢
      refine ht_S (rest := []) (as := [.int v28]) X hl (cw_Store_isSmallLetter l D dA s0 hE v28 h z _ hF) (List.forall_mem_cons.mpr ⟨ms_k862, List.forall_mem_cons.mpr ⟨ms_k420, List.forall_mem_cons.mpr ⟨ms_k1, List.forall_mem_cons.mpr ⟨ms_k421, fun _ h => absurd h List.not_mem_nil⟩⟩⟩⟩) ⟨by decide +kernel, by decide +kernel, (by decide +kernel : (parseMethodDescriptor "(C)Z").map (fun d => d.parameters.length) = some 1)⟩ I ⟨rfl, rfl⟩ ⟨⟨Nat.le_of_ble_eq_true rfl, Nat.le_of_ble_eq_true rfl⟩, Nat.le_of_ble_eq_true rfl, Nat.le_of_ble_eq_true rfl⟩ rfl (Nat.le_of_ble_eq_true rfl) d176_15 (fun vv h30 z31 H locs hR I9 => ?_)
      obtain ⟨v29, e1, hF⟩ := hR
      subst e1
      clear I
      have I := I9
      clear I9
      refine W.eq (g2 := F0 m 18 ls [.int v29]) rfl ?_
      refine lv_if_ne hx hb d176_18 rfl (fun h9 => ?_) (fun h9 => ?_)
      · have hF := Eq.mp (if_neg h9) hF
        refine lv_iinc (k := 1) (v := (x1 + 1)) hx hb d176_23 hl rfl (rfl) (by decide) (show _ = [(1, .int (x1 + 1)), (0, va_rf x0)] by simp [cat_rf, cat_int, cat_ref, cat_null, cat_long]) (fun ls hl => ?_)
        have hl : lv_has ls 2 [(1, .int (x1 + 1)), (0, va_rf x0)] := hl
        refine lv_goto hx hb d176_26 rfl ?_
        exact hk2 ls x0 (x1 + 1) h30 z31 _ _ hF (hl.sub [1, 0] rfl) I
      · have hF := Eq.mp (if_pos h9) hF
        refine lv_iconst (v := 0) hx hb d176_21 (by decide) ?_
        exact ht_zret X d176_22 I (Nat.le_of_ble_eq_true rfl) (Nat.le_of_ble_eq_true rfl) ⟨_, rfl, hF⟩ rfl
  have hF := hg
  unfold w_Store_isName at hF
  clear h z
  refine lv_iconst (v := 0) hx hb d176_0 (by decide) ?_
  refine lv_istore_n (i := 1) hx hb d176_1 rfl hl (by decide) (show _ = [(1, .int 0), (0, va_rf y0)] by simp [cat_rf, cat_int, cat_ref, cat_null, cat_long]) (fun ls hl => ?_)
  have hl : lv_has ls 2 [(1, .int 0), (0, va_rf y0)] := hl
  exact b2 mF ls y0 0 h0 z0 _ _ hF (hl.sub [1, 0] rfl) I

def w_MarkupReader_readEndTag_12 (dA : Nat → ClassId) (y0 : Nat) (K : Int32 → hm_T → hz_T → Prop) : Nat → Option Nat → Int32 → hm_T → hz_T → Prop
  | 0, _, _, _, _ => False
  | n9 + 1, x1, x2, h, z => (cg_d x1 (fun a23 => (cg_R h 8 7 a23 (fun v24 => (cg_d v24 (fun a25 => (jd_len z a25 (fun v26 => (if v26 ≤ x2 then (cg_c h 6 y0 ((w_TextReader_take6 dA y0 62 (fun v27 h28 z29 => (cg_z v27 (K v27 h28 z29))) h z))) else (cg_d x1 (fun a30 => (cg_R h 8 7 a30 (fun v31 => (cg_d v31 (fun a32 => (jd_at z a32 x2 (fun v33 => (cg_c h 6 y0 ((w_TextReader_take6 dA y0 v33 (fun v34 h35 z36 => (if v34 = 0 then (K 0 h35 z36) else ((w_MarkupReader_readEndTag_12 dA y0 K n9) x1 (x2 + 1) h35 z36))) h z))))))))))))))))))))
def w_MarkupReader_readEndTag (dA : Nat → ClassId) (y0 : Nat) (y1 : Option Nat) (K : Int32 → hm_T → hz_T → Prop) (h0 : hm_T) (z0 : hz_T) : Prop := (cg_I h0 6 1 y0 (fun v21 => (cg_p h0 6 1 y0 (.int (v21 + 2)) (fun h22 => (w_MarkupReader_readEndTag_12 dA y0 K mF y1 0 h22 z0)))))
set_option maxRecDepth 100000 in
set_option maxHeartbeats 8000000 in
theorem cw_MarkupReader_readEndTag (l : Launch) (D : va_G) (dA : Nat → ClassId) (s0 : State) (hE : ms_EV D dA s0) (y0 : Nat) (y1 : Option Nat) (h0 : hm_T) (z0 : hz_T) (K : Int32 → hm_T → hz_T → Prop) (hg : w_MarkupReader_readEndTag dA y0 y1 K h0 z0) : ht_C l D s0 yM177 bM177 3 (Option.some Jvm.ClassFile.FieldType.boolean) 6 127 0 0 [.ref y0, va_rf y1] (fun h z => h = h0 ∧ z = z0) (fun h z vv h1 z1 => ∃ v, vv = some (.int v) ∧ K v h1 z1) := by
  refine ht_C.mk hE.1 (by decide) (by simp [lg_sl, cat_rf, cat_int, cat_ref, cat_null, cat_long]) [(0, .ref y0), (1, va_rf y1)] (by simp [lv_args, cat_rf, cat_int, cat_ref, cat_null, cat_long]) ?_
  intro p e s m below meth c ls h z X hin hpre I hl
  have hx := X.1
  have hb := X.2.1
  have hml := X.2.2.1
  have hown : s.vm.findClass "MarkupStore$MarkupReader" = some m.cls := X.2.2.2.1
  have hts := X.2.2.2.2.2.2.1
  have hK := X.2.2.2.2.2.2.2.2.1
  rw [hpre.1, hpre.2] at I
  clear hpre
  have b12 : ∀ n9 : Nat, ∀ (ls : Array Slot) (x1 : Option Nat) (x2 : Int32) (h : hm_T) (z : hz_T) (H : Heap) (locs : List Loc), w_MarkupReader_readEndTag_12 dA y0 K n9 x1 x2 h z → lv_has ls 3 [(0, .ref y0), (1, va_rf x1), (2, .int x2)] → hm_I D s0 s h z H locs → W p l e { frames := 6, cells := 0, slots := 0, locals := 127 } s m ([.ref y0, va_rf y1] : List Value).toArray below meth c H locs 0 0 (MQ below (ht_Q D s0 (fun vv h1 z1 => ∃ v, vv = some (.int v) ∧ K v h1 z1)) ([.ref y0, va_rf y1] : List Value).toArray s 0 0 (fun q => s0.heap.size ≤ q)) (F0 m 12 ls []) := by
    intro n9
    induction n9 with
    | zero => intro ls x1 x2 h z H locs hF; cases hF
    | succ n9 hk12 =>
    intro ls x1 x2 h z H locs hF hl I
    unfold w_MarkupReader_readEndTag_12 at hF
    refine lv_iload_n hx hb d177_12 rfl (lv_at hl 2 rfl) ?_
    refine lv_aload_nR hx hb d177_13 rfl (lv_at hl 1 rfl) ?_
    obtain ⟨a23, e9, hF⟩ := hF
    refine W.eq (g2 := F0 m 14 ls [.ref a23, .int x2]) (by rw [e9]; rfl) ?_
    clear e9
    obtain ⟨fs9, v24, c9, e9, hF⟩ := hF
    refine va_get (D := D) (ci := 8) (v := va_rf v24) (C := kR8) (T := kT8) (N := 9) hx hb hts ku8 hown hK (hm_one I.1 c9) 0 rfl rfl 7 (by decide) (hts _ ms_k469) (fun _ h => h) e9 d177_14 ?_
    clear e9 c9 fs9
    obtain ⟨a25, e9, hF⟩ := hF
    refine W.eq (g2 := F0 m 17 ls [.ref a25, .int x2]) (by rw [e9]; rfl) ?_
    clear e9
    obtain ⟨u9, xs9, z9, hF⟩ := hF
    refine ht_V (C := "java/lang/String") (rest := [.int x2]) (as := []) X hl (c_Slen l D dA s0 hE a25 u9 xs9) (List.forall_mem_cons.mpr ⟨ms_k579, List.forall_mem_cons.mpr ⟨ms_k391, List.forall_mem_cons.mpr ⟨ms_k392, List.forall_mem_cons.mpr ⟨ms_k4, List.forall_mem_cons.mpr ⟨ms_k393, fun _ h => absurd h List.not_mem_nil⟩⟩⟩⟩⟩) ⟨rfl, by decide +kernel, by decide +kernel, (by decide +kernel : (parseMethodDescriptor "()I").map (fun d => d.parameters.length) = some 0)⟩ (hz_recv I z9) I z9 ⟨⟨Nat.le_of_ble_eq_true rfl, Nat.le_of_ble_eq_true rfl⟩, Nat.le_of_ble_eq_true rfl, Nat.le_of_ble_eq_true rfl⟩ rfl (Nat.le_of_ble_eq_true rfl) d177_17 (fun vv h9 z7 H locs hR I9 => ?_)
    obtain ⟨e1, e2, e3⟩ := hR
    rw [e2, e3] at I9
    subst e1
    clear I
    have I := I9
    clear I9 e2 e3 h9 z7
    refine W.eq (g2 := F0 m 20 ls [.int (nI xs9.length), .int x2]) rfl ?_
    generalize (nI xs9.length) = v26 at hF ⊢
    refine lv_icmp_ge hx hb d177_20 rfl (fun h9 => ?_) (fun h9 => ?_)
    · have hF := Eq.mp (if_pos h9) hF
      refine lv_aload_n hx hb d177_46 rfl (lv_at hl 0 rfl) ?_
      refine lv_bipush (v := 62) hx hb d177_47 (by decide) ?_
      obtain ⟨fs9, c9, hF⟩ := hF
      refine ht_U (C := "MarkupStore$MarkupReader") (x := ⟨"MarkupStore$MarkupReader", "take", "(C)Z"⟩) (owner := "MarkupStore$TextReader") (rest := []) (as := [.int 62]) X hl (cw_TextReader_take6 l D dA s0 hE y0 62 h z _ hF) (List.forall_mem_cons.mpr ⟨ms_k623, List.forall_mem_cons.mpr ⟨ms_k624, List.forall_mem_cons.mpr ⟨ms_k626, List.forall_mem_cons.mpr ⟨ms_k627, List.forall_mem_cons.mpr ⟨ms_k14, List.forall_mem_cons.mpr ⟨ms_k628, fun _ h => absurd h List.not_mem_nil⟩⟩⟩⟩⟩⟩) rfl ⟨by decide +kernel, by decide +kernel, (by decide +kernel : (parseMethodDescriptor "(C)Z").map (fun d => d.parameters.length) = some 1)⟩ (hm_recv hK I rfl c9) I ⟨rfl, rfl⟩ ⟨⟨Nat.le_of_ble_eq_true rfl, Nat.le_of_ble_eq_true rfl⟩, Nat.le_of_ble_eq_true rfl, Nat.le_of_ble_eq_true rfl⟩ rfl (Nat.le_of_ble_eq_true rfl) d177_49 (fun vv h28 z29 H locs hR I9 => ?_)
      obtain ⟨v27, e1, hF⟩ := hR
      subst e1
      clear I
      have I := I9
      clear I9 c9 fs9
      refine W.eq (g2 := F0 m 52 ls [.int v27]) rfl ?_
      obtain ⟨hz9, hF⟩ := hF
      exact ht_zret X d177_52 I (Nat.le_of_ble_eq_true rfl) (Nat.le_of_ble_eq_true rfl) ⟨_, rfl, hF⟩ (cg_zn hz9).1
    · have hF := Eq.mp (if_neg h9) hF
      refine lv_aload_n hx hb d177_23 rfl (lv_at hl 0 rfl) ?_
      refine lv_aload_nR hx hb d177_24 rfl (lv_at hl 1 rfl) ?_
      obtain ⟨a30, e9, hF⟩ := hF
      refine W.eq (g2 := F0 m 25 ls [.ref a30, .ref y0]) (by rw [e9]; rfl) ?_
      clear e9
      obtain ⟨fs9, v31, c9, e9, hF⟩ := hF
      refine va_get (D := D) (ci := 8) (v := va_rf v31) (C := kR8) (T := kT8) (N := 9) hx hb hts ku8 hown hK (hm_one I.1 c9) 0 rfl rfl 7 (by decide) (hts _ ms_k469) (fun _ h => h) e9 d177_25 ?_
      clear e9 c9 fs9
      refine lv_iload_n hx hb d177_28 rfl (lv_at hl 2 rfl) ?_
      obtain ⟨a32, e9, hF⟩ := hF
      refine W.eq (g2 := F0 m 29 ls [.int x2, .ref a32, .ref y0]) (by rw [e9]; rfl) ?_
      clear e9
      obtain ⟨u9, xs9, j9, z9, e8, p1, p2, p3, hF⟩ := hF
      refine ms_top (y := nI j9) e8 ?_
      refine ht_V (C := "java/lang/String") (rest := [.ref y0]) (as := [.int (nI j9)]) X hl (c_SchAt l D dA s0 hE a32 u9 xs9 j9 p1 p2 p3) (List.forall_mem_cons.mpr ⟨ms_k643, List.forall_mem_cons.mpr ⟨ms_k399, List.forall_mem_cons.mpr ⟨ms_k400, List.forall_mem_cons.mpr ⟨ms_k4, List.forall_mem_cons.mpr ⟨ms_k401, fun _ h => absurd h List.not_mem_nil⟩⟩⟩⟩⟩) ⟨rfl, by decide +kernel, by decide +kernel, (by decide +kernel : (parseMethodDescriptor "(I)C").map (fun d => d.parameters.length) = some 1)⟩ (hz_recv I z9) I z9 ⟨⟨Nat.le_of_ble_eq_true rfl, Nat.le_of_ble_eq_true rfl⟩, Nat.le_of_ble_eq_true rfl, Nat.le_of_ble_eq_true rfl⟩ rfl (Nat.le_of_ble_eq_true rfl) d177_29 (fun vv h9 z7 H locs hR I9 => ?_)
      obtain ⟨e1, e2, e3⟩ := hR
      rw [e2, e3] at I9
      subst e1
      clear I
      have I := I9
      clear I9 e2 e3 h9 z7
      refine W.eq (g2 := F0 m 32 ls [.int (nI (xs9.getD j9 0)), .ref y0]) rfl ?_
      generalize (nI (xs9.getD j9 0)) = v33 at hF ⊢
      obtain ⟨fs9, c9, hF⟩ := hF
      refine ht_U (C := "MarkupStore$MarkupReader") (x := ⟨"MarkupStore$MarkupReader", "take", "(C)Z"⟩) (owner := "MarkupStore$TextReader") (rest := []) (as := [.int v33]) X hl (cw_TextReader_take6 l D dA s0 hE y0 v33 h z _ hF) (List.forall_mem_cons.mpr ⟨ms_k623, List.forall_mem_cons.mpr ⟨ms_k624, List.forall_mem_cons.mpr ⟨ms_k626, List.forall_mem_cons.mpr ⟨ms_k627, List.forall_mem_cons.mpr ⟨ms_k14, List.forall_mem_cons.mpr ⟨ms_k628, fun _ h => absurd h List.not_mem_nil⟩⟩⟩⟩⟩⟩) rfl ⟨by decide +kernel, by decide +kernel, (by decide +kernel : (parseMethodDescriptor "(C)Z").map (fun d => d.parameters.length) = some 1)⟩ (hm_recv hK I rfl c9) I ⟨rfl, rfl⟩ ⟨⟨Nat.le_of_ble_eq_true rfl, Nat.le_of_ble_eq_true rfl⟩, Nat.le_of_ble_eq_true rfl, Nat.le_of_ble_eq_true rfl⟩ rfl (Nat.le_of_ble_eq_true rfl) d177_32 (fun vv h35 z36 H locs hR I9 => ?_)
      obtain ⟨v34, e1, hF⟩ := hR
      subst e1
      clear I
      have I := I9
      clear I9 c9 fs9
      refine W.eq (g2 := F0 m 35 ls [.int v34]) rfl ?_
      refine lv_if_ne hx hb d177_35 rfl (fun h9 => ?_) (fun h9 => ?_)
      · have hF := Eq.mp (if_neg h9) hF
        refine lv_iinc (k := 2) (v := (x2 + 1)) hx hb d177_40 hl rfl (rfl) (by decide) (show _ = [(2, .int (x2 + 1)), (0, .ref y0), (1, va_rf x1)] by simp [cat_rf, cat_int, cat_ref, cat_null, cat_long]) (fun ls hl => ?_)
        have hl : lv_has ls 3 [(2, .int (x2 + 1)), (0, .ref y0), (1, va_rf x1)] := hl
        refine lv_goto hx hb d177_43 rfl ?_
        exact hk12 ls x1 (x2 + 1) h35 z36 _ _ hF (hl.sub [1, 2, 0] rfl) I
      · have hF := Eq.mp (if_pos h9) hF
        refine lv_iconst (v := 0) hx hb d177_38 (by decide) ?_
        exact ht_zret X d177_39 I (Nat.le_of_ble_eq_true rfl) (Nat.le_of_ble_eq_true rfl) ⟨_, rfl, hF⟩ rfl
  have hF := hg
  unfold w_MarkupReader_readEndTag at hF
  clear h z
  refine lv_aload_n hx hb d177_0 rfl (lv_at hl 0 rfl) ?_
  refine lv_dup hx hb d177_1 rfl ?_
  obtain ⟨fs9, v21, c9, e9, hF⟩ := hF
  refine va_get (D := D) (ci := 6) (v := .int v21) (C := kR6) (T := kT6) (N := 6) hx hb hts ku6 hown hK (hm_one I.1 c9) 0 rfl rfl 1 (by decide) (hts _ ms_k360) (fun x9 h9 => u_same (hts _ ms_k361) x9 h9) e9 d177_2 ?_
  clear e9 c9 fs9
  refine lv_iconst (v := 2) hx hb d177_5 (by decide) ?_
  refine lv_iadd hx hb d177_6 ?_
  obtain ⟨fs9, c9, k9, hF⟩ := hF
  refine hm_put (ci := 6) (v := .int (v21 + 2)) (ty := .int) (C := kR6) (T := kT6) (N := 6) X I ku6 kt6 kp6 kn6 c9 rfl 1 (by decide) ms_k360 (fun x9 h9 => u_same (hts _ ms_k361) x9 h9) rfl (by decide +kernel) rfl rfl k9 d177_7 (fun h22 H locs e9 f9 I => ?_)
  rw [← hm_eqU e9 f9] at hF
  clear e9 f9 c9 k9
  refine lv_iconst (v := 0) hx hb d177_10 (by decide) ?_
  refine lv_istore_n (i := 2) hx hb d177_11 rfl hl (by decide) (show _ = [(2, .int 0), (0, .ref y0), (1, va_rf y1)] by simp [cat_rf, cat_int, cat_ref, cat_null, cat_long]) (fun ls hl => ?_)
  have hl : lv_has ls 3 [(2, .int 0), (0, .ref y0), (1, va_rf y1)] := hl
  exact b12 mF ls y1 0 h22 z0 _ _ hF (hl.sub [1, 2, 0] rfl) I

def w_PathReader_readPosition_56 (dA : Nat → ClassId) (y0 : Nat) (K : Int32 → hm_T → hz_T → Prop) (x1 : Int32) (h : hm_T) (z : hz_T) : Prop := (K x1 h z)
def w_PathReader_readPosition_4 (dA : Nat → ClassId) (y0 : Nat) (K : Int32 → hm_T → hz_T → Prop) : Nat → Int32 → Int32 → hm_T → hz_T → Prop
  | 0, _, _, _, _ => False
  | n9 + 1, x1, x2, h, z => (if 2 ≤ x2 then (w_PathReader_readPosition_56 dA y0 K x1 h z) else (cg_I h 10 1 y0 (fun v21 => (cg_c h 10 y0 ((w_TextReader_seen10 dA y0 v21 (fun v22 h23 z24 => (w_PathReader_isDigit dA v22 (fun v25 h26 z27 => (if v25 = 0 then (w_PathReader_readPosition_56 dA y0 K x1 h26 z27) else (cg_I h26 10 1 y0 (fun v28 => (cg_c h26 10 y0 ((w_TextReader_seen10 dA y0 v28 (fun v29 h30 z31 => (cg_I h30 10 1 y0 (fun v32 => (cg_p h30 10 1 y0 (.int (v32 + 1)) (fun h33 => ((w_PathReader_readPosition_4 dA y0 K n9) (((10 * x1) + v29) - 48) (x2 + 1) h33 z31)))))) h26 z27))))))) h23 z24)) h z))))))
def w_PathReader_readPosition (dA : Nat → ClassId) (y0 : Nat) (K : Int32 → hm_T → hz_T → Prop) (h0 : hm_T) (z0 : hz_T) : Prop := (w_PathReader_readPosition_4 dA y0 K mF 0 0 h0 z0)
set_option maxRecDepth 100000 in
set_option maxHeartbeats 8000000 in
theorem cw_PathReader_readPosition (l : Launch) (D : va_G) (dA : Nat → ClassId) (s0 : State) (hE : ms_EV D dA s0) (y0 : Nat) (h0 : hm_T) (z0 : hz_T) (K : Int32 → hm_T → hz_T → Prop) (hg : w_PathReader_readPosition dA y0 K h0 z0) : ht_C l D s0 yM178 bM178 3 (Option.some Jvm.ClassFile.FieldType.int) 5 106 0 0 [.ref y0] (fun h z => h = h0 ∧ z = z0) (fun h z vv h1 z1 => ∃ v, vv = some (.int v) ∧ K v h1 z1) := by
  refine ht_C.mk hE.1 (by decide) (Nat.le_of_ble_eq_true rfl) [(0, .ref y0)] rfl ?_
  intro p e s m below meth c ls h z X hin hpre I hl
  have hx := X.1
  have hb := X.2.1
  have hml := X.2.2.1
  have hown : s.vm.findClass "MarkupStore$PathReader" = some m.cls := X.2.2.2.1
  have hts := X.2.2.2.2.2.2.1
  have hK := X.2.2.2.2.2.2.2.2.1
  rw [hpre.1, hpre.2] at I
  clear hpre
  have b56 : ∀ (ls : Array Slot) (x1 : Int32) (h : hm_T) (z : hz_T) (H : Heap) (locs : List Loc), w_PathReader_readPosition_56 dA y0 K x1 h z → lv_has ls 3 [(1, .int x1)] → hm_I D s0 s h z H locs → W p l e { frames := 5, cells := 0, slots := 0, locals := 106 } s m ([.ref y0] : List Value).toArray below meth c H locs 0 0 (MQ below (ht_Q D s0 (fun vv h1 z1 => ∃ v, vv = some (.int v) ∧ K v h1 z1)) ([.ref y0] : List Value).toArray s 0 0 (fun q => s0.heap.size ≤ q)) (F0 m 56 ls []) := by
    intro ls x1 h z H locs hF hl I
    unfold w_PathReader_readPosition_56 at hF
    refine lv_iload_n hx hb d178_56 rfl (lv_at hl 0 rfl) ?_
    exact ht_iret X d178_57 I (Nat.le_of_ble_eq_true rfl) (Nat.le_of_ble_eq_true rfl) ⟨_, rfl, hF⟩
  have b4 : ∀ n9 : Nat, ∀ (ls : Array Slot) (x1 : Int32) (x2 : Int32) (h : hm_T) (z : hz_T) (H : Heap) (locs : List Loc), w_PathReader_readPosition_4 dA y0 K n9 x1 x2 h z → lv_has ls 3 [(0, .ref y0), (1, .int x1), (2, .int x2)] → hm_I D s0 s h z H locs → W p l e { frames := 5, cells := 0, slots := 0, locals := 106 } s m ([.ref y0] : List Value).toArray below meth c H locs 0 0 (MQ below (ht_Q D s0 (fun vv h1 z1 => ∃ v, vv = some (.int v) ∧ K v h1 z1)) ([.ref y0] : List Value).toArray s 0 0 (fun q => s0.heap.size ≤ q)) (F0 m 4 ls []) := by
    intro n9
    induction n9 with
    | zero => intro ls x1 x2 h z H locs hF; cases hF
    | succ n9 hk4 =>
    intro ls x1 x2 h z H locs hF hl I
    unfold w_PathReader_readPosition_4 at hF
    refine lv_iload_n hx hb d178_4 rfl (lv_at hl 2 rfl) ?_
    refine lv_iconst (v := 2) hx hb d178_5 (by decide) ?_
    refine lv_icmp_ge hx hb d178_6 rfl (fun h9 => ?_) (fun h9 => ?_)
    · have hF := Eq.mp (if_pos h9) hF
      exact b56 ls x1 h z _ _ hF (hl.sub [1] rfl) I
    · have hF := Eq.mp (if_neg h9) hF
      refine lv_aload_n hx hb d178_9 rfl (lv_at hl 0 rfl) ?_
      refine lv_aload_n hx hb d178_10 rfl (lv_at hl 0 rfl) ?_
      obtain ⟨fs9, v21, c9, e9, hF⟩ := hF
      refine va_get (D := D) (ci := 10) (v := .int v21) (C := kR10) (T := kT10) (N := 3) hx hb hts ku10 hown hK (hm_one I.1 c9) 0 rfl rfl 1 (by decide) (hts _ ms_k358) (fun x9 h9 => u_same (hts _ ms_k359) x9 h9) e9 d178_11 ?_
      clear e9 c9 fs9
      obtain ⟨fs9, c9, hF⟩ := hF
      refine ht_U (C := "MarkupStore$PathReader") (x := ⟨"MarkupStore$PathReader", "seen", "(I)C"⟩) (owner := "MarkupStore$TextReader") (rest := []) (as := [.int v21]) X hl (cw_TextReader_seen10 l D dA s0 hE y0 v21 h z _ hF) (List.forall_mem_cons.mpr ⟨ms_k890, List.forall_mem_cons.mpr ⟨ms_k891, List.forall_mem_cons.mpr ⟨ms_k892, List.forall_mem_cons.mpr ⟨ms_k388, List.forall_mem_cons.mpr ⟨ms_k14, List.forall_mem_cons.mpr ⟨ms_k389, fun _ h => absurd h List.not_mem_nil⟩⟩⟩⟩⟩⟩) rfl ⟨by decide +kernel, by decide +kernel, (by decide +kernel : (parseMethodDescriptor "(I)C").map (fun d => d.parameters.length) = some 1)⟩ (hm_recv hK I rfl c9) I ⟨rfl, rfl⟩ ⟨⟨Nat.le_of_ble_eq_true rfl, Nat.le_of_ble_eq_true rfl⟩, Nat.le_of_ble_eq_true rfl, Nat.le_of_ble_eq_true rfl⟩ rfl (Nat.le_of_ble_eq_true rfl) d178_14 (fun vv h23 z24 H locs hR I9 => ?_)
      obtain ⟨v22, e1, hF⟩ := hR
      subst e1
      clear I
      have I := I9
      clear I9 c9 fs9
      refine W.eq (g2 := F0 m 17 ls [.int v22]) rfl ?_
      refine ht_S (rest := []) (as := [.int v22]) X hl (cw_PathReader_isDigit l D dA s0 hE v22 h23 z24 _ hF) (List.forall_mem_cons.mpr ⟨ms_k1060, List.forall_mem_cons.mpr ⟨ms_k1061, List.forall_mem_cons.mpr ⟨ms_k23, List.forall_mem_cons.mpr ⟨ms_k1062, fun _ h => absurd h List.not_mem_nil⟩⟩⟩⟩) ⟨by decide +kernel, by decide +kernel, (by decide +kernel : (parseMethodDescriptor "(C)Z").map (fun d => d.parameters.length) = some 1)⟩ I ⟨rfl, rfl⟩ ⟨⟨Nat.le_of_ble_eq_true rfl, Nat.le_of_ble_eq_true rfl⟩, Nat.le_of_ble_eq_true rfl, Nat.le_of_ble_eq_true rfl⟩ rfl (Nat.le_of_ble_eq_true rfl) d178_17 (fun vv h26 z27 H locs hR I9 => ?_)
      obtain ⟨v25, e1, hF⟩ := hR
      subst e1
      clear I
      have I := I9
      clear I9
      refine W.eq (g2 := F0 m 20 ls [.int v25]) rfl ?_
      refine lv_if_eq hx hb d178_20 rfl (fun h9 => ?_) (fun h9 => ?_)
      · have hF := Eq.mp (if_pos h9) hF
        exact b56 ls x1 h26 z27 _ _ hF (hl.sub [1] rfl) I
      · have hF := Eq.mp (if_neg h9) hF
        refine lv_bipush (v := 10) hx hb d178_23 (by decide) ?_
        refine lv_iload_n hx hb d178_25 rfl (lv_at hl 1 rfl) ?_
        refine lv_imul hx hb d178_26 ?_
        refine lv_aload_n hx hb d178_27 rfl (lv_at hl 0 rfl) ?_
        refine lv_aload_n hx hb d178_28 rfl (lv_at hl 0 rfl) ?_
        obtain ⟨fs9, v28, c9, e9, hF⟩ := hF
        refine va_get (D := D) (ci := 10) (v := .int v28) (C := kR10) (T := kT10) (N := 3) hx hb hts ku10 hown hK (hm_one I.1 c9) 0 rfl rfl 1 (by decide) (hts _ ms_k358) (fun x9 h9 => u_same (hts _ ms_k359) x9 h9) e9 d178_29 ?_
        clear e9 c9 fs9
        obtain ⟨fs9, c9, hF⟩ := hF
        refine ht_U (C := "MarkupStore$PathReader") (x := ⟨"MarkupStore$PathReader", "seen", "(I)C"⟩) (owner := "MarkupStore$TextReader") (rest := [.int (10 * x1)]) (as := [.int v28]) X hl (cw_TextReader_seen10 l D dA s0 hE y0 v28 h26 z27 _ hF) (List.forall_mem_cons.mpr ⟨ms_k890, List.forall_mem_cons.mpr ⟨ms_k891, List.forall_mem_cons.mpr ⟨ms_k892, List.forall_mem_cons.mpr ⟨ms_k388, List.forall_mem_cons.mpr ⟨ms_k14, List.forall_mem_cons.mpr ⟨ms_k389, fun _ h => absurd h List.not_mem_nil⟩⟩⟩⟩⟩⟩) rfl ⟨by decide +kernel, by decide +kernel, (by decide +kernel : (parseMethodDescriptor "(I)C").map (fun d => d.parameters.length) = some 1)⟩ (hm_recv hK I rfl c9) I ⟨rfl, rfl⟩ ⟨⟨Nat.le_of_ble_eq_true rfl, Nat.le_of_ble_eq_true rfl⟩, Nat.le_of_ble_eq_true rfl, Nat.le_of_ble_eq_true rfl⟩ rfl (Nat.le_of_ble_eq_true rfl) d178_32 (fun vv h30 z31 H locs hR I9 => ?_)
        obtain ⟨v29, e1, hF⟩ := hR
        subst e1
        clear I
        have I := I9
        clear I9 c9 fs9
        refine W.eq (g2 := F0 m 35 ls [.int v29, .int (10 * x1)]) rfl ?_
        refine lv_iadd hx hb d178_35 ?_
        refine lv_bipush (v := 48) hx hb d178_36 (by decide) ?_
        refine lv_isub hx hb d178_38 ?_
        refine lv_istore_n hx hb d178_39 rfl hl (by decide) rfl (fun ls hl => ?_)
        have hl : lv_has ls 3 [(1, .int (((10 * x1) + v29) - 48)), (0, .ref y0), (2, .int x2)] := hl
        refine lv_aload_n hx hb d178_40 rfl (lv_at hl 1 rfl) ?_
        refine lv_dup hx hb d178_41 rfl ?_
        obtain ⟨fs9, v32, c9, e9, hF⟩ := hF
        refine va_get (D := D) (ci := 10) (v := .int v32) (C := kR10) (T := kT10) (N := 3) hx hb hts ku10 hown hK (hm_one I.1 c9) 0 rfl rfl 1 (by decide) (hts _ ms_k358) (fun x9 h9 => u_same (hts _ ms_k359) x9 h9) e9 d178_42 ?_
        clear e9 c9 fs9
        refine lv_iconst (v := 1) hx hb d178_45 (by decide) ?_
        refine lv_iadd hx hb d178_46 ?_
        obtain ⟨fs9, c9, k9, hF⟩ := hF
        refine hm_put (ci := 10) (v := .int (v32 + 1)) (ty := .int) (C := kR10) (T := kT10) (N := 3) X I ku10 kt10 kp10 kn10 c9 rfl 1 (by decide) ms_k358 (fun x9 h9 => u_same (hts _ ms_k359) x9 h9) rfl (by decide +kernel) rfl rfl k9 d178_47 (fun h33 H locs e9 f9 I => ?_)
        rw [← hm_eqU e9 f9] at hF
        clear e9 f9 c9 k9
        refine lv_iinc (k := 2) (v := (x2 + 1)) hx hb d178_50 hl rfl (rfl) (by decide) rfl (fun ls hl => ?_)
        have hl : lv_has ls 3 [(2, .int (x2 + 1)), (1, .int (((10 * x1) + v29) - 48)), (0, .ref y0)] := hl
        refine lv_goto hx hb d178_53 rfl ?_
        exact hk4 ls (((10 * x1) + v29) - 48) (x2 + 1) h33 z31 _ _ hF (hl.sub [2, 1, 0] rfl) I
  have hF := hg
  unfold w_PathReader_readPosition at hF
  clear h z
  refine lv_iconst (v := 0) hx hb d178_0 (by decide) ?_
  refine lv_istore_n hx hb d178_1 rfl hl (by decide) rfl (fun ls hl => ?_)
  have hl : lv_has ls 3 [(1, .int 0), (0, .ref y0)] := hl
  refine lv_iconst (v := 0) hx hb d178_2 (by decide) ?_
  refine lv_istore_n hx hb d178_3 rfl hl (by decide) rfl (fun ls hl => ?_)
  have hl : lv_has ls 3 [(2, .int 0), (1, .int 0), (0, .ref y0)] := hl
  exact b4 mF ls 0 0 h0 z0 _ _ hF (hl.sub [2, 1, 0] rfl) I

def w_Scribe_putAll_2 (dA : Nat → ClassId) (y0 : Nat) (K : hm_T → hz_T → Prop) : Nat → Option Nat → Int32 → hm_T → hz_T → Prop
  | 0, _, _, _, _ => False
  | n9 + 1, x1, x2, h, z => (cg_d x1 (fun a21 => (jd_len z a21 (fun v22 => (if v22 ≤ x2 then (K h z) else (cg_d x1 (fun a23 => (jd_at z a23 x2 (fun v24 => (cg_c h 7 y0 ((w_Scribe_put dA y0 v24 (fun h26 z27 => ((w_Scribe_putAll_2 dA y0 K n9) x1 (x2 + 1) h26 z27)) h z))))))))))))
def w_Scribe_putAll (dA : Nat → ClassId) (y0 : Nat) (y1 : Option Nat) (K : hm_T → hz_T → Prop) (h0 : hm_T) (z0 : hz_T) : Prop := (w_Scribe_putAll_2 dA y0 K mF y1 0 h0 z0)
set_option maxRecDepth 100000 in
set_option maxHeartbeats 8000000 in
theorem cw_Scribe_putAll (l : Launch) (D : va_G) (dA : Nat → ClassId) (s0 : State) (hE : ms_EV D dA s0) (y0 : Nat) (y1 : Option Nat) (h0 : hm_T) (z0 : hz_T) (K : hm_T → hz_T → Prop) (hg : w_Scribe_putAll dA y0 y1 K h0 z0) : ht_C l D s0 yM179 bM179 3 (Option.none : Option Jvm.ClassFile.FieldType) 4 85 0 0 [.ref y0, va_rf y1] (fun h z => h = h0 ∧ z = z0) (fun h z vv h1 z1 => vv = none ∧ K h1 z1) := by
  refine ht_C.mk hE.1 (by decide) (by simp [lg_sl, cat_rf, cat_int, cat_ref, cat_null, cat_long]) [(0, .ref y0), (1, va_rf y1)] (by simp [lv_args, cat_rf, cat_int, cat_ref, cat_null, cat_long]) ?_
  intro p e s m below meth c ls h z X hin hpre I hl
  have hx := X.1
  have hb := X.2.1
  have hml := X.2.2.1
  have hown : s.vm.findClass "MarkupStore$Scribe" = some m.cls := X.2.2.2.1
  have hts := X.2.2.2.2.2.2.1
  have hK := X.2.2.2.2.2.2.2.2.1
  rw [hpre.1, hpre.2] at I
  clear hpre
  have b2 : ∀ n9 : Nat, ∀ (ls : Array Slot) (x1 : Option Nat) (x2 : Int32) (h : hm_T) (z : hz_T) (H : Heap) (locs : List Loc), w_Scribe_putAll_2 dA y0 K n9 x1 x2 h z → lv_has ls 3 [(0, .ref y0), (1, va_rf x1), (2, .int x2)] → hm_I D s0 s h z H locs → W p l e { frames := 4, cells := 0, slots := 0, locals := 85 } s m ([.ref y0, va_rf y1] : List Value).toArray below meth c H locs 0 0 (MQ below (ht_Q D s0 (fun vv h1 z1 => vv = none ∧ K h1 z1)) ([.ref y0, va_rf y1] : List Value).toArray s 0 0 (fun q => s0.heap.size ≤ q)) (F0 m 2 ls []) := by
    intro n9
    induction n9 with
    | zero => intro ls x1 x2 h z H locs hF; cases hF
    | succ n9 hk2 =>
    intro ls x1 x2 h z H locs hF hl I
    unfold w_Scribe_putAll_2 at hF
    refine lv_iload_n hx hb d179_2 rfl (lv_at hl 2 rfl) ?_
    refine lv_aload_nR hx hb d179_3 rfl (lv_at hl 1 rfl) ?_
    obtain ⟨a21, e9, hF⟩ := hF
    refine W.eq (g2 := F0 m 4 ls [.ref a21, .int x2]) (by rw [e9]; rfl) ?_
    clear e9
    obtain ⟨u9, xs9, z9, hF⟩ := hF
    refine ht_V (C := "java/lang/String") (rest := [.int x2]) (as := []) X hl (c_Slen l D dA s0 hE a21 u9 xs9) (List.forall_mem_cons.mpr ⟨ms_k1277, List.forall_mem_cons.mpr ⟨ms_k391, List.forall_mem_cons.mpr ⟨ms_k392, List.forall_mem_cons.mpr ⟨ms_k4, List.forall_mem_cons.mpr ⟨ms_k393, fun _ h => absurd h List.not_mem_nil⟩⟩⟩⟩⟩) ⟨rfl, by decide +kernel, by decide +kernel, (by decide +kernel : (parseMethodDescriptor "()I").map (fun d => d.parameters.length) = some 0)⟩ (hz_recv I z9) I z9 ⟨⟨Nat.le_of_ble_eq_true rfl, Nat.le_of_ble_eq_true rfl⟩, Nat.le_of_ble_eq_true rfl, Nat.le_of_ble_eq_true rfl⟩ rfl (Nat.le_of_ble_eq_true rfl) d179_4 (fun vv h9 z7 H locs hR I9 => ?_)
    obtain ⟨e1, e2, e3⟩ := hR
    rw [e2, e3] at I9
    subst e1
    clear I
    have I := I9
    clear I9 e2 e3 h9 z7
    refine W.eq (g2 := F0 m 7 ls [.int (nI xs9.length), .int x2]) rfl ?_
    generalize (nI xs9.length) = v22 at hF ⊢
    refine lv_icmp_ge hx hb d179_7 rfl (fun h9 => ?_) (fun h9 => ?_)
    · have hF := Eq.mp (if_pos h9) hF
      exact ht_vret X d179_25 I (Nat.le_of_ble_eq_true rfl) (Nat.le_of_ble_eq_true rfl) ⟨rfl, hF⟩
    · have hF := Eq.mp (if_neg h9) hF
      refine lv_aload_n hx hb d179_10 rfl (lv_at hl 0 rfl) ?_
      refine lv_aload_nR hx hb d179_11 rfl (lv_at hl 1 rfl) ?_
      refine lv_iload_n hx hb d179_12 rfl (lv_at hl 2 rfl) ?_
      obtain ⟨a23, e9, hF⟩ := hF
      refine W.eq (g2 := F0 m 13 ls [.int x2, .ref a23, .ref y0]) (by rw [e9]; rfl) ?_
      clear e9
      obtain ⟨u9, xs9, j9, z9, e8, p1, p2, p3, hF⟩ := hF
      refine ms_top (y := nI j9) e8 ?_
      refine ht_V (C := "java/lang/String") (rest := [.ref y0]) (as := [.int (nI j9)]) X hl (c_SchAt l D dA s0 hE a23 u9 xs9 j9 p1 p2 p3) (List.forall_mem_cons.mpr ⟨ms_k1278, List.forall_mem_cons.mpr ⟨ms_k399, List.forall_mem_cons.mpr ⟨ms_k400, List.forall_mem_cons.mpr ⟨ms_k4, List.forall_mem_cons.mpr ⟨ms_k401, fun _ h => absurd h List.not_mem_nil⟩⟩⟩⟩⟩) ⟨rfl, by decide +kernel, by decide +kernel, (by decide +kernel : (parseMethodDescriptor "(I)C").map (fun d => d.parameters.length) = some 1)⟩ (hz_recv I z9) I z9 ⟨⟨Nat.le_of_ble_eq_true rfl, Nat.le_of_ble_eq_true rfl⟩, Nat.le_of_ble_eq_true rfl, Nat.le_of_ble_eq_true rfl⟩ rfl (Nat.le_of_ble_eq_true rfl) d179_13 (fun vv h9 z7 H locs hR I9 => ?_)
      obtain ⟨e1, e2, e3⟩ := hR
      rw [e2, e3] at I9
      subst e1
      clear I
      have I := I9
      clear I9 e2 e3 h9 z7
      refine W.eq (g2 := F0 m 16 ls [.int (nI (xs9.getD j9 0)), .ref y0]) rfl ?_
      generalize (nI (xs9.getD j9 0)) = v24 at hF ⊢
      obtain ⟨fs9, c9, hF⟩ := hF
      refine ht_V (C := "MarkupStore$Scribe") (rest := []) (as := [.int v24]) X hl (cw_Scribe_put l D dA s0 hE y0 v24 h z _ hF) (List.forall_mem_cons.mpr ⟨ms_k1279, List.forall_mem_cons.mpr ⟨ms_k1281, List.forall_mem_cons.mpr ⟨ms_p41, List.forall_mem_cons.mpr ⟨ms_k30, List.forall_mem_cons.mpr ⟨ms_k1282, fun _ h => absurd h List.not_mem_nil⟩⟩⟩⟩⟩) ⟨rfl, by decide +kernel, by decide +kernel, (by decide +kernel : (parseMethodDescriptor "(C)V").map (fun d => d.parameters.length) = some 1)⟩ (hm_recv hK I rfl c9) I ⟨rfl, rfl⟩ ⟨⟨Nat.le_of_ble_eq_true rfl, Nat.le_of_ble_eq_true rfl⟩, Nat.le_of_ble_eq_true rfl, Nat.le_of_ble_eq_true rfl⟩ rfl (Nat.le_of_ble_eq_true rfl) d179_16 (fun vv h26 z27 H locs hR I9 => ?_)
      obtain ⟨e1, hF⟩ := hR
      subst e1
      clear I
      have I := I9
      clear I9 c9 fs9
      refine W.eq (g2 := F0 m 19 ls []) rfl ?_
      refine lv_iinc (k := 2) (v := (x2 + 1)) hx hb d179_19 hl rfl (rfl) (by decide) (show _ = [(2, .int (x2 + 1)), (0, .ref y0), (1, va_rf x1)] by simp [cat_rf, cat_int, cat_ref, cat_null, cat_long]) (fun ls hl => ?_)
      have hl : lv_has ls 3 [(2, .int (x2 + 1)), (0, .ref y0), (1, va_rf x1)] := hl
      refine lv_goto hx hb d179_22 rfl ?_
      exact hk2 ls x1 (x2 + 1) h26 z27 _ _ hF (hl.sub [1, 2, 0] rfl) I
  have hF := hg
  unfold w_Scribe_putAll at hF
  clear h z
  refine lv_iconst (v := 0) hx hb d179_0 (by decide) ?_
  refine lv_istore_n (i := 2) hx hb d179_1 rfl hl (by decide) (show _ = [(2, .int 0), (0, .ref y0), (1, va_rf y1)] by simp [cat_rf, cat_int, cat_ref, cat_null, cat_long]) (fun ls hl => ?_)
  have hl : lv_has ls 3 [(2, .int 0), (0, .ref y0), (1, va_rf y1)] := hl
  exact b2 mF ls y1 0 h0 z0 _ _ hF (hl.sub [1, 2, 0] rfl) I

def w_Walker_goals_65 (dA : Nat → ClassId) (y0 : Nat) (K : Int64 → hm_T → hz_T → Prop) (k26 : Option Nat → Int64 → Int32 → hm_T → hz_T → Prop) (x1 : Option Nat) (x4 : Int32) (w0 : Int64) (w1 : Int64) (h : hm_T) (z : hz_T) : Prop := (k26 x1 (w1 ||| w0) (x4 + 1) h z)
def w_Walker_goals_26 (dA : Nat → ClassId) (y0 : Nat) (K : Int64 → hm_T → hz_T → Prop) : Nat → Option Nat → Int64 → Int32 → hm_T → hz_T → Prop
  | 0, _, _, _, _, _ => False
  | n9 + 1, x1, x2, x4, h, z => (cg_R h 14 0 y0 (fun v23 => (cg_d v23 (fun a24 => (cg_I h 1 3 a24 (fun v25 => (if v25 ≤ x4 then (K x2 h z) else (cg_R h 14 0 y0 (fun v26 => (cg_d v26 (fun a27 => (cg_R h 1 2 a27 (fun v28 => (cg_d v28 (fun a29 => (cg_ar dA h 5 a29 x4 (fun v30 => (cg_c h 14 y0 ((w_Walker_stringValueFits dA y0 v30 x1 (fun v31 h32 z33 => (if v31 = 0 then (w_Walker_goals_65 dA y0 K (w_Walker_goals_26 dA y0 K n9) x1 x4 (0 : Int64) x2 h32 z33) else (w_Walker_goals_65 dA y0 K (w_Walker_goals_26 dA y0 K n9) x1 x4 ((1 : Int64) <<< (x4.toInt64 &&& 63)) x2 h32 z33))) h z))))))))))))))))))))
def w_Walker_goals (dA : Nat → ClassId) (y0 : Nat) (y1 : Option Nat) (K : Int64 → hm_T → hz_T → Prop) (h0 : hm_T) (z0 : hz_T) : Prop := (cg_d y1 (fun a21 => (cg_I h0 13 5 a21 (fun v22 => (if v22 = 32 then (cg_R h0 14 0 y0 (fun v34 => (cg_d v34 (fun a35 => (cg_I h0 1 3 a35 (fun v36 => (w_Walker_range dA 0 v36 (fun v37 h38 z39 => (K v37 h38 z39)) h0 z0))))))) else (w_Walker_goals_26 dA y0 K mF y1 (0 : Int64) 0 h0 z0))))))
set_option maxRecDepth 100000 in
set_option maxHeartbeats 8000000 in
theorem cw_Walker_goals (l : Launch) (D : va_G) (dA : Nat → ClassId) (s0 : State) (hE : ms_EV D dA s0) (y0 : Nat) (y1 : Option Nat) (h0 : hm_T) (z0 : hz_T) (K : Int64 → hm_T → hz_T → Prop) (hg : w_Walker_goals dA y0 y1 K h0 z0) : ht_C l D s0 yM180 bM180 5 (Option.some Jvm.ClassFile.FieldType.long) 5 114 0 0 [.ref y0, va_rf y1] (fun h z => h = h0 ∧ z = z0) (fun h z vv h1 z1 => ∃ v, vv = some (.long v) ∧ K v h1 z1) := by
  refine ht_C.mk hE.1 (by decide) (by simp [lg_sl, cat_rf, cat_int, cat_ref, cat_null, cat_long]) [(0, .ref y0), (1, va_rf y1)] (by simp [lv_args, cat_rf, cat_int, cat_ref, cat_null, cat_long]) ?_
  intro p e s m below meth c ls h z X hin hpre I hl
  have hx := X.1
  have hb := X.2.1
  have hml := X.2.2.1
  have hown : s.vm.findClass "MarkupStore$Walker" = some m.cls := X.2.2.2.1
  have hts := X.2.2.2.2.2.2.1
  have hK := X.2.2.2.2.2.2.2.2.1
  rw [hpre.1, hpre.2] at I
  clear hpre
  have b65 : ∀ (k26 : Option Nat → Int64 → Int32 → hm_T → hz_T → Prop), (∀ (ls : Array Slot) (x1 : Option Nat) (x2 : Int64) (x4 : Int32) (h : hm_T) (z : hz_T) (H : Heap) (locs : List Loc), k26 x1 x2 x4 h z → lv_has ls 5 [(0, .ref y0), (1, va_rf x1), (2, .long x2), (4, .int x4)] → hm_I D s0 s h z H locs → W p l e { frames := 5, cells := 0, slots := 0, locals := 114 } s m ([.ref y0, va_rf y1] : List Value).toArray below meth c H locs 0 0 (MQ below (ht_Q D s0 (fun vv h1 z1 => ∃ v, vv = some (.long v) ∧ K v h1 z1)) ([.ref y0, va_rf y1] : List Value).toArray s 0 0 (fun q => s0.heap.size ≤ q)) (F0 m 26 ls [])) → ∀ (ls : Array Slot) (x1 : Option Nat) (x4 : Int32) (w0 : Int64) (w1 : Int64) (h : hm_T) (z : hz_T) (H : Heap) (locs : List Loc), w_Walker_goals_65 dA y0 K k26 x1 x4 w0 w1 h z → lv_has ls 5 [(0, .ref y0), (1, va_rf x1), (4, .int x4)] → hm_I D s0 s h z H locs → W p l e { frames := 5, cells := 0, slots := 0, locals := 114 } s m ([.ref y0, va_rf y1] : List Value).toArray below meth c H locs 0 0 (MQ below (ht_Q D s0 (fun vv h1 z1 => ∃ v, vv = some (.long v) ∧ K v h1 z1)) ([.ref y0, va_rf y1] : List Value).toArray s 0 0 (fun q => s0.heap.size ≤ q)) (F0 m 65 ls [.long w0, .long w1]) := by
    intro k26 hk26 ls x1 x4 w0 w1 h z H locs hF hl I
    unfold w_Walker_goals_65 at hF
    refine lv_lor hx hb d180_65 ?_
    refine lv_lstore_n (i := 2) hx hb d180_66 rfl hl (by decide) (show _ = [(2, .long (w1 ||| w0)), (0, .ref y0), (1, va_rf x1), (4, .int x4)] by simp [cat_rf, cat_int, cat_ref, cat_null, cat_long]) (fun ls hl => ?_)
    have hl : lv_has ls 5 [(2, .long (w1 ||| w0)), (0, .ref y0), (1, va_rf x1), (4, .int x4)] := hl
    refine lv_iinc (k := 3) (v := (x4 + 1)) hx hb d180_67 hl rfl (rfl) (by decide) rfl (fun ls hl => ?_)
    have hl : lv_has ls 5 [(4, .int (x4 + 1)), (2, .long (w1 ||| w0)), (0, .ref y0), (1, va_rf x1)] := hl
    refine lv_goto hx hb d180_70 rfl ?_
    exact hk26 ls x1 (w1 ||| w0) (x4 + 1) h z _ _ hF (hl.sub [2, 3, 1, 0] rfl) I
  have b26 : ∀ n9 : Nat, ∀ (ls : Array Slot) (x1 : Option Nat) (x2 : Int64) (x4 : Int32) (h : hm_T) (z : hz_T) (H : Heap) (locs : List Loc), w_Walker_goals_26 dA y0 K n9 x1 x2 x4 h z → lv_has ls 5 [(0, .ref y0), (1, va_rf x1), (2, .long x2), (4, .int x4)] → hm_I D s0 s h z H locs → W p l e { frames := 5, cells := 0, slots := 0, locals := 114 } s m ([.ref y0, va_rf y1] : List Value).toArray below meth c H locs 0 0 (MQ below (ht_Q D s0 (fun vv h1 z1 => ∃ v, vv = some (.long v) ∧ K v h1 z1)) ([.ref y0, va_rf y1] : List Value).toArray s 0 0 (fun q => s0.heap.size ≤ q)) (F0 m 26 ls []) := by
    intro n9
    induction n9 with
    | zero => intro ls x1 x2 x4 h z H locs hF; cases hF
    | succ n9 hk26 =>
    intro ls x1 x2 x4 h z H locs hF hl I
    unfold w_Walker_goals_26 at hF
    refine lv_iload hx hb d180_26 (lv_at hl 3 rfl) ?_
    refine lv_aload_n hx hb d180_28 rfl (lv_at hl 0 rfl) ?_
    obtain ⟨fs9, v23, c9, e9, hF⟩ := hF
    refine va_get (D := D) (ci := 14) (v := va_rf v23) (C := kR14) (T := kT14) (N := 1) hx hb hts ku14 hown hK (hm_one I.1 c9) 0 rfl rfl 0 (by decide) (hts _ ms_k1088) (fun _ h => h) e9 d180_29 ?_
    clear e9 c9 fs9
    obtain ⟨a24, e9, hF⟩ := hF
    refine W.eq (g2 := F0 m 32 ls [.ref a24, .int x4]) (by rw [e9]; rfl) ?_
    clear e9
    obtain ⟨fs9, v25, c9, e9, hF⟩ := hF
    refine va_get (D := D) (ci := 1) (v := .int v25) (C := kR1) (T := kT1) (N := 6) hx hb hts ku1 hown hK (hm_one I.1 c9) 0 rfl rfl 3 (by decide) (hts _ ms_k88) (fun _ h => h) e9 d180_32 ?_
    clear e9 c9 fs9
    refine lv_icmp_ge hx hb d180_35 rfl (fun h9 => ?_) (fun h9 => ?_)
    · have hF := Eq.mp (if_pos h9) hF
      refine lv_lload_n hx hb d180_73 rfl (lv_at hl 2 rfl) ?_
      exact ht_lret X d180_74 I (Nat.le_of_ble_eq_true rfl) (Nat.le_of_ble_eq_true rfl) ⟨_, rfl, hF⟩
    · have hF := Eq.mp (if_neg h9) hF
      refine lv_lload_n hx hb d180_38 rfl (lv_at hl 2 rfl) ?_
      refine lv_aload_n hx hb d180_39 rfl (lv_at hl 0 rfl) ?_
      refine lv_aload_n hx hb d180_40 rfl (lv_at hl 0 rfl) ?_
      obtain ⟨fs9, v26, c9, e9, hF⟩ := hF
      refine va_get (D := D) (ci := 14) (v := va_rf v26) (C := kR14) (T := kT14) (N := 1) hx hb hts ku14 hown hK (hm_one I.1 c9) 0 rfl rfl 0 (by decide) (hts _ ms_k1088) (fun _ h => h) e9 d180_41 ?_
      clear e9 c9 fs9
      obtain ⟨a27, e9, hF⟩ := hF
      refine W.eq (g2 := F0 m 44 ls [.ref a27, .ref y0, .long x2]) (by rw [e9]; rfl) ?_
      clear e9
      obtain ⟨fs9, v28, c9, e9, hF⟩ := hF
      refine va_get (D := D) (ci := 1) (v := va_rf v28) (C := kR1) (T := kT1) (N := 6) hx hb hts ku1 hown hK (hm_one I.1 c9) 0 rfl rfl 2 (by decide) (hts _ ms_k84) (fun _ h => h) e9 d180_44 ?_
      clear e9 c9 fs9
      refine lv_iload hx hb d180_47 (lv_at hl 3 rfl) ?_
      obtain ⟨a29, e9, hF⟩ := hF
      refine W.eq (g2 := F0 m 49 ls [.int x4, .ref a29, .ref y0, .long x2]) (by rw [e9]; rfl) ?_
      clear e9
      obtain ⟨n8, f8, c9, i9, hF⟩ := hF
      refine va_aldq hx hb hK (hm_one I.1 c9) 0 5 rfl rfl i9 d180_49 ?_
      generalize f8 (Int32.toNatClampNeg x4) = v30 at hF ⊢
      clear c9 i9
      refine lv_aload_nR hx hb d180_50 rfl (lv_at hl 1 rfl) ?_
      obtain ⟨fs9, c9, hF⟩ := hF
      refine ht_V (C := "MarkupStore$Walker") (rest := [.long x2]) (as := [va_rf v30, va_rf x1]) X hl (cw_Walker_stringValueFits l D dA s0 hE y0 v30 x1 h z _ hF) (List.forall_mem_cons.mpr ⟨ms_k1127, List.forall_mem_cons.mpr ⟨ms_k1129, List.forall_mem_cons.mpr ⟨ms_p27, List.forall_mem_cons.mpr ⟨ms_k28, List.forall_mem_cons.mpr ⟨ms_k1130, fun _ h => absurd h List.not_mem_nil⟩⟩⟩⟩⟩) ⟨rfl, by decide +kernel, by decide +kernel, (by decide +kernel : (parseMethodDescriptor "(LMarkupStore$Node;LMarkupStore$Predicate;)Z").map (fun d => d.parameters.length) = some 2)⟩ (hm_recv hK I rfl c9) I ⟨rfl, rfl⟩ ⟨⟨Nat.le_of_ble_eq_true rfl, Nat.le_of_ble_eq_true rfl⟩, Nat.le_of_ble_eq_true rfl, Nat.le_of_ble_eq_true rfl⟩ rfl (Nat.le_of_ble_eq_true rfl) d180_51 (fun vv h32 z33 H locs hR I9 => ?_)
      obtain ⟨v31, e1, hF⟩ := hR
      subst e1
      clear I
      have I := I9
      clear I9 c9 fs9
      refine W.eq (g2 := F0 m 54 ls [.int v31, .long x2]) rfl ?_
      refine lv_if_eq hx hb d180_54 rfl (fun h9 => ?_) (fun h9 => ?_)
      · have hF := Eq.mp (if_pos h9) hF
        refine lv_lconst (v := (0 : Int64)) hx hb d180_64 (by decide) ?_
        exact b65 (w_Walker_goals_26 dA y0 K n9) hk26 ls x1 x4 (0 : Int64) x2 h32 z33 _ _ hF (hl.sub [0, 1, 3] rfl) I
      · have hF := Eq.mp (if_neg h9) hF
        refine lv_lconst (v := (1 : Int64)) hx hb d180_57 (by decide) ?_
        refine lv_iload hx hb d180_58 (lv_at hl 3 rfl) ?_
        refine lv_lshl (v := ((1 : Int64) <<< (x4.toInt64 &&& 63))) hx hb d180_60 rfl ?_
        refine lv_goto hx hb d180_61 rfl ?_
        exact b65 (w_Walker_goals_26 dA y0 K n9) hk26 ls x1 x4 ((1 : Int64) <<< (x4.toInt64 &&& 63)) x2 h32 z33 _ _ hF (hl.sub [0, 1, 3] rfl) I
  have hF := hg
  unfold w_Walker_goals at hF
  clear h z
  refine lv_aload_nR hx hb d180_0 rfl (lv_at hl 1 rfl) ?_
  obtain ⟨a21, e9, hF⟩ := hF
  refine W.eq (g2 := F0 m 1 ls [.ref a21]) (by rw [e9]; rfl) ?_
  clear e9
  obtain ⟨fs9, v22, c9, e9, hF⟩ := hF
  refine va_get (D := D) (ci := 13) (v := .int v22) (C := kR13) (T := kT13) (N := 8) hx hb hts ku13 hown hK (hm_one I.1 c9) 0 rfl rfl 5 (by decide) (hts _ ms_k1036) (fun _ h => h) e9 d180_1 ?_
  clear e9 c9 fs9
  refine lv_bipush (v := 32) hx hb d180_4 (by decide) ?_
  refine lv_icmp_ne hx hb d180_6 rfl (fun h9 => ?_) (fun h9 => ?_)
  · have hF := Eq.mp (if_neg h9) hF
    refine lv_lconst (v := (0 : Int64)) hx hb d180_21 (by decide) ?_
    refine lv_lstore_n (i := 2) hx hb d180_22 rfl hl (by decide) (show _ = [(2, .long (0 : Int64)), (0, .ref y0), (1, va_rf y1)] by simp [cat_rf, cat_int, cat_ref, cat_null, cat_long]) (fun ls hl => ?_)
    have hl : lv_has ls 5 [(2, .long (0 : Int64)), (0, .ref y0), (1, va_rf y1)] := hl
    refine lv_iconst (v := 0) hx hb d180_23 (by decide) ?_
    refine lv_istore hx hb d180_24 hl (by decide) rfl (fun ls hl => ?_)
    have hl : lv_has ls 5 [(4, .int 0), (2, .long (0 : Int64)), (0, .ref y0), (1, va_rf y1)] := hl
    exact b26 mF ls y1 (0 : Int64) 0 h0 z0 _ _ hF (hl.sub [2, 3, 1, 0] rfl) I
  · have hF := Eq.mp (if_pos h9) hF
    refine lv_iconst (v := 0) hx hb d180_9 (by decide) ?_
    refine lv_aload_n hx hb d180_10 rfl (lv_at hl 0 rfl) ?_
    obtain ⟨fs9, v34, c9, e9, hF⟩ := hF
    refine va_get (D := D) (ci := 14) (v := va_rf v34) (C := kR14) (T := kT14) (N := 1) hx hb hts ku14 hown hK (hm_one I.1 c9) 0 rfl rfl 0 (by decide) (hts _ ms_k1088) (fun _ h => h) e9 d180_11 ?_
    clear e9 c9 fs9
    obtain ⟨a35, e9, hF⟩ := hF
    refine W.eq (g2 := F0 m 14 ls [.ref a35, .int 0]) (by rw [e9]; rfl) ?_
    clear e9
    obtain ⟨fs9, v36, c9, e9, hF⟩ := hF
    refine va_get (D := D) (ci := 1) (v := .int v36) (C := kR1) (T := kT1) (N := 6) hx hb hts ku1 hown hK (hm_one I.1 c9) 0 rfl rfl 3 (by decide) (hts _ ms_k88) (fun _ h => h) e9 d180_14 ?_
    clear e9 c9 fs9
    refine ht_S (rest := []) (as := [.int 0, .int v36]) X hl (cw_Walker_range l D dA s0 hE 0 v36 h0 z0 _ hF) (List.forall_mem_cons.mpr ⟨ms_k1124, List.forall_mem_cons.mpr ⟨ms_k1125, List.forall_mem_cons.mpr ⟨ms_k28, List.forall_mem_cons.mpr ⟨ms_k1126, fun _ h => absurd h List.not_mem_nil⟩⟩⟩⟩) ⟨by decide +kernel, by decide +kernel, (by decide +kernel : (parseMethodDescriptor "(II)J").map (fun d => d.parameters.length) = some 2)⟩ I ⟨rfl, rfl⟩ ⟨⟨Nat.le_of_ble_eq_true rfl, Nat.le_of_ble_eq_true rfl⟩, Nat.le_of_ble_eq_true rfl, Nat.le_of_ble_eq_true rfl⟩ rfl (Nat.le_of_ble_eq_true rfl) d180_17 (fun vv h38 z39 H locs hR I9 => ?_)
    obtain ⟨v37, e1, hF⟩ := hR
    subst e1
    clear I
    have I := I9
    clear I9
    refine W.eq (g2 := F0 m 20 ls [.long v37]) rfl ?_
    exact ht_lret X d180_20 I (Nat.le_of_ble_eq_true rfl) (Nat.le_of_ble_eq_true rfl) ⟨_, rfl, hF⟩

def w_Walker_documentAxis_30 (dA : Nat → ClassId) (y0 : Nat) (K : Int64 → hm_T → hz_T → Prop) (h : hm_T) (z : hz_T) : Prop := (cg_R h 14 0 y0 (fun v21 => (cg_d v21 (fun a22 => (cg_I h 1 3 a22 (fun v23 => (w_Walker_range dA 0 v23 (fun v24 h25 z26 => (K v24 h25 z26)) h z)))))))
def w_Walker_documentAxis (dA : Nat → ClassId) (y0 : Nat) (y1 : Int32) (K : Int64 → hm_T → hz_T → Prop) (h0 : hm_T) (z0 : hz_T) : Prop := (if y1 = 67 then (K (1 : Int64) h0 z0) else (if y1 = 68 then (w_Walker_documentAxis_30 dA y0 K h0 z0) else (if y1 = 69 then (w_Walker_documentAxis_30 dA y0 K h0 z0) else (K (0 : Int64) h0 z0))))
set_option maxRecDepth 100000 in
set_option maxHeartbeats 8000000 in
theorem cw_Walker_documentAxis (l : Launch) (D : va_G) (dA : Nat → ClassId) (s0 : State) (hE : ms_EV D dA s0) (y0 : Nat) (y1 : Int32) (h0 : hm_T) (z0 : hz_T) (K : Int64 → hm_T → hz_T → Prop) (hg : w_Walker_documentAxis dA y0 y1 K h0 z0) : ht_C l D s0 yM181 bM181 2 (Option.some Jvm.ClassFile.FieldType.long) 1 21 0 0 [.ref y0, .int y1] (fun h z => h = h0 ∧ z = z0) (fun h z vv h1 z1 => ∃ v, vv = some (.long v) ∧ K v h1 z1) := by
  refine ht_C.mk hE.1 (by decide) (Nat.le_of_ble_eq_true rfl) [(0, .ref y0), (1, .int y1)] rfl ?_
  intro p e s m below meth c ls h z X hin hpre I hl
  have hx := X.1
  have hb := X.2.1
  have hml := X.2.2.1
  have hown : s.vm.findClass "MarkupStore$Walker" = some m.cls := X.2.2.2.1
  have hts := X.2.2.2.2.2.2.1
  have hK := X.2.2.2.2.2.2.2.2.1
  rw [hpre.1, hpre.2] at I
  clear hpre
  have b30 : ∀ (ls : Array Slot) (h : hm_T) (z : hz_T) (H : Heap) (locs : List Loc), w_Walker_documentAxis_30 dA y0 K h z → lv_has ls 2 [(0, .ref y0)] → hm_I D s0 s h z H locs → W p l e { frames := 1, cells := 0, slots := 0, locals := 21 } s m ([.ref y0, .int y1] : List Value).toArray below meth c H locs 0 0 (MQ below (ht_Q D s0 (fun vv h1 z1 => ∃ v, vv = some (.long v) ∧ K v h1 z1)) ([.ref y0, .int y1] : List Value).toArray s 0 0 (fun q => s0.heap.size ≤ q)) (F0 m 30 ls []) := by
    intro ls h z H locs hF hl I
    unfold w_Walker_documentAxis_30 at hF
    refine lv_iconst (v := 0) hx hb d181_30 (by decide) ?_
    refine lv_aload_n hx hb d181_31 rfl (lv_at hl 0 rfl) ?_
    obtain ⟨fs9, v21, c9, e9, hF⟩ := hF
    refine va_get (D := D) (ci := 14) (v := va_rf v21) (C := kR14) (T := kT14) (N := 1) hx hb hts ku14 hown hK (hm_one I.1 c9) 0 rfl rfl 0 (by decide) (hts _ ms_k1088) (fun _ h => h) e9 d181_32 ?_
    clear e9 c9 fs9
    obtain ⟨a22, e9, hF⟩ := hF
    refine W.eq (g2 := F0 m 35 ls [.ref a22, .int 0]) (by rw [e9]; rfl) ?_
    clear e9
    obtain ⟨fs9, v23, c9, e9, hF⟩ := hF
    refine va_get (D := D) (ci := 1) (v := .int v23) (C := kR1) (T := kT1) (N := 6) hx hb hts ku1 hown hK (hm_one I.1 c9) 0 rfl rfl 3 (by decide) (hts _ ms_k88) (fun _ h => h) e9 d181_35 ?_
    clear e9 c9 fs9
    refine ht_S (rest := []) (as := [.int 0, .int v23]) X hl (cw_Walker_range l D dA s0 hE 0 v23 h z _ hF) (List.forall_mem_cons.mpr ⟨ms_k1124, List.forall_mem_cons.mpr ⟨ms_k1125, List.forall_mem_cons.mpr ⟨ms_k28, List.forall_mem_cons.mpr ⟨ms_k1126, fun _ h => absurd h List.not_mem_nil⟩⟩⟩⟩) ⟨by decide +kernel, by decide +kernel, (by decide +kernel : (parseMethodDescriptor "(II)J").map (fun d => d.parameters.length) = some 2)⟩ I ⟨rfl, rfl⟩ ⟨⟨Nat.le_of_ble_eq_true rfl, Nat.le_of_ble_eq_true rfl⟩, Nat.le_of_ble_eq_true rfl, Nat.le_of_ble_eq_true rfl⟩ rfl (Nat.le_of_ble_eq_true rfl) d181_38 (fun vv h25 z26 H locs hR I9 => ?_)
    obtain ⟨v24, e1, hF⟩ := hR
    subst e1
    clear I
    have I := I9
    clear I9
    refine W.eq (g2 := F0 m 41 ls [.long v24]) rfl ?_
    exact ht_lret X d181_41 I (Nat.le_of_ble_eq_true rfl) (Nat.le_of_ble_eq_true rfl) ⟨_, rfl, hF⟩
  have hF := hg
  unfold w_Walker_documentAxis at hF
  clear h z
  refine lv_iload_n hx hb d181_0 rfl (lv_at hl 1 rfl) ?_
  by_cases h9_67 : y1 = 67
  · have hF := Eq.mp (if_pos h9_67) hF
    refine lv_tableIn (off := 27) (tgt := 28) hx hb d181_1 (by rw [h9_67]; decide) (by rw [h9_67]; decide) (by rw [h9_67]; rfl) (by decide) ?_
    refine lv_lconst (v := (1 : Int64)) hx hb d181_28 (by decide) ?_
    exact ht_lret X d181_29 I (Nat.le_of_ble_eq_true rfl) (Nat.le_of_ble_eq_true rfl) ⟨_, rfl, hF⟩
  have hF := Eq.mp (if_neg h9_67) hF
  by_cases h9_68 : y1 = 68
  · have hF := Eq.mp (if_pos h9_68) hF
    refine lv_tableIn (off := 29) (tgt := 30) hx hb d181_1 (by rw [h9_68]; decide) (by rw [h9_68]; decide) (by rw [h9_68]; rfl) (by decide) ?_
    exact b30 ls h0 z0 _ _ hF (hl.sub [0] rfl) I
  have hF := Eq.mp (if_neg h9_68) hF
  by_cases h9_69 : y1 = 69
  · have hF := Eq.mp (if_pos h9_69) hF
    refine lv_tableIn (off := 29) (tgt := 30) hx hb d181_1 (by rw [h9_69]; decide) (by rw [h9_69]; decide) (by rw [h9_69]; rfl) (by decide) ?_
    exact b30 ls h0 z0 _ _ hF (hl.sub [0] rfl) I
  have hF := Eq.mp (if_neg h9_69) hF
  refine lv_tableOut (tgt := 42) hx hb d181_1 (by have i67 : Int32.toInt y1 ≠ 67 := mm_ti (k := 67) h9_67; have i68 : Int32.toInt y1 ≠ 68 := mm_ti (k := 68) h9_68; have i69 : Int32.toInt y1 ≠ 69 := mm_ti (k := 69) h9_69; omega) (by decide) ?_
  refine lv_lconst (v := (0 : Int64)) hx hb d181_42 (by decide) ?_
  exact ht_lret X d181_43 I (Nat.le_of_ble_eq_true rfl) (Nat.le_of_ble_eq_true rfl) ⟨_, rfl, hF⟩

def w_Walker_axis_255 (dA : Nat → ClassId) (y0 : Nat) (K : Int64 → hm_T → hz_T → Prop) (x2 : Option Nat) (h : hm_T) (z : hz_T) : Prop := (cg_c h 14 y0 ((w_Walker_children dA y0 x2 (fun v99 h100 z101 => (K v99 h100 z101)) h z)))
def w_Walker_axis (dA : Nat → ClassId) (y0 : Nat) (y1 : Int32) (y2 : Option Nat) (K : Int64 → hm_T → hz_T → Prop) (h0 : hm_T) (z0 : hz_T) : Prop := (if y1 = 65 then (cg_c h0 14 y0 ((w_Walker_ancestors dA y0 y2 (fun v21 h22 z23 => (K v21 h22 z23)) h0 z0))) else (if y1 = 66 then (cg_c h0 14 y0 ((w_Walker_ancestors dA y0 y2 (fun v24 h25 z26 => (cg_d y2 (fun a27 => (cg_I h25 8 6 a27 (fun v28 => (K (v24 ||| ((1 : Int64) <<< (v28.toInt64 &&& 63))) h25 z26)))))) h0 z0))) else (if y1 = 68 then (cg_d y2 (fun a29 => (cg_I h0 8 6 a29 (fun v30 => (cg_R h0 14 0 y0 (fun v31 => (cg_d v31 (fun a32 => (cg_c h0 1 a32 ((w_Tree_endOf dA a32 y2 (fun v33 h34 z35 => (w_Walker_range dA (v30 + 1) v33 (fun v36 h37 z38 => (K v36 h37 z38)) h34 z35)) h0 z0))))))))))) else (if y1 = 69 then (cg_d y2 (fun a39 => (cg_I h0 8 6 a39 (fun v40 => (cg_R h0 14 0 y0 (fun v41 => (cg_d v41 (fun a42 => (cg_c h0 1 a42 ((w_Tree_endOf dA a42 y2 (fun v43 h44 z45 => (w_Walker_range dA v40 v43 (fun v46 h47 z48 => (K v46 h47 z48)) h44 z45)) h0 z0))))))))))) else (if y1 = 70 then (cg_R h0 14 0 y0 (fun v49 => (cg_d v49 (fun a50 => (cg_c h0 1 a50 ((w_Tree_endOf dA a50 y2 (fun v51 h52 z53 => (cg_R h52 14 0 y0 (fun v54 => (cg_d v54 (fun a55 => (cg_I h52 1 3 a55 (fun v56 => (w_Walker_range dA v51 v56 (fun v57 h58 z59 => (K v57 h58 z59)) h52 z53)))))))) h0 z0))))))) else (if y1 = 76 then (cg_d y2 (fun a60 => (cg_R h0 8 1 a60 (fun v61 => (cg_c h0 14 y0 ((w_Walker_children dA y0 v61 (fun v62 h63 z64 => (cg_d y2 (fun a65 => (cg_I h63 8 6 a65 (fun v66 => (w_Walker_range dA 0 v66 (fun v67 h68 z69 => (K (v62 &&& v67) h68 z69)) h63 z64)))))) h0 z0))))))) else (if y1 = 78 then (cg_d y2 (fun a70 => (cg_R h0 8 1 a70 (fun v71 => (cg_c h0 14 y0 ((w_Walker_children dA y0 v71 (fun v72 h73 z74 => (cg_d y2 (fun a75 => (cg_I h73 8 6 a75 (fun v76 => (cg_R h73 14 0 y0 (fun v77 => (cg_d v77 (fun a78 => (cg_I h73 1 3 a78 (fun v79 => (w_Walker_range dA (v76 + 1) v79 (fun v80 h81 z82 => (K (v72 &&& v80) h81 z82)) h73 z74)))))))))))) h0 z0))))))) else (if y1 = 80 then (cg_d y2 (fun a83 => (cg_R h0 8 1 a83 (fun v84 => (if v84 = none then (K (0 : Int64) h0 z0) else (cg_d y2 (fun a85 => (cg_R h0 8 1 a85 (fun v86 => (cg_d v86 (fun a87 => (cg_I h0 8 6 a87 (fun v88 => (K ((1 : Int64) <<< (v88.toInt64 &&& 63)) h0 z0)))))))))))))) else (if y1 = 82 then (cg_d y2 (fun a89 => (cg_I h0 8 6 a89 (fun v90 => (w_Walker_range dA 0 v90 (fun v91 h92 z93 => (cg_c h92 14 y0 ((w_Walker_ancestors dA y0 y2 (fun v94 h95 z96 => (K (v91 &&& (v94 ^^^ (-1 : Int64))) h95 z96)) h92 z93)))) h0 z0))))) else (if y1 = 83 then (cg_d y2 (fun a97 => (cg_I h0 8 6 a97 (fun v98 => (K ((1 : Int64) <<< (v98.toInt64 &&& 63)) h0 z0))))) else (w_Walker_axis_255 dA y0 K y2 h0 z0)))))))))))
set_option maxRecDepth 100000 in
set_option maxHeartbeats 8000000 in
theorem cw_Walker_axis (l : Launch) (D : va_G) (dA : Nat → ClassId) (s0 : State) (hE : ms_EV D dA s0) (y0 : Nat) (y1 : Int32) (y2 : Option Nat) (h0 : hm_T) (z0 : hz_T) (K : Int64 → hm_T → hz_T → Prop) (hg : w_Walker_axis dA y0 y1 y2 K h0 z0) : ht_C l D s0 yM182 bM182 3 (Option.some Jvm.ClassFile.FieldType.long) 1 24 0 0 [.ref y0, .int y1, va_rf y2] (fun h z => h = h0 ∧ z = z0) (fun h z vv h1 z1 => ∃ v, vv = some (.long v) ∧ K v h1 z1) := by
  refine ht_C.mk hE.1 (by decide) (by simp [lg_sl, cat_rf, cat_int, cat_ref, cat_null, cat_long]) [(0, .ref y0), (1, .int y1), (2, va_rf y2)] (by simp [lv_args, cat_rf, cat_int, cat_ref, cat_null, cat_long]) ?_
  intro p e s m below meth c ls h z X hin hpre I hl
  have hx := X.1
  have hb := X.2.1
  have hml := X.2.2.1
  have hown : s.vm.findClass "MarkupStore$Walker" = some m.cls := X.2.2.2.1
  have hts := X.2.2.2.2.2.2.1
  have hK := X.2.2.2.2.2.2.2.2.1
  rw [hpre.1, hpre.2] at I
  clear hpre
  have b255 : ∀ (ls : Array Slot) (x2 : Option Nat) (h : hm_T) (z : hz_T) (H : Heap) (locs : List Loc), w_Walker_axis_255 dA y0 K x2 h z → lv_has ls 3 [(0, .ref y0), (2, va_rf x2)] → hm_I D s0 s h z H locs → W p l e { frames := 1, cells := 0, slots := 0, locals := 24 } s m ([.ref y0, .int y1, va_rf y2] : List Value).toArray below meth c H locs 0 0 (MQ below (ht_Q D s0 (fun vv h1 z1 => ∃ v, vv = some (.long v) ∧ K v h1 z1)) ([.ref y0, .int y1, va_rf y2] : List Value).toArray s 0 0 (fun q => s0.heap.size ≤ q)) (F0 m 255 ls []) := by
    intro ls x2 h z H locs hF hl I
    unfold w_Walker_axis_255 at hF
    refine lv_aload_n hx hb d182_255 rfl (lv_at hl 0 rfl) ?_
    refine lv_aload_nR hx hb d182_256 rfl (lv_at hl 1 rfl) ?_
    obtain ⟨fs9, c9, hF⟩ := hF
    refine ht_V (C := "MarkupStore$Walker") (rest := []) (as := [va_rf x2]) X hl (cw_Walker_children l D dA s0 hE y0 x2 h z _ hF) (List.forall_mem_cons.mpr ⟨ms_k1154, List.forall_mem_cons.mpr ⟨ms_k1156, List.forall_mem_cons.mpr ⟨ms_p33, List.forall_mem_cons.mpr ⟨ms_k28, List.forall_mem_cons.mpr ⟨ms_k1157, fun _ h => absurd h List.not_mem_nil⟩⟩⟩⟩⟩) ⟨rfl, by decide +kernel, by decide +kernel, (by decide +kernel : (parseMethodDescriptor "(LMarkupStore$Node;)J").map (fun d => d.parameters.length) = some 1)⟩ (hm_recv hK I rfl c9) I ⟨rfl, rfl⟩ ⟨⟨Nat.le_of_ble_eq_true rfl, Nat.le_of_ble_eq_true rfl⟩, Nat.le_of_ble_eq_true rfl, Nat.le_of_ble_eq_true rfl⟩ rfl (Nat.le_of_ble_eq_true rfl) d182_257 (fun vv h100 z101 H locs hR I9 => ?_)
    obtain ⟨v99, e1, hF⟩ := hR
    subst e1
    clear I
    have I := I9
    clear I9 c9 fs9
    refine W.eq (g2 := F0 m 260 ls [.long v99]) rfl ?_
    exact ht_lret X d182_260 I (Nat.le_of_ble_eq_true rfl) (Nat.le_of_ble_eq_true rfl) ⟨_, rfl, hF⟩
  have hF := hg
  unfold w_Walker_axis at hF
  clear h z
  refine lv_iload_n hx hb d182_0 rfl (lv_at hl 1 rfl) ?_
  by_cases h9_65 : y1 = 65
  · have hF := Eq.mp (if_pos h9_65) hF
    refine lv_tableIn (off := 146) (tgt := 147) hx hb d182_1 (by rw [h9_65]; decide) (by rw [h9_65]; decide) (by rw [h9_65]; rfl) (by decide) ?_
    refine lv_aload_n hx hb d182_147 rfl (lv_at hl 0 rfl) ?_
    refine lv_aload_nR hx hb d182_148 rfl (lv_at hl 2 rfl) ?_
    obtain ⟨fs9, c9, hF⟩ := hF
    refine ht_V (C := "MarkupStore$Walker") (rest := []) (as := [va_rf y2]) X hl (cw_Walker_ancestors l D dA s0 hE y0 y2 h0 z0 _ hF) (List.forall_mem_cons.mpr ⟨ms_k1150, List.forall_mem_cons.mpr ⟨ms_k1152, List.forall_mem_cons.mpr ⟨ms_p32, List.forall_mem_cons.mpr ⟨ms_k28, List.forall_mem_cons.mpr ⟨ms_k1153, fun _ h => absurd h List.not_mem_nil⟩⟩⟩⟩⟩) ⟨rfl, by decide +kernel, by decide +kernel, (by decide +kernel : (parseMethodDescriptor "(LMarkupStore$Node;)J").map (fun d => d.parameters.length) = some 1)⟩ (hm_recv hK I rfl c9) I ⟨rfl, rfl⟩ ⟨⟨Nat.le_of_ble_eq_true rfl, Nat.le_of_ble_eq_true rfl⟩, Nat.le_of_ble_eq_true rfl, Nat.le_of_ble_eq_true rfl⟩ rfl (Nat.le_of_ble_eq_true rfl) d182_149 (fun vv h22 z23 H locs hR I9 => ?_)
    obtain ⟨v21, e1, hF⟩ := hR
    subst e1
    clear I
    have I := I9
    clear I9 c9 fs9
    refine W.eq (g2 := F0 m 152 ls [.long v21]) rfl ?_
    exact ht_lret X d182_152 I (Nat.le_of_ble_eq_true rfl) (Nat.le_of_ble_eq_true rfl) ⟨_, rfl, hF⟩
  have hF := Eq.mp (if_neg h9_65) hF
  by_cases h9_66 : y1 = 66
  · have hF := Eq.mp (if_pos h9_66) hF
    refine lv_tableIn (off := 152) (tgt := 153) hx hb d182_1 (by rw [h9_66]; decide) (by rw [h9_66]; decide) (by rw [h9_66]; rfl) (by decide) ?_
    refine lv_aload_n hx hb d182_153 rfl (lv_at hl 0 rfl) ?_
    refine lv_aload_nR hx hb d182_154 rfl (lv_at hl 2 rfl) ?_
    obtain ⟨fs9, c9, hF⟩ := hF
    refine ht_V (C := "MarkupStore$Walker") (rest := []) (as := [va_rf y2]) X hl (cw_Walker_ancestors l D dA s0 hE y0 y2 h0 z0 _ hF) (List.forall_mem_cons.mpr ⟨ms_k1150, List.forall_mem_cons.mpr ⟨ms_k1152, List.forall_mem_cons.mpr ⟨ms_p32, List.forall_mem_cons.mpr ⟨ms_k28, List.forall_mem_cons.mpr ⟨ms_k1153, fun _ h => absurd h List.not_mem_nil⟩⟩⟩⟩⟩) ⟨rfl, by decide +kernel, by decide +kernel, (by decide +kernel : (parseMethodDescriptor "(LMarkupStore$Node;)J").map (fun d => d.parameters.length) = some 1)⟩ (hm_recv hK I rfl c9) I ⟨rfl, rfl⟩ ⟨⟨Nat.le_of_ble_eq_true rfl, Nat.le_of_ble_eq_true rfl⟩, Nat.le_of_ble_eq_true rfl, Nat.le_of_ble_eq_true rfl⟩ rfl (Nat.le_of_ble_eq_true rfl) d182_155 (fun vv h25 z26 H locs hR I9 => ?_)
    obtain ⟨v24, e1, hF⟩ := hR
    subst e1
    clear I
    have I := I9
    clear I9 c9 fs9
    refine W.eq (g2 := F0 m 158 ls [.long v24]) rfl ?_
    refine lv_lconst (v := (1 : Int64)) hx hb d182_158 (by decide) ?_
    refine lv_aload_nR hx hb d182_159 rfl (lv_at hl 2 rfl) ?_
    obtain ⟨a27, e9, hF⟩ := hF
    refine W.eq (g2 := F0 m 160 ls [.ref a27, .long (1 : Int64), .long v24]) (by rw [e9]; rfl) ?_
    clear e9
    obtain ⟨fs9, v28, c9, e9, hF⟩ := hF
    refine va_get (D := D) (ci := 8) (v := .int v28) (C := kR8) (T := kT8) (N := 9) hx hb hts ku8 hown hK (hm_one I.1 c9) 0 rfl rfl 6 (by decide) (hts _ ms_k465) (fun _ h => h) e9 d182_160 ?_
    clear e9 c9 fs9
    refine lv_lshl (v := ((1 : Int64) <<< (v28.toInt64 &&& 63))) hx hb d182_163 rfl ?_
    refine lv_lor hx hb d182_164 ?_
    exact ht_lret X d182_165 I (Nat.le_of_ble_eq_true rfl) (Nat.le_of_ble_eq_true rfl) ⟨_, rfl, hF⟩
  have hF := Eq.mp (if_neg h9_66) hF
  by_cases h9_68 : y1 = 68
  · have hF := Eq.mp (if_pos h9_68) hF
    refine lv_tableIn (off := 91) (tgt := 92) hx hb d182_1 (by rw [h9_68]; decide) (by rw [h9_68]; decide) (by rw [h9_68]; rfl) (by decide) ?_
    refine lv_aload_nR hx hb d182_92 rfl (lv_at hl 2 rfl) ?_
    obtain ⟨a29, e9, hF⟩ := hF
    refine W.eq (g2 := F0 m 93 ls [.ref a29]) (by rw [e9]; rfl) ?_
    clear e9
    obtain ⟨fs9, v30, c9, e9, hF⟩ := hF
    refine va_get (D := D) (ci := 8) (v := .int v30) (C := kR8) (T := kT8) (N := 9) hx hb hts ku8 hown hK (hm_one I.1 c9) 0 rfl rfl 6 (by decide) (hts _ ms_k465) (fun _ h => h) e9 d182_93 ?_
    clear e9 c9 fs9
    refine lv_iconst (v := 1) hx hb d182_96 (by decide) ?_
    refine lv_iadd hx hb d182_97 ?_
    refine lv_aload_n hx hb d182_98 rfl (lv_at hl 0 rfl) ?_
    obtain ⟨fs9, v31, c9, e9, hF⟩ := hF
    refine va_get (D := D) (ci := 14) (v := va_rf v31) (C := kR14) (T := kT14) (N := 1) hx hb hts ku14 hown hK (hm_one I.1 c9) 0 rfl rfl 0 (by decide) (hts _ ms_k1088) (fun _ h => h) e9 d182_99 ?_
    clear e9 c9 fs9
    refine lv_aload_nR hx hb d182_102 rfl (lv_at hl 2 rfl) ?_
    obtain ⟨a32, e9, hF⟩ := hF
    refine W.eq (g2 := F0 m 103 ls [va_rf y2, .ref a32, .int (v30 + 1)]) (by rw [e9]; rfl) ?_
    clear e9
    obtain ⟨fs9, c9, hF⟩ := hF
    refine ht_V (C := "MarkupStore$Tree") (rest := [.int (v30 + 1)]) (as := [va_rf y2]) X hl (cw_Tree_endOf l D dA s0 hE a32 y2 h0 z0 _ hF) (List.forall_mem_cons.mpr ⟨ms_k1131, List.forall_mem_cons.mpr ⟨ms_k750, List.forall_mem_cons.mpr ⟨ms_k751, List.forall_mem_cons.mpr ⟨ms_k6, List.forall_mem_cons.mpr ⟨ms_k752, fun _ h => absurd h List.not_mem_nil⟩⟩⟩⟩⟩) ⟨rfl, by decide +kernel, by decide +kernel, (by decide +kernel : (parseMethodDescriptor "(LMarkupStore$Node;)I").map (fun d => d.parameters.length) = some 1)⟩ (hm_recv hK I rfl c9) I ⟨rfl, rfl⟩ ⟨⟨Nat.le_of_ble_eq_true rfl, Nat.le_of_ble_eq_true rfl⟩, Nat.le_of_ble_eq_true rfl, Nat.le_of_ble_eq_true rfl⟩ rfl (Nat.le_of_ble_eq_true rfl) d182_103 (fun vv h34 z35 H locs hR I9 => ?_)
    obtain ⟨v33, e1, hF⟩ := hR
    subst e1
    clear I
    have I := I9
    clear I9 c9 fs9
    refine W.eq (g2 := F0 m 106 ls [.int v33, .int (v30 + 1)]) rfl ?_
    refine ht_S (rest := []) (as := [.int (v30 + 1), .int v33]) X hl (cw_Walker_range l D dA s0 hE (v30 + 1) v33 h34 z35 _ hF) (List.forall_mem_cons.mpr ⟨ms_k1124, List.forall_mem_cons.mpr ⟨ms_k1125, List.forall_mem_cons.mpr ⟨ms_k28, List.forall_mem_cons.mpr ⟨ms_k1126, fun _ h => absurd h List.not_mem_nil⟩⟩⟩⟩) ⟨by decide +kernel, by decide +kernel, (by decide +kernel : (parseMethodDescriptor "(II)J").map (fun d => d.parameters.length) = some 2)⟩ I ⟨rfl, rfl⟩ ⟨⟨Nat.le_of_ble_eq_true rfl, Nat.le_of_ble_eq_true rfl⟩, Nat.le_of_ble_eq_true rfl, Nat.le_of_ble_eq_true rfl⟩ rfl (Nat.le_of_ble_eq_true rfl) d182_106 (fun vv h37 z38 H locs hR I9 => ?_)
    obtain ⟨v36, e1, hF⟩ := hR
    subst e1
    clear I
    have I := I9
    clear I9
    refine W.eq (g2 := F0 m 109 ls [.long v36]) rfl ?_
    exact ht_lret X d182_109 I (Nat.le_of_ble_eq_true rfl) (Nat.le_of_ble_eq_true rfl) ⟨_, rfl, hF⟩
  have hF := Eq.mp (if_neg h9_68) hF
  by_cases h9_69 : y1 = 69
  · have hF := Eq.mp (if_pos h9_69) hF
    refine lv_tableIn (off := 109) (tgt := 110) hx hb d182_1 (by rw [h9_69]; decide) (by rw [h9_69]; decide) (by rw [h9_69]; rfl) (by decide) ?_
    refine lv_aload_nR hx hb d182_110 rfl (lv_at hl 2 rfl) ?_
    obtain ⟨a39, e9, hF⟩ := hF
    refine W.eq (g2 := F0 m 111 ls [.ref a39]) (by rw [e9]; rfl) ?_
    clear e9
    obtain ⟨fs9, v40, c9, e9, hF⟩ := hF
    refine va_get (D := D) (ci := 8) (v := .int v40) (C := kR8) (T := kT8) (N := 9) hx hb hts ku8 hown hK (hm_one I.1 c9) 0 rfl rfl 6 (by decide) (hts _ ms_k465) (fun _ h => h) e9 d182_111 ?_
    clear e9 c9 fs9
    refine lv_aload_n hx hb d182_114 rfl (lv_at hl 0 rfl) ?_
    obtain ⟨fs9, v41, c9, e9, hF⟩ := hF
    refine va_get (D := D) (ci := 14) (v := va_rf v41) (C := kR14) (T := kT14) (N := 1) hx hb hts ku14 hown hK (hm_one I.1 c9) 0 rfl rfl 0 (by decide) (hts _ ms_k1088) (fun _ h => h) e9 d182_115 ?_
    clear e9 c9 fs9
    refine lv_aload_nR hx hb d182_118 rfl (lv_at hl 2 rfl) ?_
    obtain ⟨a42, e9, hF⟩ := hF
    refine W.eq (g2 := F0 m 119 ls [va_rf y2, .ref a42, .int v40]) (by rw [e9]; rfl) ?_
    clear e9
    obtain ⟨fs9, c9, hF⟩ := hF
    refine ht_V (C := "MarkupStore$Tree") (rest := [.int v40]) (as := [va_rf y2]) X hl (cw_Tree_endOf l D dA s0 hE a42 y2 h0 z0 _ hF) (List.forall_mem_cons.mpr ⟨ms_k1131, List.forall_mem_cons.mpr ⟨ms_k750, List.forall_mem_cons.mpr ⟨ms_k751, List.forall_mem_cons.mpr ⟨ms_k6, List.forall_mem_cons.mpr ⟨ms_k752, fun _ h => absurd h List.not_mem_nil⟩⟩⟩⟩⟩) ⟨rfl, by decide +kernel, by decide +kernel, (by decide +kernel : (parseMethodDescriptor "(LMarkupStore$Node;)I").map (fun d => d.parameters.length) = some 1)⟩ (hm_recv hK I rfl c9) I ⟨rfl, rfl⟩ ⟨⟨Nat.le_of_ble_eq_true rfl, Nat.le_of_ble_eq_true rfl⟩, Nat.le_of_ble_eq_true rfl, Nat.le_of_ble_eq_true rfl⟩ rfl (Nat.le_of_ble_eq_true rfl) d182_119 (fun vv h44 z45 H locs hR I9 => ?_)
    obtain ⟨v43, e1, hF⟩ := hR
    subst e1
    clear I
    have I := I9
    clear I9 c9 fs9
    refine W.eq (g2 := F0 m 122 ls [.int v43, .int v40]) rfl ?_
    refine ht_S (rest := []) (as := [.int v40, .int v43]) X hl (cw_Walker_range l D dA s0 hE v40 v43 h44 z45 _ hF) (List.forall_mem_cons.mpr ⟨ms_k1124, List.forall_mem_cons.mpr ⟨ms_k1125, List.forall_mem_cons.mpr ⟨ms_k28, List.forall_mem_cons.mpr ⟨ms_k1126, fun _ h => absurd h List.not_mem_nil⟩⟩⟩⟩) ⟨by decide +kernel, by decide +kernel, (by decide +kernel : (parseMethodDescriptor "(II)J").map (fun d => d.parameters.length) = some 2)⟩ I ⟨rfl, rfl⟩ ⟨⟨Nat.le_of_ble_eq_true rfl, Nat.le_of_ble_eq_true rfl⟩, Nat.le_of_ble_eq_true rfl, Nat.le_of_ble_eq_true rfl⟩ rfl (Nat.le_of_ble_eq_true rfl) d182_122 (fun vv h47 z48 H locs hR I9 => ?_)
    obtain ⟨v46, e1, hF⟩ := hR
    subst e1
    clear I
    have I := I9
    clear I9
    refine W.eq (g2 := F0 m 125 ls [.long v46]) rfl ?_
    exact ht_lret X d182_125 I (Nat.le_of_ble_eq_true rfl) (Nat.le_of_ble_eq_true rfl) ⟨_, rfl, hF⟩
  have hF := Eq.mp (if_neg h9_69) hF
  by_cases h9_70 : y1 = 70
  · have hF := Eq.mp (if_pos h9_70) hF
    refine lv_tableIn (off := 216) (tgt := 217) hx hb d182_1 (by rw [h9_70]; decide) (by rw [h9_70]; decide) (by rw [h9_70]; rfl) (by decide) ?_
    refine lv_aload_n hx hb d182_217 rfl (lv_at hl 0 rfl) ?_
    obtain ⟨fs9, v49, c9, e9, hF⟩ := hF
    refine va_get (D := D) (ci := 14) (v := va_rf v49) (C := kR14) (T := kT14) (N := 1) hx hb hts ku14 hown hK (hm_one I.1 c9) 0 rfl rfl 0 (by decide) (hts _ ms_k1088) (fun _ h => h) e9 d182_218 ?_
    clear e9 c9 fs9
    refine lv_aload_nR hx hb d182_221 rfl (lv_at hl 2 rfl) ?_
    obtain ⟨a50, e9, hF⟩ := hF
    refine W.eq (g2 := F0 m 222 ls [va_rf y2, .ref a50]) (by rw [e9]; rfl) ?_
    clear e9
    obtain ⟨fs9, c9, hF⟩ := hF
    refine ht_V (C := "MarkupStore$Tree") (rest := []) (as := [va_rf y2]) X hl (cw_Tree_endOf l D dA s0 hE a50 y2 h0 z0 _ hF) (List.forall_mem_cons.mpr ⟨ms_k1131, List.forall_mem_cons.mpr ⟨ms_k750, List.forall_mem_cons.mpr ⟨ms_k751, List.forall_mem_cons.mpr ⟨ms_k6, List.forall_mem_cons.mpr ⟨ms_k752, fun _ h => absurd h List.not_mem_nil⟩⟩⟩⟩⟩) ⟨rfl, by decide +kernel, by decide +kernel, (by decide +kernel : (parseMethodDescriptor "(LMarkupStore$Node;)I").map (fun d => d.parameters.length) = some 1)⟩ (hm_recv hK I rfl c9) I ⟨rfl, rfl⟩ ⟨⟨Nat.le_of_ble_eq_true rfl, Nat.le_of_ble_eq_true rfl⟩, Nat.le_of_ble_eq_true rfl, Nat.le_of_ble_eq_true rfl⟩ rfl (Nat.le_of_ble_eq_true rfl) d182_222 (fun vv h52 z53 H locs hR I9 => ?_)
    obtain ⟨v51, e1, hF⟩ := hR
    subst e1
    clear I
    have I := I9
    clear I9 c9 fs9
    refine W.eq (g2 := F0 m 225 ls [.int v51]) rfl ?_
    refine lv_aload_n hx hb d182_225 rfl (lv_at hl 0 rfl) ?_
    obtain ⟨fs9, v54, c9, e9, hF⟩ := hF
    refine va_get (D := D) (ci := 14) (v := va_rf v54) (C := kR14) (T := kT14) (N := 1) hx hb hts ku14 hown hK (hm_one I.1 c9) 0 rfl rfl 0 (by decide) (hts _ ms_k1088) (fun _ h => h) e9 d182_226 ?_
    clear e9 c9 fs9
    obtain ⟨a55, e9, hF⟩ := hF
    refine W.eq (g2 := F0 m 229 ls [.ref a55, .int v51]) (by rw [e9]; rfl) ?_
    clear e9
    obtain ⟨fs9, v56, c9, e9, hF⟩ := hF
    refine va_get (D := D) (ci := 1) (v := .int v56) (C := kR1) (T := kT1) (N := 6) hx hb hts ku1 hown hK (hm_one I.1 c9) 0 rfl rfl 3 (by decide) (hts _ ms_k88) (fun _ h => h) e9 d182_229 ?_
    clear e9 c9 fs9
    refine ht_S (rest := []) (as := [.int v51, .int v56]) X hl (cw_Walker_range l D dA s0 hE v51 v56 h52 z53 _ hF) (List.forall_mem_cons.mpr ⟨ms_k1124, List.forall_mem_cons.mpr ⟨ms_k1125, List.forall_mem_cons.mpr ⟨ms_k28, List.forall_mem_cons.mpr ⟨ms_k1126, fun _ h => absurd h List.not_mem_nil⟩⟩⟩⟩) ⟨by decide +kernel, by decide +kernel, (by decide +kernel : (parseMethodDescriptor "(II)J").map (fun d => d.parameters.length) = some 2)⟩ I ⟨rfl, rfl⟩ ⟨⟨Nat.le_of_ble_eq_true rfl, Nat.le_of_ble_eq_true rfl⟩, Nat.le_of_ble_eq_true rfl, Nat.le_of_ble_eq_true rfl⟩ rfl (Nat.le_of_ble_eq_true rfl) d182_232 (fun vv h58 z59 H locs hR I9 => ?_)
    obtain ⟨v57, e1, hF⟩ := hR
    subst e1
    clear I
    have I := I9
    clear I9
    refine W.eq (g2 := F0 m 235 ls [.long v57]) rfl ?_
    exact ht_lret X d182_235 I (Nat.le_of_ble_eq_true rfl) (Nat.le_of_ble_eq_true rfl) ⟨_, rfl, hF⟩
  have hF := Eq.mp (if_neg h9_70) hF
  by_cases h9_76 : y1 = 76
  · have hF := Eq.mp (if_pos h9_76) hF
    refine lv_tableIn (off := 198) (tgt := 199) hx hb d182_1 (by rw [h9_76]; decide) (by rw [h9_76]; decide) (by rw [h9_76]; rfl) (by decide) ?_
    refine lv_aload_n hx hb d182_199 rfl (lv_at hl 0 rfl) ?_
    refine lv_aload_nR hx hb d182_200 rfl (lv_at hl 2 rfl) ?_
    obtain ⟨a60, e9, hF⟩ := hF
    refine W.eq (g2 := F0 m 201 ls [.ref a60, .ref y0]) (by rw [e9]; rfl) ?_
    clear e9
    obtain ⟨fs9, v61, c9, e9, hF⟩ := hF
    refine va_get (D := D) (ci := 8) (v := va_rf v61) (C := kR8) (T := kT8) (N := 9) hx hb hts ku8 hown hK (hm_one I.1 c9) 0 rfl rfl 1 (by decide) (hts _ ms_k448) (fun _ h => h) e9 d182_201 ?_
    clear e9 c9 fs9
    obtain ⟨fs9, c9, hF⟩ := hF
    refine ht_V (C := "MarkupStore$Walker") (rest := []) (as := [va_rf v61]) X hl (cw_Walker_children l D dA s0 hE y0 v61 h0 z0 _ hF) (List.forall_mem_cons.mpr ⟨ms_k1154, List.forall_mem_cons.mpr ⟨ms_k1156, List.forall_mem_cons.mpr ⟨ms_p33, List.forall_mem_cons.mpr ⟨ms_k28, List.forall_mem_cons.mpr ⟨ms_k1157, fun _ h => absurd h List.not_mem_nil⟩⟩⟩⟩⟩) ⟨rfl, by decide +kernel, by decide +kernel, (by decide +kernel : (parseMethodDescriptor "(LMarkupStore$Node;)J").map (fun d => d.parameters.length) = some 1)⟩ (hm_recv hK I rfl c9) I ⟨rfl, rfl⟩ ⟨⟨Nat.le_of_ble_eq_true rfl, Nat.le_of_ble_eq_true rfl⟩, Nat.le_of_ble_eq_true rfl, Nat.le_of_ble_eq_true rfl⟩ rfl (Nat.le_of_ble_eq_true rfl) d182_204 (fun vv h63 z64 H locs hR I9 => ?_)
    obtain ⟨v62, e1, hF⟩ := hR
    subst e1
    clear I
    have I := I9
    clear I9 c9 fs9
    refine W.eq (g2 := F0 m 207 ls [.long v62]) rfl ?_
    refine lv_iconst (v := 0) hx hb d182_207 (by decide) ?_
    refine lv_aload_nR hx hb d182_208 rfl (lv_at hl 2 rfl) ?_
    obtain ⟨a65, e9, hF⟩ := hF
    refine W.eq (g2 := F0 m 209 ls [.ref a65, .int 0, .long v62]) (by rw [e9]; rfl) ?_
    clear e9
    obtain ⟨fs9, v66, c9, e9, hF⟩ := hF
    refine va_get (D := D) (ci := 8) (v := .int v66) (C := kR8) (T := kT8) (N := 9) hx hb hts ku8 hown hK (hm_one I.1 c9) 0 rfl rfl 6 (by decide) (hts _ ms_k465) (fun _ h => h) e9 d182_209 ?_
    clear e9 c9 fs9
    refine ht_S (rest := [.long v62]) (as := [.int 0, .int v66]) X hl (cw_Walker_range l D dA s0 hE 0 v66 h63 z64 _ hF) (List.forall_mem_cons.mpr ⟨ms_k1124, List.forall_mem_cons.mpr ⟨ms_k1125, List.forall_mem_cons.mpr ⟨ms_k28, List.forall_mem_cons.mpr ⟨ms_k1126, fun _ h => absurd h List.not_mem_nil⟩⟩⟩⟩) ⟨by decide +kernel, by decide +kernel, (by decide +kernel : (parseMethodDescriptor "(II)J").map (fun d => d.parameters.length) = some 2)⟩ I ⟨rfl, rfl⟩ ⟨⟨Nat.le_of_ble_eq_true rfl, Nat.le_of_ble_eq_true rfl⟩, Nat.le_of_ble_eq_true rfl, Nat.le_of_ble_eq_true rfl⟩ rfl (Nat.le_of_ble_eq_true rfl) d182_212 (fun vv h68 z69 H locs hR I9 => ?_)
    obtain ⟨v67, e1, hF⟩ := hR
    subst e1
    clear I
    have I := I9
    clear I9
    refine W.eq (g2 := F0 m 215 ls [.long v67, .long v62]) rfl ?_
    refine lv_land hx hb d182_215 ?_
    exact ht_lret X d182_216 I (Nat.le_of_ble_eq_true rfl) (Nat.le_of_ble_eq_true rfl) ⟨_, rfl, hF⟩
  have hF := Eq.mp (if_neg h9_76) hF
  by_cases h9_78 : y1 = 78
  · have hF := Eq.mp (if_pos h9_78) hF
    refine lv_tableIn (off := 172) (tgt := 173) hx hb d182_1 (by rw [h9_78]; decide) (by rw [h9_78]; decide) (by rw [h9_78]; rfl) (by decide) ?_
    refine lv_aload_n hx hb d182_173 rfl (lv_at hl 0 rfl) ?_
    refine lv_aload_nR hx hb d182_174 rfl (lv_at hl 2 rfl) ?_
    obtain ⟨a70, e9, hF⟩ := hF
    refine W.eq (g2 := F0 m 175 ls [.ref a70, .ref y0]) (by rw [e9]; rfl) ?_
    clear e9
    obtain ⟨fs9, v71, c9, e9, hF⟩ := hF
    refine va_get (D := D) (ci := 8) (v := va_rf v71) (C := kR8) (T := kT8) (N := 9) hx hb hts ku8 hown hK (hm_one I.1 c9) 0 rfl rfl 1 (by decide) (hts _ ms_k448) (fun _ h => h) e9 d182_175 ?_
    clear e9 c9 fs9
    obtain ⟨fs9, c9, hF⟩ := hF
    refine ht_V (C := "MarkupStore$Walker") (rest := []) (as := [va_rf v71]) X hl (cw_Walker_children l D dA s0 hE y0 v71 h0 z0 _ hF) (List.forall_mem_cons.mpr ⟨ms_k1154, List.forall_mem_cons.mpr ⟨ms_k1156, List.forall_mem_cons.mpr ⟨ms_p33, List.forall_mem_cons.mpr ⟨ms_k28, List.forall_mem_cons.mpr ⟨ms_k1157, fun _ h => absurd h List.not_mem_nil⟩⟩⟩⟩⟩) ⟨rfl, by decide +kernel, by decide +kernel, (by decide +kernel : (parseMethodDescriptor "(LMarkupStore$Node;)J").map (fun d => d.parameters.length) = some 1)⟩ (hm_recv hK I rfl c9) I ⟨rfl, rfl⟩ ⟨⟨Nat.le_of_ble_eq_true rfl, Nat.le_of_ble_eq_true rfl⟩, Nat.le_of_ble_eq_true rfl, Nat.le_of_ble_eq_true rfl⟩ rfl (Nat.le_of_ble_eq_true rfl) d182_178 (fun vv h73 z74 H locs hR I9 => ?_)
    obtain ⟨v72, e1, hF⟩ := hR
    subst e1
    clear I
    have I := I9
    clear I9 c9 fs9
    refine W.eq (g2 := F0 m 181 ls [.long v72]) rfl ?_
    refine lv_aload_nR hx hb d182_181 rfl (lv_at hl 2 rfl) ?_
    obtain ⟨a75, e9, hF⟩ := hF
    refine W.eq (g2 := F0 m 182 ls [.ref a75, .long v72]) (by rw [e9]; rfl) ?_
    clear e9
    obtain ⟨fs9, v76, c9, e9, hF⟩ := hF
    refine va_get (D := D) (ci := 8) (v := .int v76) (C := kR8) (T := kT8) (N := 9) hx hb hts ku8 hown hK (hm_one I.1 c9) 0 rfl rfl 6 (by decide) (hts _ ms_k465) (fun _ h => h) e9 d182_182 ?_
    clear e9 c9 fs9
    refine lv_iconst (v := 1) hx hb d182_185 (by decide) ?_
    refine lv_iadd hx hb d182_186 ?_
    refine lv_aload_n hx hb d182_187 rfl (lv_at hl 0 rfl) ?_
    obtain ⟨fs9, v77, c9, e9, hF⟩ := hF
    refine va_get (D := D) (ci := 14) (v := va_rf v77) (C := kR14) (T := kT14) (N := 1) hx hb hts ku14 hown hK (hm_one I.1 c9) 0 rfl rfl 0 (by decide) (hts _ ms_k1088) (fun _ h => h) e9 d182_188 ?_
    clear e9 c9 fs9
    obtain ⟨a78, e9, hF⟩ := hF
    refine W.eq (g2 := F0 m 191 ls [.ref a78, .int (v76 + 1), .long v72]) (by rw [e9]; rfl) ?_
    clear e9
    obtain ⟨fs9, v79, c9, e9, hF⟩ := hF
    refine va_get (D := D) (ci := 1) (v := .int v79) (C := kR1) (T := kT1) (N := 6) hx hb hts ku1 hown hK (hm_one I.1 c9) 0 rfl rfl 3 (by decide) (hts _ ms_k88) (fun _ h => h) e9 d182_191 ?_
    clear e9 c9 fs9
    refine ht_S (rest := [.long v72]) (as := [.int (v76 + 1), .int v79]) X hl (cw_Walker_range l D dA s0 hE (v76 + 1) v79 h73 z74 _ hF) (List.forall_mem_cons.mpr ⟨ms_k1124, List.forall_mem_cons.mpr ⟨ms_k1125, List.forall_mem_cons.mpr ⟨ms_k28, List.forall_mem_cons.mpr ⟨ms_k1126, fun _ h => absurd h List.not_mem_nil⟩⟩⟩⟩) ⟨by decide +kernel, by decide +kernel, (by decide +kernel : (parseMethodDescriptor "(II)J").map (fun d => d.parameters.length) = some 2)⟩ I ⟨rfl, rfl⟩ ⟨⟨Nat.le_of_ble_eq_true rfl, Nat.le_of_ble_eq_true rfl⟩, Nat.le_of_ble_eq_true rfl, Nat.le_of_ble_eq_true rfl⟩ rfl (Nat.le_of_ble_eq_true rfl) d182_194 (fun vv h81 z82 H locs hR I9 => ?_)
    obtain ⟨v80, e1, hF⟩ := hR
    subst e1
    clear I
    have I := I9
    clear I9
    refine W.eq (g2 := F0 m 197 ls [.long v80, .long v72]) rfl ?_
    refine lv_land hx hb d182_197 ?_
    exact ht_lret X d182_198 I (Nat.le_of_ble_eq_true rfl) (Nat.le_of_ble_eq_true rfl) ⟨_, rfl, hF⟩
  have hF := Eq.mp (if_neg h9_78) hF
  by_cases h9_80 : y1 = 80
  · have hF := Eq.mp (if_pos h9_80) hF
    refine lv_tableIn (off := 125) (tgt := 126) hx hb d182_1 (by rw [h9_80]; decide) (by rw [h9_80]; decide) (by rw [h9_80]; rfl) (by decide) ?_
    refine lv_aload_nR hx hb d182_126 rfl (lv_at hl 2 rfl) ?_
    obtain ⟨a83, e9, hF⟩ := hF
    refine W.eq (g2 := F0 m 127 ls [.ref a83]) (by rw [e9]; rfl) ?_
    clear e9
    obtain ⟨fs9, v84, c9, e9, hF⟩ := hF
    refine va_get (D := D) (ci := 8) (v := va_rf v84) (C := kR8) (T := kT8) (N := 9) hx hb hts ku8 hown hK (hm_one I.1 c9) 0 rfl rfl 1 (by decide) (hts _ ms_k448) (fun _ h => h) e9 d182_127 ?_
    clear e9 c9 fs9
    refine lv_ifnonnullR hx hb d182_130 rfl (fun h9 => ?_) (fun h9 => ?_)
    · have hF := Eq.mp (if_neg h9) hF
      refine lv_lconst (v := (1 : Int64)) hx hb d182_137 (by decide) ?_
      refine lv_aload_nR hx hb d182_138 rfl (lv_at hl 2 rfl) ?_
      obtain ⟨a85, e9, hF⟩ := hF
      refine W.eq (g2 := F0 m 139 ls [.ref a85, .long (1 : Int64)]) (by rw [e9]; rfl) ?_
      clear e9
      obtain ⟨fs9, v86, c9, e9, hF⟩ := hF
      refine va_get (D := D) (ci := 8) (v := va_rf v86) (C := kR8) (T := kT8) (N := 9) hx hb hts ku8 hown hK (hm_one I.1 c9) 0 rfl rfl 1 (by decide) (hts _ ms_k448) (fun _ h => h) e9 d182_139 ?_
      clear e9 c9 fs9
      obtain ⟨a87, e9, hF⟩ := hF
      refine W.eq (g2 := F0 m 142 ls [.ref a87, .long (1 : Int64)]) (by rw [e9]; rfl) ?_
      clear e9
      obtain ⟨fs9, v88, c9, e9, hF⟩ := hF
      refine va_get (D := D) (ci := 8) (v := .int v88) (C := kR8) (T := kT8) (N := 9) hx hb hts ku8 hown hK (hm_one I.1 c9) 0 rfl rfl 6 (by decide) (hts _ ms_k465) (fun _ h => h) e9 d182_142 ?_
      clear e9 c9 fs9
      refine lv_lshl (v := ((1 : Int64) <<< (v88.toInt64 &&& 63))) hx hb d182_145 rfl ?_
      exact ht_lret X d182_146 I (Nat.le_of_ble_eq_true rfl) (Nat.le_of_ble_eq_true rfl) ⟨_, rfl, hF⟩
    · have hF := Eq.mp (if_pos h9) hF
      refine lv_lconst (v := (0 : Int64)) hx hb d182_133 (by decide) ?_
      refine lv_goto hx hb d182_134 rfl ?_
      exact ht_lret X d182_146 I (Nat.le_of_ble_eq_true rfl) (Nat.le_of_ble_eq_true rfl) ⟨_, rfl, hF⟩
  have hF := Eq.mp (if_neg h9_80) hF
  by_cases h9_82 : y1 = 82
  · have hF := Eq.mp (if_pos h9_82) hF
    refine lv_tableIn (off := 235) (tgt := 236) hx hb d182_1 (by rw [h9_82]; decide) (by rw [h9_82]; decide) (by rw [h9_82]; rfl) (by decide) ?_
    refine lv_iconst (v := 0) hx hb d182_236 (by decide) ?_
    refine lv_aload_nR hx hb d182_237 rfl (lv_at hl 2 rfl) ?_
    obtain ⟨a89, e9, hF⟩ := hF
    refine W.eq (g2 := F0 m 238 ls [.ref a89, .int 0]) (by rw [e9]; rfl) ?_
    clear e9
    obtain ⟨fs9, v90, c9, e9, hF⟩ := hF
    refine va_get (D := D) (ci := 8) (v := .int v90) (C := kR8) (T := kT8) (N := 9) hx hb hts ku8 hown hK (hm_one I.1 c9) 0 rfl rfl 6 (by decide) (hts _ ms_k465) (fun _ h => h) e9 d182_238 ?_
    clear e9 c9 fs9
    refine ht_S (rest := []) (as := [.int 0, .int v90]) X hl (cw_Walker_range l D dA s0 hE 0 v90 h0 z0 _ hF) (List.forall_mem_cons.mpr ⟨ms_k1124, List.forall_mem_cons.mpr ⟨ms_k1125, List.forall_mem_cons.mpr ⟨ms_k28, List.forall_mem_cons.mpr ⟨ms_k1126, fun _ h => absurd h List.not_mem_nil⟩⟩⟩⟩) ⟨by decide +kernel, by decide +kernel, (by decide +kernel : (parseMethodDescriptor "(II)J").map (fun d => d.parameters.length) = some 2)⟩ I ⟨rfl, rfl⟩ ⟨⟨Nat.le_of_ble_eq_true rfl, Nat.le_of_ble_eq_true rfl⟩, Nat.le_of_ble_eq_true rfl, Nat.le_of_ble_eq_true rfl⟩ rfl (Nat.le_of_ble_eq_true rfl) d182_241 (fun vv h92 z93 H locs hR I9 => ?_)
    obtain ⟨v91, e1, hF⟩ := hR
    subst e1
    clear I
    have I := I9
    clear I9
    refine W.eq (g2 := F0 m 244 ls [.long v91]) rfl ?_
    refine lv_aload_n hx hb d182_244 rfl (lv_at hl 0 rfl) ?_
    refine lv_aload_nR hx hb d182_245 rfl (lv_at hl 2 rfl) ?_
    obtain ⟨fs9, c9, hF⟩ := hF
    refine ht_V (C := "MarkupStore$Walker") (rest := [.long v91]) (as := [va_rf y2]) X hl (cw_Walker_ancestors l D dA s0 hE y0 y2 h92 z93 _ hF) (List.forall_mem_cons.mpr ⟨ms_k1150, List.forall_mem_cons.mpr ⟨ms_k1152, List.forall_mem_cons.mpr ⟨ms_p32, List.forall_mem_cons.mpr ⟨ms_k28, List.forall_mem_cons.mpr ⟨ms_k1153, fun _ h => absurd h List.not_mem_nil⟩⟩⟩⟩⟩) ⟨rfl, by decide +kernel, by decide +kernel, (by decide +kernel : (parseMethodDescriptor "(LMarkupStore$Node;)J").map (fun d => d.parameters.length) = some 1)⟩ (hm_recv hK I rfl c9) I ⟨rfl, rfl⟩ ⟨⟨Nat.le_of_ble_eq_true rfl, Nat.le_of_ble_eq_true rfl⟩, Nat.le_of_ble_eq_true rfl, Nat.le_of_ble_eq_true rfl⟩ rfl (Nat.le_of_ble_eq_true rfl) d182_246 (fun vv h95 z96 H locs hR I9 => ?_)
    obtain ⟨v94, e1, hF⟩ := hR
    subst e1
    clear I
    have I := I9
    clear I9 c9 fs9
    refine W.eq (g2 := F0 m 249 ls [.long v94, .long v91]) rfl ?_
    refine lv_ldc2 (own := "MarkupStore$Walker") (v := (-1 : Int64)) hx hb hown (hts _ ms_k1158) d182_249 ?_
    refine lv_lxor hx hb d182_252 ?_
    refine lv_land hx hb d182_253 ?_
    exact ht_lret X d182_254 I (Nat.le_of_ble_eq_true rfl) (Nat.le_of_ble_eq_true rfl) ⟨_, rfl, hF⟩
  have hF := Eq.mp (if_neg h9_82) hF
  by_cases h9_83 : y1 = 83
  · have hF := Eq.mp (if_pos h9_83) hF
    refine lv_tableIn (off := 165) (tgt := 166) hx hb d182_1 (by rw [h9_83]; decide) (by rw [h9_83]; decide) (by rw [h9_83]; rfl) (by decide) ?_
    refine lv_lconst (v := (1 : Int64)) hx hb d182_166 (by decide) ?_
    refine lv_aload_nR hx hb d182_167 rfl (lv_at hl 2 rfl) ?_
    obtain ⟨a97, e9, hF⟩ := hF
    refine W.eq (g2 := F0 m 168 ls [.ref a97, .long (1 : Int64)]) (by rw [e9]; rfl) ?_
    clear e9
    obtain ⟨fs9, v98, c9, e9, hF⟩ := hF
    refine va_get (D := D) (ci := 8) (v := .int v98) (C := kR8) (T := kT8) (N := 9) hx hb hts ku8 hown hK (hm_one I.1 c9) 0 rfl rfl 6 (by decide) (hts _ ms_k465) (fun _ h => h) e9 d182_168 ?_
    clear e9 c9 fs9
    refine lv_lshl (v := ((1 : Int64) <<< (v98.toInt64 &&& 63))) hx hb d182_171 rfl ?_
    exact ht_lret X d182_172 I (Nat.le_of_ble_eq_true rfl) (Nat.le_of_ble_eq_true rfl) ⟨_, rfl, hF⟩
  have hF := Eq.mp (if_neg h9_83) hF
  by_cases g9_67 : y1 = 67
  · refine lv_tableIn (off := 254) (tgt := 255) hx hb d182_1 (by rw [g9_67]; decide) (by rw [g9_67]; decide) (by rw [g9_67]; rfl) (by decide) ?_
    exact b255 ls y2 h0 z0 _ _ hF (hl.sub [0, 2] rfl) I
  by_cases g9_71 : y1 = 71
  · refine lv_tableIn (off := 254) (tgt := 255) hx hb d182_1 (by rw [g9_71]; decide) (by rw [g9_71]; decide) (by rw [g9_71]; rfl) (by decide) ?_
    exact b255 ls y2 h0 z0 _ _ hF (hl.sub [0, 2] rfl) I
  by_cases g9_72 : y1 = 72
  · refine lv_tableIn (off := 254) (tgt := 255) hx hb d182_1 (by rw [g9_72]; decide) (by rw [g9_72]; decide) (by rw [g9_72]; rfl) (by decide) ?_
    exact b255 ls y2 h0 z0 _ _ hF (hl.sub [0, 2] rfl) I
  by_cases g9_73 : y1 = 73
  · refine lv_tableIn (off := 254) (tgt := 255) hx hb d182_1 (by rw [g9_73]; decide) (by rw [g9_73]; decide) (by rw [g9_73]; rfl) (by decide) ?_
    exact b255 ls y2 h0 z0 _ _ hF (hl.sub [0, 2] rfl) I
  by_cases g9_74 : y1 = 74
  · refine lv_tableIn (off := 254) (tgt := 255) hx hb d182_1 (by rw [g9_74]; decide) (by rw [g9_74]; decide) (by rw [g9_74]; rfl) (by decide) ?_
    exact b255 ls y2 h0 z0 _ _ hF (hl.sub [0, 2] rfl) I
  by_cases g9_75 : y1 = 75
  · refine lv_tableIn (off := 254) (tgt := 255) hx hb d182_1 (by rw [g9_75]; decide) (by rw [g9_75]; decide) (by rw [g9_75]; rfl) (by decide) ?_
    exact b255 ls y2 h0 z0 _ _ hF (hl.sub [0, 2] rfl) I
  by_cases g9_77 : y1 = 77
  · refine lv_tableIn (off := 254) (tgt := 255) hx hb d182_1 (by rw [g9_77]; decide) (by rw [g9_77]; decide) (by rw [g9_77]; rfl) (by decide) ?_
    exact b255 ls y2 h0 z0 _ _ hF (hl.sub [0, 2] rfl) I
  by_cases g9_79 : y1 = 79
  · refine lv_tableIn (off := 254) (tgt := 255) hx hb d182_1 (by rw [g9_79]; decide) (by rw [g9_79]; decide) (by rw [g9_79]; rfl) (by decide) ?_
    exact b255 ls y2 h0 z0 _ _ hF (hl.sub [0, 2] rfl) I
  by_cases g9_81 : y1 = 81
  · refine lv_tableIn (off := 254) (tgt := 255) hx hb d182_1 (by rw [g9_81]; decide) (by rw [g9_81]; decide) (by rw [g9_81]; rfl) (by decide) ?_
    exact b255 ls y2 h0 z0 _ _ hF (hl.sub [0, 2] rfl) I
  refine lv_tableOut (tgt := 255) hx hb d182_1 (by have i65 : Int32.toInt y1 ≠ 65 := mm_ti (k := 65) h9_65; have i66 : Int32.toInt y1 ≠ 66 := mm_ti (k := 66) h9_66; have i68 : Int32.toInt y1 ≠ 68 := mm_ti (k := 68) h9_68; have i69 : Int32.toInt y1 ≠ 69 := mm_ti (k := 69) h9_69; have i70 : Int32.toInt y1 ≠ 70 := mm_ti (k := 70) h9_70; have i76 : Int32.toInt y1 ≠ 76 := mm_ti (k := 76) h9_76; have i78 : Int32.toInt y1 ≠ 78 := mm_ti (k := 78) h9_78; have i80 : Int32.toInt y1 ≠ 80 := mm_ti (k := 80) h9_80; have i82 : Int32.toInt y1 ≠ 82 := mm_ti (k := 82) h9_82; have i83 : Int32.toInt y1 ≠ 83 := mm_ti (k := 83) h9_83; have j67 : Int32.toInt y1 ≠ 67 := mm_ti (k := 67) g9_67; have j71 : Int32.toInt y1 ≠ 71 := mm_ti (k := 71) g9_71; have j72 : Int32.toInt y1 ≠ 72 := mm_ti (k := 72) g9_72; have j73 : Int32.toInt y1 ≠ 73 := mm_ti (k := 73) g9_73; have j74 : Int32.toInt y1 ≠ 74 := mm_ti (k := 74) g9_74; have j75 : Int32.toInt y1 ≠ 75 := mm_ti (k := 75) g9_75; have j77 : Int32.toInt y1 ≠ 77 := mm_ti (k := 77) g9_77; have j79 : Int32.toInt y1 ≠ 79 := mm_ti (k := 79) g9_79; have j81 : Int32.toInt y1 ≠ 81 := mm_ti (k := 81) g9_81; omega) (by decide) ?_
  exact b255 ls y2 h0 z0 _ _ hF (hl.sub [0, 2] rfl) I

def w_Store_mayBecome_16 (dA : Nat → ClassId) (K : Int32 → hm_T → hz_T → Prop) (h : hm_T) (z : hz_T) : Prop := (K 0 h z)
def w_Store_mayBecome_40 (dA : Nat → ClassId) (K : Int32 → hm_T → hz_T → Prop) (h : hm_T) (z : hz_T) : Prop := (K 1 h z)
def w_Store_mayBecome (dA : Nat → ClassId) (y0 : Int32) (y1 : Option Nat) (K : Int32 → hm_T → hz_T → Prop) (h0 : hm_T) (z0 : hz_T) : Prop := (cg_d y1 (fun a21 => (jd_emp z0 a21 (fun v22 => (if v22 = 0 then (cg_d y1 (fun a23 => (jd_len z0 a23 (fun v24 => (if v24 ≤ 20 then (if y0 = 1 then (w_Store_isName dA y1 (fun v28 h29 z30 => (cg_z v28 (K v28 h29 z30))) h0 z0) else (if y0 = 3 then (w_Store_mayBeComment dA y1 (fun v25 h26 z27 => (if v25 = 0 then (K 0 h26 z27) else (w_Store_mayBecome_40 dA K h26 z27))) h0 z0) else (w_Store_mayBecome_40 dA K h0 z0))) else (w_Store_mayBecome_16 dA K h0 z0)))))) else (w_Store_mayBecome_16 dA K h0 z0))))))
set_option maxRecDepth 100000 in
set_option maxHeartbeats 8000000 in
theorem cw_Store_mayBecome (l : Launch) (D : va_G) (dA : Nat → ClassId) (s0 : State) (hE : ms_EV D dA s0) (y0 : Int32) (y1 : Option Nat) (h0 : hm_T) (z0 : hz_T) (K : Int32 → hm_T → hz_T → Prop) (hg : w_Store_mayBecome dA y0 y1 K h0 z0) : ht_C l D s0 yM183 bM183 2 (Option.some Jvm.ClassFile.FieldType.boolean) 5 107 0 0 [.int y0, va_rf y1] (fun h z => h = h0 ∧ z = z0) (fun h z vv h1 z1 => ∃ v, vv = some (.int v) ∧ K v h1 z1) := by
  refine ht_C.mk hE.1 (by decide) (by simp [lg_sl, cat_rf, cat_int, cat_ref, cat_null, cat_long]) [(0, .int y0), (1, va_rf y1)] (by simp [lv_args, cat_rf, cat_int, cat_ref, cat_null, cat_long]) ?_
  intro p e s m below meth c ls h z X hin hpre I hl
  have hx := X.1
  have hb := X.2.1
  have hml := X.2.2.1
  have hown : s.vm.findClass "MarkupStore" = some m.cls := X.2.2.2.1
  have hts := X.2.2.2.2.2.2.1
  have hK := X.2.2.2.2.2.2.2.2.1
  rw [hpre.1, hpre.2] at I
  clear hpre
  have b16 : ∀ (ls : Array Slot) (h : hm_T) (z : hz_T) (H : Heap) (locs : List Loc), w_Store_mayBecome_16 dA K h z → lv_has ls 2 [] → hm_I D s0 s h z H locs → W p l e { frames := 5, cells := 0, slots := 0, locals := 107 } s m ([.int y0, va_rf y1] : List Value).toArray below meth c H locs 0 0 (MQ below (ht_Q D s0 (fun vv h1 z1 => ∃ v, vv = some (.int v) ∧ K v h1 z1)) ([.int y0, va_rf y1] : List Value).toArray s 0 0 (fun q => s0.heap.size ≤ q)) (F0 m 16 ls []) := by
    intro ls h z H locs hF hl I
    unfold w_Store_mayBecome_16 at hF
    refine lv_iconst (v := 0) hx hb d183_16 (by decide) ?_
    exact ht_zret X d183_17 I (Nat.le_of_ble_eq_true rfl) (Nat.le_of_ble_eq_true rfl) ⟨_, rfl, hF⟩ rfl
  have b40 : ∀ (ls : Array Slot) (h : hm_T) (z : hz_T) (H : Heap) (locs : List Loc), w_Store_mayBecome_40 dA K h z → lv_has ls 2 [] → hm_I D s0 s h z H locs → W p l e { frames := 5, cells := 0, slots := 0, locals := 107 } s m ([.int y0, va_rf y1] : List Value).toArray below meth c H locs 0 0 (MQ below (ht_Q D s0 (fun vv h1 z1 => ∃ v, vv = some (.int v) ∧ K v h1 z1)) ([.int y0, va_rf y1] : List Value).toArray s 0 0 (fun q => s0.heap.size ≤ q)) (F0 m 40 ls []) := by
    intro ls h z H locs hF hl I
    unfold w_Store_mayBecome_40 at hF
    refine lv_iconst (v := 1) hx hb d183_40 (by decide) ?_
    refine lv_goto hx hb d183_41 rfl ?_
    exact ht_zret X d183_45 I (Nat.le_of_ble_eq_true rfl) (Nat.le_of_ble_eq_true rfl) ⟨_, rfl, hF⟩ rfl
  have hF := hg
  unfold w_Store_mayBecome at hF
  clear h z
  refine lv_aload_nR hx hb d183_0 rfl (lv_at hl 1 rfl) ?_
  obtain ⟨a21, e9, hF⟩ := hF
  refine W.eq (g2 := F0 m 1 ls [.ref a21]) (by rw [e9]; rfl) ?_
  clear e9
  obtain ⟨u9, xs9, z9, p1, hF⟩ := hF
  refine ht_V (C := "java/lang/String") (rest := []) (as := []) X hl (c_Sempty l D dA s0 hE a21 u9 xs9 p1) (List.forall_mem_cons.mpr ⟨ms_k857, List.forall_mem_cons.mpr ⟨ms_k778, List.forall_mem_cons.mpr ⟨ms_k779, List.forall_mem_cons.mpr ⟨ms_k4, List.forall_mem_cons.mpr ⟨ms_k780, fun _ h => absurd h List.not_mem_nil⟩⟩⟩⟩⟩) ⟨rfl, by decide +kernel, by decide +kernel, (by decide +kernel : (parseMethodDescriptor "()Z").map (fun d => d.parameters.length) = some 0)⟩ (hz_recv I z9) I z9 ⟨⟨Nat.le_of_ble_eq_true rfl, Nat.le_of_ble_eq_true rfl⟩, Nat.le_of_ble_eq_true rfl, Nat.le_of_ble_eq_true rfl⟩ rfl (Nat.le_of_ble_eq_true rfl) d183_1 (fun vv h9 z7 H locs hR I9 => ?_)
  obtain ⟨e1, e2, e3⟩ := hR
  rw [e2, e3] at I9
  subst e1
  clear I
  have I := I9
  clear I9 e2 e3 h9 z7
  refine W.eq (g2 := F0 m 4 ls [.int (if xs9.length = 0 then 1 else 0)]) rfl ?_
  generalize (if xs9.length = 0 then 1 else 0) = v22 at hF ⊢
  refine lv_if_ne hx hb d183_4 rfl (fun h9 => ?_) (fun h9 => ?_)
  · have hF := Eq.mp (if_neg h9) hF
    exact b16 ls h0 z0 _ _ hF (hl.sub [] rfl) I
  · have hF := Eq.mp (if_pos h9) hF
    refine lv_aload_nR hx hb d183_7 rfl (lv_at hl 1 rfl) ?_
    obtain ⟨a23, e9, hF⟩ := hF
    refine W.eq (g2 := F0 m 8 ls [.ref a23]) (by rw [e9]; rfl) ?_
    clear e9
    obtain ⟨u9, xs9, z9, hF⟩ := hF
    refine ht_V (C := "java/lang/String") (rest := []) (as := []) X hl (c_Slen l D dA s0 hE a23 u9 xs9) (List.forall_mem_cons.mpr ⟨ms_k802, List.forall_mem_cons.mpr ⟨ms_k391, List.forall_mem_cons.mpr ⟨ms_k392, List.forall_mem_cons.mpr ⟨ms_k4, List.forall_mem_cons.mpr ⟨ms_k393, fun _ h => absurd h List.not_mem_nil⟩⟩⟩⟩⟩) ⟨rfl, by decide +kernel, by decide +kernel, (by decide +kernel : (parseMethodDescriptor "()I").map (fun d => d.parameters.length) = some 0)⟩ (hz_recv I z9) I z9 ⟨⟨Nat.le_of_ble_eq_true rfl, Nat.le_of_ble_eq_true rfl⟩, Nat.le_of_ble_eq_true rfl, Nat.le_of_ble_eq_true rfl⟩ rfl (Nat.le_of_ble_eq_true rfl) d183_8 (fun vv h9 z7 H locs hR I9 => ?_)
    obtain ⟨e1, e2, e3⟩ := hR
    rw [e2, e3] at I9
    subst e1
    clear I
    have I := I9
    clear I9 e2 e3 h9 z7
    refine W.eq (g2 := F0 m 11 ls [.int (nI xs9.length)]) rfl ?_
    generalize (nI xs9.length) = v24 at hF ⊢
    refine lv_bipush (v := 20) hx hb d183_11 (by decide) ?_
    refine lv_icmp_le hx hb d183_13 rfl (fun h9 => ?_) (fun h9 => ?_)
    · have hF := Eq.mp (if_pos h9) hF
      refine lv_iload_n hx hb d183_18 rfl (lv_at hl 0 rfl) ?_
      refine lv_iconst (v := 1) hx hb d183_19 (by decide) ?_
      refine lv_icmp_ne hx hb d183_20 rfl (fun h9 => ?_) (fun h9 => ?_)
      · have hF := Eq.mp (if_neg h9) hF
        refine lv_iload_n hx hb d183_28 rfl (lv_at hl 0 rfl) ?_
        refine lv_iconst (v := 3) hx hb d183_29 (by decide) ?_
        refine lv_icmp_ne hx hb d183_30 rfl (fun h9 => ?_) (fun h9 => ?_)
        · have hF := Eq.mp (if_neg h9) hF
          exact b40 ls h0 z0 _ _ hF (hl.sub [] rfl) I
        · have hF := Eq.mp (if_pos h9) hF
          refine lv_aload_nR hx hb d183_33 rfl (lv_at hl 1 rfl) ?_
          refine ht_S (rest := []) (as := [va_rf y1]) X hl (cw_Store_mayBeComment l D dA s0 hE y1 h0 z0 _ hF) (List.forall_mem_cons.mpr ⟨ms_k863, List.forall_mem_cons.mpr ⟨ms_k864, List.forall_mem_cons.mpr ⟨ms_k1, List.forall_mem_cons.mpr ⟨ms_k865, fun _ h => absurd h List.not_mem_nil⟩⟩⟩⟩) ⟨by decide +kernel, by decide +kernel, (by decide +kernel : (parseMethodDescriptor "(Ljava/lang/String;)Z").map (fun d => d.parameters.length) = some 1)⟩ I ⟨rfl, rfl⟩ ⟨⟨Nat.le_of_ble_eq_true rfl, Nat.le_of_ble_eq_true rfl⟩, Nat.le_of_ble_eq_true rfl, Nat.le_of_ble_eq_true rfl⟩ rfl (Nat.le_of_ble_eq_true rfl) d183_34 (fun vv h26 z27 H locs hR I9 => ?_)
          obtain ⟨v25, e1, hF⟩ := hR
          subst e1
          clear I
          have I := I9
          clear I9
          refine W.eq (g2 := F0 m 37 ls [.int v25]) rfl ?_
          refine lv_if_eq hx hb d183_37 rfl (fun h9 => ?_) (fun h9 => ?_)
          · have hF := Eq.mp (if_pos h9) hF
            refine lv_iconst (v := 0) hx hb d183_44 (by decide) ?_
            exact ht_zret X d183_45 I (Nat.le_of_ble_eq_true rfl) (Nat.le_of_ble_eq_true rfl) ⟨_, rfl, hF⟩ rfl
          · have hF := Eq.mp (if_neg h9) hF
            exact b40 ls h26 z27 _ _ hF (hl.sub [] rfl) I
      · have hF := Eq.mp (if_pos h9) hF
        refine lv_aload_nR hx hb d183_23 rfl (lv_at hl 1 rfl) ?_
        refine ht_S (rest := []) (as := [va_rf y1]) X hl (cw_Store_isName l D dA s0 hE y1 h0 z0 _ hF) (List.forall_mem_cons.mpr ⟨ms_k858, List.forall_mem_cons.mpr ⟨ms_k859, List.forall_mem_cons.mpr ⟨ms_k1, List.forall_mem_cons.mpr ⟨ms_k860, fun _ h => absurd h List.not_mem_nil⟩⟩⟩⟩) ⟨by decide +kernel, by decide +kernel, (by decide +kernel : (parseMethodDescriptor "(Ljava/lang/String;)Z").map (fun d => d.parameters.length) = some 1)⟩ I ⟨rfl, rfl⟩ ⟨⟨Nat.le_of_ble_eq_true rfl, Nat.le_of_ble_eq_true rfl⟩, Nat.le_of_ble_eq_true rfl, Nat.le_of_ble_eq_true rfl⟩ rfl (Nat.le_of_ble_eq_true rfl) d183_24 (fun vv h29 z30 H locs hR I9 => ?_)
        obtain ⟨v28, e1, hF⟩ := hR
        subst e1
        clear I
        have I := I9
        clear I9
        refine W.eq (g2 := F0 m 27 ls [.int v28]) rfl ?_
        obtain ⟨hz9, hF⟩ := hF
        exact ht_zret X d183_27 I (Nat.le_of_ble_eq_true rfl) (Nat.le_of_ble_eq_true rfl) ⟨_, rfl, hF⟩ (cg_zn hz9).1
    · have hF := Eq.mp (if_neg h9) hF
      exact b16 ls h0 z0 _ _ hF (hl.sub [] rfl) I

def w_Scribe_closeUpTo_2 (dA : Nat → ClassId) (y0 : Nat) (K : hm_T → hz_T → Prop) : Nat → Option Nat → Option Nat → hm_T → hz_T → Prop
  | 0, _, _, _, _ => False
  | n9 + 1, x2, x3, h, z => (if x3 = none then (K h z) else (if x3 = x2 then (K h z) else (cg_lit z [60, 47] (fun a21 => (cg_c h 7 y0 ((w_Scribe_putAll dA y0 (some a21) (fun h23 z24 => (cg_d x3 (fun a25 => (cg_R h23 8 7 a25 (fun v26 => (cg_c h23 7 y0 ((w_Scribe_putAll dA y0 v26 (fun h28 z29 => (cg_c h28 7 y0 ((w_Scribe_put dA y0 62 (fun h31 z32 => (cg_d x3 (fun a33 => (cg_R h31 8 1 a33 (fun v34 => ((w_Scribe_closeUpTo_2 dA y0 K n9) x2 v34 h31 z32)))))) h28 z29)))) h23 z24)))))))) h z)))))))
def w_Scribe_closeUpTo (dA : Nat → ClassId) (y0 : Nat) (y1 : Option Nat) (y2 : Option Nat) (K : hm_T → hz_T → Prop) (h0 : hm_T) (z0 : hz_T) : Prop := (w_Scribe_closeUpTo_2 dA y0 K mF y2 y1 h0 z0)
set_option maxRecDepth 100000 in
set_option maxHeartbeats 8000000 in
theorem cw_Scribe_closeUpTo (l : Launch) (D : va_G) (dA : Nat → ClassId) (s0 : State) (hE : ms_EV D dA s0) (y0 : Nat) (y1 : Option Nat) (y2 : Option Nat) (h0 : hm_T) (z0 : hz_T) (K : hm_T → hz_T → Prop) (hg : w_Scribe_closeUpTo dA y0 y1 y2 K h0 z0) : ht_C l D s0 yM184 bM184 4 (Option.none : Option Jvm.ClassFile.FieldType) 5 107 0 0 [.ref y0, va_rf y1, va_rf y2] (fun h z => h = h0 ∧ z = z0) (fun h z vv h1 z1 => vv = none ∧ K h1 z1) := by
  refine ht_C.mk hE.1 (by decide) (by simp [lg_sl, cat_rf, cat_int, cat_ref, cat_null, cat_long]) [(0, .ref y0), (1, va_rf y1), (2, va_rf y2)] (by simp [lv_args, cat_rf, cat_int, cat_ref, cat_null, cat_long]) ?_
  intro p e s m below meth c ls h z X hin hpre I hl
  have hx := X.1
  have hb := X.2.1
  have hml := X.2.2.1
  have hown : s.vm.findClass "MarkupStore$Scribe" = some m.cls := X.2.2.2.1
  have hts := X.2.2.2.2.2.2.1
  have hK := X.2.2.2.2.2.2.2.2.1
  rw [hpre.1, hpre.2] at I
  clear hpre
  have b2 : ∀ n9 : Nat, ∀ (ls : Array Slot) (x2 : Option Nat) (x3 : Option Nat) (h : hm_T) (z : hz_T) (H : Heap) (locs : List Loc), w_Scribe_closeUpTo_2 dA y0 K n9 x2 x3 h z → lv_has ls 4 [(0, .ref y0), (2, va_rf x2), (3, va_rf x3)] → hm_I D s0 s h z H locs → W p l e { frames := 5, cells := 0, slots := 0, locals := 107 } s m ([.ref y0, va_rf y1, va_rf y2] : List Value).toArray below meth c H locs 0 0 (MQ below (ht_Q D s0 (fun vv h1 z1 => vv = none ∧ K h1 z1)) ([.ref y0, va_rf y1, va_rf y2] : List Value).toArray s 0 0 (fun q => s0.heap.size ≤ q)) (F0 m 2 ls []) := by
    intro n9
    induction n9 with
    | zero => intro ls x2 x3 h z H locs hF; cases hF
    | succ n9 hk2 =>
    intro ls x2 x3 h z H locs hF hl I
    unfold w_Scribe_closeUpTo_2 at hF
    refine lv_aload_nR hx hb d184_2 rfl (lv_at hl 2 rfl) ?_
    refine lv_ifnullR hx hb d184_3 rfl (fun h9 => ?_) (fun h9 => ?_)
    · have hF := Eq.mp (if_pos h9) hF
      exact ht_vret X d184_39 I (Nat.le_of_ble_eq_true rfl) (Nat.le_of_ble_eq_true rfl) ⟨rfl, hF⟩
    · have hF := Eq.mp (if_neg h9) hF
      refine lv_aload_nR hx hb d184_6 rfl (lv_at hl 2 rfl) ?_
      refine lv_aload_nR hx hb d184_7 rfl (lv_at hl 1 rfl) ?_
      refine lv_acmp_eq (rx := x3) (ry := x2) hx hb d184_8 rfl (fun h9 => ?_) (fun h9 => ?_)
      · have hF := Eq.mp (if_pos h9) hF
        exact ht_vret X d184_39 I (Nat.le_of_ble_eq_true rfl) (Nat.le_of_ble_eq_true rfl) ⟨rfl, hF⟩
      · have hF := Eq.mp (if_neg h9) hF
        refine lv_aload_n hx hb d184_11 rfl (lv_at hl 0 rfl) ?_
        refine hz_ldc (xs := [60, 47]) hE X I 15 rfl hown d184_12 (fun a21 u9 z9 => ?_)
        have hF := hF _ _ z9
        obtain ⟨fs9, c9, hF⟩ := hF
        refine ht_V (C := "MarkupStore$Scribe") (rest := []) (as := [.ref a21]) X hl (cw_Scribe_putAll l D dA s0 hE y0 (some a21) h z _ hF) (List.forall_mem_cons.mpr ⟨ms_k1273, List.forall_mem_cons.mpr ⟨ms_k1275, List.forall_mem_cons.mpr ⟨ms_p40, List.forall_mem_cons.mpr ⟨ms_k30, List.forall_mem_cons.mpr ⟨ms_k1276, fun _ h => absurd h List.not_mem_nil⟩⟩⟩⟩⟩) ⟨rfl, by decide +kernel, by decide +kernel, (by decide +kernel : (parseMethodDescriptor "(Ljava/lang/String;)V").map (fun d => d.parameters.length) = some 1)⟩ (hm_recv hK I rfl c9) I ⟨rfl, rfl⟩ ⟨⟨Nat.le_of_ble_eq_true rfl, Nat.le_of_ble_eq_true rfl⟩, Nat.le_of_ble_eq_true rfl, Nat.le_of_ble_eq_true rfl⟩ rfl (Nat.le_of_ble_eq_true rfl) d184_14 (fun vv h23 z24 H locs hR I9 => ?_)
        obtain ⟨e1, hF⟩ := hR
        subst e1
        clear I
        have I := I9
        clear I9 c9 fs9
        refine W.eq (g2 := F0 m 17 ls []) rfl ?_
        refine lv_aload_n hx hb d184_17 rfl (lv_at hl 0 rfl) ?_
        refine lv_aload_nR hx hb d184_18 rfl (lv_at hl 2 rfl) ?_
        obtain ⟨a25, e9, hF⟩ := hF
        refine W.eq (g2 := F0 m 19 ls [.ref a25, .ref y0]) (by rw [e9]; rfl) ?_
        clear e9
        obtain ⟨fs9, v26, c9, e9, hF⟩ := hF
        refine va_get (D := D) (ci := 8) (v := va_rf v26) (C := kR8) (T := kT8) (N := 9) hx hb hts ku8 hown hK (hm_one I.1 c9) 0 rfl rfl 7 (by decide) (hts _ ms_k467) (fun _ h => h) e9 d184_19 ?_
        clear e9 c9 fs9
        obtain ⟨fs9, c9, hF⟩ := hF
        refine ht_V (C := "MarkupStore$Scribe") (rest := []) (as := [va_rf v26]) X hl (cw_Scribe_putAll l D dA s0 hE y0 v26 h23 z24 _ hF) (List.forall_mem_cons.mpr ⟨ms_k1273, List.forall_mem_cons.mpr ⟨ms_k1275, List.forall_mem_cons.mpr ⟨ms_p40, List.forall_mem_cons.mpr ⟨ms_k30, List.forall_mem_cons.mpr ⟨ms_k1276, fun _ h => absurd h List.not_mem_nil⟩⟩⟩⟩⟩) ⟨rfl, by decide +kernel, by decide +kernel, (by decide +kernel : (parseMethodDescriptor "(Ljava/lang/String;)V").map (fun d => d.parameters.length) = some 1)⟩ (hm_recv hK I rfl c9) I ⟨rfl, rfl⟩ ⟨⟨Nat.le_of_ble_eq_true rfl, Nat.le_of_ble_eq_true rfl⟩, Nat.le_of_ble_eq_true rfl, Nat.le_of_ble_eq_true rfl⟩ rfl (Nat.le_of_ble_eq_true rfl) d184_22 (fun vv h28 z29 H locs hR I9 => ?_)
        obtain ⟨e1, hF⟩ := hR
        subst e1
        clear I
        have I := I9
        clear I9 c9 fs9
        refine W.eq (g2 := F0 m 25 ls []) rfl ?_
        refine lv_aload_n hx hb d184_25 rfl (lv_at hl 0 rfl) ?_
        refine lv_bipush (v := 62) hx hb d184_26 (by decide) ?_
        obtain ⟨fs9, c9, hF⟩ := hF
        refine ht_V (C := "MarkupStore$Scribe") (rest := []) (as := [.int 62]) X hl (cw_Scribe_put l D dA s0 hE y0 62 h28 z29 _ hF) (List.forall_mem_cons.mpr ⟨ms_k1279, List.forall_mem_cons.mpr ⟨ms_k1281, List.forall_mem_cons.mpr ⟨ms_p41, List.forall_mem_cons.mpr ⟨ms_k30, List.forall_mem_cons.mpr ⟨ms_k1282, fun _ h => absurd h List.not_mem_nil⟩⟩⟩⟩⟩) ⟨rfl, by decide +kernel, by decide +kernel, (by decide +kernel : (parseMethodDescriptor "(C)V").map (fun d => d.parameters.length) = some 1)⟩ (hm_recv hK I rfl c9) I ⟨rfl, rfl⟩ ⟨⟨Nat.le_of_ble_eq_true rfl, Nat.le_of_ble_eq_true rfl⟩, Nat.le_of_ble_eq_true rfl, Nat.le_of_ble_eq_true rfl⟩ rfl (Nat.le_of_ble_eq_true rfl) d184_28 (fun vv h31 z32 H locs hR I9 => ?_)
        obtain ⟨e1, hF⟩ := hR
        subst e1
        clear I
        have I := I9
        clear I9 c9 fs9
        refine W.eq (g2 := F0 m 31 ls []) rfl ?_
        refine lv_aload_nR hx hb d184_31 rfl (lv_at hl 2 rfl) ?_
        obtain ⟨a33, e9, hF⟩ := hF
        refine W.eq (g2 := F0 m 32 ls [.ref a33]) (by rw [e9]; rfl) ?_
        clear e9
        obtain ⟨fs9, v34, c9, e9, hF⟩ := hF
        refine va_get (D := D) (ci := 8) (v := va_rf v34) (C := kR8) (T := kT8) (N := 9) hx hb hts ku8 hown hK (hm_one I.1 c9) 0 rfl rfl 1 (by decide) (hts _ ms_k445) (fun _ h => h) e9 d184_32 ?_
        clear e9 c9 fs9
        refine lv_astore_nR (i := 3) hx hb d184_35 rfl hl (by decide) (show _ = [(3, va_rf v34), (0, .ref y0), (2, va_rf x2)] by simp [cat_rf, cat_int, cat_ref, cat_null, cat_long]) (fun ls hl => ?_)
        have hl : lv_has ls 4 [(3, va_rf v34), (0, .ref y0), (2, va_rf x2)] := hl
        refine lv_goto hx hb d184_36 rfl ?_
        exact hk2 ls x2 v34 h31 z32 _ _ hF (hl.sub [1, 2, 0] rfl) I
  have hF := hg
  unfold w_Scribe_closeUpTo at hF
  clear h z
  refine lv_aload_nR hx hb d184_0 rfl (lv_at hl 1 rfl) ?_
  refine lv_astore_nR (i := 3) hx hb d184_1 rfl hl (by decide) (show _ = [(3, va_rf y1), (0, .ref y0), (1, va_rf y1), (2, va_rf y2)] by simp [cat_rf, cat_int, cat_ref, cat_null, cat_long]) (fun ls hl => ?_)
  have hl : lv_has ls 4 [(3, va_rf y1), (0, .ref y0), (1, va_rf y1), (2, va_rf y2)] := hl
  exact b2 mF ls y2 y1 h0 z0 _ _ hF (hl.sub [1, 3, 0] rfl) I

def w_Scribe_putValue_72 (dA : Nat → ClassId) (y0 : Nat) (K : hm_T → hz_T → Prop) (k3 : Option Nat → Int32 → Option Nat → Int32 → hm_T → hz_T → Prop) (x1 : Option Nat) (x2 : Int32) (x3 : Option Nat) (x4 : Int32) (h : hm_T) (z : hz_T) : Prop := (k3 x1 x2 x3 (x4 + 1) h z)
def w_Scribe_putValue_3 (dA : Nat → ClassId) (y0 : Nat) (K : hm_T → hz_T → Prop) : Nat → Option Nat → Int32 → Option Nat → Int32 → hm_T → hz_T → Prop
  | 0, _, _, _, _, _, _ => False
  | n9 + 1, x1, x2, x3, x4, h, z => (cg_d x1 (fun a21 => (jd_len z a21 (fun v22 => (if v22 ≤ x4 then (K h z) else (cg_d x1 (fun a23 => (jd_at z a23 x4 (fun v24 => (if v24 = 38 then (cg_lit z [38, 97, 109, 112, 59] (fun a35 => (cg_c h 7 y0 ((w_Scribe_putAll dA y0 (some a35) (fun h37 z38 => (w_Scribe_putValue_72 dA y0 K (w_Scribe_putValue_3 dA y0 K n9) x1 x2 x3 x4 h37 z38)) h z))))) else (if v24 = 60 then (cg_lit z [38, 108, 116, 59] (fun a31 => (cg_c h 7 y0 ((w_Scribe_putAll dA y0 (some a31) (fun h33 z34 => (w_Scribe_putValue_72 dA y0 K (w_Scribe_putValue_3 dA y0 K n9) x1 x2 x3 x4 h33 z34)) h z))))) else (if v24 = x2 then (cg_c h 7 y0 ((w_Scribe_putAll dA y0 x3 (fun h29 z30 => (w_Scribe_putValue_72 dA y0 K (w_Scribe_putValue_3 dA y0 K n9) x1 x2 x3 x4 h29 z30)) h z))) else (cg_c h 7 y0 ((w_Scribe_put dA y0 v24 (fun h26 z27 => (w_Scribe_putValue_72 dA y0 K (w_Scribe_putValue_3 dA y0 K n9) x1 x2 x3 x4 h26 z27)) h z)))))))))))))))
def w_Scribe_putValue (dA : Nat → ClassId) (y0 : Nat) (y1 : Option Nat) (y2 : Int32) (y3 : Option Nat) (K : hm_T → hz_T → Prop) (h0 : hm_T) (z0 : hz_T) : Prop := (w_Scribe_putValue_3 dA y0 K mF y1 y2 y3 0 h0 z0)
set_option maxRecDepth 100000 in
set_option maxHeartbeats 8000000 in
theorem cw_Scribe_putValue (l : Launch) (D : va_G) (dA : Nat → ClassId) (s0 : State) (hE : ms_EV D dA s0) (y0 : Nat) (y1 : Option Nat) (y2 : Int32) (y3 : Option Nat) (h0 : hm_T) (z0 : hz_T) (K : hm_T → hz_T → Prop) (hg : w_Scribe_putValue dA y0 y1 y2 y3 K h0 z0) : ht_C l D s0 yM185 bM185 6 (Option.none : Option Jvm.ClassFile.FieldType) 5 107 0 0 [.ref y0, va_rf y1, .int y2, va_rf y3] (fun h z => h = h0 ∧ z = z0) (fun h z vv h1 z1 => vv = none ∧ K h1 z1) := by
  refine ht_C.mk hE.1 (by decide) (by simp [lg_sl, cat_rf, cat_int, cat_ref, cat_null, cat_long]) [(0, .ref y0), (1, va_rf y1), (2, .int y2), (3, va_rf y3)] (by simp [lv_args, cat_rf, cat_int, cat_ref, cat_null, cat_long]) ?_
  intro p e s m below meth c ls h z X hin hpre I hl
  have hx := X.1
  have hb := X.2.1
  have hml := X.2.2.1
  have hown : s.vm.findClass "MarkupStore$Scribe" = some m.cls := X.2.2.2.1
  have hts := X.2.2.2.2.2.2.1
  have hK := X.2.2.2.2.2.2.2.2.1
  rw [hpre.1, hpre.2] at I
  clear hpre
  have b72 : ∀ (k3 : Option Nat → Int32 → Option Nat → Int32 → hm_T → hz_T → Prop), (∀ (ls : Array Slot) (x1 : Option Nat) (x2 : Int32) (x3 : Option Nat) (x4 : Int32) (h : hm_T) (z : hz_T) (H : Heap) (locs : List Loc), k3 x1 x2 x3 x4 h z → lv_has ls 6 [(0, .ref y0), (1, va_rf x1), (2, .int x2), (3, va_rf x3), (4, .int x4)] → hm_I D s0 s h z H locs → W p l e { frames := 5, cells := 0, slots := 0, locals := 107 } s m ([.ref y0, va_rf y1, .int y2, va_rf y3] : List Value).toArray below meth c H locs 0 0 (MQ below (ht_Q D s0 (fun vv h1 z1 => vv = none ∧ K h1 z1)) ([.ref y0, va_rf y1, .int y2, va_rf y3] : List Value).toArray s 0 0 (fun q => s0.heap.size ≤ q)) (F0 m 3 ls [])) → ∀ (ls : Array Slot) (x1 : Option Nat) (x2 : Int32) (x3 : Option Nat) (x4 : Int32) (h : hm_T) (z : hz_T) (H : Heap) (locs : List Loc), w_Scribe_putValue_72 dA y0 K k3 x1 x2 x3 x4 h z → lv_has ls 6 [(0, .ref y0), (1, va_rf x1), (2, .int x2), (3, va_rf x3), (4, .int x4)] → hm_I D s0 s h z H locs → W p l e { frames := 5, cells := 0, slots := 0, locals := 107 } s m ([.ref y0, va_rf y1, .int y2, va_rf y3] : List Value).toArray below meth c H locs 0 0 (MQ below (ht_Q D s0 (fun vv h1 z1 => vv = none ∧ K h1 z1)) ([.ref y0, va_rf y1, .int y2, va_rf y3] : List Value).toArray s 0 0 (fun q => s0.heap.size ≤ q)) (F0 m 72 ls []) := by
    intro k3 hk3 ls x1 x2 x3 x4 h z H locs hF hl I
    unfold w_Scribe_putValue_72 at hF
    refine lv_iinc (k := 4) (v := (x4 + 1)) hx hb d185_72 hl rfl (rfl) (by decide) (show _ = [(4, .int (x4 + 1)), (0, .ref y0), (1, va_rf x1), (2, .int x2), (3, va_rf x3)] by simp [cat_rf, cat_int, cat_ref, cat_null, cat_long]) (fun ls hl => ?_)
    have hl : lv_has ls 6 [(4, .int (x4 + 1)), (0, .ref y0), (1, va_rf x1), (2, .int x2), (3, va_rf x3)] := hl
    refine lv_goto hx hb d185_75 rfl ?_
    exact hk3 ls x1 x2 x3 (x4 + 1) h z _ _ hF (hl.sub [1, 2, 3, 4, 0] rfl) I
  have b3 : ∀ n9 : Nat, ∀ (ls : Array Slot) (x1 : Option Nat) (x2 : Int32) (x3 : Option Nat) (x4 : Int32) (h : hm_T) (z : hz_T) (H : Heap) (locs : List Loc), w_Scribe_putValue_3 dA y0 K n9 x1 x2 x3 x4 h z → lv_has ls 6 [(0, .ref y0), (1, va_rf x1), (2, .int x2), (3, va_rf x3), (4, .int x4)] → hm_I D s0 s h z H locs → W p l e { frames := 5, cells := 0, slots := 0, locals := 107 } s m ([.ref y0, va_rf y1, .int y2, va_rf y3] : List Value).toArray below meth c H locs 0 0 (MQ below (ht_Q D s0 (fun vv h1 z1 => vv = none ∧ K h1 z1)) ([.ref y0, va_rf y1, .int y2, va_rf y3] : List Value).toArray s 0 0 (fun q => s0.heap.size ≤ q)) (F0 m 3 ls []) := by
    intro n9
    induction n9 with
    | zero => intro ls x1 x2 x3 x4 h z H locs hF; cases hF
    | succ n9 hk3 =>
    intro ls x1 x2 x3 x4 h z H locs hF hl I
    unfold w_Scribe_putValue_3 at hF
    refine lv_iload hx hb d185_3 (lv_at hl 4 rfl) ?_
    refine lv_aload_nR hx hb d185_5 rfl (lv_at hl 1 rfl) ?_
    obtain ⟨a21, e9, hF⟩ := hF
    refine W.eq (g2 := F0 m 6 ls [.ref a21, .int x4]) (by rw [e9]; rfl) ?_
    clear e9
    obtain ⟨u9, xs9, z9, hF⟩ := hF
    refine ht_V (C := "java/lang/String") (rest := [.int x4]) (as := []) X hl (c_Slen l D dA s0 hE a21 u9 xs9) (List.forall_mem_cons.mpr ⟨ms_k1277, List.forall_mem_cons.mpr ⟨ms_k391, List.forall_mem_cons.mpr ⟨ms_k392, List.forall_mem_cons.mpr ⟨ms_k4, List.forall_mem_cons.mpr ⟨ms_k393, fun _ h => absurd h List.not_mem_nil⟩⟩⟩⟩⟩) ⟨rfl, by decide +kernel, by decide +kernel, (by decide +kernel : (parseMethodDescriptor "()I").map (fun d => d.parameters.length) = some 0)⟩ (hz_recv I z9) I z9 ⟨⟨Nat.le_of_ble_eq_true rfl, Nat.le_of_ble_eq_true rfl⟩, Nat.le_of_ble_eq_true rfl, Nat.le_of_ble_eq_true rfl⟩ rfl (Nat.le_of_ble_eq_true rfl) d185_6 (fun vv h9 z7 H locs hR I9 => ?_)
    obtain ⟨e1, e2, e3⟩ := hR
    rw [e2, e3] at I9
    subst e1
    clear I
    have I := I9
    clear I9 e2 e3 h9 z7
    refine W.eq (g2 := F0 m 9 ls [.int (nI xs9.length), .int x4]) rfl ?_
    generalize (nI xs9.length) = v22 at hF ⊢
    refine lv_icmp_ge hx hb d185_9 rfl (fun h9 => ?_) (fun h9 => ?_)
    · have hF := Eq.mp (if_pos h9) hF
      exact ht_vret X d185_78 I (Nat.le_of_ble_eq_true rfl) (Nat.le_of_ble_eq_true rfl) ⟨rfl, hF⟩
    · have hF := Eq.mp (if_neg h9) hF
      refine lv_aload_nR hx hb d185_12 rfl (lv_at hl 1 rfl) ?_
      refine lv_iload hx hb d185_13 (lv_at hl 4 rfl) ?_
      obtain ⟨a23, e9, hF⟩ := hF
      refine W.eq (g2 := F0 m 15 ls [.int x4, .ref a23]) (by rw [e9]; rfl) ?_
      clear e9
      obtain ⟨u9, xs9, j9, z9, e8, p1, p2, p3, hF⟩ := hF
      refine ms_top (y := nI j9) e8 ?_
      refine ht_V (C := "java/lang/String") (rest := []) (as := [.int (nI j9)]) X hl (c_SchAt l D dA s0 hE a23 u9 xs9 j9 p1 p2 p3) (List.forall_mem_cons.mpr ⟨ms_k1278, List.forall_mem_cons.mpr ⟨ms_k399, List.forall_mem_cons.mpr ⟨ms_k400, List.forall_mem_cons.mpr ⟨ms_k4, List.forall_mem_cons.mpr ⟨ms_k401, fun _ h => absurd h List.not_mem_nil⟩⟩⟩⟩⟩) ⟨rfl, by decide +kernel, by decide +kernel, (by decide +kernel : (parseMethodDescriptor "(I)C").map (fun d => d.parameters.length) = some 1)⟩ (hz_recv I z9) I z9 ⟨⟨Nat.le_of_ble_eq_true rfl, Nat.le_of_ble_eq_true rfl⟩, Nat.le_of_ble_eq_true rfl, Nat.le_of_ble_eq_true rfl⟩ rfl (Nat.le_of_ble_eq_true rfl) d185_15 (fun vv h9 z7 H locs hR I9 => ?_)
      obtain ⟨e1, e2, e3⟩ := hR
      rw [e2, e3] at I9
      subst e1
      clear I
      have I := I9
      clear I9 e2 e3 h9 z7
      refine W.eq (g2 := F0 m 18 ls [.int (nI (xs9.getD j9 0))]) rfl ?_
      generalize (nI (xs9.getD j9 0)) = v24 at hF ⊢
      refine lv_istore hx hb d185_18 hl (by decide) rfl (fun ls hl => ?_)
      have hl : lv_has ls 6 [(5, .int v24), (0, .ref y0), (1, va_rf x1), (2, .int x2), (3, va_rf x3), (4, .int x4)] := hl
      refine lv_iload hx hb d185_20 (lv_at hl 0 rfl) ?_
      refine lv_bipush (v := 38) hx hb d185_22 (by decide) ?_
      refine lv_icmp_ne hx hb d185_24 rfl (fun h9 => ?_) (fun h9 => ?_)
      · have hF := Eq.mp (if_neg h9) hF
        refine lv_iload hx hb d185_36 (lv_at hl 0 rfl) ?_
        refine lv_bipush (v := 60) hx hb d185_38 (by decide) ?_
        refine lv_icmp_ne hx hb d185_40 rfl (fun h9 => ?_) (fun h9 => ?_)
        · have hF := Eq.mp (if_neg h9) hF
          refine lv_iload hx hb d185_52 (lv_at hl 0 rfl) ?_
          refine lv_iload_n hx hb d185_54 rfl (lv_at hl 3 rfl) ?_
          refine lv_icmp_ne hx hb d185_55 rfl (fun h9 => ?_) (fun h9 => ?_)
          · have hF := Eq.mp (if_neg h9) hF
            refine lv_aload_n hx hb d185_66 rfl (lv_at hl 1 rfl) ?_
            refine lv_iload hx hb d185_67 (lv_at hl 0 rfl) ?_
            obtain ⟨fs9, c9, hF⟩ := hF
            refine ht_V (C := "MarkupStore$Scribe") (rest := []) (as := [.int v24]) X hl (cw_Scribe_put l D dA s0 hE y0 v24 h z _ hF) (List.forall_mem_cons.mpr ⟨ms_k1279, List.forall_mem_cons.mpr ⟨ms_k1281, List.forall_mem_cons.mpr ⟨ms_p41, List.forall_mem_cons.mpr ⟨ms_k30, List.forall_mem_cons.mpr ⟨ms_k1282, fun _ h => absurd h List.not_mem_nil⟩⟩⟩⟩⟩) ⟨rfl, by decide +kernel, by decide +kernel, (by decide +kernel : (parseMethodDescriptor "(C)V").map (fun d => d.parameters.length) = some 1)⟩ (hm_recv hK I rfl c9) I ⟨rfl, rfl⟩ ⟨⟨Nat.le_of_ble_eq_true rfl, Nat.le_of_ble_eq_true rfl⟩, Nat.le_of_ble_eq_true rfl, Nat.le_of_ble_eq_true rfl⟩ rfl (Nat.le_of_ble_eq_true rfl) d185_69 (fun vv h26 z27 H locs hR I9 => ?_)
            obtain ⟨e1, hF⟩ := hR
            subst e1
            clear I
            have I := I9
            clear I9 c9 fs9
            refine W.eq (g2 := F0 m 72 ls []) rfl ?_
            exact b72 (w_Scribe_putValue_3 dA y0 K n9) hk3 ls x1 x2 x3 x4 h26 z27 _ _ hF (hl.sub [1, 2, 3, 4, 5] rfl) I
          · have hF := Eq.mp (if_pos h9) hF
            refine lv_aload_n hx hb d185_58 rfl (lv_at hl 1 rfl) ?_
            refine lv_aload_nR hx hb d185_59 rfl (lv_at hl 4 rfl) ?_
            obtain ⟨fs9, c9, hF⟩ := hF
            refine ht_V (C := "MarkupStore$Scribe") (rest := []) (as := [va_rf x3]) X hl (cw_Scribe_putAll l D dA s0 hE y0 x3 h z _ hF) (List.forall_mem_cons.mpr ⟨ms_k1273, List.forall_mem_cons.mpr ⟨ms_k1275, List.forall_mem_cons.mpr ⟨ms_p40, List.forall_mem_cons.mpr ⟨ms_k30, List.forall_mem_cons.mpr ⟨ms_k1276, fun _ h => absurd h List.not_mem_nil⟩⟩⟩⟩⟩) ⟨rfl, by decide +kernel, by decide +kernel, (by decide +kernel : (parseMethodDescriptor "(Ljava/lang/String;)V").map (fun d => d.parameters.length) = some 1)⟩ (hm_recv hK I rfl c9) I ⟨rfl, rfl⟩ ⟨⟨Nat.le_of_ble_eq_true rfl, Nat.le_of_ble_eq_true rfl⟩, Nat.le_of_ble_eq_true rfl, Nat.le_of_ble_eq_true rfl⟩ rfl (Nat.le_of_ble_eq_true rfl) d185_60 (fun vv h29 z30 H locs hR I9 => ?_)
            obtain ⟨e1, hF⟩ := hR
            subst e1
            clear I
            have I := I9
            clear I9 c9 fs9
            refine W.eq (g2 := F0 m 63 ls []) rfl ?_
            refine lv_goto hx hb d185_63 rfl ?_
            exact b72 (w_Scribe_putValue_3 dA y0 K n9) hk3 ls x1 x2 x3 x4 h29 z30 _ _ hF (hl.sub [1, 2, 3, 4, 5] rfl) I
        · have hF := Eq.mp (if_pos h9) hF
          refine lv_aload_n hx hb d185_43 rfl (lv_at hl 1 rfl) ?_
          refine hz_ldc (xs := [38, 108, 116, 59]) hE X I 19 rfl hown d185_44 (fun a31 u9 z9 => ?_)
          have hF := hF _ _ z9
          obtain ⟨fs9, c9, hF⟩ := hF
          refine ht_V (C := "MarkupStore$Scribe") (rest := []) (as := [.ref a31]) X hl (cw_Scribe_putAll l D dA s0 hE y0 (some a31) h z _ hF) (List.forall_mem_cons.mpr ⟨ms_k1273, List.forall_mem_cons.mpr ⟨ms_k1275, List.forall_mem_cons.mpr ⟨ms_p40, List.forall_mem_cons.mpr ⟨ms_k30, List.forall_mem_cons.mpr ⟨ms_k1276, fun _ h => absurd h List.not_mem_nil⟩⟩⟩⟩⟩) ⟨rfl, by decide +kernel, by decide +kernel, (by decide +kernel : (parseMethodDescriptor "(Ljava/lang/String;)V").map (fun d => d.parameters.length) = some 1)⟩ (hm_recv hK I rfl c9) I ⟨rfl, rfl⟩ ⟨⟨Nat.le_of_ble_eq_true rfl, Nat.le_of_ble_eq_true rfl⟩, Nat.le_of_ble_eq_true rfl, Nat.le_of_ble_eq_true rfl⟩ rfl (Nat.le_of_ble_eq_true rfl) d185_46 (fun vv h33 z34 H locs hR I9 => ?_)
          obtain ⟨e1, hF⟩ := hR
          subst e1
          clear I
          have I := I9
          clear I9 c9 fs9
          refine W.eq (g2 := F0 m 49 ls []) rfl ?_
          refine lv_goto hx hb d185_49 rfl ?_
          exact b72 (w_Scribe_putValue_3 dA y0 K n9) hk3 ls x1 x2 x3 x4 h33 z34 _ _ hF (hl.sub [1, 2, 3, 4, 5] rfl) I
      · have hF := Eq.mp (if_pos h9) hF
        refine lv_aload_n hx hb d185_27 rfl (lv_at hl 1 rfl) ?_
        refine hz_ldc (xs := [38, 97, 109, 112, 59]) hE X I 18 rfl hown d185_28 (fun a35 u9 z9 => ?_)
        have hF := hF _ _ z9
        obtain ⟨fs9, c9, hF⟩ := hF
        refine ht_V (C := "MarkupStore$Scribe") (rest := []) (as := [.ref a35]) X hl (cw_Scribe_putAll l D dA s0 hE y0 (some a35) h z _ hF) (List.forall_mem_cons.mpr ⟨ms_k1273, List.forall_mem_cons.mpr ⟨ms_k1275, List.forall_mem_cons.mpr ⟨ms_p40, List.forall_mem_cons.mpr ⟨ms_k30, List.forall_mem_cons.mpr ⟨ms_k1276, fun _ h => absurd h List.not_mem_nil⟩⟩⟩⟩⟩) ⟨rfl, by decide +kernel, by decide +kernel, (by decide +kernel : (parseMethodDescriptor "(Ljava/lang/String;)V").map (fun d => d.parameters.length) = some 1)⟩ (hm_recv hK I rfl c9) I ⟨rfl, rfl⟩ ⟨⟨Nat.le_of_ble_eq_true rfl, Nat.le_of_ble_eq_true rfl⟩, Nat.le_of_ble_eq_true rfl, Nat.le_of_ble_eq_true rfl⟩ rfl (Nat.le_of_ble_eq_true rfl) d185_30 (fun vv h37 z38 H locs hR I9 => ?_)
        obtain ⟨e1, hF⟩ := hR
        subst e1
        clear I
        have I := I9
        clear I9 c9 fs9
        refine W.eq (g2 := F0 m 33 ls []) rfl ?_
        refine lv_goto hx hb d185_33 rfl ?_
        exact b72 (w_Scribe_putValue_3 dA y0 K n9) hk3 ls x1 x2 x3 x4 h37 z38 _ _ hF (hl.sub [1, 2, 3, 4, 5] rfl) I
  have hF := hg
  unfold w_Scribe_putValue at hF
  clear h z
  refine lv_iconst (v := 0) hx hb d185_0 (by decide) ?_
  refine lv_istore (i := 4) hx hb d185_1 hl (by decide) (show _ = [(4, .int 0), (0, .ref y0), (1, va_rf y1), (2, .int y2), (3, va_rf y3)] by simp [cat_rf, cat_int, cat_ref, cat_null, cat_long]) (fun ls hl => ?_)
  have hl : lv_has ls 6 [(4, .int 0), (0, .ref y0), (1, va_rf y1), (2, .int y2), (3, va_rf y3)] := hl
  exact b3 mF ls y1 y2 y3 0 h0 z0 _ _ hF (hl.sub [1, 2, 3, 4, 0] rfl) I

def w_Scribe_putStart_103 (dA : Nat → ClassId) (y0 : Nat) (K : hm_T → hz_T → Prop) (w0 : Option Nat) (h : hm_T) (z : hz_T) : Prop := (cg_c h 7 y0 ((w_Scribe_putAll dA y0 w0 (fun h35 z36 => (K h35 z36)) h z)))
def w_Scribe_putStart_16 (dA : Nat → ClassId) (y0 : Nat) (K : hm_T → hz_T → Prop) : Nat → Option Nat → Int32 → Int32 → hm_T → hz_T → Prop
  | 0, _, _, _, _, _ => False
  | n9 + 1, x1, x2, x3, h, z => (cg_d x1 (fun a29 => (cg_R h 8 4 a29 (fun v30 => (cg_d v30 (fun a31 => (jd_sz h a31 (fun v32 => (if v32 ≤ x3 then (if x2 = 0 then (cg_lit z [47, 62] (fun a33 => (w_Scribe_putStart_103 dA y0 K (some a33) h z))) else (cg_lit z [62] (fun a37 => (w_Scribe_putStart_103 dA y0 K (some a37) h z)))) else (cg_c h 7 y0 ((w_Scribe_put dA y0 32 (fun h39 z40 => (cg_d x1 (fun a41 => (cg_R h39 8 4 a41 (fun v42 => (cg_d v42 (fun a43 => (jd_get dA h39 a43 x3 (fun v44 => (cg_c h39 9 v44 (cg_c h39 9 v44 ((w_Attribute_name dA v44 (fun v45 h46 z47 => (cg_c h46 7 y0 ((w_Scribe_putAll dA y0 v45 (fun h49 z50 => (cg_lit z50 [61, 34] (fun a51 => (cg_c h49 7 y0 ((w_Scribe_putAll dA y0 (some a51) (fun h53 z54 => (cg_d x1 (fun a55 => (cg_R h53 8 4 a55 (fun v56 => (cg_d v56 (fun a57 => (jd_get dA h53 a57 x3 (fun v58 => (cg_c h53 9 v58 (cg_c h53 9 v58 ((w_Attribute_value dA v58 (fun v59 h60 z61 => (cg_lit z61 [38, 113, 117, 111, 116, 59] (fun a62 => (cg_c h60 7 y0 ((w_Scribe_putValue dA y0 v59 34 (some a62) (fun h64 z65 => (cg_c h64 7 y0 ((w_Scribe_put dA y0 34 (fun h67 z68 => ((w_Scribe_putStart_16 dA y0 K n9) x1 x2 (x3 + 1) h67 z68)) h64 z65)))) h60 z61)))))) h53 z54))))))))))))) h49 z50)))))) h46 z47)))) h39 z40))))))))))))) h z))))))))))))
def w_Scribe_putStart (dA : Nat → ClassId) (y0 : Nat) (y1 : Option Nat) (y2 : Int32) (K : hm_T → hz_T → Prop) (h0 : hm_T) (z0 : hz_T) : Prop := (cg_c h0 7 y0 ((w_Scribe_put dA y0 60 (fun h22 z23 => (cg_d y1 (fun a24 => (cg_R h22 8 7 a24 (fun v25 => (cg_c h22 7 y0 ((w_Scribe_putAll dA y0 v25 (fun h27 z28 => (w_Scribe_putStart_16 dA y0 K mF y1 y2 0 h27 z28)) h22 z23)))))))) h0 z0)))
set_option maxRecDepth 100000 in
set_option maxHeartbeats 8000000 in
theorem cw_Scribe_putStart (l : Launch) (D : va_G) (dA : Nat → ClassId) (s0 : State) (hE : ms_EV D dA s0) (y0 : Nat) (y1 : Option Nat) (y2 : Int32) (h0 : hm_T) (z0 : hz_T) (K : hm_T → hz_T → Prop) (hg : w_Scribe_putStart dA y0 y1 y2 K h0 z0) : ht_C l D s0 yM186 bM186 4 (Option.none : Option Jvm.ClassFile.FieldType) 6 132 0 0 [.ref y0, va_rf y1, .int y2] (fun h z => h = h0 ∧ z = z0) (fun h z vv h1 z1 => vv = none ∧ K h1 z1) := by
  refine ht_C.mk hE.1 (by decide) (by simp [lg_sl, cat_rf, cat_int, cat_ref, cat_null, cat_long]) [(0, .ref y0), (1, va_rf y1), (2, .int y2)] (by simp [lv_args, cat_rf, cat_int, cat_ref, cat_null, cat_long]) ?_
  intro p e s m below meth c ls h z X hin hpre I hl
  have hx := X.1
  have hb := X.2.1
  have hml := X.2.2.1
  have hown : s.vm.findClass "MarkupStore$Scribe" = some m.cls := X.2.2.2.1
  have hts := X.2.2.2.2.2.2.1
  have hK := X.2.2.2.2.2.2.2.2.1
  rw [hpre.1, hpre.2] at I
  clear hpre
  have b103 : ∀ (ls : Array Slot) (w0 : Option Nat) (h : hm_T) (z : hz_T) (H : Heap) (locs : List Loc), w_Scribe_putStart_103 dA y0 K w0 h z → lv_has ls 4 [] → hm_I D s0 s h z H locs → W p l e { frames := 6, cells := 0, slots := 0, locals := 132 } s m ([.ref y0, va_rf y1, .int y2] : List Value).toArray below meth c H locs 0 0 (MQ below (ht_Q D s0 (fun vv h1 z1 => vv = none ∧ K h1 z1)) ([.ref y0, va_rf y1, .int y2] : List Value).toArray s 0 0 (fun q => s0.heap.size ≤ q)) (F0 m 103 ls [va_rf w0, .ref y0]) := by
    intro ls w0 h z H locs hF hl I
    unfold w_Scribe_putStart_103 at hF
    obtain ⟨fs9, c9, hF⟩ := hF
    refine ht_V (C := "MarkupStore$Scribe") (rest := []) (as := [va_rf w0]) X hl (cw_Scribe_putAll l D dA s0 hE y0 w0 h z _ hF) (List.forall_mem_cons.mpr ⟨ms_k1273, List.forall_mem_cons.mpr ⟨ms_k1275, List.forall_mem_cons.mpr ⟨ms_p40, List.forall_mem_cons.mpr ⟨ms_k30, List.forall_mem_cons.mpr ⟨ms_k1276, fun _ h => absurd h List.not_mem_nil⟩⟩⟩⟩⟩) ⟨rfl, by decide +kernel, by decide +kernel, (by decide +kernel : (parseMethodDescriptor "(Ljava/lang/String;)V").map (fun d => d.parameters.length) = some 1)⟩ (hm_recv hK I rfl c9) I ⟨rfl, rfl⟩ ⟨⟨Nat.le_of_ble_eq_true rfl, Nat.le_of_ble_eq_true rfl⟩, Nat.le_of_ble_eq_true rfl, Nat.le_of_ble_eq_true rfl⟩ rfl (Nat.le_of_ble_eq_true rfl) d186_103 (fun vv h35 z36 H locs hR I9 => ?_)
    obtain ⟨e1, hF⟩ := hR
    subst e1
    clear I
    have I := I9
    clear I9 c9 fs9
    refine W.eq (g2 := F0 m 106 ls []) rfl ?_
    exact ht_vret X d186_106 I (Nat.le_of_ble_eq_true rfl) (Nat.le_of_ble_eq_true rfl) ⟨rfl, hF⟩
  have b16 : ∀ n9 : Nat, ∀ (ls : Array Slot) (x1 : Option Nat) (x2 : Int32) (x3 : Int32) (h : hm_T) (z : hz_T) (H : Heap) (locs : List Loc), w_Scribe_putStart_16 dA y0 K n9 x1 x2 x3 h z → lv_has ls 4 [(0, .ref y0), (1, va_rf x1), (2, .int x2), (3, .int x3)] → hm_I D s0 s h z H locs → W p l e { frames := 6, cells := 0, slots := 0, locals := 132 } s m ([.ref y0, va_rf y1, .int y2] : List Value).toArray below meth c H locs 0 0 (MQ below (ht_Q D s0 (fun vv h1 z1 => vv = none ∧ K h1 z1)) ([.ref y0, va_rf y1, .int y2] : List Value).toArray s 0 0 (fun q => s0.heap.size ≤ q)) (F0 m 16 ls []) := by
    intro n9
    induction n9 with
    | zero => intro ls x1 x2 x3 h z H locs hF; cases hF
    | succ n9 hk16 =>
    intro ls x1 x2 x3 h z H locs hF hl I
    unfold w_Scribe_putStart_16 at hF
    refine lv_iload_n hx hb d186_16 rfl (lv_at hl 3 rfl) ?_
    refine lv_aload_nR hx hb d186_17 rfl (lv_at hl 1 rfl) ?_
    obtain ⟨a29, e9, hF⟩ := hF
    refine W.eq (g2 := F0 m 18 ls [.ref a29, .int x3]) (by rw [e9]; rfl) ?_
    clear e9
    obtain ⟨fs9, v30, c9, e9, hF⟩ := hF
    refine va_get (D := D) (ci := 8) (v := va_rf v30) (C := kR8) (T := kT8) (N := 9) hx hb hts ku8 hown hK (hm_one I.1 c9) 0 rfl rfl 4 (by decide) (hts _ ms_k456) (fun _ h => h) e9 d186_18 ?_
    clear e9 c9 fs9
    obtain ⟨a31, e9, hF⟩ := hF
    refine W.eq (g2 := F0 m 21 ls [.ref a31, .int x3]) (by rw [e9]; rfl) ?_
    clear e9
    obtain ⟨d9, k9, mo9, c9, hF⟩ := hF
    refine ht_V (C := "java/util/ArrayList") (rest := [.int x3]) (as := []) X hl (c_ALsize l D dA s0 hE a31 d9 k9 mo9) (List.forall_mem_cons.mpr ⟨ms_k1288, List.forall_mem_cons.mpr ⟨ms_k595, List.forall_mem_cons.mpr ⟨ms_k596, List.forall_mem_cons.mpr ⟨ms_k18, List.forall_mem_cons.mpr ⟨ms_k597, fun _ h => absurd h List.not_mem_nil⟩⟩⟩⟩⟩) ⟨rfl, by decide +kernel, by decide +kernel, (by decide +kernel : (parseMethodDescriptor "()I").map (fun d => d.parameters.length) = some 0)⟩ (hm_recv hK I rfl c9) I c9 ⟨⟨Nat.le_of_ble_eq_true rfl, Nat.le_of_ble_eq_true rfl⟩, Nat.le_of_ble_eq_true rfl, Nat.le_of_ble_eq_true rfl⟩ rfl (Nat.le_of_ble_eq_true rfl) d186_21 (fun vv h9 z7 H locs hR I9 => ?_)
    obtain ⟨e1, e2, e3⟩ := hR
    rw [e2, e3] at I9
    subst e1
    clear I
    have I := I9
    clear I9 e2 e3 h9 z7
    refine W.eq (g2 := F0 m 24 ls [.int (nI k9), .int x3]) rfl ?_
    generalize (nI k9) = v32 at hF ⊢
    refine lv_icmp_ge hx hb d186_24 rfl (fun h9 => ?_) (fun h9 => ?_)
    · have hF := Eq.mp (if_pos h9) hF
      refine lv_aload_n hx hb d186_91 rfl (lv_at hl 0 rfl) ?_
      refine lv_iload_n hx hb d186_92 rfl (lv_at hl 2 rfl) ?_
      refine lv_if_eq hx hb d186_93 rfl (fun h9 => ?_) (fun h9 => ?_)
      · have hF := Eq.mp (if_pos h9) hF
        refine hz_ldc (xs := [47, 62]) hE X I 21 rfl hown d186_101 (fun a33 u9 z9 => ?_)
        have hF := hF _ _ z9
        exact b103 ls (some a33) h z _ _ hF (hl.sub [] rfl) I
      · have hF := Eq.mp (if_neg h9) hF
        refine hz_ldc (xs := [62]) hE X I 20 rfl hown d186_96 (fun a37 u9 z9 => ?_)
        have hF := hF _ _ z9
        refine lv_goto hx hb d186_98 rfl ?_
        exact b103 ls (some a37) h z _ _ hF (hl.sub [] rfl) I
    · have hF := Eq.mp (if_neg h9) hF
      refine lv_aload_n hx hb d186_27 rfl (lv_at hl 0 rfl) ?_
      refine lv_bipush (v := 32) hx hb d186_28 (by decide) ?_
      obtain ⟨fs9, c9, hF⟩ := hF
      refine ht_V (C := "MarkupStore$Scribe") (rest := []) (as := [.int 32]) X hl (cw_Scribe_put l D dA s0 hE y0 32 h z _ hF) (List.forall_mem_cons.mpr ⟨ms_k1279, List.forall_mem_cons.mpr ⟨ms_k1281, List.forall_mem_cons.mpr ⟨ms_p41, List.forall_mem_cons.mpr ⟨ms_k30, List.forall_mem_cons.mpr ⟨ms_k1282, fun _ h => absurd h List.not_mem_nil⟩⟩⟩⟩⟩) ⟨rfl, by decide +kernel, by decide +kernel, (by decide +kernel : (parseMethodDescriptor "(C)V").map (fun d => d.parameters.length) = some 1)⟩ (hm_recv hK I rfl c9) I ⟨rfl, rfl⟩ ⟨⟨Nat.le_of_ble_eq_true rfl, Nat.le_of_ble_eq_true rfl⟩, Nat.le_of_ble_eq_true rfl, Nat.le_of_ble_eq_true rfl⟩ rfl (Nat.le_of_ble_eq_true rfl) d186_30 (fun vv h39 z40 H locs hR I9 => ?_)
      obtain ⟨e1, hF⟩ := hR
      subst e1
      clear I
      have I := I9
      clear I9 c9 fs9
      refine W.eq (g2 := F0 m 33 ls []) rfl ?_
      refine lv_aload_n hx hb d186_33 rfl (lv_at hl 0 rfl) ?_
      refine lv_aload_nR hx hb d186_34 rfl (lv_at hl 1 rfl) ?_
      obtain ⟨a41, e9, hF⟩ := hF
      refine W.eq (g2 := F0 m 35 ls [.ref a41, .ref y0]) (by rw [e9]; rfl) ?_
      clear e9
      obtain ⟨fs9, v42, c9, e9, hF⟩ := hF
      refine va_get (D := D) (ci := 8) (v := va_rf v42) (C := kR8) (T := kT8) (N := 9) hx hb hts ku8 hown hK (hm_one I.1 c9) 0 rfl rfl 4 (by decide) (hts _ ms_k456) (fun _ h => h) e9 d186_35 ?_
      clear e9 c9 fs9
      refine lv_iload_n hx hb d186_38 rfl (lv_at hl 3 rfl) ?_
      obtain ⟨a43, e9, hF⟩ := hF
      refine W.eq (g2 := F0 m 39 ls [.int x3, .ref a43, .ref y0]) (by rw [e9]; rfl) ?_
      clear e9
      obtain ⟨d9, k9, mo9, n8, j9, q9, f8, c9, c8, e8, p1, p2, p3, p4, hF⟩ := hF
      refine ms_top (y := nI j9) e8 ?_
      refine ht_V (C := "java/util/ArrayList") (rest := [.ref y0]) (as := [.int (nI j9)]) X hl (c_ALget l D dA s0 hE a43 d9 k9 mo9 n8 j9 q9 f8 p1 p2 p3 p4) (List.forall_mem_cons.mpr ⟨ms_k1289, List.forall_mem_cons.mpr ⟨ms_k599, List.forall_mem_cons.mpr ⟨ms_k600, List.forall_mem_cons.mpr ⟨ms_k18, List.forall_mem_cons.mpr ⟨ms_k601, fun _ h => absurd h List.not_mem_nil⟩⟩⟩⟩⟩) ⟨rfl, by decide +kernel, by decide +kernel, (by decide +kernel : (parseMethodDescriptor "(I)Ljava/lang/Object;").map (fun d => d.parameters.length) = some 1)⟩ (hm_recv hK I rfl c9) I ⟨c9, c8⟩ ⟨⟨Nat.le_of_ble_eq_true rfl, Nat.le_of_ble_eq_true rfl⟩, Nat.le_of_ble_eq_true rfl, Nat.le_of_ble_eq_true rfl⟩ rfl (Nat.le_of_ble_eq_true rfl) d186_39 (fun vv h9 z7 H locs hR I9 => ?_)
      obtain ⟨e1, e2, e3⟩ := hR
      rw [e2, e3] at I9
      subst e1
      clear I
      have I := I9
      clear I9 e2 e3 h9 z7
      refine W.eq (g2 := F0 m 42 ls [.ref q9, .ref y0]) rfl ?_
      generalize q9 = v44 at hF ⊢
      try clear p4
      obtain ⟨fs9, c9, hF⟩ := hF
      refine va_castE hx hb hown (hts _ ms_k1290) (hm_recv hK I rfl c9) d186_42 ?_
      clear c9 fs9
      obtain ⟨fs9, c9, hF⟩ := hF
      refine ht_V (C := "MarkupStore$Attribute") (rest := [.ref y0]) (as := []) X hl (cw_Attribute_name l D dA s0 hE v44 h39 z40 _ hF) (List.forall_mem_cons.mpr ⟨ms_k1291, List.forall_mem_cons.mpr ⟨ms_k612, List.forall_mem_cons.mpr ⟨ms_k613, List.forall_mem_cons.mpr ⟨ms_k22, List.forall_mem_cons.mpr ⟨ms_k614, fun _ h => absurd h List.not_mem_nil⟩⟩⟩⟩⟩) ⟨rfl, by decide +kernel, by decide +kernel, (by decide +kernel : (parseMethodDescriptor "()Ljava/lang/String;").map (fun d => d.parameters.length) = some 0)⟩ (hm_recv hK I rfl c9) I ⟨rfl, rfl⟩ ⟨⟨Nat.le_of_ble_eq_true rfl, Nat.le_of_ble_eq_true rfl⟩, Nat.le_of_ble_eq_true rfl, Nat.le_of_ble_eq_true rfl⟩ rfl (Nat.le_of_ble_eq_true rfl) d186_45 (fun vv h46 z47 H locs hR I9 => ?_)
      obtain ⟨v45, e1, hF⟩ := hR
      subst e1
      clear I
      have I := I9
      clear I9 c9 fs9
      refine W.eq (g2 := F0 m 48 ls [va_rf v45, .ref y0]) rfl ?_
      obtain ⟨fs9, c9, hF⟩ := hF
      refine ht_V (C := "MarkupStore$Scribe") (rest := []) (as := [va_rf v45]) X hl (cw_Scribe_putAll l D dA s0 hE y0 v45 h46 z47 _ hF) (List.forall_mem_cons.mpr ⟨ms_k1273, List.forall_mem_cons.mpr ⟨ms_k1275, List.forall_mem_cons.mpr ⟨ms_p40, List.forall_mem_cons.mpr ⟨ms_k30, List.forall_mem_cons.mpr ⟨ms_k1276, fun _ h => absurd h List.not_mem_nil⟩⟩⟩⟩⟩) ⟨rfl, by decide +kernel, by decide +kernel, (by decide +kernel : (parseMethodDescriptor "(Ljava/lang/String;)V").map (fun d => d.parameters.length) = some 1)⟩ (hm_recv hK I rfl c9) I ⟨rfl, rfl⟩ ⟨⟨Nat.le_of_ble_eq_true rfl, Nat.le_of_ble_eq_true rfl⟩, Nat.le_of_ble_eq_true rfl, Nat.le_of_ble_eq_true rfl⟩ rfl (Nat.le_of_ble_eq_true rfl) d186_48 (fun vv h49 z50 H locs hR I9 => ?_)
      obtain ⟨e1, hF⟩ := hR
      subst e1
      clear I
      have I := I9
      clear I9 c9 fs9
      refine W.eq (g2 := F0 m 51 ls []) rfl ?_
      refine lv_aload_n hx hb d186_51 rfl (lv_at hl 0 rfl) ?_
      refine hz_ldc (xs := [61, 34]) hE X I 16 rfl hown d186_52 (fun a51 u9 z9 => ?_)
      have hF := hF _ _ z9
      obtain ⟨fs9, c9, hF⟩ := hF
      refine ht_V (C := "MarkupStore$Scribe") (rest := []) (as := [.ref a51]) X hl (cw_Scribe_putAll l D dA s0 hE y0 (some a51) h49 z50 _ hF) (List.forall_mem_cons.mpr ⟨ms_k1273, List.forall_mem_cons.mpr ⟨ms_k1275, List.forall_mem_cons.mpr ⟨ms_p40, List.forall_mem_cons.mpr ⟨ms_k30, List.forall_mem_cons.mpr ⟨ms_k1276, fun _ h => absurd h List.not_mem_nil⟩⟩⟩⟩⟩) ⟨rfl, by decide +kernel, by decide +kernel, (by decide +kernel : (parseMethodDescriptor "(Ljava/lang/String;)V").map (fun d => d.parameters.length) = some 1)⟩ (hm_recv hK I rfl c9) I ⟨rfl, rfl⟩ ⟨⟨Nat.le_of_ble_eq_true rfl, Nat.le_of_ble_eq_true rfl⟩, Nat.le_of_ble_eq_true rfl, Nat.le_of_ble_eq_true rfl⟩ rfl (Nat.le_of_ble_eq_true rfl) d186_54 (fun vv h53 z54 H locs hR I9 => ?_)
      obtain ⟨e1, hF⟩ := hR
      subst e1
      clear I
      have I := I9
      clear I9 c9 fs9
      refine W.eq (g2 := F0 m 57 ls []) rfl ?_
      refine lv_aload_n hx hb d186_57 rfl (lv_at hl 0 rfl) ?_
      refine lv_aload_nR hx hb d186_58 rfl (lv_at hl 1 rfl) ?_
      obtain ⟨a55, e9, hF⟩ := hF
      refine W.eq (g2 := F0 m 59 ls [.ref a55, .ref y0]) (by rw [e9]; rfl) ?_
      clear e9
      obtain ⟨fs9, v56, c9, e9, hF⟩ := hF
      refine va_get (D := D) (ci := 8) (v := va_rf v56) (C := kR8) (T := kT8) (N := 9) hx hb hts ku8 hown hK (hm_one I.1 c9) 0 rfl rfl 4 (by decide) (hts _ ms_k456) (fun _ h => h) e9 d186_59 ?_
      clear e9 c9 fs9
      refine lv_iload_n hx hb d186_62 rfl (lv_at hl 3 rfl) ?_
      obtain ⟨a57, e9, hF⟩ := hF
      refine W.eq (g2 := F0 m 63 ls [.int x3, .ref a57, .ref y0]) (by rw [e9]; rfl) ?_
      clear e9
      obtain ⟨d9, k9, mo9, n8, j9, q9, f8, c9, c8, e8, p1, p2, p3, p4, hF⟩ := hF
      refine ms_top (y := nI j9) e8 ?_
      refine ht_V (C := "java/util/ArrayList") (rest := [.ref y0]) (as := [.int (nI j9)]) X hl (c_ALget l D dA s0 hE a57 d9 k9 mo9 n8 j9 q9 f8 p1 p2 p3 p4) (List.forall_mem_cons.mpr ⟨ms_k1289, List.forall_mem_cons.mpr ⟨ms_k599, List.forall_mem_cons.mpr ⟨ms_k600, List.forall_mem_cons.mpr ⟨ms_k18, List.forall_mem_cons.mpr ⟨ms_k601, fun _ h => absurd h List.not_mem_nil⟩⟩⟩⟩⟩) ⟨rfl, by decide +kernel, by decide +kernel, (by decide +kernel : (parseMethodDescriptor "(I)Ljava/lang/Object;").map (fun d => d.parameters.length) = some 1)⟩ (hm_recv hK I rfl c9) I ⟨c9, c8⟩ ⟨⟨Nat.le_of_ble_eq_true rfl, Nat.le_of_ble_eq_true rfl⟩, Nat.le_of_ble_eq_true rfl, Nat.le_of_ble_eq_true rfl⟩ rfl (Nat.le_of_ble_eq_true rfl) d186_63 (fun vv h9 z7 H locs hR I9 => ?_)
      obtain ⟨e1, e2, e3⟩ := hR
      rw [e2, e3] at I9
      subst e1
      clear I
      have I := I9
      clear I9 e2 e3 h9 z7
      refine W.eq (g2 := F0 m 66 ls [.ref q9, .ref y0]) rfl ?_
      generalize q9 = v58 at hF ⊢
      try clear p4
      obtain ⟨fs9, c9, hF⟩ := hF
      refine va_castE hx hb hown (hts _ ms_k1290) (hm_recv hK I rfl c9) d186_66 ?_
      clear c9 fs9
      obtain ⟨fs9, c9, hF⟩ := hF
      refine ht_V (C := "MarkupStore$Attribute") (rest := [.ref y0]) (as := []) X hl (cw_Attribute_value l D dA s0 hE v58 h53 z54 _ hF) (List.forall_mem_cons.mpr ⟨ms_k1293, List.forall_mem_cons.mpr ⟨ms_k1115, List.forall_mem_cons.mpr ⟨ms_k1116, List.forall_mem_cons.mpr ⟨ms_k22, List.forall_mem_cons.mpr ⟨ms_k1117, fun _ h => absurd h List.not_mem_nil⟩⟩⟩⟩⟩) ⟨rfl, by decide +kernel, by decide +kernel, (by decide +kernel : (parseMethodDescriptor "()Ljava/lang/String;").map (fun d => d.parameters.length) = some 0)⟩ (hm_recv hK I rfl c9) I ⟨rfl, rfl⟩ ⟨⟨Nat.le_of_ble_eq_true rfl, Nat.le_of_ble_eq_true rfl⟩, Nat.le_of_ble_eq_true rfl, Nat.le_of_ble_eq_true rfl⟩ rfl (Nat.le_of_ble_eq_true rfl) d186_69 (fun vv h60 z61 H locs hR I9 => ?_)
      obtain ⟨v59, e1, hF⟩ := hR
      subst e1
      clear I
      have I := I9
      clear I9 c9 fs9
      refine W.eq (g2 := F0 m 72 ls [va_rf v59, .ref y0]) rfl ?_
      refine lv_bipush (v := 34) hx hb d186_72 (by decide) ?_
      refine hz_ldc (xs := [38, 113, 117, 111, 116, 59]) hE X I 17 rfl hown d186_74 (fun a62 u9 z9 => ?_)
      have hF := hF _ _ z9
      obtain ⟨fs9, c9, hF⟩ := hF
      refine ht_V (C := "MarkupStore$Scribe") (rest := []) (as := [va_rf v59, .int 34, .ref a62]) X hl (cw_Scribe_putValue l D dA s0 hE y0 v59 34 (some a62) h60 z61 _ hF) (List.forall_mem_cons.mpr ⟨ms_k1295, List.forall_mem_cons.mpr ⟨ms_k1297, List.forall_mem_cons.mpr ⟨ms_p43, List.forall_mem_cons.mpr ⟨ms_k30, List.forall_mem_cons.mpr ⟨ms_k1298, fun _ h => absurd h List.not_mem_nil⟩⟩⟩⟩⟩) ⟨rfl, by decide +kernel, by decide +kernel, (by decide +kernel : (parseMethodDescriptor "(Ljava/lang/String;CLjava/lang/String;)V").map (fun d => d.parameters.length) = some 3)⟩ (hm_recv hK I rfl c9) I ⟨rfl, rfl⟩ ⟨⟨Nat.le_of_ble_eq_true rfl, Nat.le_of_ble_eq_true rfl⟩, Nat.le_of_ble_eq_true rfl, Nat.le_of_ble_eq_true rfl⟩ rfl (Nat.le_of_ble_eq_true rfl) d186_76 (fun vv h64 z65 H locs hR I9 => ?_)
      obtain ⟨e1, hF⟩ := hR
      subst e1
      clear I
      have I := I9
      clear I9 c9 fs9
      refine W.eq (g2 := F0 m 79 ls []) rfl ?_
      refine lv_aload_n hx hb d186_79 rfl (lv_at hl 0 rfl) ?_
      refine lv_bipush (v := 34) hx hb d186_80 (by decide) ?_
      obtain ⟨fs9, c9, hF⟩ := hF
      refine ht_V (C := "MarkupStore$Scribe") (rest := []) (as := [.int 34]) X hl (cw_Scribe_put l D dA s0 hE y0 34 h64 z65 _ hF) (List.forall_mem_cons.mpr ⟨ms_k1279, List.forall_mem_cons.mpr ⟨ms_k1281, List.forall_mem_cons.mpr ⟨ms_p41, List.forall_mem_cons.mpr ⟨ms_k30, List.forall_mem_cons.mpr ⟨ms_k1282, fun _ h => absurd h List.not_mem_nil⟩⟩⟩⟩⟩) ⟨rfl, by decide +kernel, by decide +kernel, (by decide +kernel : (parseMethodDescriptor "(C)V").map (fun d => d.parameters.length) = some 1)⟩ (hm_recv hK I rfl c9) I ⟨rfl, rfl⟩ ⟨⟨Nat.le_of_ble_eq_true rfl, Nat.le_of_ble_eq_true rfl⟩, Nat.le_of_ble_eq_true rfl, Nat.le_of_ble_eq_true rfl⟩ rfl (Nat.le_of_ble_eq_true rfl) d186_82 (fun vv h67 z68 H locs hR I9 => ?_)
      obtain ⟨e1, hF⟩ := hR
      subst e1
      clear I
      have I := I9
      clear I9 c9 fs9
      refine W.eq (g2 := F0 m 85 ls []) rfl ?_
      refine lv_iinc (k := 3) (v := (x3 + 1)) hx hb d186_85 hl rfl (rfl) (by decide) rfl (fun ls hl => ?_)
      have hl : lv_has ls 4 [(3, .int (x3 + 1)), (0, .ref y0), (1, va_rf x1), (2, .int x2)] := hl
      refine lv_goto hx hb d186_88 rfl ?_
      exact hk16 ls x1 x2 (x3 + 1) h67 z68 _ _ hF (hl.sub [1, 2, 3, 0] rfl) I
  have hF := hg
  unfold w_Scribe_putStart at hF
  clear h z
  refine lv_aload_n hx hb d186_0 rfl (lv_at hl 0 rfl) ?_
  refine lv_bipush (v := 60) hx hb d186_1 (by decide) ?_
  obtain ⟨fs9, c9, hF⟩ := hF
  refine ht_V (C := "MarkupStore$Scribe") (rest := []) (as := [.int 60]) X hl (cw_Scribe_put l D dA s0 hE y0 60 h0 z0 _ hF) (List.forall_mem_cons.mpr ⟨ms_k1279, List.forall_mem_cons.mpr ⟨ms_k1281, List.forall_mem_cons.mpr ⟨ms_p41, List.forall_mem_cons.mpr ⟨ms_k30, List.forall_mem_cons.mpr ⟨ms_k1282, fun _ h => absurd h List.not_mem_nil⟩⟩⟩⟩⟩) ⟨rfl, by decide +kernel, by decide +kernel, (by decide +kernel : (parseMethodDescriptor "(C)V").map (fun d => d.parameters.length) = some 1)⟩ (hm_recv hK I rfl c9) I ⟨rfl, rfl⟩ ⟨⟨Nat.le_of_ble_eq_true rfl, Nat.le_of_ble_eq_true rfl⟩, Nat.le_of_ble_eq_true rfl, Nat.le_of_ble_eq_true rfl⟩ rfl (Nat.le_of_ble_eq_true rfl) d186_3 (fun vv h22 z23 H locs hR I9 => ?_)
  obtain ⟨e1, hF⟩ := hR
  subst e1
  clear I
  have I := I9
  clear I9 c9 fs9
  refine W.eq (g2 := F0 m 6 ls []) rfl ?_
  refine lv_aload_n hx hb d186_6 rfl (lv_at hl 0 rfl) ?_
  refine lv_aload_nR hx hb d186_7 rfl (lv_at hl 1 rfl) ?_
  obtain ⟨a24, e9, hF⟩ := hF
  refine W.eq (g2 := F0 m 8 ls [.ref a24, .ref y0]) (by rw [e9]; rfl) ?_
  clear e9
  obtain ⟨fs9, v25, c9, e9, hF⟩ := hF
  refine va_get (D := D) (ci := 8) (v := va_rf v25) (C := kR8) (T := kT8) (N := 9) hx hb hts ku8 hown hK (hm_one I.1 c9) 0 rfl rfl 7 (by decide) (hts _ ms_k467) (fun _ h => h) e9 d186_8 ?_
  clear e9 c9 fs9
  obtain ⟨fs9, c9, hF⟩ := hF
  refine ht_V (C := "MarkupStore$Scribe") (rest := []) (as := [va_rf v25]) X hl (cw_Scribe_putAll l D dA s0 hE y0 v25 h22 z23 _ hF) (List.forall_mem_cons.mpr ⟨ms_k1273, List.forall_mem_cons.mpr ⟨ms_k1275, List.forall_mem_cons.mpr ⟨ms_p40, List.forall_mem_cons.mpr ⟨ms_k30, List.forall_mem_cons.mpr ⟨ms_k1276, fun _ h => absurd h List.not_mem_nil⟩⟩⟩⟩⟩) ⟨rfl, by decide +kernel, by decide +kernel, (by decide +kernel : (parseMethodDescriptor "(Ljava/lang/String;)V").map (fun d => d.parameters.length) = some 1)⟩ (hm_recv hK I rfl c9) I ⟨rfl, rfl⟩ ⟨⟨Nat.le_of_ble_eq_true rfl, Nat.le_of_ble_eq_true rfl⟩, Nat.le_of_ble_eq_true rfl, Nat.le_of_ble_eq_true rfl⟩ rfl (Nat.le_of_ble_eq_true rfl) d186_11 (fun vv h27 z28 H locs hR I9 => ?_)
  obtain ⟨e1, hF⟩ := hR
  subst e1
  clear I
  have I := I9
  clear I9 c9 fs9
  refine W.eq (g2 := F0 m 14 ls []) rfl ?_
  refine lv_iconst (v := 0) hx hb d186_14 (by decide) ?_
  refine lv_istore_n hx hb d186_15 rfl hl (by decide) rfl (fun ls hl => ?_)
  have hl : lv_has ls 4 [(3, .int 0), (0, .ref y0), (1, va_rf y1), (2, .int y2)] := hl
  exact b16 mF ls y1 y2 0 h27 z28 _ _ hF (hl.sub [1, 2, 3, 0] rfl) I

def w_Scribe_write_133 (dA : Nat → ClassId) (y0 : Nat) (K : hm_T → hz_T → Prop) (k4 : Option Nat → Option Nat → Int32 → hm_T → hz_T → Prop) (x1 : Option Nat) (x2 : Option Nat) (x3 : Int32) (h : hm_T) (z : hz_T) : Prop := (k4 x1 x2 (x3 + 1) h z)
def w_Scribe_write_83 (dA : Nat → ClassId) (y0 : Nat) (K : hm_T → hz_T → Prop) (k4 : Option Nat → Option Nat → Int32 → hm_T → hz_T → Prop) (x1 : Option Nat) (x3 : Int32) (w0 : Option Nat) (h : hm_T) (z : hz_T) : Prop := (w_Scribe_write_133 dA y0 K k4 x1 w0 x3 h z)
def w_Scribe_write_62 (dA : Nat → ClassId) (y0 : Nat) (K : hm_T → hz_T → Prop) (k4 : Option Nat → Option Nat → Int32 → hm_T → hz_T → Prop) (x1 : Option Nat) (x2 : Option Nat) (x3 : Int32) (x4 : Option Nat) (w0 : Int32) (h : hm_T) (z : hz_T) : Prop := (cg_c h 7 y0 ((w_Scribe_putStart dA y0 x4 w0 (fun h65 z66 => (if w0 = 0 then (w_Scribe_write_83 dA y0 K k4 x1 x3 x2 h65 z66) else (w_Scribe_write_83 dA y0 K k4 x1 x3 x4 h65 z66))) h z)))
def w_Scribe_write_4 (dA : Nat → ClassId) (y0 : Nat) (K : hm_T → hz_T → Prop) : Nat → Option Nat → Option Nat → Int32 → hm_T → hz_T → Prop
  | 0, _, _, _, _, _ => False
  | n9 + 1, x1, x2, x3, h, z => (cg_d x1 (fun a21 => (cg_I h 1 3 a21 (fun v22 => (if v22 ≤ x3 then (cg_c h 7 y0 ((w_Scribe_closeUpTo dA y0 x2 none (fun h24 z25 => (K h24 z25)) h z))) else (cg_d x1 (fun a26 => (cg_R h 1 2 a26 (fun v27 => (cg_d v27 (fun a28 => (cg_ar dA h 5 a28 x3 (fun v29 => (cg_d v29 (fun a30 => (cg_R h 8 1 a30 (fun v31 => (cg_c h 7 y0 ((w_Scribe_closeUpTo dA y0 x2 v31 (fun h33 z34 => (cg_d v29 (fun a35 => (cg_R h33 8 1 a35 (fun v36 => (cg_d v29 (fun a37 => (cg_I h33 8 0 a37 (fun v38 => (if v38 = 1 then (cg_d x1 (fun a60 => (cg_c h33 1 a60 ((w_Tree_endOf dA a60 v29 (fun v61 h62 z63 => (if v61 ≤ (x3 + 1) then (w_Scribe_write_62 dA y0 K (w_Scribe_write_4 dA y0 K n9) x1 v36 x3 v29 0 h62 z63) else (w_Scribe_write_62 dA y0 K (w_Scribe_write_4 dA y0 K n9) x1 v36 x3 v29 1 h62 z63))) h33 z34))))) else (cg_d v29 (fun a39 => (cg_I h33 8 0 a39 (fun v40 => (if v40 = 2 then (cg_d v29 (fun a54 => (cg_R h33 8 7 a54 (fun v55 => (cg_lit z34 [38, 103, 116, 59] (fun a56 => (cg_c h33 7 y0 ((w_Scribe_putValue dA y0 v55 62 (some a56) (fun h58 z59 => (w_Scribe_write_133 dA y0 K (w_Scribe_write_4 dA y0 K n9) x1 v36 x3 h58 z59)) h33 z34))))))))) else (cg_lit z34 [60, 33, 45, 45] (fun a41 => (cg_c h33 7 y0 ((w_Scribe_putAll dA y0 (some a41) (fun h43 z44 => (cg_d v29 (fun a45 => (cg_R h43 8 7 a45 (fun v46 => (cg_c h43 7 y0 ((w_Scribe_putAll dA y0 v46 (fun h48 z49 => (cg_lit z49 [45, 45, 62] (fun a50 => (cg_c h48 7 y0 ((w_Scribe_putAll dA y0 (some a50) (fun h52 z53 => (w_Scribe_write_133 dA y0 K (w_Scribe_write_4 dA y0 K n9) x1 v36 x3 h52 z53)) h48 z49)))))) h43 z44)))))))) h33 z34)))))))))))))))))))) h z))))))))))))))))))))
def w_Scribe_write (dA : Nat → ClassId) (y0 : Nat) (y1 : Option Nat) (K : hm_T → hz_T → Prop) (h0 : hm_T) (z0 : hz_T) : Prop := (w_Scribe_write_4 dA y0 K mF y1 none 0 h0 z0)
set_option maxRecDepth 100000 in
set_option maxHeartbeats 8000000 in
theorem cw_Scribe_write (l : Launch) (D : va_G) (dA : Nat → ClassId) (s0 : State) (hE : ms_EV D dA s0) (y0 : Nat) (y1 : Option Nat) (h0 : hm_T) (z0 : hz_T) (K : hm_T → hz_T → Prop) (hg : w_Scribe_write dA y0 y1 K h0 z0) : ht_C l D s0 yM187 bM187 6 (Option.none : Option Jvm.ClassFile.FieldType) 7 155 0 0 [.ref y0, va_rf y1] (fun h z => h = h0 ∧ z = z0) (fun h z vv h1 z1 => vv = none ∧ K h1 z1) := by
  refine ht_C.mk hE.1 (by decide) (by simp [lg_sl, cat_rf, cat_int, cat_ref, cat_null, cat_long]) [(0, .ref y0), (1, va_rf y1)] (by simp [lv_args, cat_rf, cat_int, cat_ref, cat_null, cat_long]) ?_
  intro p e s m below meth c ls h z X hin hpre I hl
  have hx := X.1
  have hb := X.2.1
  have hml := X.2.2.1
  have hown : s.vm.findClass "MarkupStore$Scribe" = some m.cls := X.2.2.2.1
  have hts := X.2.2.2.2.2.2.1
  have hK := X.2.2.2.2.2.2.2.2.1
  rw [hpre.1, hpre.2] at I
  clear hpre
  have b133 : ∀ (k4 : Option Nat → Option Nat → Int32 → hm_T → hz_T → Prop), (∀ (ls : Array Slot) (x1 : Option Nat) (x2 : Option Nat) (x3 : Int32) (h : hm_T) (z : hz_T) (H : Heap) (locs : List Loc), k4 x1 x2 x3 h z → lv_has ls 6 [(0, .ref y0), (1, va_rf x1), (2, va_rf x2), (3, .int x3)] → hm_I D s0 s h z H locs → W p l e { frames := 7, cells := 0, slots := 0, locals := 155 } s m ([.ref y0, va_rf y1] : List Value).toArray below meth c H locs 0 0 (MQ below (ht_Q D s0 (fun vv h1 z1 => vv = none ∧ K h1 z1)) ([.ref y0, va_rf y1] : List Value).toArray s 0 0 (fun q => s0.heap.size ≤ q)) (F0 m 4 ls [])) → ∀ (ls : Array Slot) (x1 : Option Nat) (x2 : Option Nat) (x3 : Int32) (h : hm_T) (z : hz_T) (H : Heap) (locs : List Loc), w_Scribe_write_133 dA y0 K k4 x1 x2 x3 h z → lv_has ls 6 [(0, .ref y0), (1, va_rf x1), (2, va_rf x2), (3, .int x3)] → hm_I D s0 s h z H locs → W p l e { frames := 7, cells := 0, slots := 0, locals := 155 } s m ([.ref y0, va_rf y1] : List Value).toArray below meth c H locs 0 0 (MQ below (ht_Q D s0 (fun vv h1 z1 => vv = none ∧ K h1 z1)) ([.ref y0, va_rf y1] : List Value).toArray s 0 0 (fun q => s0.heap.size ≤ q)) (F0 m 133 ls []) := by
    intro k4 hk4 ls x1 x2 x3 h z H locs hF hl I
    unfold w_Scribe_write_133 at hF
    refine lv_iinc (k := 3) (v := (x3 + 1)) hx hb d187_133 hl rfl (rfl) (by decide) (show _ = [(3, .int (x3 + 1)), (0, .ref y0), (1, va_rf x1), (2, va_rf x2)] by simp [cat_rf, cat_int, cat_ref, cat_null, cat_long]) (fun ls hl => ?_)
    have hl : lv_has ls 6 [(3, .int (x3 + 1)), (0, .ref y0), (1, va_rf x1), (2, va_rf x2)] := hl
    refine lv_goto hx hb d187_136 rfl ?_
    exact hk4 ls x1 x2 (x3 + 1) h z _ _ hF (hl.sub [1, 2, 3, 0] rfl) I
  have b83 : ∀ (k4 : Option Nat → Option Nat → Int32 → hm_T → hz_T → Prop), (∀ (ls : Array Slot) (x1 : Option Nat) (x2 : Option Nat) (x3 : Int32) (h : hm_T) (z : hz_T) (H : Heap) (locs : List Loc), k4 x1 x2 x3 h z → lv_has ls 6 [(0, .ref y0), (1, va_rf x1), (2, va_rf x2), (3, .int x3)] → hm_I D s0 s h z H locs → W p l e { frames := 7, cells := 0, slots := 0, locals := 155 } s m ([.ref y0, va_rf y1] : List Value).toArray below meth c H locs 0 0 (MQ below (ht_Q D s0 (fun vv h1 z1 => vv = none ∧ K h1 z1)) ([.ref y0, va_rf y1] : List Value).toArray s 0 0 (fun q => s0.heap.size ≤ q)) (F0 m 4 ls [])) → ∀ (ls : Array Slot) (x1 : Option Nat) (x3 : Int32) (w0 : Option Nat) (h : hm_T) (z : hz_T) (H : Heap) (locs : List Loc), w_Scribe_write_83 dA y0 K k4 x1 x3 w0 h z → lv_has ls 6 [(0, .ref y0), (1, va_rf x1), (3, .int x3)] → hm_I D s0 s h z H locs → W p l e { frames := 7, cells := 0, slots := 0, locals := 155 } s m ([.ref y0, va_rf y1] : List Value).toArray below meth c H locs 0 0 (MQ below (ht_Q D s0 (fun vv h1 z1 => vv = none ∧ K h1 z1)) ([.ref y0, va_rf y1] : List Value).toArray s 0 0 (fun q => s0.heap.size ≤ q)) (F0 m 83 ls [va_rf w0]) := by
    intro k4 hk4 ls x1 x3 w0 h z H locs hF hl I
    unfold w_Scribe_write_83 at hF
    refine lv_astore_nR (i := 2) hx hb d187_83 rfl hl (by decide) (show _ = [(2, va_rf w0), (0, .ref y0), (1, va_rf x1), (3, .int x3)] by simp [cat_rf, cat_int, cat_ref, cat_null, cat_long]) (fun ls hl => ?_)
    have hl : lv_has ls 6 [(2, va_rf w0), (0, .ref y0), (1, va_rf x1), (3, .int x3)] := hl
    refine lv_goto hx hb d187_84 rfl ?_
    exact b133 k4 hk4 ls x1 w0 x3 h z _ _ hF (hl.sub [1, 2, 0, 3] rfl) I
  have b62 : ∀ (k4 : Option Nat → Option Nat → Int32 → hm_T → hz_T → Prop), (∀ (ls : Array Slot) (x1 : Option Nat) (x2 : Option Nat) (x3 : Int32) (h : hm_T) (z : hz_T) (H : Heap) (locs : List Loc), k4 x1 x2 x3 h z → lv_has ls 6 [(0, .ref y0), (1, va_rf x1), (2, va_rf x2), (3, .int x3)] → hm_I D s0 s h z H locs → W p l e { frames := 7, cells := 0, slots := 0, locals := 155 } s m ([.ref y0, va_rf y1] : List Value).toArray below meth c H locs 0 0 (MQ below (ht_Q D s0 (fun vv h1 z1 => vv = none ∧ K h1 z1)) ([.ref y0, va_rf y1] : List Value).toArray s 0 0 (fun q => s0.heap.size ≤ q)) (F0 m 4 ls [])) → ∀ (ls : Array Slot) (x1 : Option Nat) (x2 : Option Nat) (x3 : Int32) (x4 : Option Nat) (w0 : Int32) (h : hm_T) (z : hz_T) (H : Heap) (locs : List Loc), w_Scribe_write_62 dA y0 K k4 x1 x2 x3 x4 w0 h z → lv_has ls 6 [(0, .ref y0), (1, va_rf x1), (2, va_rf x2), (3, .int x3), (4, va_rf x4)] → hm_I D s0 s h z H locs → W p l e { frames := 7, cells := 0, slots := 0, locals := 155 } s m ([.ref y0, va_rf y1] : List Value).toArray below meth c H locs 0 0 (MQ below (ht_Q D s0 (fun vv h1 z1 => vv = none ∧ K h1 z1)) ([.ref y0, va_rf y1] : List Value).toArray s 0 0 (fun q => s0.heap.size ≤ q)) (F0 m 62 ls [.int w0]) := by
    intro k4 hk4 ls x1 x2 x3 x4 w0 h z H locs hF hl I
    unfold w_Scribe_write_62 at hF
    refine lv_istore (i := 5) hx hb d187_62 hl (by decide) (show _ = [(5, .int w0), (0, .ref y0), (1, va_rf x1), (2, va_rf x2), (3, .int x3), (4, va_rf x4)] by simp [cat_rf, cat_int, cat_ref, cat_null, cat_long]) (fun ls hl => ?_)
    have hl : lv_has ls 6 [(5, .int w0), (0, .ref y0), (1, va_rf x1), (2, va_rf x2), (3, .int x3), (4, va_rf x4)] := hl
    refine lv_aload_n hx hb d187_64 rfl (lv_at hl 1 rfl) ?_
    refine lv_aloadR hx hb d187_65 (lv_at hl 5 rfl) ?_
    refine lv_iload hx hb d187_67 (lv_at hl 0 rfl) ?_
    obtain ⟨fs9, c9, hF⟩ := hF
    refine ht_V (C := "MarkupStore$Scribe") (rest := []) (as := [va_rf x4, .int w0]) X hl (cw_Scribe_putStart l D dA s0 hE y0 x4 w0 h z _ hF) (List.forall_mem_cons.mpr ⟨ms_k1284, List.forall_mem_cons.mpr ⟨ms_k1286, List.forall_mem_cons.mpr ⟨ms_p42, List.forall_mem_cons.mpr ⟨ms_k30, List.forall_mem_cons.mpr ⟨ms_k1287, fun _ h => absurd h List.not_mem_nil⟩⟩⟩⟩⟩) ⟨rfl, by decide +kernel, by decide +kernel, (by decide +kernel : (parseMethodDescriptor "(LMarkupStore$Node;Z)V").map (fun d => d.parameters.length) = some 2)⟩ (hm_recv hK I rfl c9) I ⟨rfl, rfl⟩ ⟨⟨Nat.le_of_ble_eq_true rfl, Nat.le_of_ble_eq_true rfl⟩, Nat.le_of_ble_eq_true rfl, Nat.le_of_ble_eq_true rfl⟩ rfl (Nat.le_of_ble_eq_true rfl) d187_69 (fun vv h65 z66 H locs hR I9 => ?_)
    obtain ⟨e1, hF⟩ := hR
    subst e1
    clear I
    have I := I9
    clear I9 c9 fs9
    refine W.eq (g2 := F0 m 72 ls []) rfl ?_
    refine lv_iload hx hb d187_72 (lv_at hl 0 rfl) ?_
    refine lv_if_eq hx hb d187_74 rfl (fun h9 => ?_) (fun h9 => ?_)
    · have hF := Eq.mp (if_pos h9) hF
      refine lv_aload_nR hx hb d187_82 rfl (lv_at hl 3 rfl) ?_
      exact b83 k4 hk4 ls x1 x3 x2 h65 z66 _ _ hF (hl.sub [1, 2, 4] rfl) I
    · have hF := Eq.mp (if_neg h9) hF
      refine lv_aloadR hx hb d187_77 (lv_at hl 5 rfl) ?_
      refine lv_goto hx hb d187_79 rfl ?_
      exact b83 k4 hk4 ls x1 x3 x4 h65 z66 _ _ hF (hl.sub [1, 2, 4] rfl) I
  have b4 : ∀ n9 : Nat, ∀ (ls : Array Slot) (x1 : Option Nat) (x2 : Option Nat) (x3 : Int32) (h : hm_T) (z : hz_T) (H : Heap) (locs : List Loc), w_Scribe_write_4 dA y0 K n9 x1 x2 x3 h z → lv_has ls 6 [(0, .ref y0), (1, va_rf x1), (2, va_rf x2), (3, .int x3)] → hm_I D s0 s h z H locs → W p l e { frames := 7, cells := 0, slots := 0, locals := 155 } s m ([.ref y0, va_rf y1] : List Value).toArray below meth c H locs 0 0 (MQ below (ht_Q D s0 (fun vv h1 z1 => vv = none ∧ K h1 z1)) ([.ref y0, va_rf y1] : List Value).toArray s 0 0 (fun q => s0.heap.size ≤ q)) (F0 m 4 ls []) := by
    intro n9
    induction n9 with
    | zero => intro ls x1 x2 x3 h z H locs hF; cases hF
    | succ n9 hk4 =>
    intro ls x1 x2 x3 h z H locs hF hl I
    unfold w_Scribe_write_4 at hF
    refine lv_iload_n hx hb d187_4 rfl (lv_at hl 3 rfl) ?_
    refine lv_aload_nR hx hb d187_5 rfl (lv_at hl 1 rfl) ?_
    obtain ⟨a21, e9, hF⟩ := hF
    refine W.eq (g2 := F0 m 6 ls [.ref a21, .int x3]) (by rw [e9]; rfl) ?_
    clear e9
    obtain ⟨fs9, v22, c9, e9, hF⟩ := hF
    refine va_get (D := D) (ci := 1) (v := .int v22) (C := kR1) (T := kT1) (N := 6) hx hb hts ku1 hown hK (hm_one I.1 c9) 0 rfl rfl 3 (by decide) (hts _ ms_k86) (fun _ h => h) e9 d187_6 ?_
    clear e9 c9 fs9
    refine lv_icmp_ge hx hb d187_9 rfl (fun h9 => ?_) (fun h9 => ?_)
    · have hF := Eq.mp (if_pos h9) hF
      refine lv_aload_n hx hb d187_139 rfl (lv_at hl 0 rfl) ?_
      refine lv_aload_nR hx hb d187_140 rfl (lv_at hl 2 rfl) ?_
      refine lv_null hx hb d187_141 ?_
      obtain ⟨fs9, c9, hF⟩ := hF
      refine ht_V (C := "MarkupStore$Scribe") (rest := []) (as := [va_rf x2, .null]) X hl (cw_Scribe_closeUpTo l D dA s0 hE y0 x2 none h z _ hF) (List.forall_mem_cons.mpr ⟨ms_k1268, List.forall_mem_cons.mpr ⟨ms_k1270, List.forall_mem_cons.mpr ⟨ms_p39, List.forall_mem_cons.mpr ⟨ms_k30, List.forall_mem_cons.mpr ⟨ms_k1271, fun _ h => absurd h List.not_mem_nil⟩⟩⟩⟩⟩) ⟨rfl, by decide +kernel, by decide +kernel, (by decide +kernel : (parseMethodDescriptor "(LMarkupStore$Node;LMarkupStore$Node;)V").map (fun d => d.parameters.length) = some 2)⟩ (hm_recv hK I rfl c9) I ⟨rfl, rfl⟩ ⟨⟨Nat.le_of_ble_eq_true rfl, Nat.le_of_ble_eq_true rfl⟩, Nat.le_of_ble_eq_true rfl, Nat.le_of_ble_eq_true rfl⟩ rfl (Nat.le_of_ble_eq_true rfl) d187_142 (fun vv h24 z25 H locs hR I9 => ?_)
      obtain ⟨e1, hF⟩ := hR
      subst e1
      clear I
      have I := I9
      clear I9 c9 fs9
      refine W.eq (g2 := F0 m 145 ls []) rfl ?_
      exact ht_vret X d187_145 I (Nat.le_of_ble_eq_true rfl) (Nat.le_of_ble_eq_true rfl) ⟨rfl, hF⟩
    · have hF := Eq.mp (if_neg h9) hF
      refine lv_aload_nR hx hb d187_12 rfl (lv_at hl 1 rfl) ?_
      obtain ⟨a26, e9, hF⟩ := hF
      refine W.eq (g2 := F0 m 13 ls [.ref a26]) (by rw [e9]; rfl) ?_
      clear e9
      obtain ⟨fs9, v27, c9, e9, hF⟩ := hF
      refine va_get (D := D) (ci := 1) (v := va_rf v27) (C := kR1) (T := kT1) (N := 6) hx hb hts ku1 hown hK (hm_one I.1 c9) 0 rfl rfl 2 (by decide) (hts _ ms_k83) (fun _ h => h) e9 d187_13 ?_
      clear e9 c9 fs9
      refine lv_iload_n hx hb d187_16 rfl (lv_at hl 3 rfl) ?_
      obtain ⟨a28, e9, hF⟩ := hF
      refine W.eq (g2 := F0 m 17 ls [.int x3, .ref a28]) (by rw [e9]; rfl) ?_
      clear e9
      obtain ⟨n8, f8, c9, i9, hF⟩ := hF
      refine va_aldq hx hb hK (hm_one I.1 c9) 0 5 rfl rfl i9 d187_17 ?_
      generalize f8 (Int32.toNatClampNeg x3) = v29 at hF ⊢
      clear c9 i9
      refine lv_astoreR hx hb d187_18 hl (by decide) rfl (fun ls hl => ?_)
      have hl : lv_has ls 6 [(4, va_rf v29), (0, .ref y0), (1, va_rf x1), (2, va_rf x2), (3, .int x3)] := hl
      refine lv_aload_n hx hb d187_20 rfl (lv_at hl 1 rfl) ?_
      refine lv_aload_nR hx hb d187_21 rfl (lv_at hl 3 rfl) ?_
      refine lv_aloadR hx hb d187_22 (lv_at hl 0 rfl) ?_
      obtain ⟨a30, e9, hF⟩ := hF
      refine W.eq (g2 := F0 m 24 ls [.ref a30, va_rf x2, .ref y0]) (by rw [e9]; rfl) ?_
      clear e9
      obtain ⟨fs9, v31, c9, e9, hF⟩ := hF
      refine va_get (D := D) (ci := 8) (v := va_rf v31) (C := kR8) (T := kT8) (N := 9) hx hb hts ku8 hown hK (hm_one I.1 c9) 0 rfl rfl 1 (by decide) (hts _ ms_k445) (fun _ h => h) e9 d187_24 ?_
      clear e9 c9 fs9
      obtain ⟨fs9, c9, hF⟩ := hF
      refine ht_V (C := "MarkupStore$Scribe") (rest := []) (as := [va_rf x2, va_rf v31]) X hl (cw_Scribe_closeUpTo l D dA s0 hE y0 x2 v31 h z _ hF) (List.forall_mem_cons.mpr ⟨ms_k1268, List.forall_mem_cons.mpr ⟨ms_k1270, List.forall_mem_cons.mpr ⟨ms_p39, List.forall_mem_cons.mpr ⟨ms_k30, List.forall_mem_cons.mpr ⟨ms_k1271, fun _ h => absurd h List.not_mem_nil⟩⟩⟩⟩⟩) ⟨rfl, by decide +kernel, by decide +kernel, (by decide +kernel : (parseMethodDescriptor "(LMarkupStore$Node;LMarkupStore$Node;)V").map (fun d => d.parameters.length) = some 2)⟩ (hm_recv hK I rfl c9) I ⟨rfl, rfl⟩ ⟨⟨Nat.le_of_ble_eq_true rfl, Nat.le_of_ble_eq_true rfl⟩, Nat.le_of_ble_eq_true rfl, Nat.le_of_ble_eq_true rfl⟩ rfl (Nat.le_of_ble_eq_true rfl) d187_27 (fun vv h33 z34 H locs hR I9 => ?_)
      obtain ⟨e1, hF⟩ := hR
      subst e1
      clear I
      have I := I9
      clear I9 c9 fs9
      refine W.eq (g2 := F0 m 30 ls []) rfl ?_
      refine lv_aloadR hx hb d187_30 (lv_at hl 0 rfl) ?_
      obtain ⟨a35, e9, hF⟩ := hF
      refine W.eq (g2 := F0 m 32 ls [.ref a35]) (by rw [e9]; rfl) ?_
      clear e9
      obtain ⟨fs9, v36, c9, e9, hF⟩ := hF
      refine va_get (D := D) (ci := 8) (v := va_rf v36) (C := kR8) (T := kT8) (N := 9) hx hb hts ku8 hown hK (hm_one I.1 c9) 0 rfl rfl 1 (by decide) (hts _ ms_k445) (fun _ h => h) e9 d187_32 ?_
      clear e9 c9 fs9
      refine lv_astore_nR (i := 2) hx hb d187_35 rfl hl (by decide) (show _ = [(2, va_rf v36), (4, va_rf v29), (0, .ref y0), (1, va_rf x1), (3, .int x3)] by simp [cat_rf, cat_int, cat_ref, cat_null, cat_long]) (fun ls hl => ?_)
      have hl : lv_has ls 6 [(2, va_rf v36), (4, va_rf v29), (0, .ref y0), (1, va_rf x1), (3, .int x3)] := hl
      refine lv_aloadR hx hb d187_36 (lv_at hl 1 rfl) ?_
      obtain ⟨a37, e9, hF⟩ := hF
      refine W.eq (g2 := F0 m 38 ls [.ref a37]) (by rw [e9]; rfl) ?_
      clear e9
      obtain ⟨fs9, v38, c9, e9, hF⟩ := hF
      refine va_get (D := D) (ci := 8) (v := .int v38) (C := kR8) (T := kT8) (N := 9) hx hb hts ku8 hown hK (hm_one I.1 c9) 0 rfl rfl 0 (by decide) (hts _ ms_k440) (fun _ h => h) e9 d187_38 ?_
      clear e9 c9 fs9
      refine lv_iconst (v := 1) hx hb d187_41 (by decide) ?_
      refine lv_icmp_ne hx hb d187_42 rfl (fun h9 => ?_) (fun h9 => ?_)
      · have hF := Eq.mp (if_neg h9) hF
        refine lv_aloadR hx hb d187_87 (lv_at hl 1 rfl) ?_
        obtain ⟨a39, e9, hF⟩ := hF
        refine W.eq (g2 := F0 m 89 ls [.ref a39]) (by rw [e9]; rfl) ?_
        clear e9
        obtain ⟨fs9, v40, c9, e9, hF⟩ := hF
        refine va_get (D := D) (ci := 8) (v := .int v40) (C := kR8) (T := kT8) (N := 9) hx hb hts ku8 hown hK (hm_one I.1 c9) 0 rfl rfl 0 (by decide) (hts _ ms_k440) (fun _ h => h) e9 d187_89 ?_
        clear e9 c9 fs9
        refine lv_iconst (v := 2) hx hb d187_92 (by decide) ?_
        refine lv_icmp_ne hx hb d187_93 rfl (fun h9 => ?_) (fun h9 => ?_)
        · have hF := Eq.mp (if_neg h9) hF
          refine lv_aload_n hx hb d187_112 rfl (lv_at hl 2 rfl) ?_
          refine hz_ldc (xs := [60, 33, 45, 45]) hE X I 23 rfl hown d187_113 (fun a41 u9 z9 => ?_)
          have hF := hF _ _ z9
          obtain ⟨fs9, c9, hF⟩ := hF
          refine ht_V (C := "MarkupStore$Scribe") (rest := []) (as := [.ref a41]) X hl (cw_Scribe_putAll l D dA s0 hE y0 (some a41) h33 z34 _ hF) (List.forall_mem_cons.mpr ⟨ms_k1273, List.forall_mem_cons.mpr ⟨ms_k1275, List.forall_mem_cons.mpr ⟨ms_p40, List.forall_mem_cons.mpr ⟨ms_k30, List.forall_mem_cons.mpr ⟨ms_k1276, fun _ h => absurd h List.not_mem_nil⟩⟩⟩⟩⟩) ⟨rfl, by decide +kernel, by decide +kernel, (by decide +kernel : (parseMethodDescriptor "(Ljava/lang/String;)V").map (fun d => d.parameters.length) = some 1)⟩ (hm_recv hK I rfl c9) I ⟨rfl, rfl⟩ ⟨⟨Nat.le_of_ble_eq_true rfl, Nat.le_of_ble_eq_true rfl⟩, Nat.le_of_ble_eq_true rfl, Nat.le_of_ble_eq_true rfl⟩ rfl (Nat.le_of_ble_eq_true rfl) d187_115 (fun vv h43 z44 H locs hR I9 => ?_)
          obtain ⟨e1, hF⟩ := hR
          subst e1
          clear I
          have I := I9
          clear I9 c9 fs9
          refine W.eq (g2 := F0 m 118 ls []) rfl ?_
          refine lv_aload_n hx hb d187_118 rfl (lv_at hl 2 rfl) ?_
          refine lv_aloadR hx hb d187_119 (lv_at hl 1 rfl) ?_
          obtain ⟨a45, e9, hF⟩ := hF
          refine W.eq (g2 := F0 m 121 ls [.ref a45, .ref y0]) (by rw [e9]; rfl) ?_
          clear e9
          obtain ⟨fs9, v46, c9, e9, hF⟩ := hF
          refine va_get (D := D) (ci := 8) (v := va_rf v46) (C := kR8) (T := kT8) (N := 9) hx hb hts ku8 hown hK (hm_one I.1 c9) 0 rfl rfl 7 (by decide) (hts _ ms_k467) (fun _ h => h) e9 d187_121 ?_
          clear e9 c9 fs9
          obtain ⟨fs9, c9, hF⟩ := hF
          refine ht_V (C := "MarkupStore$Scribe") (rest := []) (as := [va_rf v46]) X hl (cw_Scribe_putAll l D dA s0 hE y0 v46 h43 z44 _ hF) (List.forall_mem_cons.mpr ⟨ms_k1273, List.forall_mem_cons.mpr ⟨ms_k1275, List.forall_mem_cons.mpr ⟨ms_p40, List.forall_mem_cons.mpr ⟨ms_k30, List.forall_mem_cons.mpr ⟨ms_k1276, fun _ h => absurd h List.not_mem_nil⟩⟩⟩⟩⟩) ⟨rfl, by decide +kernel, by decide +kernel, (by decide +kernel : (parseMethodDescriptor "(Ljava/lang/String;)V").map (fun d => d.parameters.length) = some 1)⟩ (hm_recv hK I rfl c9) I ⟨rfl, rfl⟩ ⟨⟨Nat.le_of_ble_eq_true rfl, Nat.le_of_ble_eq_true rfl⟩, Nat.le_of_ble_eq_true rfl, Nat.le_of_ble_eq_true rfl⟩ rfl (Nat.le_of_ble_eq_true rfl) d187_124 (fun vv h48 z49 H locs hR I9 => ?_)
          obtain ⟨e1, hF⟩ := hR
          subst e1
          clear I
          have I := I9
          clear I9 c9 fs9
          refine W.eq (g2 := F0 m 127 ls []) rfl ?_
          refine lv_aload_n hx hb d187_127 rfl (lv_at hl 2 rfl) ?_
          refine hz_ldc (xs := [45, 45, 62]) hE X I 24 rfl hown d187_128 (fun a50 u9 z9 => ?_)
          have hF := hF _ _ z9
          obtain ⟨fs9, c9, hF⟩ := hF
          refine ht_V (C := "MarkupStore$Scribe") (rest := []) (as := [.ref a50]) X hl (cw_Scribe_putAll l D dA s0 hE y0 (some a50) h48 z49 _ hF) (List.forall_mem_cons.mpr ⟨ms_k1273, List.forall_mem_cons.mpr ⟨ms_k1275, List.forall_mem_cons.mpr ⟨ms_p40, List.forall_mem_cons.mpr ⟨ms_k30, List.forall_mem_cons.mpr ⟨ms_k1276, fun _ h => absurd h List.not_mem_nil⟩⟩⟩⟩⟩) ⟨rfl, by decide +kernel, by decide +kernel, (by decide +kernel : (parseMethodDescriptor "(Ljava/lang/String;)V").map (fun d => d.parameters.length) = some 1)⟩ (hm_recv hK I rfl c9) I ⟨rfl, rfl⟩ ⟨⟨Nat.le_of_ble_eq_true rfl, Nat.le_of_ble_eq_true rfl⟩, Nat.le_of_ble_eq_true rfl, Nat.le_of_ble_eq_true rfl⟩ rfl (Nat.le_of_ble_eq_true rfl) d187_130 (fun vv h52 z53 H locs hR I9 => ?_)
          obtain ⟨e1, hF⟩ := hR
          subst e1
          clear I
          have I := I9
          clear I9 c9 fs9
          refine W.eq (g2 := F0 m 133 ls []) rfl ?_
          exact b133 (w_Scribe_write_4 dA y0 K n9) hk4 ls x1 v36 x3 h52 z53 _ _ hF (hl.sub [2, 3, 0, 4] rfl) I
        · have hF := Eq.mp (if_pos h9) hF
          refine lv_aload_n hx hb d187_96 rfl (lv_at hl 2 rfl) ?_
          refine lv_aloadR hx hb d187_97 (lv_at hl 1 rfl) ?_
          obtain ⟨a54, e9, hF⟩ := hF
          refine W.eq (g2 := F0 m 99 ls [.ref a54, .ref y0]) (by rw [e9]; rfl) ?_
          clear e9
          obtain ⟨fs9, v55, c9, e9, hF⟩ := hF
          refine va_get (D := D) (ci := 8) (v := va_rf v55) (C := kR8) (T := kT8) (N := 9) hx hb hts ku8 hown hK (hm_one I.1 c9) 0 rfl rfl 7 (by decide) (hts _ ms_k467) (fun _ h => h) e9 d187_99 ?_
          clear e9 c9 fs9
          refine lv_bipush (v := 62) hx hb d187_102 (by decide) ?_
          refine hz_ldc (xs := [38, 103, 116, 59]) hE X I 22 rfl hown d187_104 (fun a56 u9 z9 => ?_)
          have hF := hF _ _ z9
          obtain ⟨fs9, c9, hF⟩ := hF
          refine ht_V (C := "MarkupStore$Scribe") (rest := []) (as := [va_rf v55, .int 62, .ref a56]) X hl (cw_Scribe_putValue l D dA s0 hE y0 v55 62 (some a56) h33 z34 _ hF) (List.forall_mem_cons.mpr ⟨ms_k1295, List.forall_mem_cons.mpr ⟨ms_k1297, List.forall_mem_cons.mpr ⟨ms_p43, List.forall_mem_cons.mpr ⟨ms_k30, List.forall_mem_cons.mpr ⟨ms_k1298, fun _ h => absurd h List.not_mem_nil⟩⟩⟩⟩⟩) ⟨rfl, by decide +kernel, by decide +kernel, (by decide +kernel : (parseMethodDescriptor "(Ljava/lang/String;CLjava/lang/String;)V").map (fun d => d.parameters.length) = some 3)⟩ (hm_recv hK I rfl c9) I ⟨rfl, rfl⟩ ⟨⟨Nat.le_of_ble_eq_true rfl, Nat.le_of_ble_eq_true rfl⟩, Nat.le_of_ble_eq_true rfl, Nat.le_of_ble_eq_true rfl⟩ rfl (Nat.le_of_ble_eq_true rfl) d187_106 (fun vv h58 z59 H locs hR I9 => ?_)
          obtain ⟨e1, hF⟩ := hR
          subst e1
          clear I
          have I := I9
          clear I9 c9 fs9
          refine W.eq (g2 := F0 m 109 ls []) rfl ?_
          refine lv_goto hx hb d187_109 rfl ?_
          exact b133 (w_Scribe_write_4 dA y0 K n9) hk4 ls x1 v36 x3 h58 z59 _ _ hF (hl.sub [2, 3, 0, 4] rfl) I
      · have hF := Eq.mp (if_pos h9) hF
        refine lv_aload_nR hx hb d187_45 rfl (lv_at hl 3 rfl) ?_
        refine lv_aloadR hx hb d187_46 (lv_at hl 1 rfl) ?_
        obtain ⟨a60, e9, hF⟩ := hF
        refine W.eq (g2 := F0 m 48 ls [va_rf v29, .ref a60]) (by rw [e9]; rfl) ?_
        clear e9
        obtain ⟨fs9, c9, hF⟩ := hF
        refine ht_V (C := "MarkupStore$Tree") (rest := []) (as := [va_rf v29]) X hl (cw_Tree_endOf l D dA s0 hE a60 v29 h33 z34 _ hF) (List.forall_mem_cons.mpr ⟨ms_k1283, List.forall_mem_cons.mpr ⟨ms_k750, List.forall_mem_cons.mpr ⟨ms_k751, List.forall_mem_cons.mpr ⟨ms_k6, List.forall_mem_cons.mpr ⟨ms_k752, fun _ h => absurd h List.not_mem_nil⟩⟩⟩⟩⟩) ⟨rfl, by decide +kernel, by decide +kernel, (by decide +kernel : (parseMethodDescriptor "(LMarkupStore$Node;)I").map (fun d => d.parameters.length) = some 1)⟩ (hm_recv hK I rfl c9) I ⟨rfl, rfl⟩ ⟨⟨Nat.le_of_ble_eq_true rfl, Nat.le_of_ble_eq_true rfl⟩, Nat.le_of_ble_eq_true rfl, Nat.le_of_ble_eq_true rfl⟩ rfl (Nat.le_of_ble_eq_true rfl) d187_48 (fun vv h62 z63 H locs hR I9 => ?_)
        obtain ⟨v61, e1, hF⟩ := hR
        subst e1
        clear I
        have I := I9
        clear I9 c9 fs9
        refine W.eq (g2 := F0 m 51 ls [.int v61]) rfl ?_
        refine lv_iload_n hx hb d187_51 rfl (lv_at hl 4 rfl) ?_
        refine lv_iconst (v := 1) hx hb d187_52 (by decide) ?_
        refine lv_iadd hx hb d187_53 ?_
        refine lv_icmp_le hx hb d187_54 rfl (fun h9 => ?_) (fun h9 => ?_)
        · have hF := Eq.mp (if_pos h9) hF
          refine lv_iconst (v := 0) hx hb d187_61 (by decide) ?_
          exact b62 (w_Scribe_write_4 dA y0 K n9) hk4 ls x1 v36 x3 v29 0 h62 z63 _ _ hF (hl.sub [2, 3, 0, 4, 1] rfl) I
        · have hF := Eq.mp (if_neg h9) hF
          refine lv_iconst (v := 1) hx hb d187_57 (by decide) ?_
          refine lv_goto hx hb d187_58 rfl ?_
          exact b62 (w_Scribe_write_4 dA y0 K n9) hk4 ls x1 v36 x3 v29 1 h62 z63 _ _ hF (hl.sub [2, 3, 0, 4, 1] rfl) I
  have hF := hg
  unfold w_Scribe_write at hF
  clear h z
  refine lv_null hx hb d187_0 ?_
  refine lv_astore_nN (i := 2) hx hb d187_1 rfl hl (by decide) (show _ = [(2, .null), (0, .ref y0), (1, va_rf y1)] by simp [cat_rf, cat_int, cat_ref, cat_null, cat_long]) (fun ls hl => ?_)
  have hl : lv_has ls 6 [(2, .null), (0, .ref y0), (1, va_rf y1)] := hl
  refine lv_iconst (v := 0) hx hb d187_2 (by decide) ?_
  refine lv_istore_n hx hb d187_3 rfl hl (by decide) rfl (fun ls hl => ?_)
  have hl : lv_has ls 6 [(3, .int 0), (2, .null), (0, .ref y0), (1, va_rf y1)] := hl
  exact b4 mF ls y1 none 0 h0 z0 _ _ hF (hl.sub [2, 3, 1, 0] rfl) I
