theorem ms_k125 : (Jvm.Cond.methodLink "MarkupStoreLaw" (13 : Nat) ({ cls := "MarkupStore", name := "type", desc := "(C)Z" } : Jvm.MethodName)) ∈ ms_tb := ms_i1 125 (by decide +kernel) (by decide +kernel)
theorem ms_k126 : (Jvm.Cond.instanceMethod ({ cls := "MarkupStore", name := "type", desc := "(C)Z" } : Jvm.MethodName)) ∈ ms_tb := ms_i1 126 (by decide +kernel) (by decide +kernel)
theorem ms_k127 : (Jvm.Cond.selects "MarkupStore" ({ cls := "MarkupStore", name := "type", desc := "(C)Z" } : Jvm.MethodName) ({ cls := "MarkupStore", name := "type", desc := "(C)Z" } : Jvm.MethodName)) ∈ ms_tb := ms_i1 127 (by decide +kernel) (by decide +kernel)
theorem ms_k128 : (Jvm.Cond.code ({ cls := "MarkupStore", name := "type", desc := "(C)Z" } : Jvm.MethodName) prog_1_method_2_code (2 : Nat) (Option.some Jvm.ClassFile.FieldType.boolean)) ∈ ms_tb := ms_i1 128 (by decide +kernel) (by decide +kernel)
theorem ms_k231 : (Jvm.Cond.methodLink "MarkupStoreLaw" (18 : Nat) ({ cls := "MarkupStore", name := "load", desc := "()I" } : Jvm.MethodName)) ∈ ms_tb := ms_i1 231 (by decide +kernel) (by decide +kernel)
theorem ms_k232 : (Jvm.Cond.instanceMethod ({ cls := "MarkupStore", name := "load", desc := "()I" } : Jvm.MethodName)) ∈ ms_tb := ms_i1 232 (by decide +kernel) (by decide +kernel)
theorem ms_k233 : (Jvm.Cond.selects "MarkupStore" ({ cls := "MarkupStore", name := "load", desc := "()I" } : Jvm.MethodName) ({ cls := "MarkupStore", name := "load", desc := "()I" } : Jvm.MethodName)) ∈ ms_tb := ms_i1 233 (by decide +kernel) (by decide +kernel)
theorem ms_k234 : (Jvm.Cond.code ({ cls := "MarkupStore", name := "load", desc := "()I" } : Jvm.MethodName) prog_1_method_3_code (3 : Nat) (Option.some Jvm.ClassFile.FieldType.int)) ∈ ms_tb := ms_i1 234 (by decide +kernel) (by decide +kernel)
theorem ms_k741 : (Jvm.Cond.methodLink "MarkupStoreLaw" (23 : Nat) ({ cls := "MarkupStore", name := "insert", desc := "(II)I" } : Jvm.MethodName)) ∈ ms_tb := ms_i4 21 (by decide +kernel) (by decide +kernel)
theorem ms_k742 : (Jvm.Cond.instanceMethod ({ cls := "MarkupStore", name := "insert", desc := "(II)I" } : Jvm.MethodName)) ∈ ms_tb := ms_i4 22 (by decide +kernel) (by decide +kernel)
theorem ms_k743 : (Jvm.Cond.selects "MarkupStore" ({ cls := "MarkupStore", name := "insert", desc := "(II)I" } : Jvm.MethodName) ({ cls := "MarkupStore", name := "insert", desc := "(II)I" } : Jvm.MethodName)) ∈ ms_tb := ms_i4 23 (by decide +kernel) (by decide +kernel)
theorem ms_k744 : (Jvm.Cond.code ({ cls := "MarkupStore", name := "insert", desc := "(II)I" } : Jvm.MethodName) prog_1_method_4_code (10 : Nat) (Option.some Jvm.ClassFile.FieldType.int)) ∈ ms_tb := ms_i4 24 (by decide +kernel) (by decide +kernel)
theorem ms_k845 : (Jvm.Cond.methodLink "MarkupStoreLaw" (28 : Nat) ({ cls := "MarkupStore", name := "remove", desc := "(I)I" } : Jvm.MethodName)) ∈ ms_tb := ms_i4 125 (by decide +kernel) (by decide +kernel)
theorem ms_k846 : (Jvm.Cond.instanceMethod ({ cls := "MarkupStore", name := "remove", desc := "(I)I" } : Jvm.MethodName)) ∈ ms_tb := ms_i4 126 (by decide +kernel) (by decide +kernel)
theorem ms_k847 : (Jvm.Cond.selects "MarkupStore" ({ cls := "MarkupStore", name := "remove", desc := "(I)I" } : Jvm.MethodName) ({ cls := "MarkupStore", name := "remove", desc := "(I)I" } : Jvm.MethodName)) ∈ ms_tb := ms_i4 127 (by decide +kernel) (by decide +kernel)
theorem ms_k848 : (Jvm.Cond.code ({ cls := "MarkupStore", name := "remove", desc := "(I)I" } : Jvm.MethodName) prog_1_method_5_code (7 : Nat) (Option.some Jvm.ClassFile.FieldType.int)) ∈ ms_tb := ms_i4 128 (by decide +kernel) (by decide +kernel)
theorem ms_k850 : (Jvm.Cond.methodLink "MarkupStoreLaw" (33 : Nat) ({ cls := "MarkupStore", name := "replace", desc := "(I)Z" } : Jvm.MethodName)) ∈ ms_tb := ms_i4 130 (by decide +kernel) (by decide +kernel)
theorem ms_k851 : (Jvm.Cond.instanceMethod ({ cls := "MarkupStore", name := "replace", desc := "(I)Z" } : Jvm.MethodName)) ∈ ms_tb := ms_i4 131 (by decide +kernel) (by decide +kernel)
theorem ms_k852 : (Jvm.Cond.selects "MarkupStore" ({ cls := "MarkupStore", name := "replace", desc := "(I)Z" } : Jvm.MethodName) ({ cls := "MarkupStore", name := "replace", desc := "(I)Z" } : Jvm.MethodName)) ∈ ms_tb := ms_i4 132 (by decide +kernel) (by decide +kernel)
theorem ms_k853 : (Jvm.Cond.code ({ cls := "MarkupStore", name := "replace", desc := "(I)Z" } : Jvm.MethodName) prog_1_method_6_code (4 : Nat) (Option.some Jvm.ClassFile.FieldType.boolean)) ∈ ms_tb := ms_i4 133 (by decide +kernel) (by decide +kernel)
theorem ms_k866 : (Jvm.Cond.methodLink "MarkupStoreLaw" (38 : Nat) ({ cls := "MarkupStore", name := "query", desc := "(I)I" } : Jvm.MethodName)) ∈ ms_tb := ms_i4 146 (by decide +kernel) (by decide +kernel)
theorem ms_k867 : (Jvm.Cond.instanceMethod ({ cls := "MarkupStore", name := "query", desc := "(I)I" } : Jvm.MethodName)) ∈ ms_tb := ms_i4 147 (by decide +kernel) (by decide +kernel)
theorem ms_k868 : (Jvm.Cond.selects "MarkupStore" ({ cls := "MarkupStore", name := "query", desc := "(I)I" } : Jvm.MethodName) ({ cls := "MarkupStore", name := "query", desc := "(I)I" } : Jvm.MethodName)) ∈ ms_tb := ms_i4 148 (by decide +kernel) (by decide +kernel)
theorem ms_k869 : (Jvm.Cond.code ({ cls := "MarkupStore", name := "query", desc := "(I)I" } : Jvm.MethodName) prog_1_method_7_code (7 : Nat) (Option.some Jvm.ClassFile.FieldType.int)) ∈ ms_tb := ms_i4 149 (by decide +kernel) (by decide +kernel)
theorem ms_k1197 : (Jvm.Cond.methodLink "MarkupStoreLaw" (42 : Nat) ({ cls := "MarkupStore", name := "result", desc := "(I)I" } : Jvm.MethodName)) ∈ ms_tb := ms_i5 237 (by decide +kernel) (by decide +kernel)
theorem ms_k1198 : (Jvm.Cond.instanceMethod ({ cls := "MarkupStore", name := "result", desc := "(I)I" } : Jvm.MethodName)) ∈ ms_tb := ms_i5 238 (by decide +kernel) (by decide +kernel)
theorem ms_k1199 : (Jvm.Cond.selects "MarkupStore" ({ cls := "MarkupStore", name := "result", desc := "(I)I" } : Jvm.MethodName) ({ cls := "MarkupStore", name := "result", desc := "(I)I" } : Jvm.MethodName)) ∈ ms_tb := ms_i5 239 (by decide +kernel) (by decide +kernel)
theorem ms_k1200 : (Jvm.Cond.code ({ cls := "MarkupStore", name := "result", desc := "(I)I" } : Jvm.MethodName) prog_1_method_8_code (2 : Nat) (Option.some Jvm.ClassFile.FieldType.int)) ∈ ms_tb := ms_i6 0 (by decide +kernel) (by decide +kernel)
theorem ms_k1201 : (Jvm.Cond.methodLink "MarkupStoreLaw" (46 : Nat) ({ cls := "MarkupStore", name := "commit", desc := "()I" } : Jvm.MethodName)) ∈ ms_tb := ms_i6 1 (by decide +kernel) (by decide +kernel)
theorem ms_k1202 : (Jvm.Cond.instanceMethod ({ cls := "MarkupStore", name := "commit", desc := "()I" } : Jvm.MethodName)) ∈ ms_tb := ms_i6 2 (by decide +kernel) (by decide +kernel)
theorem ms_k1203 : (Jvm.Cond.selects "MarkupStore" ({ cls := "MarkupStore", name := "commit", desc := "()I" } : Jvm.MethodName) ({ cls := "MarkupStore", name := "commit", desc := "()I" } : Jvm.MethodName)) ∈ ms_tb := ms_i6 3 (by decide +kernel) (by decide +kernel)
theorem ms_k1204 : (Jvm.Cond.code ({ cls := "MarkupStore", name := "commit", desc := "()I" } : Jvm.MethodName) prog_1_method_9_code (2 : Nat) (Option.some Jvm.ClassFile.FieldType.int)) ∈ ms_tb := ms_i6 4 (by decide +kernel) (by decide +kernel)
theorem ms_k1205 : (Jvm.Cond.methodLink "MarkupStoreLaw" (50 : Nat) ({ cls := "MarkupStore", name := "crash", desc := "()I" } : Jvm.MethodName)) ∈ ms_tb := ms_i6 5 (by decide +kernel) (by decide +kernel)
theorem ms_k1206 : (Jvm.Cond.instanceMethod ({ cls := "MarkupStore", name := "crash", desc := "()I" } : Jvm.MethodName)) ∈ ms_tb := ms_i6 6 (by decide +kernel) (by decide +kernel)
theorem ms_k1207 : (Jvm.Cond.selects "MarkupStore" ({ cls := "MarkupStore", name := "crash", desc := "()I" } : Jvm.MethodName) ({ cls := "MarkupStore", name := "crash", desc := "()I" } : Jvm.MethodName)) ∈ ms_tb := ms_i6 7 (by decide +kernel) (by decide +kernel)
theorem ms_k1208 : (Jvm.Cond.code ({ cls := "MarkupStore", name := "crash", desc := "()I" } : Jvm.MethodName) prog_1_method_10_code (2 : Nat) (Option.some Jvm.ClassFile.FieldType.int)) ∈ ms_tb := ms_i6 8 (by decide +kernel) (by decide +kernel)
theorem ms_k1214 : (Jvm.Cond.methodLink "MarkupStoreLaw" (54 : Nat) ({ cls := "MarkupStore", name := "kind", desc := "(I)I" } : Jvm.MethodName)) ∈ ms_tb := ms_i6 14 (by decide +kernel) (by decide +kernel)
theorem ms_k1215 : (Jvm.Cond.instanceMethod ({ cls := "MarkupStore", name := "kind", desc := "(I)I" } : Jvm.MethodName)) ∈ ms_tb := ms_i6 15 (by decide +kernel) (by decide +kernel)
theorem ms_k1216 : (Jvm.Cond.selects "MarkupStore" ({ cls := "MarkupStore", name := "kind", desc := "(I)I" } : Jvm.MethodName) ({ cls := "MarkupStore", name := "kind", desc := "(I)I" } : Jvm.MethodName)) ∈ ms_tb := ms_i6 16 (by decide +kernel) (by decide +kernel)
theorem ms_k1217 : (Jvm.Cond.code ({ cls := "MarkupStore", name := "kind", desc := "(I)I" } : Jvm.MethodName) prog_1_method_11_code (3 : Nat) (Option.some Jvm.ClassFile.FieldType.int)) ∈ ms_tb := ms_i6 17 (by decide +kernel) (by decide +kernel)
theorem ms_k1218 : (Jvm.Cond.methodLink "MarkupStoreLaw" (58 : Nat) ({ cls := "MarkupStore", name := "node", desc := "(II)I" } : Jvm.MethodName)) ∈ ms_tb := ms_i6 18 (by decide +kernel) (by decide +kernel)
theorem ms_k1219 : (Jvm.Cond.instanceMethod ({ cls := "MarkupStore", name := "node", desc := "(II)I" } : Jvm.MethodName)) ∈ ms_tb := ms_i6 19 (by decide +kernel) (by decide +kernel)
theorem ms_k1220 : (Jvm.Cond.selects "MarkupStore" ({ cls := "MarkupStore", name := "node", desc := "(II)I" } : Jvm.MethodName) ({ cls := "MarkupStore", name := "node", desc := "(II)I" } : Jvm.MethodName)) ∈ ms_tb := ms_i6 20 (by decide +kernel) (by decide +kernel)
theorem ms_k1221 : (Jvm.Cond.code ({ cls := "MarkupStore", name := "node", desc := "(II)I" } : Jvm.MethodName) prog_1_method_12_code (4 : Nat) (Option.some Jvm.ClassFile.FieldType.int)) ∈ ms_tb := ms_i6 21 (by decide +kernel) (by decide +kernel)
theorem ms_k1226 : (Jvm.Cond.methodLink "MarkupStoreLaw" (62 : Nat) ({ cls := "MarkupStore", name := "letter", desc := "(II)I" } : Jvm.MethodName)) ∈ ms_tb := ms_i6 26 (by decide +kernel) (by decide +kernel)
theorem ms_k1227 : (Jvm.Cond.instanceMethod ({ cls := "MarkupStore", name := "letter", desc := "(II)I" } : Jvm.MethodName)) ∈ ms_tb := ms_i6 27 (by decide +kernel) (by decide +kernel)
theorem ms_k1228 : (Jvm.Cond.selects "MarkupStore" ({ cls := "MarkupStore", name := "letter", desc := "(II)I" } : Jvm.MethodName) ({ cls := "MarkupStore", name := "letter", desc := "(II)I" } : Jvm.MethodName)) ∈ ms_tb := ms_i6 28 (by decide +kernel) (by decide +kernel)
theorem ms_k1229 : (Jvm.Cond.code ({ cls := "MarkupStore", name := "letter", desc := "(II)I" } : Jvm.MethodName) prog_1_method_13_code (4 : Nat) (Option.some Jvm.ClassFile.FieldType.int)) ∈ ms_tb := ms_i6 29 (by decide +kernel) (by decide +kernel)
theorem ms_k1230 : (Jvm.Cond.methodLink "MarkupStoreLaw" (66 : Nat) ({ cls := "MarkupStore", name := "label", desc := "(II)I" } : Jvm.MethodName)) ∈ ms_tb := ms_i6 30 (by decide +kernel) (by decide +kernel)
theorem ms_k1231 : (Jvm.Cond.instanceMethod ({ cls := "MarkupStore", name := "label", desc := "(II)I" } : Jvm.MethodName)) ∈ ms_tb := ms_i6 31 (by decide +kernel) (by decide +kernel)
theorem ms_k1232 : (Jvm.Cond.selects "MarkupStore" ({ cls := "MarkupStore", name := "label", desc := "(II)I" } : Jvm.MethodName) ({ cls := "MarkupStore", name := "label", desc := "(II)I" } : Jvm.MethodName)) ∈ ms_tb := ms_i6 32 (by decide +kernel) (by decide +kernel)
theorem ms_k1233 : (Jvm.Cond.code ({ cls := "MarkupStore", name := "label", desc := "(II)I" } : Jvm.MethodName) prog_1_method_14_code (4 : Nat) (Option.some Jvm.ClassFile.FieldType.int)) ∈ ms_tb := ms_i6 33 (by decide +kernel) (by decide +kernel)
theorem ms_k1234 : (Jvm.Cond.methodLink "MarkupStoreLaw" (70 : Nat) ({ cls := "MarkupStore", name := "root", desc := "()I" } : Jvm.MethodName)) ∈ ms_tb := ms_i6 34 (by decide +kernel) (by decide +kernel)
theorem ms_k1235 : (Jvm.Cond.instanceMethod ({ cls := "MarkupStore", name := "root", desc := "()I" } : Jvm.MethodName)) ∈ ms_tb := ms_i6 35 (by decide +kernel) (by decide +kernel)
theorem ms_k1236 : (Jvm.Cond.selects "MarkupStore" ({ cls := "MarkupStore", name := "root", desc := "()I" } : Jvm.MethodName) ({ cls := "MarkupStore", name := "root", desc := "()I" } : Jvm.MethodName)) ∈ ms_tb := ms_i6 36 (by decide +kernel) (by decide +kernel)
theorem ms_k1237 : (Jvm.Cond.code ({ cls := "MarkupStore", name := "root", desc := "()I" } : Jvm.MethodName) prog_1_method_15_code (1 : Nat) (Option.some Jvm.ClassFile.FieldType.int)) ∈ ms_tb := ms_i6 37 (by decide +kernel) (by decide +kernel)
theorem ms_k1238 : (Jvm.Cond.methodLink "MarkupStoreLaw" (74 : Nat) ({ cls := "MarkupStore", name := "nodes", desc := "()I" } : Jvm.MethodName)) ∈ ms_tb := ms_i6 38 (by decide +kernel) (by decide +kernel)
theorem ms_k1239 : (Jvm.Cond.instanceMethod ({ cls := "MarkupStore", name := "nodes", desc := "()I" } : Jvm.MethodName)) ∈ ms_tb := ms_i6 39 (by decide +kernel) (by decide +kernel)
theorem ms_k1240 : (Jvm.Cond.selects "MarkupStore" ({ cls := "MarkupStore", name := "nodes", desc := "()I" } : Jvm.MethodName) ({ cls := "MarkupStore", name := "nodes", desc := "()I" } : Jvm.MethodName)) ∈ ms_tb := ms_i6 40 (by decide +kernel) (by decide +kernel)
theorem ms_k1241 : (Jvm.Cond.code ({ cls := "MarkupStore", name := "nodes", desc := "()I" } : Jvm.MethodName) prog_1_method_16_code (1 : Nat) (Option.some Jvm.ClassFile.FieldType.int)) ∈ ms_tb := ms_i6 41 (by decide +kernel) (by decide +kernel)
theorem ms_k1242 : (Jvm.Cond.methodLink "MarkupStoreLaw" (78 : Nat) ({ cls := "MarkupStore", name := "length", desc := "()I" } : Jvm.MethodName)) ∈ ms_tb := ms_i6 42 (by decide +kernel) (by decide +kernel)
theorem ms_k1243 : (Jvm.Cond.instanceMethod ({ cls := "MarkupStore", name := "length", desc := "()I" } : Jvm.MethodName)) ∈ ms_tb := ms_i6 43 (by decide +kernel) (by decide +kernel)
theorem ms_k1244 : (Jvm.Cond.selects "MarkupStore" ({ cls := "MarkupStore", name := "length", desc := "()I" } : Jvm.MethodName) ({ cls := "MarkupStore", name := "length", desc := "()I" } : Jvm.MethodName)) ∈ ms_tb := ms_i6 44 (by decide +kernel) (by decide +kernel)
theorem ms_k1245 : (Jvm.Cond.code ({ cls := "MarkupStore", name := "length", desc := "()I" } : Jvm.MethodName) prog_1_method_17_code (2 : Nat) (Option.some Jvm.ClassFile.FieldType.int)) ∈ ms_tb := ms_i6 45 (by decide +kernel) (by decide +kernel)
theorem ms_k1306 : (Jvm.Cond.methodLink "MarkupStoreLaw" (82 : Nat) ({ cls := "MarkupStore", name := "written", desc := "(I)I" } : Jvm.MethodName)) ∈ ms_tb := ms_i6 106 (by decide +kernel) (by decide +kernel)
theorem ms_k1307 : (Jvm.Cond.instanceMethod ({ cls := "MarkupStore", name := "written", desc := "(I)I" } : Jvm.MethodName)) ∈ ms_tb := ms_i6 107 (by decide +kernel) (by decide +kernel)
theorem ms_k1308 : (Jvm.Cond.selects "MarkupStore" ({ cls := "MarkupStore", name := "written", desc := "(I)I" } : Jvm.MethodName) ({ cls := "MarkupStore", name := "written", desc := "(I)I" } : Jvm.MethodName)) ∈ ms_tb := ms_i6 108 (by decide +kernel) (by decide +kernel)
theorem ms_k1309 : (Jvm.Cond.code ({ cls := "MarkupStore", name := "written", desc := "(I)I" } : Jvm.MethodName) prog_1_method_18_code (3 : Nat) (Option.some Jvm.ClassFile.FieldType.int)) ∈ ms_tb := ms_i6 109 (by decide +kernel) (by decide +kernel)
theorem ms_k1500 : (Jvm.Cond.methodLink "MarkupStoreLaw" (17 : Nat) ({ cls := "MarkupStoreModel", name := "type", desc := "(C)Z" } : Jvm.MethodName)) ∈ ms_tb := ms_i7 60 (by decide +kernel) (by decide +kernel)
theorem ms_k1501 : (Jvm.Cond.instanceMethod ({ cls := "MarkupStoreModel", name := "type", desc := "(C)Z" } : Jvm.MethodName)) ∈ ms_tb := ms_i7 61 (by decide +kernel) (by decide +kernel)
theorem ms_k1502 : (Jvm.Cond.selects "MarkupStoreModel" ({ cls := "MarkupStoreModel", name := "type", desc := "(C)Z" } : Jvm.MethodName) ({ cls := "MarkupStoreModel", name := "type", desc := "(C)Z" } : Jvm.MethodName)) ∈ ms_tb := ms_i7 62 (by decide +kernel) (by decide +kernel)
theorem ms_k1503 : (Jvm.Cond.code ({ cls := "MarkupStoreModel", name := "type", desc := "(C)Z" } : Jvm.MethodName) prog_14_method_36_code (2 : Nat) (Option.some Jvm.ClassFile.FieldType.boolean)) ∈ ms_tb := ms_i7 63 (by decide +kernel) (by decide +kernel)
theorem ms_k1504 : (Jvm.Cond.methodLink "MarkupStoreLaw" (22 : Nat) ({ cls := "MarkupStoreModel", name := "load", desc := "()I" } : Jvm.MethodName)) ∈ ms_tb := ms_i7 64 (by decide +kernel) (by decide +kernel)
theorem ms_k1505 : (Jvm.Cond.instanceMethod ({ cls := "MarkupStoreModel", name := "load", desc := "()I" } : Jvm.MethodName)) ∈ ms_tb := ms_i7 65 (by decide +kernel) (by decide +kernel)
theorem ms_k1506 : (Jvm.Cond.selects "MarkupStoreModel" ({ cls := "MarkupStoreModel", name := "load", desc := "()I" } : Jvm.MethodName) ({ cls := "MarkupStoreModel", name := "load", desc := "()I" } : Jvm.MethodName)) ∈ ms_tb := ms_i7 66 (by decide +kernel) (by decide +kernel)
theorem ms_k1507 : (Jvm.Cond.code ({ cls := "MarkupStoreModel", name := "load", desc := "()I" } : Jvm.MethodName) prog_14_method_38_code (2 : Nat) (Option.some Jvm.ClassFile.FieldType.int)) ∈ ms_tb := ms_i7 67 (by decide +kernel) (by decide +kernel)
theorem ms_k1599 : (Jvm.Cond.methodLink "MarkupStoreLaw" (27 : Nat) ({ cls := "MarkupStoreModel", name := "insert", desc := "(II)I" } : Jvm.MethodName)) ∈ ms_tb := ms_i7 159 (by decide +kernel) (by decide +kernel)
theorem ms_k1600 : (Jvm.Cond.instanceMethod ({ cls := "MarkupStoreModel", name := "insert", desc := "(II)I" } : Jvm.MethodName)) ∈ ms_tb := ms_i7 160 (by decide +kernel) (by decide +kernel)
theorem ms_k1601 : (Jvm.Cond.selects "MarkupStoreModel" ({ cls := "MarkupStoreModel", name := "insert", desc := "(II)I" } : Jvm.MethodName) ({ cls := "MarkupStoreModel", name := "insert", desc := "(II)I" } : Jvm.MethodName)) ∈ ms_tb := ms_i7 161 (by decide +kernel) (by decide +kernel)
theorem ms_k1602 : (Jvm.Cond.code ({ cls := "MarkupStoreModel", name := "insert", desc := "(II)I" } : Jvm.MethodName) prog_14_method_41_code (5 : Nat) (Option.some Jvm.ClassFile.FieldType.int)) ∈ ms_tb := ms_i7 162 (by decide +kernel) (by decide +kernel)
theorem ms_k1654 : (Jvm.Cond.methodLink "MarkupStoreLaw" (32 : Nat) ({ cls := "MarkupStoreModel", name := "remove", desc := "(I)I" } : Jvm.MethodName)) ∈ ms_tb := ms_i7 214 (by decide +kernel) (by decide +kernel)
theorem ms_k1655 : (Jvm.Cond.instanceMethod ({ cls := "MarkupStoreModel", name := "remove", desc := "(I)I" } : Jvm.MethodName)) ∈ ms_tb := ms_i7 215 (by decide +kernel) (by decide +kernel)
theorem ms_k1656 : (Jvm.Cond.selects "MarkupStoreModel" ({ cls := "MarkupStoreModel", name := "remove", desc := "(I)I" } : Jvm.MethodName) ({ cls := "MarkupStoreModel", name := "remove", desc := "(I)I" } : Jvm.MethodName)) ∈ ms_tb := ms_i7 216 (by decide +kernel) (by decide +kernel)
theorem ms_k1657 : (Jvm.Cond.code ({ cls := "MarkupStoreModel", name := "remove", desc := "(I)I" } : Jvm.MethodName) prog_14_method_43_code (11 : Nat) (Option.some Jvm.ClassFile.FieldType.int)) ∈ ms_tb := ms_i7 217 (by decide +kernel) (by decide +kernel)
theorem ms_k1662 : (Jvm.Cond.methodLink "MarkupStoreLaw" (37 : Nat) ({ cls := "MarkupStoreModel", name := "replace", desc := "(I)Z" } : Jvm.MethodName)) ∈ ms_tb := ms_i7 222 (by decide +kernel) (by decide +kernel)
theorem ms_k1663 : (Jvm.Cond.instanceMethod ({ cls := "MarkupStoreModel", name := "replace", desc := "(I)Z" } : Jvm.MethodName)) ∈ ms_tb := ms_i7 223 (by decide +kernel) (by decide +kernel)
theorem ms_k1664 : (Jvm.Cond.selects "MarkupStoreModel" ({ cls := "MarkupStoreModel", name := "replace", desc := "(I)Z" } : Jvm.MethodName) ({ cls := "MarkupStoreModel", name := "replace", desc := "(I)Z" } : Jvm.MethodName)) ∈ ms_tb := ms_i7 224 (by decide +kernel) (by decide +kernel)
theorem ms_k1665 : (Jvm.Cond.code ({ cls := "MarkupStoreModel", name := "replace", desc := "(I)Z" } : Jvm.MethodName) prog_14_method_44_code (5 : Nat) (Option.some Jvm.ClassFile.FieldType.boolean)) ∈ ms_tb := ms_i7 225 (by decide +kernel) (by decide +kernel)
theorem ms_k1666 : (Jvm.Cond.methodLink "MarkupStoreLaw" (41 : Nat) ({ cls := "MarkupStoreModel", name := "query", desc := "(I)I" } : Jvm.MethodName)) ∈ ms_tb := ms_i7 226 (by decide +kernel) (by decide +kernel)
theorem ms_k1667 : (Jvm.Cond.instanceMethod ({ cls := "MarkupStoreModel", name := "query", desc := "(I)I" } : Jvm.MethodName)) ∈ ms_tb := ms_i7 227 (by decide +kernel) (by decide +kernel)
theorem ms_k1668 : (Jvm.Cond.selects "MarkupStoreModel" ({ cls := "MarkupStoreModel", name := "query", desc := "(I)I" } : Jvm.MethodName) ({ cls := "MarkupStoreModel", name := "query", desc := "(I)I" } : Jvm.MethodName)) ∈ ms_tb := ms_i7 228 (by decide +kernel) (by decide +kernel)
theorem ms_k1669 : (Jvm.Cond.code ({ cls := "MarkupStoreModel", name := "query", desc := "(I)I" } : Jvm.MethodName) prog_14_method_66_code (4 : Nat) (Option.some Jvm.ClassFile.FieldType.int)) ∈ ms_tb := ms_i7 229 (by decide +kernel) (by decide +kernel)
theorem ms_k1756 : (Jvm.Cond.methodLink "MarkupStoreLaw" (45 : Nat) ({ cls := "MarkupStoreModel", name := "result", desc := "(I)I" } : Jvm.MethodName)) ∈ ms_tb := ms_i8 76 (by decide +kernel) (by decide +kernel)
theorem ms_k1757 : (Jvm.Cond.instanceMethod ({ cls := "MarkupStoreModel", name := "result", desc := "(I)I" } : Jvm.MethodName)) ∈ ms_tb := ms_i8 77 (by decide +kernel) (by decide +kernel)
theorem ms_k1758 : (Jvm.Cond.selects "MarkupStoreModel" ({ cls := "MarkupStoreModel", name := "result", desc := "(I)I" } : Jvm.MethodName) ({ cls := "MarkupStoreModel", name := "result", desc := "(I)I" } : Jvm.MethodName)) ∈ ms_tb := ms_i8 78 (by decide +kernel) (by decide +kernel)
theorem ms_k1759 : (Jvm.Cond.code ({ cls := "MarkupStoreModel", name := "result", desc := "(I)I" } : Jvm.MethodName) prog_14_method_67_code (2 : Nat) (Option.some Jvm.ClassFile.FieldType.int)) ∈ ms_tb := ms_i8 79 (by decide +kernel) (by decide +kernel)
theorem ms_k1760 : (Jvm.Cond.methodLink "MarkupStoreLaw" (49 : Nat) ({ cls := "MarkupStoreModel", name := "commit", desc := "()I" } : Jvm.MethodName)) ∈ ms_tb := ms_i8 80 (by decide +kernel) (by decide +kernel)
theorem ms_k1761 : (Jvm.Cond.instanceMethod ({ cls := "MarkupStoreModel", name := "commit", desc := "()I" } : Jvm.MethodName)) ∈ ms_tb := ms_i8 81 (by decide +kernel) (by decide +kernel)
theorem ms_k1762 : (Jvm.Cond.selects "MarkupStoreModel" ({ cls := "MarkupStoreModel", name := "commit", desc := "()I" } : Jvm.MethodName) ({ cls := "MarkupStoreModel", name := "commit", desc := "()I" } : Jvm.MethodName)) ∈ ms_tb := ms_i8 82 (by decide +kernel) (by decide +kernel)
theorem ms_k1763 : (Jvm.Cond.code ({ cls := "MarkupStoreModel", name := "commit", desc := "()I" } : Jvm.MethodName) prog_14_method_68_code (2 : Nat) (Option.some Jvm.ClassFile.FieldType.int)) ∈ ms_tb := ms_i8 83 (by decide +kernel) (by decide +kernel)
theorem ms_k1764 : (Jvm.Cond.methodLink "MarkupStoreLaw" (53 : Nat) ({ cls := "MarkupStoreModel", name := "crash", desc := "()I" } : Jvm.MethodName)) ∈ ms_tb := ms_i8 84 (by decide +kernel) (by decide +kernel)
theorem ms_k1765 : (Jvm.Cond.instanceMethod ({ cls := "MarkupStoreModel", name := "crash", desc := "()I" } : Jvm.MethodName)) ∈ ms_tb := ms_i8 85 (by decide +kernel) (by decide +kernel)
theorem ms_k1766 : (Jvm.Cond.selects "MarkupStoreModel" ({ cls := "MarkupStoreModel", name := "crash", desc := "()I" } : Jvm.MethodName) ({ cls := "MarkupStoreModel", name := "crash", desc := "()I" } : Jvm.MethodName)) ∈ ms_tb := ms_i8 86 (by decide +kernel) (by decide +kernel)
theorem ms_k1767 : (Jvm.Cond.code ({ cls := "MarkupStoreModel", name := "crash", desc := "()I" } : Jvm.MethodName) prog_14_method_69_code (3 : Nat) (Option.some Jvm.ClassFile.FieldType.int)) ∈ ms_tb := ms_i8 87 (by decide +kernel) (by decide +kernel)
theorem ms_k1768 : (Jvm.Cond.methodLink "MarkupStoreLaw" (57 : Nat) ({ cls := "MarkupStoreModel", name := "kind", desc := "(I)I" } : Jvm.MethodName)) ∈ ms_tb := ms_i8 88 (by decide +kernel) (by decide +kernel)
theorem ms_k1769 : (Jvm.Cond.instanceMethod ({ cls := "MarkupStoreModel", name := "kind", desc := "(I)I" } : Jvm.MethodName)) ∈ ms_tb := ms_i8 89 (by decide +kernel) (by decide +kernel)
theorem ms_k1770 : (Jvm.Cond.selects "MarkupStoreModel" ({ cls := "MarkupStoreModel", name := "kind", desc := "(I)I" } : Jvm.MethodName) ({ cls := "MarkupStoreModel", name := "kind", desc := "(I)I" } : Jvm.MethodName)) ∈ ms_tb := ms_i8 90 (by decide +kernel) (by decide +kernel)
theorem ms_k1771 : (Jvm.Cond.code ({ cls := "MarkupStoreModel", name := "kind", desc := "(I)I" } : Jvm.MethodName) prog_14_method_70_code (3 : Nat) (Option.some Jvm.ClassFile.FieldType.int)) ∈ ms_tb := ms_i8 91 (by decide +kernel) (by decide +kernel)
theorem ms_k1772 : (Jvm.Cond.methodLink "MarkupStoreLaw" (61 : Nat) ({ cls := "MarkupStoreModel", name := "node", desc := "(II)I" } : Jvm.MethodName)) ∈ ms_tb := ms_i8 92 (by decide +kernel) (by decide +kernel)
theorem ms_k1773 : (Jvm.Cond.instanceMethod ({ cls := "MarkupStoreModel", name := "node", desc := "(II)I" } : Jvm.MethodName)) ∈ ms_tb := ms_i8 93 (by decide +kernel) (by decide +kernel)
theorem ms_k1774 : (Jvm.Cond.selects "MarkupStoreModel" ({ cls := "MarkupStoreModel", name := "node", desc := "(II)I" } : Jvm.MethodName) ({ cls := "MarkupStoreModel", name := "node", desc := "(II)I" } : Jvm.MethodName)) ∈ ms_tb := ms_i8 94 (by decide +kernel) (by decide +kernel)
theorem ms_k1775 : (Jvm.Cond.code ({ cls := "MarkupStoreModel", name := "node", desc := "(II)I" } : Jvm.MethodName) prog_14_method_72_code (4 : Nat) (Option.some Jvm.ClassFile.FieldType.int)) ∈ ms_tb := ms_i8 95 (by decide +kernel) (by decide +kernel)
theorem ms_k1780 : (Jvm.Cond.methodLink "MarkupStoreLaw" (65 : Nat) ({ cls := "MarkupStoreModel", name := "letter", desc := "(II)I" } : Jvm.MethodName)) ∈ ms_tb := ms_i8 100 (by decide +kernel) (by decide +kernel)
theorem ms_k1781 : (Jvm.Cond.instanceMethod ({ cls := "MarkupStoreModel", name := "letter", desc := "(II)I" } : Jvm.MethodName)) ∈ ms_tb := ms_i8 101 (by decide +kernel) (by decide +kernel)
theorem ms_k1782 : (Jvm.Cond.selects "MarkupStoreModel" ({ cls := "MarkupStoreModel", name := "letter", desc := "(II)I" } : Jvm.MethodName) ({ cls := "MarkupStoreModel", name := "letter", desc := "(II)I" } : Jvm.MethodName)) ∈ ms_tb := ms_i8 102 (by decide +kernel) (by decide +kernel)
theorem ms_k1783 : (Jvm.Cond.code ({ cls := "MarkupStoreModel", name := "letter", desc := "(II)I" } : Jvm.MethodName) prog_14_method_73_code (4 : Nat) (Option.some Jvm.ClassFile.FieldType.int)) ∈ ms_tb := ms_i8 103 (by decide +kernel) (by decide +kernel)
theorem ms_k1784 : (Jvm.Cond.methodLink "MarkupStoreLaw" (69 : Nat) ({ cls := "MarkupStoreModel", name := "label", desc := "(II)I" } : Jvm.MethodName)) ∈ ms_tb := ms_i8 104 (by decide +kernel) (by decide +kernel)
theorem ms_k1785 : (Jvm.Cond.instanceMethod ({ cls := "MarkupStoreModel", name := "label", desc := "(II)I" } : Jvm.MethodName)) ∈ ms_tb := ms_i8 105 (by decide +kernel) (by decide +kernel)
theorem ms_k1786 : (Jvm.Cond.selects "MarkupStoreModel" ({ cls := "MarkupStoreModel", name := "label", desc := "(II)I" } : Jvm.MethodName) ({ cls := "MarkupStoreModel", name := "label", desc := "(II)I" } : Jvm.MethodName)) ∈ ms_tb := ms_i8 106 (by decide +kernel) (by decide +kernel)
theorem ms_k1787 : (Jvm.Cond.code ({ cls := "MarkupStoreModel", name := "label", desc := "(II)I" } : Jvm.MethodName) prog_14_method_74_code (4 : Nat) (Option.some Jvm.ClassFile.FieldType.int)) ∈ ms_tb := ms_i8 107 (by decide +kernel) (by decide +kernel)
theorem ms_k1788 : (Jvm.Cond.methodLink "MarkupStoreLaw" (73 : Nat) ({ cls := "MarkupStoreModel", name := "root", desc := "()I" } : Jvm.MethodName)) ∈ ms_tb := ms_i8 108 (by decide +kernel) (by decide +kernel)
theorem ms_k1789 : (Jvm.Cond.instanceMethod ({ cls := "MarkupStoreModel", name := "root", desc := "()I" } : Jvm.MethodName)) ∈ ms_tb := ms_i8 109 (by decide +kernel) (by decide +kernel)
theorem ms_k1790 : (Jvm.Cond.selects "MarkupStoreModel" ({ cls := "MarkupStoreModel", name := "root", desc := "()I" } : Jvm.MethodName) ({ cls := "MarkupStoreModel", name := "root", desc := "()I" } : Jvm.MethodName)) ∈ ms_tb := ms_i8 110 (by decide +kernel) (by decide +kernel)
theorem ms_k1791 : (Jvm.Cond.code ({ cls := "MarkupStoreModel", name := "root", desc := "()I" } : Jvm.MethodName) prog_14_method_75_code (1 : Nat) (Option.some Jvm.ClassFile.FieldType.int)) ∈ ms_tb := ms_i8 111 (by decide +kernel) (by decide +kernel)
theorem ms_k1792 : (Jvm.Cond.methodLink "MarkupStoreLaw" (77 : Nat) ({ cls := "MarkupStoreModel", name := "nodes", desc := "()I" } : Jvm.MethodName)) ∈ ms_tb := ms_i8 112 (by decide +kernel) (by decide +kernel)
theorem ms_k1793 : (Jvm.Cond.instanceMethod ({ cls := "MarkupStoreModel", name := "nodes", desc := "()I" } : Jvm.MethodName)) ∈ ms_tb := ms_i8 113 (by decide +kernel) (by decide +kernel)
theorem ms_k1794 : (Jvm.Cond.selects "MarkupStoreModel" ({ cls := "MarkupStoreModel", name := "nodes", desc := "()I" } : Jvm.MethodName) ({ cls := "MarkupStoreModel", name := "nodes", desc := "()I" } : Jvm.MethodName)) ∈ ms_tb := ms_i8 114 (by decide +kernel) (by decide +kernel)
theorem ms_k1795 : (Jvm.Cond.code ({ cls := "MarkupStoreModel", name := "nodes", desc := "()I" } : Jvm.MethodName) prog_14_method_76_code (1 : Nat) (Option.some Jvm.ClassFile.FieldType.int)) ∈ ms_tb := ms_i8 115 (by decide +kernel) (by decide +kernel)
theorem ms_k1796 : (Jvm.Cond.methodLink "MarkupStoreLaw" (81 : Nat) ({ cls := "MarkupStoreModel", name := "length", desc := "()I" } : Jvm.MethodName)) ∈ ms_tb := ms_i8 116 (by decide +kernel) (by decide +kernel)
theorem ms_k1797 : (Jvm.Cond.instanceMethod ({ cls := "MarkupStoreModel", name := "length", desc := "()I" } : Jvm.MethodName)) ∈ ms_tb := ms_i8 117 (by decide +kernel) (by decide +kernel)
theorem ms_k1798 : (Jvm.Cond.selects "MarkupStoreModel" ({ cls := "MarkupStoreModel", name := "length", desc := "()I" } : Jvm.MethodName) ({ cls := "MarkupStoreModel", name := "length", desc := "()I" } : Jvm.MethodName)) ∈ ms_tb := ms_i8 118 (by decide +kernel) (by decide +kernel)
theorem ms_k1799 : (Jvm.Cond.code ({ cls := "MarkupStoreModel", name := "length", desc := "()I" } : Jvm.MethodName) prog_14_method_84_code (1 : Nat) (Option.some Jvm.ClassFile.FieldType.int)) ∈ ms_tb := ms_i8 119 (by decide +kernel) (by decide +kernel)
theorem ms_k1828 : (Jvm.Cond.methodLink "MarkupStoreLaw" (85 : Nat) ({ cls := "MarkupStoreModel", name := "written", desc := "(I)I" } : Jvm.MethodName)) ∈ ms_tb := ms_i8 148 (by decide +kernel) (by decide +kernel)
theorem ms_k1829 : (Jvm.Cond.instanceMethod ({ cls := "MarkupStoreModel", name := "written", desc := "(I)I" } : Jvm.MethodName)) ∈ ms_tb := ms_i8 149 (by decide +kernel) (by decide +kernel)
theorem ms_k1830 : (Jvm.Cond.selects "MarkupStoreModel" ({ cls := "MarkupStoreModel", name := "written", desc := "(I)I" } : Jvm.MethodName) ({ cls := "MarkupStoreModel", name := "written", desc := "(I)I" } : Jvm.MethodName)) ∈ ms_tb := ms_i8 150 (by decide +kernel) (by decide +kernel)
theorem ms_k1831 : (Jvm.Cond.code ({ cls := "MarkupStoreModel", name := "written", desc := "(I)I" } : Jvm.MethodName) prog_14_method_85_code (2 : Nat) (Option.some Jvm.ClassFile.FieldType.int)) ∈ ms_tb := ms_i8 151 (by decide +kernel) (by decide +kernel)
theorem d264_116 : decode code 116 = .ok (.aload_n 1, 1) := by decide +kernel
theorem d264_117 : decode code 117 = .ok (.aload_n 0, 1) := by decide +kernel
theorem d264_118 : decode code 118 = .ok (.iload_n 3, 1) := by decide +kernel
theorem d264_119 : decode code 119 = .ok (.iconst 1, 1) := by decide +kernel
theorem d264_120 : decode code 120 = .ok (.iadd, 1) := by decide +kernel
theorem d264_121 : decode code 121 = .ok (.iaload, 1) := by decide +kernel
theorem d264_122 : decode code 122 = .ok (.i2c, 1) := by decide +kernel
theorem d264_123 : decode code 123 = .ok (.invokevirtual 13, 3) := by decide +kernel
theorem d264_126 : decode code 126 = .ok (.aload_n 2, 1) := by decide +kernel
theorem d264_127 : decode code 127 = .ok (.aload_n 0, 1) := by decide +kernel
theorem d264_128 : decode code 128 = .ok (.iload_n 3, 1) := by decide +kernel
theorem d264_129 : decode code 129 = .ok (.iconst 1, 1) := by decide +kernel
theorem d264_130 : decode code 130 = .ok (.iadd, 1) := by decide +kernel
theorem d264_131 : decode code 131 = .ok (.iaload, 1) := by decide +kernel
theorem d264_132 : decode code 132 = .ok (.i2c, 1) := by decide +kernel
theorem d264_133 : decode code 133 = .ok (.invokevirtual 17, 3) := by decide +kernel
theorem d264_136 : decode code 136 = .ok (.if_icmp .eq 353, 3) := by decide +kernel
theorem d264_141 : decode code 141 = .ok (.aload_n 1, 1) := by decide +kernel
theorem d264_142 : decode code 142 = .ok (.invokevirtual 18, 3) := by decide +kernel
theorem d264_145 : decode code 145 = .ok (.aload_n 2, 1) := by decide +kernel
theorem d264_146 : decode code 146 = .ok (.invokevirtual 22, 3) := by decide +kernel
theorem d264_149 : decode code 149 = .ok (.if_icmp .eq 340, 3) := by decide +kernel
theorem d264_154 : decode code 154 = .ok (.aload_n 1, 1) := by decide +kernel
theorem d264_155 : decode code 155 = .ok (.aload_n 0, 1) := by decide +kernel
theorem d264_156 : decode code 156 = .ok (.iload_n 3, 1) := by decide +kernel
theorem d264_157 : decode code 157 = .ok (.iconst 1, 1) := by decide +kernel
theorem d264_158 : decode code 158 = .ok (.iadd, 1) := by decide +kernel
theorem d264_159 : decode code 159 = .ok (.iaload, 1) := by decide +kernel
theorem d264_160 : decode code 160 = .ok (.aload_n 0, 1) := by decide +kernel
theorem d264_161 : decode code 161 = .ok (.iload_n 3, 1) := by decide +kernel
theorem d264_162 : decode code 162 = .ok (.iconst 2, 1) := by decide +kernel
theorem d264_163 : decode code 163 = .ok (.iadd, 1) := by decide +kernel
theorem d264_164 : decode code 164 = .ok (.iaload, 1) := by decide +kernel
theorem d264_165 : decode code 165 = .ok (.invokevirtual 23, 3) := by decide +kernel
theorem d264_168 : decode code 168 = .ok (.aload_n 2, 1) := by decide +kernel
theorem d264_169 : decode code 169 = .ok (.aload_n 0, 1) := by decide +kernel
theorem d264_170 : decode code 170 = .ok (.iload_n 3, 1) := by decide +kernel
theorem d264_171 : decode code 171 = .ok (.iconst 1, 1) := by decide +kernel
theorem d264_172 : decode code 172 = .ok (.iadd, 1) := by decide +kernel
theorem d264_173 : decode code 173 = .ok (.iaload, 1) := by decide +kernel
theorem d264_174 : decode code 174 = .ok (.aload_n 0, 1) := by decide +kernel
theorem d264_175 : decode code 175 = .ok (.iload_n 3, 1) := by decide +kernel
theorem d264_176 : decode code 176 = .ok (.iconst 2, 1) := by decide +kernel
theorem d264_177 : decode code 177 = .ok (.iadd, 1) := by decide +kernel
theorem d264_178 : decode code 178 = .ok (.iaload, 1) := by decide +kernel
theorem d264_179 : decode code 179 = .ok (.invokevirtual 27, 3) := by decide +kernel
theorem d264_182 : decode code 182 = .ok (.if_icmp .eq 307, 3) := by decide +kernel
theorem d264_187 : decode code 187 = .ok (.aload_n 1, 1) := by decide +kernel
theorem d264_188 : decode code 188 = .ok (.aload_n 0, 1) := by decide +kernel
theorem d264_189 : decode code 189 = .ok (.iload_n 3, 1) := by decide +kernel
theorem d264_190 : decode code 190 = .ok (.iconst 1, 1) := by decide +kernel
theorem d264_191 : decode code 191 = .ok (.iadd, 1) := by decide +kernel
theorem d264_192 : decode code 192 = .ok (.iaload, 1) := by decide +kernel
theorem d264_193 : decode code 193 = .ok (.invokevirtual 28, 3) := by decide +kernel
theorem d264_196 : decode code 196 = .ok (.aload_n 2, 1) := by decide +kernel
theorem d264_197 : decode code 197 = .ok (.aload_n 0, 1) := by decide +kernel
theorem d264_198 : decode code 198 = .ok (.iload_n 3, 1) := by decide +kernel
theorem d264_199 : decode code 199 = .ok (.iconst 1, 1) := by decide +kernel
theorem d264_200 : decode code 200 = .ok (.iadd, 1) := by decide +kernel
theorem d264_201 : decode code 201 = .ok (.iaload, 1) := by decide +kernel
theorem d264_202 : decode code 202 = .ok (.invokevirtual 32, 3) := by decide +kernel
theorem d264_205 : decode code 205 = .ok (.if_icmp .eq 284, 3) := by decide +kernel
theorem d264_210 : decode code 210 = .ok (.aload_n 1, 1) := by decide +kernel
theorem d264_211 : decode code 211 = .ok (.aload_n 0, 1) := by decide +kernel
theorem d264_212 : decode code 212 = .ok (.iload_n 3, 1) := by decide +kernel
theorem d264_213 : decode code 213 = .ok (.iconst 1, 1) := by decide +kernel
theorem d264_214 : decode code 214 = .ok (.iadd, 1) := by decide +kernel
theorem d264_215 : decode code 215 = .ok (.iaload, 1) := by decide +kernel
theorem d264_216 : decode code 216 = .ok (.invokevirtual 33, 3) := by decide +kernel
theorem d264_219 : decode code 219 = .ok (.aload_n 2, 1) := by decide +kernel
theorem d264_220 : decode code 220 = .ok (.aload_n 0, 1) := by decide +kernel
theorem d264_221 : decode code 221 = .ok (.iload_n 3, 1) := by decide +kernel
theorem d264_222 : decode code 222 = .ok (.iconst 1, 1) := by decide +kernel
theorem d264_223 : decode code 223 = .ok (.iadd, 1) := by decide +kernel
theorem d264_224 : decode code 224 = .ok (.iaload, 1) := by decide +kernel
theorem d264_225 : decode code 225 = .ok (.invokevirtual 37, 3) := by decide +kernel
theorem d264_228 : decode code 228 = .ok (.if_icmp .eq 261, 3) := by decide +kernel
theorem d264_233 : decode code 233 = .ok (.aload_n 1, 1) := by decide +kernel
theorem d264_234 : decode code 234 = .ok (.aload_n 0, 1) := by decide +kernel
theorem d264_235 : decode code 235 = .ok (.iload_n 3, 1) := by decide +kernel
theorem d264_236 : decode code 236 = .ok (.iconst 1, 1) := by decide +kernel
theorem d264_237 : decode code 237 = .ok (.iadd, 1) := by decide +kernel
theorem d264_238 : decode code 238 = .ok (.iaload, 1) := by decide +kernel
theorem d264_239 : decode code 239 = .ok (.invokevirtual 38, 3) := by decide +kernel
theorem d264_242 : decode code 242 = .ok (.aload_n 2, 1) := by decide +kernel
theorem d264_243 : decode code 243 = .ok (.aload_n 0, 1) := by decide +kernel
theorem d264_244 : decode code 244 = .ok (.iload_n 3, 1) := by decide +kernel
theorem d264_245 : decode code 245 = .ok (.iconst 1, 1) := by decide +kernel
theorem d264_246 : decode code 246 = .ok (.iadd, 1) := by decide +kernel
theorem d264_247 : decode code 247 = .ok (.iaload, 1) := by decide +kernel
theorem d264_248 : decode code 248 = .ok (.invokevirtual 41, 3) := by decide +kernel
theorem d264_251 : decode code 251 = .ok (.if_icmp .eq 238, 3) := by decide +kernel
theorem d264_256 : decode code 256 = .ok (.aload_n 1, 1) := by decide +kernel
theorem d264_257 : decode code 257 = .ok (.aload_n 0, 1) := by decide +kernel
theorem d264_258 : decode code 258 = .ok (.iload_n 3, 1) := by decide +kernel
theorem d264_259 : decode code 259 = .ok (.iconst 1, 1) := by decide +kernel
theorem d264_260 : decode code 260 = .ok (.iadd, 1) := by decide +kernel
theorem d264_261 : decode code 261 = .ok (.iaload, 1) := by decide +kernel
theorem d264_262 : decode code 262 = .ok (.invokevirtual 42, 3) := by decide +kernel
theorem d264_265 : decode code 265 = .ok (.aload_n 2, 1) := by decide +kernel
theorem d264_266 : decode code 266 = .ok (.aload_n 0, 1) := by decide +kernel
theorem d264_267 : decode code 267 = .ok (.iload_n 3, 1) := by decide +kernel
theorem d264_268 : decode code 268 = .ok (.iconst 1, 1) := by decide +kernel
theorem d264_269 : decode code 269 = .ok (.iadd, 1) := by decide +kernel
theorem d264_270 : decode code 270 = .ok (.iaload, 1) := by decide +kernel
theorem d264_271 : decode code 271 = .ok (.invokevirtual 45, 3) := by decide +kernel
theorem d264_274 : decode code 274 = .ok (.if_icmp .eq 215, 3) := by decide +kernel
theorem d264_279 : decode code 279 = .ok (.aload_n 1, 1) := by decide +kernel
theorem d264_280 : decode code 280 = .ok (.invokevirtual 46, 3) := by decide +kernel
theorem d264_283 : decode code 283 = .ok (.aload_n 2, 1) := by decide +kernel
theorem d264_284 : decode code 284 = .ok (.invokevirtual 49, 3) := by decide +kernel
theorem d264_287 : decode code 287 = .ok (.if_icmp .eq 202, 3) := by decide +kernel
theorem d264_292 : decode code 292 = .ok (.aload_n 1, 1) := by decide +kernel
theorem d264_293 : decode code 293 = .ok (.invokevirtual 50, 3) := by decide +kernel
theorem d264_296 : decode code 296 = .ok (.aload_n 2, 1) := by decide +kernel
theorem d264_297 : decode code 297 = .ok (.invokevirtual 53, 3) := by decide +kernel
theorem d264_300 : decode code 300 = .ok (.if_icmp .eq 189, 3) := by decide +kernel
theorem d264_305 : decode code 305 = .ok (.aload_n 1, 1) := by decide +kernel
theorem d264_306 : decode code 306 = .ok (.aload_n 0, 1) := by decide +kernel
theorem d264_307 : decode code 307 = .ok (.iload_n 3, 1) := by decide +kernel
theorem d264_308 : decode code 308 = .ok (.iconst 1, 1) := by decide +kernel
theorem d264_309 : decode code 309 = .ok (.iadd, 1) := by decide +kernel
theorem d264_310 : decode code 310 = .ok (.iaload, 1) := by decide +kernel
theorem d264_311 : decode code 311 = .ok (.invokevirtual 54, 3) := by decide +kernel
theorem d264_314 : decode code 314 = .ok (.aload_n 2, 1) := by decide +kernel
theorem d264_315 : decode code 315 = .ok (.aload_n 0, 1) := by decide +kernel
theorem d264_316 : decode code 316 = .ok (.iload_n 3, 1) := by decide +kernel
theorem d264_317 : decode code 317 = .ok (.iconst 1, 1) := by decide +kernel
theorem d264_318 : decode code 318 = .ok (.iadd, 1) := by decide +kernel
theorem d264_319 : decode code 319 = .ok (.iaload, 1) := by decide +kernel
theorem d264_320 : decode code 320 = .ok (.invokevirtual 57, 3) := by decide +kernel
theorem d264_323 : decode code 323 = .ok (.if_icmp .eq 166, 3) := by decide +kernel
theorem d264_328 : decode code 328 = .ok (.aload_n 1, 1) := by decide +kernel
theorem d264_329 : decode code 329 = .ok (.aload_n 0, 1) := by decide +kernel
theorem d264_330 : decode code 330 = .ok (.iload_n 3, 1) := by decide +kernel
theorem d264_331 : decode code 331 = .ok (.iconst 1, 1) := by decide +kernel
theorem d264_332 : decode code 332 = .ok (.iadd, 1) := by decide +kernel
theorem d264_333 : decode code 333 = .ok (.iaload, 1) := by decide +kernel
theorem d264_334 : decode code 334 = .ok (.aload_n 0, 1) := by decide +kernel
theorem d264_335 : decode code 335 = .ok (.iload_n 3, 1) := by decide +kernel
theorem d264_336 : decode code 336 = .ok (.iconst 2, 1) := by decide +kernel
theorem d264_337 : decode code 337 = .ok (.iadd, 1) := by decide +kernel
theorem d264_338 : decode code 338 = .ok (.iaload, 1) := by decide +kernel
theorem d264_339 : decode code 339 = .ok (.invokevirtual 58, 3) := by decide +kernel
theorem d264_342 : decode code 342 = .ok (.aload_n 2, 1) := by decide +kernel
theorem d264_343 : decode code 343 = .ok (.aload_n 0, 1) := by decide +kernel
theorem d264_344 : decode code 344 = .ok (.iload_n 3, 1) := by decide +kernel
theorem d264_345 : decode code 345 = .ok (.iconst 1, 1) := by decide +kernel
theorem d264_346 : decode code 346 = .ok (.iadd, 1) := by decide +kernel
theorem d264_347 : decode code 347 = .ok (.iaload, 1) := by decide +kernel
theorem d264_348 : decode code 348 = .ok (.aload_n 0, 1) := by decide +kernel
theorem d264_349 : decode code 349 = .ok (.iload_n 3, 1) := by decide +kernel
theorem d264_350 : decode code 350 = .ok (.iconst 2, 1) := by decide +kernel
theorem d264_351 : decode code 351 = .ok (.iadd, 1) := by decide +kernel
theorem d264_352 : decode code 352 = .ok (.iaload, 1) := by decide +kernel
theorem d264_353 : decode code 353 = .ok (.invokevirtual 61, 3) := by decide +kernel
theorem d264_356 : decode code 356 = .ok (.if_icmp .eq 133, 3) := by decide +kernel
theorem d264_361 : decode code 361 = .ok (.aload_n 1, 1) := by decide +kernel
theorem d264_362 : decode code 362 = .ok (.aload_n 0, 1) := by decide +kernel
theorem d264_363 : decode code 363 = .ok (.iload_n 3, 1) := by decide +kernel
theorem d264_364 : decode code 364 = .ok (.iconst 1, 1) := by decide +kernel
theorem d264_365 : decode code 365 = .ok (.iadd, 1) := by decide +kernel
theorem d264_366 : decode code 366 = .ok (.iaload, 1) := by decide +kernel
theorem d264_367 : decode code 367 = .ok (.aload_n 0, 1) := by decide +kernel
theorem d264_368 : decode code 368 = .ok (.iload_n 3, 1) := by decide +kernel
theorem d264_369 : decode code 369 = .ok (.iconst 2, 1) := by decide +kernel
theorem d264_370 : decode code 370 = .ok (.iadd, 1) := by decide +kernel
theorem d264_371 : decode code 371 = .ok (.iaload, 1) := by decide +kernel
theorem d264_372 : decode code 372 = .ok (.invokevirtual 62, 3) := by decide +kernel
theorem d264_375 : decode code 375 = .ok (.aload_n 2, 1) := by decide +kernel
theorem d264_376 : decode code 376 = .ok (.aload_n 0, 1) := by decide +kernel
theorem d264_377 : decode code 377 = .ok (.iload_n 3, 1) := by decide +kernel
theorem d264_378 : decode code 378 = .ok (.iconst 1, 1) := by decide +kernel
theorem d264_379 : decode code 379 = .ok (.iadd, 1) := by decide +kernel
theorem d264_380 : decode code 380 = .ok (.iaload, 1) := by decide +kernel
theorem d264_381 : decode code 381 = .ok (.aload_n 0, 1) := by decide +kernel
theorem d264_382 : decode code 382 = .ok (.iload_n 3, 1) := by decide +kernel
theorem d264_383 : decode code 383 = .ok (.iconst 2, 1) := by decide +kernel
theorem d264_384 : decode code 384 = .ok (.iadd, 1) := by decide +kernel
theorem d264_385 : decode code 385 = .ok (.iaload, 1) := by decide +kernel
theorem d264_386 : decode code 386 = .ok (.invokevirtual 65, 3) := by decide +kernel
theorem d264_389 : decode code 389 = .ok (.if_icmp .eq 100, 3) := by decide +kernel
theorem d264_394 : decode code 394 = .ok (.aload_n 1, 1) := by decide +kernel
theorem d264_395 : decode code 395 = .ok (.aload_n 0, 1) := by decide +kernel
theorem d264_396 : decode code 396 = .ok (.iload_n 3, 1) := by decide +kernel
theorem d264_397 : decode code 397 = .ok (.iconst 1, 1) := by decide +kernel
theorem d264_398 : decode code 398 = .ok (.iadd, 1) := by decide +kernel
theorem d264_399 : decode code 399 = .ok (.iaload, 1) := by decide +kernel
theorem d264_400 : decode code 400 = .ok (.aload_n 0, 1) := by decide +kernel
theorem d264_401 : decode code 401 = .ok (.iload_n 3, 1) := by decide +kernel
theorem d264_402 : decode code 402 = .ok (.iconst 2, 1) := by decide +kernel
theorem d264_403 : decode code 403 = .ok (.iadd, 1) := by decide +kernel
theorem d264_404 : decode code 404 = .ok (.iaload, 1) := by decide +kernel
theorem d264_405 : decode code 405 = .ok (.invokevirtual 66, 3) := by decide +kernel
theorem d264_408 : decode code 408 = .ok (.aload_n 2, 1) := by decide +kernel
theorem d264_409 : decode code 409 = .ok (.aload_n 0, 1) := by decide +kernel
theorem d264_410 : decode code 410 = .ok (.iload_n 3, 1) := by decide +kernel
theorem d264_411 : decode code 411 = .ok (.iconst 1, 1) := by decide +kernel
theorem d264_412 : decode code 412 = .ok (.iadd, 1) := by decide +kernel
theorem d264_413 : decode code 413 = .ok (.iaload, 1) := by decide +kernel
theorem d264_414 : decode code 414 = .ok (.aload_n 0, 1) := by decide +kernel
theorem d264_415 : decode code 415 = .ok (.iload_n 3, 1) := by decide +kernel
theorem d264_416 : decode code 416 = .ok (.iconst 2, 1) := by decide +kernel
theorem d264_417 : decode code 417 = .ok (.iadd, 1) := by decide +kernel
theorem d264_418 : decode code 418 = .ok (.iaload, 1) := by decide +kernel
theorem d264_419 : decode code 419 = .ok (.invokevirtual 69, 3) := by decide +kernel
theorem d264_422 : decode code 422 = .ok (.if_icmp .eq 67, 3) := by decide +kernel
theorem d264_427 : decode code 427 = .ok (.aload_n 1, 1) := by decide +kernel
theorem d264_428 : decode code 428 = .ok (.invokevirtual 70, 3) := by decide +kernel
theorem d264_431 : decode code 431 = .ok (.aload_n 2, 1) := by decide +kernel
theorem d264_432 : decode code 432 = .ok (.invokevirtual 73, 3) := by decide +kernel
theorem d264_435 : decode code 435 = .ok (.if_icmp .eq 54, 3) := by decide +kernel
theorem d264_440 : decode code 440 = .ok (.aload_n 1, 1) := by decide +kernel
theorem d264_441 : decode code 441 = .ok (.invokevirtual 74, 3) := by decide +kernel
theorem d264_444 : decode code 444 = .ok (.aload_n 2, 1) := by decide +kernel
theorem d264_445 : decode code 445 = .ok (.invokevirtual 77, 3) := by decide +kernel
theorem d264_448 : decode code 448 = .ok (.if_icmp .eq 41, 3) := by decide +kernel
theorem d264_453 : decode code 453 = .ok (.aload_n 1, 1) := by decide +kernel
theorem d264_454 : decode code 454 = .ok (.invokevirtual 78, 3) := by decide +kernel
theorem d264_457 : decode code 457 = .ok (.aload_n 2, 1) := by decide +kernel
theorem d264_458 : decode code 458 = .ok (.invokevirtual 81, 3) := by decide +kernel
theorem d264_461 : decode code 461 = .ok (.if_icmp .eq 28, 3) := by decide +kernel
theorem d264_466 : decode code 466 = .ok (.aload_n 1, 1) := by decide +kernel
theorem d264_467 : decode code 467 = .ok (.aload_n 0, 1) := by decide +kernel
theorem d264_468 : decode code 468 = .ok (.iload_n 3, 1) := by decide +kernel
theorem d264_469 : decode code 469 = .ok (.iconst 1, 1) := by decide +kernel
theorem d264_470 : decode code 470 = .ok (.iadd, 1) := by decide +kernel
theorem d264_471 : decode code 471 = .ok (.iaload, 1) := by decide +kernel
theorem d264_472 : decode code 472 = .ok (.invokevirtual 82, 3) := by decide +kernel
theorem d264_475 : decode code 475 = .ok (.aload_n 2, 1) := by decide +kernel
theorem d264_476 : decode code 476 = .ok (.aload_n 0, 1) := by decide +kernel
theorem d264_477 : decode code 477 = .ok (.iload_n 3, 1) := by decide +kernel
theorem d264_478 : decode code 478 = .ok (.iconst 1, 1) := by decide +kernel
theorem d264_479 : decode code 479 = .ok (.iadd, 1) := by decide +kernel
theorem d264_480 : decode code 480 = .ok (.iaload, 1) := by decide +kernel
theorem d264_481 : decode code 481 = .ok (.invokevirtual 85, 3) := by decide +kernel
theorem d264_484 : decode code 484 = .ok (.if_icmp .eq 5, 3) := by decide +kernel
set_option maxRecDepth 100000 in
set_option maxHeartbeats 16000000 in
theorem law_c0 {p : Program} {e : Env} {s : State} {m : MethodId} {below : List Frame} {meth : Method} {c : Code} (l : Launch) (D : va_G) (dA : Nat → ClassId) {b L : Nat} {xs : Nat → Int32} (hW : ms_EW D dA s) (X : ms_X D (ms_tys dA) s p s m #[Value.ref b] meth c (fun q => s.heap.size ≤ q) x code 4 ret) (hX : va_X b L xs s s.heap) (hbl : b < s.heap.size) {k : Nat} (hk : 3 * k + 3 ≤ L) (hL : L ≤ 1536) {y r9 : Nat} {M : Nat → Nat} (hM : mm_ok r9 M) {hc : hm_T} {z : hz_T} {st : mT} {a : aS} (Cc : cI dA y hc z a) (Mm : mI st a) (ok : aO a) (dj0 : dj (mm_h dA hE0 r9 M st) hc) {H : Heap} {locs : List Loc} {cells slots : Nat} {ls : Array Slot} (I : hm_I D s s (mm_h dA hc r9 M st) z H locs) (hl : lv_has ls 4 [(3, .int (nI (3 * k))), (2, .ref r9), (1, .ref y), (0, .ref b)]) (hcl : cells + 40 * bl a + 100 ≤ 600000) (hsl : slots + 2600 * bl a + 4000 ≤ 7302249) (nx : ∀ (hc2 : hm_T) (z2 : hz_T) (st2 : mT) (a2 : aS) (H2 : Heap) (locs2 : List Loc) (cells2 slots2 : Nat), cI dA y hc2 z2 a2 → mI st2 a2 → aO a2 → dj (mm_h dA hE0 r9 M st2) hc2 → hm_I D s s (mm_h dA hc2 r9 M st2) z2 H2 locs2 → cells2 + 40 * bl a2 ≤ cells + 40 * bl a + 100 → slots2 + 2600 * bl a2 ≤ slots + 2600 * bl a + 4000 → W p l e room_1 s m #[Value.ref b] below meth c H2 locs2 cells2 slots2 (lw_Z below #[Value.ref b] s) (F0 m 489 ls [])) : W p l e room_1 s m #[Value.ref b] below meth c H locs cells slots (lw_Z below #[Value.ref b] s) (F0 m 116 ls []) := by
  have hx := X.1
  have hb := X.2.1
  have hown : s.vm.findClass "MarkupStoreLaw" = some m.cls := X.2.2.2.1
  have hK := X.2.2.2.2.2.2.2.2.1
  have hbA : ¬ s.heap.size ≤ b := Nat.not_le.mpr hbl
  obtain ⟨v, a2, st2, kc, eg, m2, bc, bs⟩ := bt_type Cc Mm ok (((xs (3 * k + 1)).toUInt32 % 65536).toInt32)
  obtain ⟨fy, hy⟩ := law_y dj0 Cc
  refine lv_aload_n hx hb d264_116 rfl (lv_at hl 2 rfl) ?_
  refine lv_aload_n hx hb d264_117 rfl (lv_at hl 3 rfl) ?_
  refine lv_iload_n hx hb d264_118 rfl (lv_at hl 0 rfl) ?_
  refine lv_iconst (v := 1) hx hb d264_119 (by decide) ?_
  refine lv_iadd hx hb d264_120 ?_
  refine ms_top (y := nI (3 * k + 1)) (by rw [show (1 : Int32) = nI 1 from rfl, nI_add]) ?_
  refine va_sld hx hb hX hbl hbA I.2.2.1 (vp_inI (i := 3 * k + 1) (by omega) (by omega)) d264_121 ?_
  refine ms_top (y := xs (3 * k + 1)) (congrArg xs (nI_clamp (by omega))) ?_
  refine lv_i2c (v := (((xs (3 * k + 1)).toUInt32 % 65536).toInt32)) hx hb d264_122 rfl ?_
  refine ht_V (C := "MarkupStore") (rest := []) (as := [.int (((xs (3 * k + 1)).toUInt32 % 65536).toInt32)]) X hl (cw_Store_type l D dA s hW y (((xs (3 * k + 1)).toUInt32 % 65536).toInt32) 1 142 _ z _ (law_w (wc := fun K h z => w_Store_type dA y (((xs (3 * k + 1)).toUInt32 % 65536).toInt32) 1 142 K h z) (fun d hw hk => fr_Store_type d hw hk) dj0 kc)) (List.forall_mem_cons.mpr ⟨ms_k125, List.forall_mem_cons.mpr ⟨ms_k126, List.forall_mem_cons.mpr ⟨ms_k127, List.forall_mem_cons.mpr ⟨ms_k1, List.forall_mem_cons.mpr ⟨ms_k128, fun _ h => absurd h List.not_mem_nil⟩⟩⟩⟩⟩) ⟨rfl, by decide +kernel, by decide +kernel, (by decide +kernel : (parseMethodDescriptor "(C)Z").map (fun d => d.parameters.length) = some 1)⟩ (hm_recv hK I rfl hy) I ⟨rfl, rfl⟩ ⟨⟨Nat.le_of_ble_eq_true rfl, Nat.le_of_ble_eq_true rfl⟩, (show cells + 1 ≤ 600000 by omega), (show slots + 142 ≤ 7302249 by omega)⟩ rfl (Nat.le_of_ble_eq_true rfl) d264_123 (fun vv h1 z1 H locs hR I9 => ?_)
  obtain ⟨v9, e1, hc2, e2, d2, e3, c2, o2⟩ := hR
  subst e3
  subst e1
  subst e2
  clear I hy fy
  have I := I9
  clear I9
  refine W.eq (g2 := F0 m 126 ls [.int v]) rfl ?_
  refine lv_aload_n hx hb d264_126 rfl (lv_at hl 1 rfl) ?_
  refine lv_aload_n hx hb d264_127 rfl (lv_at hl 3 rfl) ?_
  refine lv_iload_n hx hb d264_128 rfl (lv_at hl 0 rfl) ?_
  refine lv_iconst (v := 1) hx hb d264_129 (by decide) ?_
  refine lv_iadd hx hb d264_130 ?_
  refine ms_top (y := nI (3 * k + 1)) (by rw [show (1 : Int32) = nI 1 from rfl, nI_add]) ?_
  refine va_sld hx hb hX hbl hbA I.2.2.1 (vp_inI (i := 3 * k + 1) (by omega) (by omega)) d264_131 ?_
  refine ms_top (y := xs (3 * k + 1)) (congrArg xs (nI_clamp (by omega))) ?_
  refine lv_i2c (v := (((xs (3 * k + 1)).toUInt32 % 65536).toInt32)) hx hb d264_132 rfl ?_
  refine ht_V (C := "MarkupStoreModel") (rest := [.int v]) (as := [.int (((xs (3 * k + 1)).toUInt32 % 65536).toInt32)]) X hl (cm_type l D dA s hW.1 hc2 r9 M hM z1 (((xs (3 * k + 1)).toUInt32 % 65536).toInt32) st (v, st2) eg) (List.forall_mem_cons.mpr ⟨ms_k1500, List.forall_mem_cons.mpr ⟨ms_k1501, List.forall_mem_cons.mpr ⟨ms_k1502, List.forall_mem_cons.mpr ⟨ms_k7, List.forall_mem_cons.mpr ⟨ms_k1503, fun _ h => absurd h List.not_mem_nil⟩⟩⟩⟩⟩) ⟨rfl, by decide +kernel, by decide +kernel, (by decide +kernel : (parseMethodDescriptor "(C)Z").map (fun d => d.parameters.length) = some 1)⟩ (hm_recv hK I rfl mm_hr) I ⟨rfl, rfl⟩ ⟨⟨Nat.le_of_ble_eq_true rfl, Nat.le_of_ble_eq_true rfl⟩, (show cells + 1 + 0 ≤ 600000 by omega), (show slots + 142 + 0 ≤ 7302249 by omega)⟩ rfl (Nat.le_of_ble_eq_true rfl) d264_133 (fun vv h1 z2 H locs hR I9 => ?_)
  obtain ⟨e1, e2, e3⟩ := hR
  subst e1
  rw [e2, e3] at I9
  refine W.eq (g2 := F0 m 136 ls [.int v, .int v]) rfl ?_
  refine lv_icmp_eq hx hb d264_136 rfl (fun _ => ?_) (fun h9 => absurd rfl h9)
  exact nx hc2 z1 st2 a2 H locs _ _ c2 m2 o2 (dj_st d2) I9 (by omega) (by omega)

set_option maxRecDepth 100000 in
set_option maxHeartbeats 16000000 in
theorem law_c1 {p : Program} {e : Env} {s : State} {m : MethodId} {below : List Frame} {meth : Method} {c : Code} (l : Launch) (D : va_G) (dA : Nat → ClassId) {b L : Nat} {xs : Nat → Int32} (hW : ms_EW D dA s) (X : ms_X D (ms_tys dA) s p s m #[Value.ref b] meth c (fun q => s.heap.size ≤ q) x code 4 ret) (hX : va_X b L xs s s.heap) (hbl : b < s.heap.size) {k : Nat} (hk : 3 * k + 3 ≤ L) (hL : L ≤ 1536) {y r9 : Nat} {M : Nat → Nat} (hM : mm_ok r9 M) {hc : hm_T} {z : hz_T} {st : mT} {a : aS} (Cc : cI dA y hc z a) (Mm : mI st a) (ok : aO a) (dj0 : dj (mm_h dA hE0 r9 M st) hc) {H : Heap} {locs : List Loc} {cells slots : Nat} {ls : Array Slot} (I : hm_I D s s (mm_h dA hc r9 M st) z H locs) (hl : lv_has ls 4 [(3, .int (nI (3 * k))), (2, .ref r9), (1, .ref y), (0, .ref b)]) (hcl : cells + 40 * bl a + 100 ≤ 600000) (hsl : slots + 2600 * bl a + 4000 ≤ 7302249) (nx : ∀ (hc2 : hm_T) (z2 : hz_T) (st2 : mT) (a2 : aS) (H2 : Heap) (locs2 : List Loc) (cells2 slots2 : Nat), cI dA y hc2 z2 a2 → mI st2 a2 → aO a2 → dj (mm_h dA hE0 r9 M st2) hc2 → hm_I D s s (mm_h dA hc2 r9 M st2) z2 H2 locs2 → cells2 + 40 * bl a2 ≤ cells + 40 * bl a + 100 → slots2 + 2600 * bl a2 ≤ slots + 2600 * bl a + 4000 → W p l e room_1 s m #[Value.ref b] below meth c H2 locs2 cells2 slots2 (lw_Z below #[Value.ref b] s) (F0 m 489 ls [])) : W p l e room_1 s m #[Value.ref b] below meth c H locs cells slots (lw_Z below #[Value.ref b] s) (F0 m 141 ls []) := by
  have hx := X.1
  have hb := X.2.1
  have hown : s.vm.findClass "MarkupStoreLaw" = some m.cls := X.2.2.2.1
  have hK := X.2.2.2.2.2.2.2.2.1
  have hbA : ¬ s.heap.size ≤ b := Nat.not_le.mpr hbl
  obtain ⟨v, a2, st2, kc, eg, m2, bc, bs⟩ := bt_load Cc Mm ok
  obtain ⟨fy, hy⟩ := law_y dj0 Cc
  refine lv_aload_n hx hb d264_141 rfl (lv_at hl 2 rfl) ?_
  refine ht_V (C := "MarkupStore") (rest := []) (as := []) X hl (cw_Store_load l D dA s hW y (40 * bl a + 50) (2600 * bl a + 3000) _ z _ (law_w (wc := fun K h z => w_Store_load dA y (40 * bl a + 50) (2600 * bl a + 3000) K h z) (fun d hw hk => fr_Store_load d hw hk) dj0 kc)) (List.forall_mem_cons.mpr ⟨ms_k231, List.forall_mem_cons.mpr ⟨ms_k232, List.forall_mem_cons.mpr ⟨ms_k233, List.forall_mem_cons.mpr ⟨ms_k1, List.forall_mem_cons.mpr ⟨ms_k234, fun _ h => absurd h List.not_mem_nil⟩⟩⟩⟩⟩) ⟨rfl, by decide +kernel, by decide +kernel, (by decide +kernel : (parseMethodDescriptor "()I").map (fun d => d.parameters.length) = some 0)⟩ (hm_recv hK I rfl hy) I ⟨rfl, rfl⟩ ⟨⟨Nat.le_of_ble_eq_true rfl, Nat.le_of_ble_eq_true rfl⟩, (show cells + (40 * bl a + 50) ≤ 600000 by omega), (show slots + (2600 * bl a + 3000) ≤ 7302249 by omega)⟩ rfl (Nat.le_of_ble_eq_true rfl) d264_142 (fun vv h1 z1 H locs hR I9 => ?_)
  obtain ⟨v9, e1, hc2, e2, d2, e3, c2, o2⟩ := hR
  subst e3
  subst e1
  subst e2
  clear I hy fy
  have I := I9
  clear I9
  refine W.eq (g2 := F0 m 145 ls [.int v]) rfl ?_
  refine lv_aload_n hx hb d264_145 rfl (lv_at hl 1 rfl) ?_
  refine ht_V (C := "MarkupStoreModel") (rest := [.int v]) (as := []) X hl (cm_load l D dA s hW.1 hc2 r9 M hM z1 st (v, st2) eg) (List.forall_mem_cons.mpr ⟨ms_k1504, List.forall_mem_cons.mpr ⟨ms_k1505, List.forall_mem_cons.mpr ⟨ms_k1506, List.forall_mem_cons.mpr ⟨ms_k7, List.forall_mem_cons.mpr ⟨ms_k1507, fun _ h => absurd h List.not_mem_nil⟩⟩⟩⟩⟩) ⟨rfl, by decide +kernel, by decide +kernel, (by decide +kernel : (parseMethodDescriptor "()I").map (fun d => d.parameters.length) = some 0)⟩ (hm_recv hK I rfl mm_hr) I ⟨rfl, rfl⟩ ⟨⟨Nat.le_of_ble_eq_true rfl, Nat.le_of_ble_eq_true rfl⟩, (show cells + (40 * bl a + 50) + 0 ≤ 600000 by omega), (show slots + (2600 * bl a + 3000) + 0 ≤ 7302249 by omega)⟩ rfl (Nat.le_of_ble_eq_true rfl) d264_146 (fun vv h1 z2 H locs hR I9 => ?_)
  obtain ⟨e1, e2, e3⟩ := hR
  subst e1
  rw [e2, e3] at I9
  refine W.eq (g2 := F0 m 149 ls [.int v, .int v]) rfl ?_
  refine lv_icmp_eq hx hb d264_149 rfl (fun _ => ?_) (fun h9 => absurd rfl h9)
  exact nx hc2 z1 st2 a2 H locs _ _ c2 m2 o2 (dj_st d2) I9 (by omega) (by omega)

set_option maxRecDepth 100000 in
set_option maxHeartbeats 16000000 in
theorem law_c2 {p : Program} {e : Env} {s : State} {m : MethodId} {below : List Frame} {meth : Method} {c : Code} (l : Launch) (D : va_G) (dA : Nat → ClassId) {b L : Nat} {xs : Nat → Int32} (hW : ms_EW D dA s) (X : ms_X D (ms_tys dA) s p s m #[Value.ref b] meth c (fun q => s.heap.size ≤ q) x code 4 ret) (hX : va_X b L xs s s.heap) (hbl : b < s.heap.size) {k : Nat} (hk : 3 * k + 3 ≤ L) (hL : L ≤ 1536) {y r9 : Nat} {M : Nat → Nat} (hM : mm_ok r9 M) {hc : hm_T} {z : hz_T} {st : mT} {a : aS} (Cc : cI dA y hc z a) (Mm : mI st a) (ok : aO a) (dj0 : dj (mm_h dA hE0 r9 M st) hc) {H : Heap} {locs : List Loc} {cells slots : Nat} {ls : Array Slot} (I : hm_I D s s (mm_h dA hc r9 M st) z H locs) (hl : lv_has ls 4 [(3, .int (nI (3 * k))), (2, .ref r9), (1, .ref y), (0, .ref b)]) (hcl : cells + 40 * bl a + 100 ≤ 600000) (hsl : slots + 2600 * bl a + 4000 ≤ 7302249) (nx : ∀ (hc2 : hm_T) (z2 : hz_T) (st2 : mT) (a2 : aS) (H2 : Heap) (locs2 : List Loc) (cells2 slots2 : Nat), cI dA y hc2 z2 a2 → mI st2 a2 → aO a2 → dj (mm_h dA hE0 r9 M st2) hc2 → hm_I D s s (mm_h dA hc2 r9 M st2) z2 H2 locs2 → cells2 + 40 * bl a2 ≤ cells + 40 * bl a + 100 → slots2 + 2600 * bl a2 ≤ slots + 2600 * bl a + 4000 → W p l e room_1 s m #[Value.ref b] below meth c H2 locs2 cells2 slots2 (lw_Z below #[Value.ref b] s) (F0 m 489 ls [])) : W p l e room_1 s m #[Value.ref b] below meth c H locs cells slots (lw_Z below #[Value.ref b] s) (F0 m 154 ls []) := by
  have hx := X.1
  have hb := X.2.1
  have hown : s.vm.findClass "MarkupStoreLaw" = some m.cls := X.2.2.2.1
  have hK := X.2.2.2.2.2.2.2.2.1
  have hbA : ¬ s.heap.size ≤ b := Nat.not_le.mpr hbl
  obtain ⟨v, a2, st2, kc, eg, m2, bc, bs⟩ := bt_insert Cc Mm ok (xs (3 * k + 1)) (xs (3 * k + 2))
  obtain ⟨fy, hy⟩ := law_y dj0 Cc
  refine lv_aload_n hx hb d264_154 rfl (lv_at hl 2 rfl) ?_
  refine lv_aload_n hx hb d264_155 rfl (lv_at hl 3 rfl) ?_
  refine lv_iload_n hx hb d264_156 rfl (lv_at hl 0 rfl) ?_
  refine lv_iconst (v := 1) hx hb d264_157 (by decide) ?_
  refine lv_iadd hx hb d264_158 ?_
  refine ms_top (y := nI (3 * k + 1)) (by rw [show (1 : Int32) = nI 1 from rfl, nI_add]) ?_
  refine va_sld hx hb hX hbl hbA I.2.2.1 (vp_inI (i := 3 * k + 1) (by omega) (by omega)) d264_159 ?_
  refine ms_top (y := xs (3 * k + 1)) (congrArg xs (nI_clamp (by omega))) ?_
  refine lv_aload_n hx hb d264_160 rfl (lv_at hl 3 rfl) ?_
  refine lv_iload_n hx hb d264_161 rfl (lv_at hl 0 rfl) ?_
  refine lv_iconst (v := 2) hx hb d264_162 (by decide) ?_
  refine lv_iadd hx hb d264_163 ?_
  refine ms_top (y := nI (3 * k + 2)) (by rw [show (2 : Int32) = nI 2 from rfl, nI_add]) ?_
  refine va_sld hx hb hX hbl hbA I.2.2.1 (vp_inI (i := 3 * k + 2) (by omega) (by omega)) d264_164 ?_
  refine ms_top (y := xs (3 * k + 2)) (congrArg xs (nI_clamp (by omega))) ?_
  refine ht_V (C := "MarkupStore") (rest := []) (as := [.int (xs (3 * k + 1)), .int (xs (3 * k + 2))]) X hl (cw_Store_insert l D dA s hW y (xs (3 * k + 1)) (xs (3 * k + 2)) (40 * bl a + 60) (2600 * bl a + 3600) _ z _ (law_w (wc := fun K h z => w_Store_insert dA y (xs (3 * k + 1)) (xs (3 * k + 2)) (40 * bl a + 60) (2600 * bl a + 3600) K h z) (fun d hw hk => fr_Store_insert d hw hk) dj0 kc)) (List.forall_mem_cons.mpr ⟨ms_k741, List.forall_mem_cons.mpr ⟨ms_k742, List.forall_mem_cons.mpr ⟨ms_k743, List.forall_mem_cons.mpr ⟨ms_k1, List.forall_mem_cons.mpr ⟨ms_k744, fun _ h => absurd h List.not_mem_nil⟩⟩⟩⟩⟩) ⟨rfl, by decide +kernel, by decide +kernel, (by decide +kernel : (parseMethodDescriptor "(II)I").map (fun d => d.parameters.length) = some 2)⟩ (hm_recv hK I rfl hy) I ⟨rfl, rfl⟩ ⟨⟨Nat.le_of_ble_eq_true rfl, Nat.le_of_ble_eq_true rfl⟩, (show cells + (40 * bl a + 60) ≤ 600000 by omega), (show slots + (2600 * bl a + 3600) ≤ 7302249 by omega)⟩ rfl (Nat.le_of_ble_eq_true rfl) d264_165 (fun vv h1 z1 H locs hR I9 => ?_)
  obtain ⟨v9, e1, hc2, e2, d2, e3, c2, o2⟩ := hR
  subst e3
  subst e1
  subst e2
  clear I hy fy
  have I := I9
  clear I9
  refine W.eq (g2 := F0 m 168 ls [.int v]) rfl ?_
  refine lv_aload_n hx hb d264_168 rfl (lv_at hl 1 rfl) ?_
  refine lv_aload_n hx hb d264_169 rfl (lv_at hl 3 rfl) ?_
  refine lv_iload_n hx hb d264_170 rfl (lv_at hl 0 rfl) ?_
  refine lv_iconst (v := 1) hx hb d264_171 (by decide) ?_
  refine lv_iadd hx hb d264_172 ?_
  refine ms_top (y := nI (3 * k + 1)) (by rw [show (1 : Int32) = nI 1 from rfl, nI_add]) ?_
  refine va_sld hx hb hX hbl hbA I.2.2.1 (vp_inI (i := 3 * k + 1) (by omega) (by omega)) d264_173 ?_
  refine ms_top (y := xs (3 * k + 1)) (congrArg xs (nI_clamp (by omega))) ?_
  refine lv_aload_n hx hb d264_174 rfl (lv_at hl 3 rfl) ?_
  refine lv_iload_n hx hb d264_175 rfl (lv_at hl 0 rfl) ?_
  refine lv_iconst (v := 2) hx hb d264_176 (by decide) ?_
  refine lv_iadd hx hb d264_177 ?_
  refine ms_top (y := nI (3 * k + 2)) (by rw [show (2 : Int32) = nI 2 from rfl, nI_add]) ?_
  refine va_sld hx hb hX hbl hbA I.2.2.1 (vp_inI (i := 3 * k + 2) (by omega) (by omega)) d264_178 ?_
  refine ms_top (y := xs (3 * k + 2)) (congrArg xs (nI_clamp (by omega))) ?_
  refine ht_V (C := "MarkupStoreModel") (rest := [.int v]) (as := [.int (xs (3 * k + 1)), .int (xs (3 * k + 2))]) X hl (cm_insert l D dA s hW.1 hc2 r9 M hM z1 (xs (3 * k + 1)) (xs (3 * k + 2)) st (v, st2) eg) (List.forall_mem_cons.mpr ⟨ms_k1599, List.forall_mem_cons.mpr ⟨ms_k1600, List.forall_mem_cons.mpr ⟨ms_k1601, List.forall_mem_cons.mpr ⟨ms_k7, List.forall_mem_cons.mpr ⟨ms_k1602, fun _ h => absurd h List.not_mem_nil⟩⟩⟩⟩⟩) ⟨rfl, by decide +kernel, by decide +kernel, (by decide +kernel : (parseMethodDescriptor "(II)I").map (fun d => d.parameters.length) = some 2)⟩ (hm_recv hK I rfl mm_hr) I ⟨rfl, rfl⟩ ⟨⟨Nat.le_of_ble_eq_true rfl, Nat.le_of_ble_eq_true rfl⟩, (show cells + (40 * bl a + 60) + 0 ≤ 600000 by omega), (show slots + (2600 * bl a + 3600) + 0 ≤ 7302249 by omega)⟩ rfl (Nat.le_of_ble_eq_true rfl) d264_179 (fun vv h1 z2 H locs hR I9 => ?_)
  obtain ⟨e1, e2, e3⟩ := hR
  subst e1
  rw [e2, e3] at I9
  refine W.eq (g2 := F0 m 182 ls [.int v, .int v]) rfl ?_
  refine lv_icmp_eq hx hb d264_182 rfl (fun _ => ?_) (fun h9 => absurd rfl h9)
  exact nx hc2 z1 st2 a2 H locs _ _ c2 m2 o2 (dj_st d2) I9 (by omega) (by omega)

set_option maxRecDepth 100000 in
set_option maxHeartbeats 16000000 in
theorem law_c3 {p : Program} {e : Env} {s : State} {m : MethodId} {below : List Frame} {meth : Method} {c : Code} (l : Launch) (D : va_G) (dA : Nat → ClassId) {b L : Nat} {xs : Nat → Int32} (hW : ms_EW D dA s) (X : ms_X D (ms_tys dA) s p s m #[Value.ref b] meth c (fun q => s.heap.size ≤ q) x code 4 ret) (hX : va_X b L xs s s.heap) (hbl : b < s.heap.size) {k : Nat} (hk : 3 * k + 3 ≤ L) (hL : L ≤ 1536) {y r9 : Nat} {M : Nat → Nat} (hM : mm_ok r9 M) {hc : hm_T} {z : hz_T} {st : mT} {a : aS} (Cc : cI dA y hc z a) (Mm : mI st a) (ok : aO a) (dj0 : dj (mm_h dA hE0 r9 M st) hc) {H : Heap} {locs : List Loc} {cells slots : Nat} {ls : Array Slot} (I : hm_I D s s (mm_h dA hc r9 M st) z H locs) (hl : lv_has ls 4 [(3, .int (nI (3 * k))), (2, .ref r9), (1, .ref y), (0, .ref b)]) (hcl : cells + 40 * bl a + 100 ≤ 600000) (hsl : slots + 2600 * bl a + 4000 ≤ 7302249) (nx : ∀ (hc2 : hm_T) (z2 : hz_T) (st2 : mT) (a2 : aS) (H2 : Heap) (locs2 : List Loc) (cells2 slots2 : Nat), cI dA y hc2 z2 a2 → mI st2 a2 → aO a2 → dj (mm_h dA hE0 r9 M st2) hc2 → hm_I D s s (mm_h dA hc2 r9 M st2) z2 H2 locs2 → cells2 + 40 * bl a2 ≤ cells + 40 * bl a + 100 → slots2 + 2600 * bl a2 ≤ slots + 2600 * bl a + 4000 → W p l e room_1 s m #[Value.ref b] below meth c H2 locs2 cells2 slots2 (lw_Z below #[Value.ref b] s) (F0 m 489 ls [])) : W p l e room_1 s m #[Value.ref b] below meth c H locs cells slots (lw_Z below #[Value.ref b] s) (F0 m 187 ls []) := by
  have hx := X.1
  have hb := X.2.1
  have hown : s.vm.findClass "MarkupStoreLaw" = some m.cls := X.2.2.2.1
  have hK := X.2.2.2.2.2.2.2.2.1
  have hbA : ¬ s.heap.size ≤ b := Nat.not_le.mpr hbl
  obtain ⟨v, a2, st2, kc, eg, m2, bc, bs⟩ := bt_remove Cc Mm ok (xs (3 * k + 1))
  obtain ⟨fy, hy⟩ := law_y dj0 Cc
  refine lv_aload_n hx hb d264_187 rfl (lv_at hl 2 rfl) ?_
  refine lv_aload_n hx hb d264_188 rfl (lv_at hl 3 rfl) ?_
  refine lv_iload_n hx hb d264_189 rfl (lv_at hl 0 rfl) ?_
  refine lv_iconst (v := 1) hx hb d264_190 (by decide) ?_
  refine lv_iadd hx hb d264_191 ?_
  refine ms_top (y := nI (3 * k + 1)) (by rw [show (1 : Int32) = nI 1 from rfl, nI_add]) ?_
  refine va_sld hx hb hX hbl hbA I.2.2.1 (vp_inI (i := 3 * k + 1) (by omega) (by omega)) d264_192 ?_
  refine ms_top (y := xs (3 * k + 1)) (congrArg xs (nI_clamp (by omega))) ?_
  refine ht_V (C := "MarkupStore") (rest := []) (as := [.int (xs (3 * k + 1))]) X hl (cw_Store_remove l D dA s hW y (xs (3 * k + 1)) 5 572 _ z _ (law_w (wc := fun K h z => w_Store_remove dA y (xs (3 * k + 1)) 5 572 K h z) (fun d hw hk => fr_Store_remove d hw hk) dj0 kc)) (List.forall_mem_cons.mpr ⟨ms_k845, List.forall_mem_cons.mpr ⟨ms_k846, List.forall_mem_cons.mpr ⟨ms_k847, List.forall_mem_cons.mpr ⟨ms_k1, List.forall_mem_cons.mpr ⟨ms_k848, fun _ h => absurd h List.not_mem_nil⟩⟩⟩⟩⟩) ⟨rfl, by decide +kernel, by decide +kernel, (by decide +kernel : (parseMethodDescriptor "(I)I").map (fun d => d.parameters.length) = some 1)⟩ (hm_recv hK I rfl hy) I ⟨rfl, rfl⟩ ⟨⟨Nat.le_of_ble_eq_true rfl, Nat.le_of_ble_eq_true rfl⟩, (show cells + 5 ≤ 600000 by omega), (show slots + 572 ≤ 7302249 by omega)⟩ rfl (Nat.le_of_ble_eq_true rfl) d264_193 (fun vv h1 z1 H locs hR I9 => ?_)
  obtain ⟨v9, e1, hc2, e2, d2, e3, c2, o2⟩ := hR
  subst e3
  subst e1
  subst e2
  clear I hy fy
  have I := I9
  clear I9
  refine W.eq (g2 := F0 m 196 ls [.int v]) rfl ?_
  refine lv_aload_n hx hb d264_196 rfl (lv_at hl 1 rfl) ?_
  refine lv_aload_n hx hb d264_197 rfl (lv_at hl 3 rfl) ?_
  refine lv_iload_n hx hb d264_198 rfl (lv_at hl 0 rfl) ?_
  refine lv_iconst (v := 1) hx hb d264_199 (by decide) ?_
  refine lv_iadd hx hb d264_200 ?_
  refine ms_top (y := nI (3 * k + 1)) (by rw [show (1 : Int32) = nI 1 from rfl, nI_add]) ?_
  refine va_sld hx hb hX hbl hbA I.2.2.1 (vp_inI (i := 3 * k + 1) (by omega) (by omega)) d264_201 ?_
  refine ms_top (y := xs (3 * k + 1)) (congrArg xs (nI_clamp (by omega))) ?_
  refine ht_V (C := "MarkupStoreModel") (rest := [.int v]) (as := [.int (xs (3 * k + 1))]) X hl (cm_remove l D dA s hW.1 hc2 r9 M hM z1 (xs (3 * k + 1)) st (v, st2) eg) (List.forall_mem_cons.mpr ⟨ms_k1654, List.forall_mem_cons.mpr ⟨ms_k1655, List.forall_mem_cons.mpr ⟨ms_k1656, List.forall_mem_cons.mpr ⟨ms_k7, List.forall_mem_cons.mpr ⟨ms_k1657, fun _ h => absurd h List.not_mem_nil⟩⟩⟩⟩⟩) ⟨rfl, by decide +kernel, by decide +kernel, (by decide +kernel : (parseMethodDescriptor "(I)I").map (fun d => d.parameters.length) = some 1)⟩ (hm_recv hK I rfl mm_hr) I ⟨rfl, rfl⟩ ⟨⟨Nat.le_of_ble_eq_true rfl, Nat.le_of_ble_eq_true rfl⟩, (show cells + 5 + 0 ≤ 600000 by omega), (show slots + 572 + 0 ≤ 7302249 by omega)⟩ rfl (Nat.le_of_ble_eq_true rfl) d264_202 (fun vv h1 z2 H locs hR I9 => ?_)
  obtain ⟨e1, e2, e3⟩ := hR
  subst e1
  rw [e2, e3] at I9
  refine W.eq (g2 := F0 m 205 ls [.int v, .int v]) rfl ?_
  refine lv_icmp_eq hx hb d264_205 rfl (fun _ => ?_) (fun h9 => absurd rfl h9)
  exact nx hc2 z1 st2 a2 H locs _ _ c2 m2 o2 (dj_st d2) I9 (by omega) (by omega)

set_option maxRecDepth 100000 in
set_option maxHeartbeats 16000000 in
theorem law_c4 {p : Program} {e : Env} {s : State} {m : MethodId} {below : List Frame} {meth : Method} {c : Code} (l : Launch) (D : va_G) (dA : Nat → ClassId) {b L : Nat} {xs : Nat → Int32} (hW : ms_EW D dA s) (X : ms_X D (ms_tys dA) s p s m #[Value.ref b] meth c (fun q => s.heap.size ≤ q) x code 4 ret) (hX : va_X b L xs s s.heap) (hbl : b < s.heap.size) {k : Nat} (hk : 3 * k + 3 ≤ L) (hL : L ≤ 1536) {y r9 : Nat} {M : Nat → Nat} (hM : mm_ok r9 M) {hc : hm_T} {z : hz_T} {st : mT} {a : aS} (Cc : cI dA y hc z a) (Mm : mI st a) (ok : aO a) (dj0 : dj (mm_h dA hE0 r9 M st) hc) {H : Heap} {locs : List Loc} {cells slots : Nat} {ls : Array Slot} (I : hm_I D s s (mm_h dA hc r9 M st) z H locs) (hl : lv_has ls 4 [(3, .int (nI (3 * k))), (2, .ref r9), (1, .ref y), (0, .ref b)]) (hcl : cells + 40 * bl a + 100 ≤ 600000) (hsl : slots + 2600 * bl a + 4000 ≤ 7302249) (nx : ∀ (hc2 : hm_T) (z2 : hz_T) (st2 : mT) (a2 : aS) (H2 : Heap) (locs2 : List Loc) (cells2 slots2 : Nat), cI dA y hc2 z2 a2 → mI st2 a2 → aO a2 → dj (mm_h dA hE0 r9 M st2) hc2 → hm_I D s s (mm_h dA hc2 r9 M st2) z2 H2 locs2 → cells2 + 40 * bl a2 ≤ cells + 40 * bl a + 100 → slots2 + 2600 * bl a2 ≤ slots + 2600 * bl a + 4000 → W p l e room_1 s m #[Value.ref b] below meth c H2 locs2 cells2 slots2 (lw_Z below #[Value.ref b] s) (F0 m 489 ls [])) : W p l e room_1 s m #[Value.ref b] below meth c H locs cells slots (lw_Z below #[Value.ref b] s) (F0 m 210 ls []) := by
  have hx := X.1
  have hb := X.2.1
  have hown : s.vm.findClass "MarkupStoreLaw" = some m.cls := X.2.2.2.1
  have hK := X.2.2.2.2.2.2.2.2.1
  have hbA : ¬ s.heap.size ≤ b := Nat.not_le.mpr hbl
  obtain ⟨v, a2, st2, kc, eg, m2, bc, bs⟩ := bt_replace Cc Mm ok (xs (3 * k + 1))
  obtain ⟨fy, hy⟩ := law_y dj0 Cc
  refine lv_aload_n hx hb d264_210 rfl (lv_at hl 2 rfl) ?_
  refine lv_aload_n hx hb d264_211 rfl (lv_at hl 3 rfl) ?_
  refine lv_iload_n hx hb d264_212 rfl (lv_at hl 0 rfl) ?_
  refine lv_iconst (v := 1) hx hb d264_213 (by decide) ?_
  refine lv_iadd hx hb d264_214 ?_
  refine ms_top (y := nI (3 * k + 1)) (by rw [show (1 : Int32) = nI 1 from rfl, nI_add]) ?_
  refine va_sld hx hb hX hbl hbA I.2.2.1 (vp_inI (i := 3 * k + 1) (by omega) (by omega)) d264_215 ?_
  refine ms_top (y := xs (3 * k + 1)) (congrArg xs (nI_clamp (by omega))) ?_
  refine ht_V (C := "MarkupStore") (rest := []) (as := [.int (xs (3 * k + 1))]) X hl (cw_Store_replace l D dA s hW y (xs (3 * k + 1)) 3 288 _ z _ (law_w (wc := fun K h z => w_Store_replace dA y (xs (3 * k + 1)) 3 288 K h z) (fun d hw hk => fr_Store_replace d hw hk) dj0 kc)) (List.forall_mem_cons.mpr ⟨ms_k850, List.forall_mem_cons.mpr ⟨ms_k851, List.forall_mem_cons.mpr ⟨ms_k852, List.forall_mem_cons.mpr ⟨ms_k1, List.forall_mem_cons.mpr ⟨ms_k853, fun _ h => absurd h List.not_mem_nil⟩⟩⟩⟩⟩) ⟨rfl, by decide +kernel, by decide +kernel, (by decide +kernel : (parseMethodDescriptor "(I)Z").map (fun d => d.parameters.length) = some 1)⟩ (hm_recv hK I rfl hy) I ⟨rfl, rfl⟩ ⟨⟨Nat.le_of_ble_eq_true rfl, Nat.le_of_ble_eq_true rfl⟩, (show cells + 3 ≤ 600000 by omega), (show slots + 288 ≤ 7302249 by omega)⟩ rfl (Nat.le_of_ble_eq_true rfl) d264_216 (fun vv h1 z1 H locs hR I9 => ?_)
  obtain ⟨v9, e1, hc2, e2, d2, e3, c2, o2⟩ := hR
  subst e3
  subst e1
  subst e2
  clear I hy fy
  have I := I9
  clear I9
  refine W.eq (g2 := F0 m 219 ls [.int v]) rfl ?_
  refine lv_aload_n hx hb d264_219 rfl (lv_at hl 1 rfl) ?_
  refine lv_aload_n hx hb d264_220 rfl (lv_at hl 3 rfl) ?_
  refine lv_iload_n hx hb d264_221 rfl (lv_at hl 0 rfl) ?_
  refine lv_iconst (v := 1) hx hb d264_222 (by decide) ?_
  refine lv_iadd hx hb d264_223 ?_
  refine ms_top (y := nI (3 * k + 1)) (by rw [show (1 : Int32) = nI 1 from rfl, nI_add]) ?_
  refine va_sld hx hb hX hbl hbA I.2.2.1 (vp_inI (i := 3 * k + 1) (by omega) (by omega)) d264_224 ?_
  refine ms_top (y := xs (3 * k + 1)) (congrArg xs (nI_clamp (by omega))) ?_
  refine ht_V (C := "MarkupStoreModel") (rest := [.int v]) (as := [.int (xs (3 * k + 1))]) X hl (cm_replace l D dA s hW.1 hc2 r9 M hM z1 (xs (3 * k + 1)) st (v, st2) eg) (List.forall_mem_cons.mpr ⟨ms_k1662, List.forall_mem_cons.mpr ⟨ms_k1663, List.forall_mem_cons.mpr ⟨ms_k1664, List.forall_mem_cons.mpr ⟨ms_k7, List.forall_mem_cons.mpr ⟨ms_k1665, fun _ h => absurd h List.not_mem_nil⟩⟩⟩⟩⟩) ⟨rfl, by decide +kernel, by decide +kernel, (by decide +kernel : (parseMethodDescriptor "(I)Z").map (fun d => d.parameters.length) = some 1)⟩ (hm_recv hK I rfl mm_hr) I ⟨rfl, rfl⟩ ⟨⟨Nat.le_of_ble_eq_true rfl, Nat.le_of_ble_eq_true rfl⟩, (show cells + 3 + 0 ≤ 600000 by omega), (show slots + 288 + 0 ≤ 7302249 by omega)⟩ rfl (Nat.le_of_ble_eq_true rfl) d264_225 (fun vv h1 z2 H locs hR I9 => ?_)
  obtain ⟨e1, e2, e3⟩ := hR
  subst e1
  rw [e2, e3] at I9
  refine W.eq (g2 := F0 m 228 ls [.int v, .int v]) rfl ?_
  refine lv_icmp_eq hx hb d264_228 rfl (fun _ => ?_) (fun h9 => absurd rfl h9)
  exact nx hc2 z1 st2 a2 H locs _ _ c2 m2 o2 (dj_st d2) I9 (by omega) (by omega)

set_option maxRecDepth 100000 in
set_option maxHeartbeats 16000000 in
theorem law_c5 {p : Program} {e : Env} {s : State} {m : MethodId} {below : List Frame} {meth : Method} {c : Code} (l : Launch) (D : va_G) (dA : Nat → ClassId) {b L : Nat} {xs : Nat → Int32} (hW : ms_EW D dA s) (X : ms_X D (ms_tys dA) s p s m #[Value.ref b] meth c (fun q => s.heap.size ≤ q) x code 4 ret) (hX : va_X b L xs s s.heap) (hbl : b < s.heap.size) {k : Nat} (hk : 3 * k + 3 ≤ L) (hL : L ≤ 1536) {y r9 : Nat} {M : Nat → Nat} (hM : mm_ok r9 M) {hc : hm_T} {z : hz_T} {st : mT} {a : aS} (Cc : cI dA y hc z a) (Mm : mI st a) (ok : aO a) (dj0 : dj (mm_h dA hE0 r9 M st) hc) {H : Heap} {locs : List Loc} {cells slots : Nat} {ls : Array Slot} (I : hm_I D s s (mm_h dA hc r9 M st) z H locs) (hl : lv_has ls 4 [(3, .int (nI (3 * k))), (2, .ref r9), (1, .ref y), (0, .ref b)]) (hcl : cells + 40 * bl a + 100 ≤ 600000) (hsl : slots + 2600 * bl a + 4000 ≤ 7302249) (nx : ∀ (hc2 : hm_T) (z2 : hz_T) (st2 : mT) (a2 : aS) (H2 : Heap) (locs2 : List Loc) (cells2 slots2 : Nat), cI dA y hc2 z2 a2 → mI st2 a2 → aO a2 → dj (mm_h dA hE0 r9 M st2) hc2 → hm_I D s s (mm_h dA hc2 r9 M st2) z2 H2 locs2 → cells2 + 40 * bl a2 ≤ cells + 40 * bl a + 100 → slots2 + 2600 * bl a2 ≤ slots + 2600 * bl a + 4000 → W p l e room_1 s m #[Value.ref b] below meth c H2 locs2 cells2 slots2 (lw_Z below #[Value.ref b] s) (F0 m 489 ls [])) : W p l e room_1 s m #[Value.ref b] below meth c H locs cells slots (lw_Z below #[Value.ref b] s) (F0 m 233 ls []) := by
  have hx := X.1
  have hb := X.2.1
  have hown : s.vm.findClass "MarkupStoreLaw" = some m.cls := X.2.2.2.1
  have hK := X.2.2.2.2.2.2.2.2.1
  have hbA : ¬ s.heap.size ≤ b := Nat.not_le.mpr hbl
  obtain ⟨v, a2, st2, kc, eg, m2, bc, bs⟩ := bt_query Cc Mm ok (xs (3 * k + 1))
  obtain ⟨fy, hy⟩ := law_y dj0 Cc
  refine lv_aload_n hx hb d264_233 rfl (lv_at hl 2 rfl) ?_
  refine lv_aload_n hx hb d264_234 rfl (lv_at hl 3 rfl) ?_
  refine lv_iload_n hx hb d264_235 rfl (lv_at hl 0 rfl) ?_
  refine lv_iconst (v := 1) hx hb d264_236 (by decide) ?_
  refine lv_iadd hx hb d264_237 ?_
  refine ms_top (y := nI (3 * k + 1)) (by rw [show (1 : Int32) = nI 1 from rfl, nI_add]) ?_
  refine va_sld hx hb hX hbl hbA I.2.2.1 (vp_inI (i := 3 * k + 1) (by omega) (by omega)) d264_238 ?_
  refine ms_top (y := xs (3 * k + 1)) (congrArg xs (nI_clamp (by omega))) ?_
  refine ht_V (C := "MarkupStore") (rest := []) (as := [.int (xs (3 * k + 1))]) X hl (cw_Store_query l D dA s hW y (xs (3 * k + 1)) (13 * bl a + 20) (859 * bl a + 700) _ z _ (law_w (wc := fun K h z => w_Store_query dA y (xs (3 * k + 1)) (13 * bl a + 20) (859 * bl a + 700) K h z) (fun d hw hk => fr_Store_query d hw hk) dj0 kc)) (List.forall_mem_cons.mpr ⟨ms_k866, List.forall_mem_cons.mpr ⟨ms_k867, List.forall_mem_cons.mpr ⟨ms_k868, List.forall_mem_cons.mpr ⟨ms_k1, List.forall_mem_cons.mpr ⟨ms_k869, fun _ h => absurd h List.not_mem_nil⟩⟩⟩⟩⟩) ⟨rfl, by decide +kernel, by decide +kernel, (by decide +kernel : (parseMethodDescriptor "(I)I").map (fun d => d.parameters.length) = some 1)⟩ (hm_recv hK I rfl hy) I ⟨rfl, rfl⟩ ⟨⟨Nat.le_of_ble_eq_true rfl, Nat.le_of_ble_eq_true rfl⟩, (show cells + (13 * bl a + 20) ≤ 600000 by omega), (show slots + (859 * bl a + 700) ≤ 7302249 by omega)⟩ rfl (Nat.le_of_ble_eq_true rfl) d264_239 (fun vv h1 z1 H locs hR I9 => ?_)
  obtain ⟨v9, e1, hc2, e2, d2, e3, c2, o2⟩ := hR
  subst e3
  subst e1
  subst e2
  clear I hy fy
  have I := I9
  clear I9
  refine W.eq (g2 := F0 m 242 ls [.int v]) rfl ?_
  refine lv_aload_n hx hb d264_242 rfl (lv_at hl 1 rfl) ?_
  refine lv_aload_n hx hb d264_243 rfl (lv_at hl 3 rfl) ?_
  refine lv_iload_n hx hb d264_244 rfl (lv_at hl 0 rfl) ?_
  refine lv_iconst (v := 1) hx hb d264_245 (by decide) ?_
  refine lv_iadd hx hb d264_246 ?_
  refine ms_top (y := nI (3 * k + 1)) (by rw [show (1 : Int32) = nI 1 from rfl, nI_add]) ?_
  refine va_sld hx hb hX hbl hbA I.2.2.1 (vp_inI (i := 3 * k + 1) (by omega) (by omega)) d264_247 ?_
  refine ms_top (y := xs (3 * k + 1)) (congrArg xs (nI_clamp (by omega))) ?_
  refine ht_V (C := "MarkupStoreModel") (rest := [.int v]) (as := [.int (xs (3 * k + 1))]) X hl (cm_query l D dA s hW.1 hc2 r9 M hM z1 (xs (3 * k + 1)) st (v, st2) eg) (List.forall_mem_cons.mpr ⟨ms_k1666, List.forall_mem_cons.mpr ⟨ms_k1667, List.forall_mem_cons.mpr ⟨ms_k1668, List.forall_mem_cons.mpr ⟨ms_k7, List.forall_mem_cons.mpr ⟨ms_k1669, fun _ h => absurd h List.not_mem_nil⟩⟩⟩⟩⟩) ⟨rfl, by decide +kernel, by decide +kernel, (by decide +kernel : (parseMethodDescriptor "(I)I").map (fun d => d.parameters.length) = some 1)⟩ (hm_recv hK I rfl mm_hr) I ⟨rfl, rfl⟩ ⟨⟨Nat.le_of_ble_eq_true rfl, Nat.le_of_ble_eq_true rfl⟩, (show cells + (13 * bl a + 20) + 0 ≤ 600000 by omega), (show slots + (859 * bl a + 700) + 0 ≤ 7302249 by omega)⟩ rfl (Nat.le_of_ble_eq_true rfl) d264_248 (fun vv h1 z2 H locs hR I9 => ?_)
  obtain ⟨e1, e2, e3⟩ := hR
  subst e1
  rw [e2, e3] at I9
  refine W.eq (g2 := F0 m 251 ls [.int v, .int v]) rfl ?_
  refine lv_icmp_eq hx hb d264_251 rfl (fun _ => ?_) (fun h9 => absurd rfl h9)
  exact nx hc2 z1 st2 a2 H locs _ _ c2 m2 o2 (dj_st d2) I9 (by omega) (by omega)

set_option maxRecDepth 100000 in
set_option maxHeartbeats 16000000 in
theorem law_c6 {p : Program} {e : Env} {s : State} {m : MethodId} {below : List Frame} {meth : Method} {c : Code} (l : Launch) (D : va_G) (dA : Nat → ClassId) {b L : Nat} {xs : Nat → Int32} (hW : ms_EW D dA s) (X : ms_X D (ms_tys dA) s p s m #[Value.ref b] meth c (fun q => s.heap.size ≤ q) x code 4 ret) (hX : va_X b L xs s s.heap) (hbl : b < s.heap.size) {k : Nat} (hk : 3 * k + 3 ≤ L) (hL : L ≤ 1536) {y r9 : Nat} {M : Nat → Nat} (hM : mm_ok r9 M) {hc : hm_T} {z : hz_T} {st : mT} {a : aS} (Cc : cI dA y hc z a) (Mm : mI st a) (ok : aO a) (dj0 : dj (mm_h dA hE0 r9 M st) hc) {H : Heap} {locs : List Loc} {cells slots : Nat} {ls : Array Slot} (I : hm_I D s s (mm_h dA hc r9 M st) z H locs) (hl : lv_has ls 4 [(3, .int (nI (3 * k))), (2, .ref r9), (1, .ref y), (0, .ref b)]) (hcl : cells + 40 * bl a + 100 ≤ 600000) (hsl : slots + 2600 * bl a + 4000 ≤ 7302249) (nx : ∀ (hc2 : hm_T) (z2 : hz_T) (st2 : mT) (a2 : aS) (H2 : Heap) (locs2 : List Loc) (cells2 slots2 : Nat), cI dA y hc2 z2 a2 → mI st2 a2 → aO a2 → dj (mm_h dA hE0 r9 M st2) hc2 → hm_I D s s (mm_h dA hc2 r9 M st2) z2 H2 locs2 → cells2 + 40 * bl a2 ≤ cells + 40 * bl a + 100 → slots2 + 2600 * bl a2 ≤ slots + 2600 * bl a + 4000 → W p l e room_1 s m #[Value.ref b] below meth c H2 locs2 cells2 slots2 (lw_Z below #[Value.ref b] s) (F0 m 489 ls [])) : W p l e room_1 s m #[Value.ref b] below meth c H locs cells slots (lw_Z below #[Value.ref b] s) (F0 m 256 ls []) := by
  have hx := X.1
  have hb := X.2.1
  have hown : s.vm.findClass "MarkupStoreLaw" = some m.cls := X.2.2.2.1
  have hK := X.2.2.2.2.2.2.2.2.1
  have hbA : ¬ s.heap.size ≤ b := Nat.not_le.mpr hbl
  obtain ⟨v, a2, st2, kc, eg, m2, bc, bs⟩ := bt_result Cc Mm ok (xs (3 * k + 1))
  obtain ⟨fy, hy⟩ := law_y dj0 Cc
  refine lv_aload_n hx hb d264_256 rfl (lv_at hl 2 rfl) ?_
  refine lv_aload_n hx hb d264_257 rfl (lv_at hl 3 rfl) ?_
  refine lv_iload_n hx hb d264_258 rfl (lv_at hl 0 rfl) ?_
  refine lv_iconst (v := 1) hx hb d264_259 (by decide) ?_
  refine lv_iadd hx hb d264_260 ?_
  refine ms_top (y := nI (3 * k + 1)) (by rw [show (1 : Int32) = nI 1 from rfl, nI_add]) ?_
  refine va_sld hx hb hX hbl hbA I.2.2.1 (vp_inI (i := 3 * k + 1) (by omega) (by omega)) d264_261 ?_
  refine ms_top (y := xs (3 * k + 1)) (congrArg xs (nI_clamp (by omega))) ?_
  refine ht_V (C := "MarkupStore") (rest := []) (as := [.int (xs (3 * k + 1))]) X hl (cw_Store_result l D dA s hW.1 y (xs (3 * k + 1)) _ z _ (law_w (wc := fun K h z => w_Store_result dA y (xs (3 * k + 1)) K h z) (fun d hw hk => fr_Store_result d hw hk) dj0 kc)) (List.forall_mem_cons.mpr ⟨ms_k1197, List.forall_mem_cons.mpr ⟨ms_k1198, List.forall_mem_cons.mpr ⟨ms_k1199, List.forall_mem_cons.mpr ⟨ms_k1, List.forall_mem_cons.mpr ⟨ms_k1200, fun _ h => absurd h List.not_mem_nil⟩⟩⟩⟩⟩) ⟨rfl, by decide +kernel, by decide +kernel, (by decide +kernel : (parseMethodDescriptor "(I)I").map (fun d => d.parameters.length) = some 1)⟩ (hm_recv hK I rfl hy) I ⟨rfl, rfl⟩ ⟨⟨Nat.le_of_ble_eq_true rfl, Nat.le_of_ble_eq_true rfl⟩, (show cells + 0 ≤ 600000 by omega), (show slots + 0 ≤ 7302249 by omega)⟩ rfl (Nat.le_of_ble_eq_true rfl) d264_262 (fun vv h1 z1 H locs hR I9 => ?_)
  obtain ⟨v9, e1, hc2, e2, d2, e3, c2, o2⟩ := hR
  subst e3
  subst e1
  subst e2
  clear I hy fy
  have I := I9
  clear I9
  refine W.eq (g2 := F0 m 265 ls [.int v]) rfl ?_
  refine lv_aload_n hx hb d264_265 rfl (lv_at hl 1 rfl) ?_
  refine lv_aload_n hx hb d264_266 rfl (lv_at hl 3 rfl) ?_
  refine lv_iload_n hx hb d264_267 rfl (lv_at hl 0 rfl) ?_
  refine lv_iconst (v := 1) hx hb d264_268 (by decide) ?_
  refine lv_iadd hx hb d264_269 ?_
  refine ms_top (y := nI (3 * k + 1)) (by rw [show (1 : Int32) = nI 1 from rfl, nI_add]) ?_
  refine va_sld hx hb hX hbl hbA I.2.2.1 (vp_inI (i := 3 * k + 1) (by omega) (by omega)) d264_270 ?_
  refine ms_top (y := xs (3 * k + 1)) (congrArg xs (nI_clamp (by omega))) ?_
  refine ht_V (C := "MarkupStoreModel") (rest := [.int v]) (as := [.int (xs (3 * k + 1))]) X hl (cm_result l D dA s hW.1 hc2 r9 M hM z1 (xs (3 * k + 1)) st (v, st2) eg) (List.forall_mem_cons.mpr ⟨ms_k1756, List.forall_mem_cons.mpr ⟨ms_k1757, List.forall_mem_cons.mpr ⟨ms_k1758, List.forall_mem_cons.mpr ⟨ms_k7, List.forall_mem_cons.mpr ⟨ms_k1759, fun _ h => absurd h List.not_mem_nil⟩⟩⟩⟩⟩) ⟨rfl, by decide +kernel, by decide +kernel, (by decide +kernel : (parseMethodDescriptor "(I)I").map (fun d => d.parameters.length) = some 1)⟩ (hm_recv hK I rfl mm_hr) I ⟨rfl, rfl⟩ ⟨⟨Nat.le_of_ble_eq_true rfl, Nat.le_of_ble_eq_true rfl⟩, (show cells + 0 + 0 ≤ 600000 by omega), (show slots + 0 + 0 ≤ 7302249 by omega)⟩ rfl (Nat.le_of_ble_eq_true rfl) d264_271 (fun vv h1 z2 H locs hR I9 => ?_)
  obtain ⟨e1, e2, e3⟩ := hR
  subst e1
  rw [e2, e3] at I9
  refine W.eq (g2 := F0 m 274 ls [.int v, .int v]) rfl ?_
  refine lv_icmp_eq hx hb d264_274 rfl (fun _ => ?_) (fun h9 => absurd rfl h9)
  exact nx hc2 z1 st2 a2 H locs _ _ c2 m2 o2 (dj_st d2) I9 (by omega) (by omega)

set_option maxRecDepth 100000 in
set_option maxHeartbeats 16000000 in
theorem law_c7 {p : Program} {e : Env} {s : State} {m : MethodId} {below : List Frame} {meth : Method} {c : Code} (l : Launch) (D : va_G) (dA : Nat → ClassId) {b L : Nat} {xs : Nat → Int32} (hW : ms_EW D dA s) (X : ms_X D (ms_tys dA) s p s m #[Value.ref b] meth c (fun q => s.heap.size ≤ q) x code 4 ret) (hX : va_X b L xs s s.heap) (hbl : b < s.heap.size) {k : Nat} (hk : 3 * k + 3 ≤ L) (hL : L ≤ 1536) {y r9 : Nat} {M : Nat → Nat} (hM : mm_ok r9 M) {hc : hm_T} {z : hz_T} {st : mT} {a : aS} (Cc : cI dA y hc z a) (Mm : mI st a) (ok : aO a) (dj0 : dj (mm_h dA hE0 r9 M st) hc) {H : Heap} {locs : List Loc} {cells slots : Nat} {ls : Array Slot} (I : hm_I D s s (mm_h dA hc r9 M st) z H locs) (hl : lv_has ls 4 [(3, .int (nI (3 * k))), (2, .ref r9), (1, .ref y), (0, .ref b)]) (hcl : cells + 40 * bl a + 100 ≤ 600000) (hsl : slots + 2600 * bl a + 4000 ≤ 7302249) (nx : ∀ (hc2 : hm_T) (z2 : hz_T) (st2 : mT) (a2 : aS) (H2 : Heap) (locs2 : List Loc) (cells2 slots2 : Nat), cI dA y hc2 z2 a2 → mI st2 a2 → aO a2 → dj (mm_h dA hE0 r9 M st2) hc2 → hm_I D s s (mm_h dA hc2 r9 M st2) z2 H2 locs2 → cells2 + 40 * bl a2 ≤ cells + 40 * bl a + 100 → slots2 + 2600 * bl a2 ≤ slots + 2600 * bl a + 4000 → W p l e room_1 s m #[Value.ref b] below meth c H2 locs2 cells2 slots2 (lw_Z below #[Value.ref b] s) (F0 m 489 ls [])) : W p l e room_1 s m #[Value.ref b] below meth c H locs cells slots (lw_Z below #[Value.ref b] s) (F0 m 279 ls []) := by
  have hx := X.1
  have hb := X.2.1
  have hown : s.vm.findClass "MarkupStoreLaw" = some m.cls := X.2.2.2.1
  have hK := X.2.2.2.2.2.2.2.2.1
  have hbA : ¬ s.heap.size ≤ b := Nat.not_le.mpr hbl
  obtain ⟨v, a2, st2, kc, eg, m2, bc, bs⟩ := bt_commit Cc Mm ok
  obtain ⟨fy, hy⟩ := law_y dj0 Cc
  refine lv_aload_n hx hb d264_279 rfl (lv_at hl 2 rfl) ?_
  refine ht_V (C := "MarkupStore") (rest := []) (as := []) X hl (cw_Store_commit l D dA s hW.1 y _ z _ (law_w (wc := fun K h z => w_Store_commit dA y K h z) (fun d hw hk => fr_Store_commit d hw hk) dj0 kc)) (List.forall_mem_cons.mpr ⟨ms_k1201, List.forall_mem_cons.mpr ⟨ms_k1202, List.forall_mem_cons.mpr ⟨ms_k1203, List.forall_mem_cons.mpr ⟨ms_k1, List.forall_mem_cons.mpr ⟨ms_k1204, fun _ h => absurd h List.not_mem_nil⟩⟩⟩⟩⟩) ⟨rfl, by decide +kernel, by decide +kernel, (by decide +kernel : (parseMethodDescriptor "()I").map (fun d => d.parameters.length) = some 0)⟩ (hm_recv hK I rfl hy) I ⟨rfl, rfl⟩ ⟨⟨Nat.le_of_ble_eq_true rfl, Nat.le_of_ble_eq_true rfl⟩, (show cells + 0 ≤ 600000 by omega), (show slots + 0 ≤ 7302249 by omega)⟩ rfl (Nat.le_of_ble_eq_true rfl) d264_280 (fun vv h1 z1 H locs hR I9 => ?_)
  obtain ⟨v9, e1, hc2, e2, d2, e3, c2, o2⟩ := hR
  subst e3
  subst e1
  subst e2
  clear I hy fy
  have I := I9
  clear I9
  refine W.eq (g2 := F0 m 283 ls [.int v]) rfl ?_
  refine lv_aload_n hx hb d264_283 rfl (lv_at hl 1 rfl) ?_
  refine ht_V (C := "MarkupStoreModel") (rest := [.int v]) (as := []) X hl (cm_commit l D dA s hW.1 hc2 r9 M hM z1 st (v, st2) eg) (List.forall_mem_cons.mpr ⟨ms_k1760, List.forall_mem_cons.mpr ⟨ms_k1761, List.forall_mem_cons.mpr ⟨ms_k1762, List.forall_mem_cons.mpr ⟨ms_k7, List.forall_mem_cons.mpr ⟨ms_k1763, fun _ h => absurd h List.not_mem_nil⟩⟩⟩⟩⟩) ⟨rfl, by decide +kernel, by decide +kernel, (by decide +kernel : (parseMethodDescriptor "()I").map (fun d => d.parameters.length) = some 0)⟩ (hm_recv hK I rfl mm_hr) I ⟨rfl, rfl⟩ ⟨⟨Nat.le_of_ble_eq_true rfl, Nat.le_of_ble_eq_true rfl⟩, (show cells + 0 + 0 ≤ 600000 by omega), (show slots + 0 + 0 ≤ 7302249 by omega)⟩ rfl (Nat.le_of_ble_eq_true rfl) d264_284 (fun vv h1 z2 H locs hR I9 => ?_)
  obtain ⟨e1, e2, e3⟩ := hR
  subst e1
  rw [e2, e3] at I9
  refine W.eq (g2 := F0 m 287 ls [.int v, .int v]) rfl ?_
  refine lv_icmp_eq hx hb d264_287 rfl (fun _ => ?_) (fun h9 => absurd rfl h9)
  exact nx hc2 z1 st2 a2 H locs _ _ c2 m2 o2 (dj_st d2) I9 (by omega) (by omega)

set_option maxRecDepth 100000 in
set_option maxHeartbeats 16000000 in
theorem law_c8 {p : Program} {e : Env} {s : State} {m : MethodId} {below : List Frame} {meth : Method} {c : Code} (l : Launch) (D : va_G) (dA : Nat → ClassId) {b L : Nat} {xs : Nat → Int32} (hW : ms_EW D dA s) (X : ms_X D (ms_tys dA) s p s m #[Value.ref b] meth c (fun q => s.heap.size ≤ q) x code 4 ret) (hX : va_X b L xs s s.heap) (hbl : b < s.heap.size) {k : Nat} (hk : 3 * k + 3 ≤ L) (hL : L ≤ 1536) {y r9 : Nat} {M : Nat → Nat} (hM : mm_ok r9 M) {hc : hm_T} {z : hz_T} {st : mT} {a : aS} (Cc : cI dA y hc z a) (Mm : mI st a) (ok : aO a) (dj0 : dj (mm_h dA hE0 r9 M st) hc) {H : Heap} {locs : List Loc} {cells slots : Nat} {ls : Array Slot} (I : hm_I D s s (mm_h dA hc r9 M st) z H locs) (hl : lv_has ls 4 [(3, .int (nI (3 * k))), (2, .ref r9), (1, .ref y), (0, .ref b)]) (hcl : cells + 40 * bl a + 100 ≤ 600000) (hsl : slots + 2600 * bl a + 4000 ≤ 7302249) (nx : ∀ (hc2 : hm_T) (z2 : hz_T) (st2 : mT) (a2 : aS) (H2 : Heap) (locs2 : List Loc) (cells2 slots2 : Nat), cI dA y hc2 z2 a2 → mI st2 a2 → aO a2 → dj (mm_h dA hE0 r9 M st2) hc2 → hm_I D s s (mm_h dA hc2 r9 M st2) z2 H2 locs2 → cells2 + 40 * bl a2 ≤ cells + 40 * bl a + 100 → slots2 + 2600 * bl a2 ≤ slots + 2600 * bl a + 4000 → W p l e room_1 s m #[Value.ref b] below meth c H2 locs2 cells2 slots2 (lw_Z below #[Value.ref b] s) (F0 m 489 ls [])) : W p l e room_1 s m #[Value.ref b] below meth c H locs cells slots (lw_Z below #[Value.ref b] s) (F0 m 292 ls []) := by
  have hx := X.1
  have hb := X.2.1
  have hown : s.vm.findClass "MarkupStoreLaw" = some m.cls := X.2.2.2.1
  have hK := X.2.2.2.2.2.2.2.2.1
  have hbA : ¬ s.heap.size ≤ b := Nat.not_le.mpr hbl
  obtain ⟨v, a2, st2, kc, eg, m2, bc, bs⟩ := bt_crash Cc Mm ok
  obtain ⟨fy, hy⟩ := law_y dj0 Cc
  refine lv_aload_n hx hb d264_292 rfl (lv_at hl 2 rfl) ?_
  refine ht_V (C := "MarkupStore") (rest := []) (as := []) X hl (cw_Store_crash l D dA s hW y 1 142 _ z _ (law_w (wc := fun K h z => w_Store_crash dA y 1 142 K h z) (fun d hw hk => fr_Store_crash d hw hk) dj0 kc)) (List.forall_mem_cons.mpr ⟨ms_k1205, List.forall_mem_cons.mpr ⟨ms_k1206, List.forall_mem_cons.mpr ⟨ms_k1207, List.forall_mem_cons.mpr ⟨ms_k1, List.forall_mem_cons.mpr ⟨ms_k1208, fun _ h => absurd h List.not_mem_nil⟩⟩⟩⟩⟩) ⟨rfl, by decide +kernel, by decide +kernel, (by decide +kernel : (parseMethodDescriptor "()I").map (fun d => d.parameters.length) = some 0)⟩ (hm_recv hK I rfl hy) I ⟨rfl, rfl⟩ ⟨⟨Nat.le_of_ble_eq_true rfl, Nat.le_of_ble_eq_true rfl⟩, (show cells + 1 ≤ 600000 by omega), (show slots + 142 ≤ 7302249 by omega)⟩ rfl (Nat.le_of_ble_eq_true rfl) d264_293 (fun vv h1 z1 H locs hR I9 => ?_)
  obtain ⟨v9, e1, hc2, e2, d2, e3, c2, o2⟩ := hR
  subst e3
  subst e1
  subst e2
  clear I hy fy
  have I := I9
  clear I9
  refine W.eq (g2 := F0 m 296 ls [.int v]) rfl ?_
  refine lv_aload_n hx hb d264_296 rfl (lv_at hl 1 rfl) ?_
  refine ht_V (C := "MarkupStoreModel") (rest := [.int v]) (as := []) X hl (cm_crash l D dA s hW.1 hc2 r9 M hM z1 st (v, st2) eg) (List.forall_mem_cons.mpr ⟨ms_k1764, List.forall_mem_cons.mpr ⟨ms_k1765, List.forall_mem_cons.mpr ⟨ms_k1766, List.forall_mem_cons.mpr ⟨ms_k7, List.forall_mem_cons.mpr ⟨ms_k1767, fun _ h => absurd h List.not_mem_nil⟩⟩⟩⟩⟩) ⟨rfl, by decide +kernel, by decide +kernel, (by decide +kernel : (parseMethodDescriptor "()I").map (fun d => d.parameters.length) = some 0)⟩ (hm_recv hK I rfl mm_hr) I ⟨rfl, rfl⟩ ⟨⟨Nat.le_of_ble_eq_true rfl, Nat.le_of_ble_eq_true rfl⟩, (show cells + 1 + 0 ≤ 600000 by omega), (show slots + 142 + 0 ≤ 7302249 by omega)⟩ rfl (Nat.le_of_ble_eq_true rfl) d264_297 (fun vv h1 z2 H locs hR I9 => ?_)
  obtain ⟨e1, e2, e3⟩ := hR
  subst e1
  rw [e2, e3] at I9
  refine W.eq (g2 := F0 m 300 ls [.int v, .int v]) rfl ?_
  refine lv_icmp_eq hx hb d264_300 rfl (fun _ => ?_) (fun h9 => absurd rfl h9)
  exact nx hc2 z1 st2 a2 H locs _ _ c2 m2 o2 (dj_st d2) I9 (by omega) (by omega)

set_option maxRecDepth 100000 in
set_option maxHeartbeats 16000000 in
theorem law_c9 {p : Program} {e : Env} {s : State} {m : MethodId} {below : List Frame} {meth : Method} {c : Code} (l : Launch) (D : va_G) (dA : Nat → ClassId) {b L : Nat} {xs : Nat → Int32} (hW : ms_EW D dA s) (X : ms_X D (ms_tys dA) s p s m #[Value.ref b] meth c (fun q => s.heap.size ≤ q) x code 4 ret) (hX : va_X b L xs s s.heap) (hbl : b < s.heap.size) {k : Nat} (hk : 3 * k + 3 ≤ L) (hL : L ≤ 1536) {y r9 : Nat} {M : Nat → Nat} (hM : mm_ok r9 M) {hc : hm_T} {z : hz_T} {st : mT} {a : aS} (Cc : cI dA y hc z a) (Mm : mI st a) (ok : aO a) (dj0 : dj (mm_h dA hE0 r9 M st) hc) {H : Heap} {locs : List Loc} {cells slots : Nat} {ls : Array Slot} (I : hm_I D s s (mm_h dA hc r9 M st) z H locs) (hl : lv_has ls 4 [(3, .int (nI (3 * k))), (2, .ref r9), (1, .ref y), (0, .ref b)]) (hcl : cells + 40 * bl a + 100 ≤ 600000) (hsl : slots + 2600 * bl a + 4000 ≤ 7302249) (nx : ∀ (hc2 : hm_T) (z2 : hz_T) (st2 : mT) (a2 : aS) (H2 : Heap) (locs2 : List Loc) (cells2 slots2 : Nat), cI dA y hc2 z2 a2 → mI st2 a2 → aO a2 → dj (mm_h dA hE0 r9 M st2) hc2 → hm_I D s s (mm_h dA hc2 r9 M st2) z2 H2 locs2 → cells2 + 40 * bl a2 ≤ cells + 40 * bl a + 100 → slots2 + 2600 * bl a2 ≤ slots + 2600 * bl a + 4000 → W p l e room_1 s m #[Value.ref b] below meth c H2 locs2 cells2 slots2 (lw_Z below #[Value.ref b] s) (F0 m 489 ls [])) : W p l e room_1 s m #[Value.ref b] below meth c H locs cells slots (lw_Z below #[Value.ref b] s) (F0 m 305 ls []) := by
  have hx := X.1
  have hb := X.2.1
  have hown : s.vm.findClass "MarkupStoreLaw" = some m.cls := X.2.2.2.1
  have hK := X.2.2.2.2.2.2.2.2.1
  have hbA : ¬ s.heap.size ≤ b := Nat.not_le.mpr hbl
  obtain ⟨v, a2, st2, kc, eg, m2, bc, bs⟩ := bt_kind Cc Mm ok (xs (3 * k + 1))
  obtain ⟨fy, hy⟩ := law_y dj0 Cc
  refine lv_aload_n hx hb d264_305 rfl (lv_at hl 2 rfl) ?_
  refine lv_aload_n hx hb d264_306 rfl (lv_at hl 3 rfl) ?_
  refine lv_iload_n hx hb d264_307 rfl (lv_at hl 0 rfl) ?_
  refine lv_iconst (v := 1) hx hb d264_308 (by decide) ?_
  refine lv_iadd hx hb d264_309 ?_
  refine ms_top (y := nI (3 * k + 1)) (by rw [show (1 : Int32) = nI 1 from rfl, nI_add]) ?_
  refine va_sld hx hb hX hbl hbA I.2.2.1 (vp_inI (i := 3 * k + 1) (by omega) (by omega)) d264_310 ?_
  refine ms_top (y := xs (3 * k + 1)) (congrArg xs (nI_clamp (by omega))) ?_
  refine ht_V (C := "MarkupStore") (rest := []) (as := [.int (xs (3 * k + 1))]) X hl (cw_Store_kind l D dA s hW.1 y (xs (3 * k + 1)) _ z _ (law_w (wc := fun K h z => w_Store_kind dA y (xs (3 * k + 1)) K h z) (fun d hw hk => fr_Store_kind d hw hk) dj0 kc)) (List.forall_mem_cons.mpr ⟨ms_k1214, List.forall_mem_cons.mpr ⟨ms_k1215, List.forall_mem_cons.mpr ⟨ms_k1216, List.forall_mem_cons.mpr ⟨ms_k1, List.forall_mem_cons.mpr ⟨ms_k1217, fun _ h => absurd h List.not_mem_nil⟩⟩⟩⟩⟩) ⟨rfl, by decide +kernel, by decide +kernel, (by decide +kernel : (parseMethodDescriptor "(I)I").map (fun d => d.parameters.length) = some 1)⟩ (hm_recv hK I rfl hy) I ⟨rfl, rfl⟩ ⟨⟨Nat.le_of_ble_eq_true rfl, Nat.le_of_ble_eq_true rfl⟩, (show cells + 0 ≤ 600000 by omega), (show slots + 0 ≤ 7302249 by omega)⟩ rfl (Nat.le_of_ble_eq_true rfl) d264_311 (fun vv h1 z1 H locs hR I9 => ?_)
  obtain ⟨v9, e1, hc2, e2, d2, e3, c2, o2⟩ := hR
  subst e3
  subst e1
  subst e2
  clear I hy fy
  have I := I9
  clear I9
  refine W.eq (g2 := F0 m 314 ls [.int v]) rfl ?_
  refine lv_aload_n hx hb d264_314 rfl (lv_at hl 1 rfl) ?_
  refine lv_aload_n hx hb d264_315 rfl (lv_at hl 3 rfl) ?_
  refine lv_iload_n hx hb d264_316 rfl (lv_at hl 0 rfl) ?_
  refine lv_iconst (v := 1) hx hb d264_317 (by decide) ?_
  refine lv_iadd hx hb d264_318 ?_
  refine ms_top (y := nI (3 * k + 1)) (by rw [show (1 : Int32) = nI 1 from rfl, nI_add]) ?_
  refine va_sld hx hb hX hbl hbA I.2.2.1 (vp_inI (i := 3 * k + 1) (by omega) (by omega)) d264_319 ?_
  refine ms_top (y := xs (3 * k + 1)) (congrArg xs (nI_clamp (by omega))) ?_
  refine ht_V (C := "MarkupStoreModel") (rest := [.int v]) (as := [.int (xs (3 * k + 1))]) X hl (cm_kind l D dA s hW.1 hc2 r9 M hM z1 (xs (3 * k + 1)) st (v, st2) eg) (List.forall_mem_cons.mpr ⟨ms_k1768, List.forall_mem_cons.mpr ⟨ms_k1769, List.forall_mem_cons.mpr ⟨ms_k1770, List.forall_mem_cons.mpr ⟨ms_k7, List.forall_mem_cons.mpr ⟨ms_k1771, fun _ h => absurd h List.not_mem_nil⟩⟩⟩⟩⟩) ⟨rfl, by decide +kernel, by decide +kernel, (by decide +kernel : (parseMethodDescriptor "(I)I").map (fun d => d.parameters.length) = some 1)⟩ (hm_recv hK I rfl mm_hr) I ⟨rfl, rfl⟩ ⟨⟨Nat.le_of_ble_eq_true rfl, Nat.le_of_ble_eq_true rfl⟩, (show cells + 0 + 0 ≤ 600000 by omega), (show slots + 0 + 0 ≤ 7302249 by omega)⟩ rfl (Nat.le_of_ble_eq_true rfl) d264_320 (fun vv h1 z2 H locs hR I9 => ?_)
  obtain ⟨e1, e2, e3⟩ := hR
  subst e1
  rw [e2, e3] at I9
  refine W.eq (g2 := F0 m 323 ls [.int v, .int v]) rfl ?_
  refine lv_icmp_eq hx hb d264_323 rfl (fun _ => ?_) (fun h9 => absurd rfl h9)
  exact nx hc2 z1 st2 a2 H locs _ _ c2 m2 o2 (dj_st d2) I9 (by omega) (by omega)

set_option maxRecDepth 100000 in
set_option maxHeartbeats 16000000 in
theorem law_c10 {p : Program} {e : Env} {s : State} {m : MethodId} {below : List Frame} {meth : Method} {c : Code} (l : Launch) (D : va_G) (dA : Nat → ClassId) {b L : Nat} {xs : Nat → Int32} (hW : ms_EW D dA s) (X : ms_X D (ms_tys dA) s p s m #[Value.ref b] meth c (fun q => s.heap.size ≤ q) x code 4 ret) (hX : va_X b L xs s s.heap) (hbl : b < s.heap.size) {k : Nat} (hk : 3 * k + 3 ≤ L) (hL : L ≤ 1536) {y r9 : Nat} {M : Nat → Nat} (hM : mm_ok r9 M) {hc : hm_T} {z : hz_T} {st : mT} {a : aS} (Cc : cI dA y hc z a) (Mm : mI st a) (ok : aO a) (dj0 : dj (mm_h dA hE0 r9 M st) hc) {H : Heap} {locs : List Loc} {cells slots : Nat} {ls : Array Slot} (I : hm_I D s s (mm_h dA hc r9 M st) z H locs) (hl : lv_has ls 4 [(3, .int (nI (3 * k))), (2, .ref r9), (1, .ref y), (0, .ref b)]) (hcl : cells + 40 * bl a + 100 ≤ 600000) (hsl : slots + 2600 * bl a + 4000 ≤ 7302249) (nx : ∀ (hc2 : hm_T) (z2 : hz_T) (st2 : mT) (a2 : aS) (H2 : Heap) (locs2 : List Loc) (cells2 slots2 : Nat), cI dA y hc2 z2 a2 → mI st2 a2 → aO a2 → dj (mm_h dA hE0 r9 M st2) hc2 → hm_I D s s (mm_h dA hc2 r9 M st2) z2 H2 locs2 → cells2 + 40 * bl a2 ≤ cells + 40 * bl a + 100 → slots2 + 2600 * bl a2 ≤ slots + 2600 * bl a + 4000 → W p l e room_1 s m #[Value.ref b] below meth c H2 locs2 cells2 slots2 (lw_Z below #[Value.ref b] s) (F0 m 489 ls [])) : W p l e room_1 s m #[Value.ref b] below meth c H locs cells slots (lw_Z below #[Value.ref b] s) (F0 m 328 ls []) := by
  have hx := X.1
  have hb := X.2.1
  have hown : s.vm.findClass "MarkupStoreLaw" = some m.cls := X.2.2.2.1
  have hK := X.2.2.2.2.2.2.2.2.1
  have hbA : ¬ s.heap.size ≤ b := Nat.not_le.mpr hbl
  obtain ⟨v, a2, st2, kc, eg, m2, bc, bs⟩ := bt_node Cc Mm ok (xs (3 * k + 1)) (xs (3 * k + 2))
  obtain ⟨fy, hy⟩ := law_y dj0 Cc
  refine lv_aload_n hx hb d264_328 rfl (lv_at hl 2 rfl) ?_
  refine lv_aload_n hx hb d264_329 rfl (lv_at hl 3 rfl) ?_
  refine lv_iload_n hx hb d264_330 rfl (lv_at hl 0 rfl) ?_
  refine lv_iconst (v := 1) hx hb d264_331 (by decide) ?_
  refine lv_iadd hx hb d264_332 ?_
  refine ms_top (y := nI (3 * k + 1)) (by rw [show (1 : Int32) = nI 1 from rfl, nI_add]) ?_
  refine va_sld hx hb hX hbl hbA I.2.2.1 (vp_inI (i := 3 * k + 1) (by omega) (by omega)) d264_333 ?_
  refine ms_top (y := xs (3 * k + 1)) (congrArg xs (nI_clamp (by omega))) ?_
  refine lv_aload_n hx hb d264_334 rfl (lv_at hl 3 rfl) ?_
  refine lv_iload_n hx hb d264_335 rfl (lv_at hl 0 rfl) ?_
  refine lv_iconst (v := 2) hx hb d264_336 (by decide) ?_
  refine lv_iadd hx hb d264_337 ?_
  refine ms_top (y := nI (3 * k + 2)) (by rw [show (2 : Int32) = nI 2 from rfl, nI_add]) ?_
  refine va_sld hx hb hX hbl hbA I.2.2.1 (vp_inI (i := 3 * k + 2) (by omega) (by omega)) d264_338 ?_
  refine ms_top (y := xs (3 * k + 2)) (congrArg xs (nI_clamp (by omega))) ?_
  refine ht_V (C := "MarkupStore") (rest := []) (as := [.int (xs (3 * k + 1)), .int (xs (3 * k + 2))]) X hl (cw_Store_node l D dA s hW.1 y (xs (3 * k + 1)) (xs (3 * k + 2)) _ z _ (law_w (wc := fun K h z => w_Store_node dA y (xs (3 * k + 1)) (xs (3 * k + 2)) K h z) (fun d hw hk => fr_Store_node d hw hk) dj0 kc)) (List.forall_mem_cons.mpr ⟨ms_k1218, List.forall_mem_cons.mpr ⟨ms_k1219, List.forall_mem_cons.mpr ⟨ms_k1220, List.forall_mem_cons.mpr ⟨ms_k1, List.forall_mem_cons.mpr ⟨ms_k1221, fun _ h => absurd h List.not_mem_nil⟩⟩⟩⟩⟩) ⟨rfl, by decide +kernel, by decide +kernel, (by decide +kernel : (parseMethodDescriptor "(II)I").map (fun d => d.parameters.length) = some 2)⟩ (hm_recv hK I rfl hy) I ⟨rfl, rfl⟩ ⟨⟨Nat.le_of_ble_eq_true rfl, Nat.le_of_ble_eq_true rfl⟩, (show cells + 0 ≤ 600000 by omega), (show slots + 0 ≤ 7302249 by omega)⟩ rfl (Nat.le_of_ble_eq_true rfl) d264_339 (fun vv h1 z1 H locs hR I9 => ?_)
  obtain ⟨v9, e1, hc2, e2, d2, e3, c2, o2⟩ := hR
  subst e3
  subst e1
  subst e2
  clear I hy fy
  have I := I9
  clear I9
  refine W.eq (g2 := F0 m 342 ls [.int v]) rfl ?_
  refine lv_aload_n hx hb d264_342 rfl (lv_at hl 1 rfl) ?_
  refine lv_aload_n hx hb d264_343 rfl (lv_at hl 3 rfl) ?_
  refine lv_iload_n hx hb d264_344 rfl (lv_at hl 0 rfl) ?_
  refine lv_iconst (v := 1) hx hb d264_345 (by decide) ?_
  refine lv_iadd hx hb d264_346 ?_
  refine ms_top (y := nI (3 * k + 1)) (by rw [show (1 : Int32) = nI 1 from rfl, nI_add]) ?_
  refine va_sld hx hb hX hbl hbA I.2.2.1 (vp_inI (i := 3 * k + 1) (by omega) (by omega)) d264_347 ?_
  refine ms_top (y := xs (3 * k + 1)) (congrArg xs (nI_clamp (by omega))) ?_
  refine lv_aload_n hx hb d264_348 rfl (lv_at hl 3 rfl) ?_
  refine lv_iload_n hx hb d264_349 rfl (lv_at hl 0 rfl) ?_
  refine lv_iconst (v := 2) hx hb d264_350 (by decide) ?_
  refine lv_iadd hx hb d264_351 ?_
  refine ms_top (y := nI (3 * k + 2)) (by rw [show (2 : Int32) = nI 2 from rfl, nI_add]) ?_
  refine va_sld hx hb hX hbl hbA I.2.2.1 (vp_inI (i := 3 * k + 2) (by omega) (by omega)) d264_352 ?_
  refine ms_top (y := xs (3 * k + 2)) (congrArg xs (nI_clamp (by omega))) ?_
  refine ht_V (C := "MarkupStoreModel") (rest := [.int v]) (as := [.int (xs (3 * k + 1)), .int (xs (3 * k + 2))]) X hl (cm_node l D dA s hW.1 hc2 r9 M hM z1 (xs (3 * k + 1)) (xs (3 * k + 2)) st (v, st2) eg) (List.forall_mem_cons.mpr ⟨ms_k1772, List.forall_mem_cons.mpr ⟨ms_k1773, List.forall_mem_cons.mpr ⟨ms_k1774, List.forall_mem_cons.mpr ⟨ms_k7, List.forall_mem_cons.mpr ⟨ms_k1775, fun _ h => absurd h List.not_mem_nil⟩⟩⟩⟩⟩) ⟨rfl, by decide +kernel, by decide +kernel, (by decide +kernel : (parseMethodDescriptor "(II)I").map (fun d => d.parameters.length) = some 2)⟩ (hm_recv hK I rfl mm_hr) I ⟨rfl, rfl⟩ ⟨⟨Nat.le_of_ble_eq_true rfl, Nat.le_of_ble_eq_true rfl⟩, (show cells + 0 + 0 ≤ 600000 by omega), (show slots + 0 + 0 ≤ 7302249 by omega)⟩ rfl (Nat.le_of_ble_eq_true rfl) d264_353 (fun vv h1 z2 H locs hR I9 => ?_)
  obtain ⟨e1, e2, e3⟩ := hR
  subst e1
  rw [e2, e3] at I9
  refine W.eq (g2 := F0 m 356 ls [.int v, .int v]) rfl ?_
  refine lv_icmp_eq hx hb d264_356 rfl (fun _ => ?_) (fun h9 => absurd rfl h9)
  exact nx hc2 z1 st2 a2 H locs _ _ c2 m2 o2 (dj_st d2) I9 (by omega) (by omega)

set_option maxRecDepth 100000 in
set_option maxHeartbeats 16000000 in
theorem law_c11 {p : Program} {e : Env} {s : State} {m : MethodId} {below : List Frame} {meth : Method} {c : Code} (l : Launch) (D : va_G) (dA : Nat → ClassId) {b L : Nat} {xs : Nat → Int32} (hW : ms_EW D dA s) (X : ms_X D (ms_tys dA) s p s m #[Value.ref b] meth c (fun q => s.heap.size ≤ q) x code 4 ret) (hX : va_X b L xs s s.heap) (hbl : b < s.heap.size) {k : Nat} (hk : 3 * k + 3 ≤ L) (hL : L ≤ 1536) {y r9 : Nat} {M : Nat → Nat} (hM : mm_ok r9 M) {hc : hm_T} {z : hz_T} {st : mT} {a : aS} (Cc : cI dA y hc z a) (Mm : mI st a) (ok : aO a) (dj0 : dj (mm_h dA hE0 r9 M st) hc) {H : Heap} {locs : List Loc} {cells slots : Nat} {ls : Array Slot} (I : hm_I D s s (mm_h dA hc r9 M st) z H locs) (hl : lv_has ls 4 [(3, .int (nI (3 * k))), (2, .ref r9), (1, .ref y), (0, .ref b)]) (hcl : cells + 40 * bl a + 100 ≤ 600000) (hsl : slots + 2600 * bl a + 4000 ≤ 7302249) (nx : ∀ (hc2 : hm_T) (z2 : hz_T) (st2 : mT) (a2 : aS) (H2 : Heap) (locs2 : List Loc) (cells2 slots2 : Nat), cI dA y hc2 z2 a2 → mI st2 a2 → aO a2 → dj (mm_h dA hE0 r9 M st2) hc2 → hm_I D s s (mm_h dA hc2 r9 M st2) z2 H2 locs2 → cells2 + 40 * bl a2 ≤ cells + 40 * bl a + 100 → slots2 + 2600 * bl a2 ≤ slots + 2600 * bl a + 4000 → W p l e room_1 s m #[Value.ref b] below meth c H2 locs2 cells2 slots2 (lw_Z below #[Value.ref b] s) (F0 m 489 ls [])) : W p l e room_1 s m #[Value.ref b] below meth c H locs cells slots (lw_Z below #[Value.ref b] s) (F0 m 361 ls []) := by
  have hx := X.1
  have hb := X.2.1
  have hown : s.vm.findClass "MarkupStoreLaw" = some m.cls := X.2.2.2.1
  have hK := X.2.2.2.2.2.2.2.2.1
  have hbA : ¬ s.heap.size ≤ b := Nat.not_le.mpr hbl
  obtain ⟨v, a2, st2, kc, eg, m2, bc, bs⟩ := bt_letter Cc Mm ok (xs (3 * k + 1)) (xs (3 * k + 2))
  obtain ⟨fy, hy⟩ := law_y dj0 Cc
  refine lv_aload_n hx hb d264_361 rfl (lv_at hl 2 rfl) ?_
  refine lv_aload_n hx hb d264_362 rfl (lv_at hl 3 rfl) ?_
  refine lv_iload_n hx hb d264_363 rfl (lv_at hl 0 rfl) ?_
  refine lv_iconst (v := 1) hx hb d264_364 (by decide) ?_
  refine lv_iadd hx hb d264_365 ?_
  refine ms_top (y := nI (3 * k + 1)) (by rw [show (1 : Int32) = nI 1 from rfl, nI_add]) ?_
  refine va_sld hx hb hX hbl hbA I.2.2.1 (vp_inI (i := 3 * k + 1) (by omega) (by omega)) d264_366 ?_
  refine ms_top (y := xs (3 * k + 1)) (congrArg xs (nI_clamp (by omega))) ?_
  refine lv_aload_n hx hb d264_367 rfl (lv_at hl 3 rfl) ?_
  refine lv_iload_n hx hb d264_368 rfl (lv_at hl 0 rfl) ?_
  refine lv_iconst (v := 2) hx hb d264_369 (by decide) ?_
  refine lv_iadd hx hb d264_370 ?_
  refine ms_top (y := nI (3 * k + 2)) (by rw [show (2 : Int32) = nI 2 from rfl, nI_add]) ?_
  refine va_sld hx hb hX hbl hbA I.2.2.1 (vp_inI (i := 3 * k + 2) (by omega) (by omega)) d264_371 ?_
  refine ms_top (y := xs (3 * k + 2)) (congrArg xs (nI_clamp (by omega))) ?_
  refine ht_V (C := "MarkupStore") (rest := []) (as := [.int (xs (3 * k + 1)), .int (xs (3 * k + 2))]) X hl (cw_Store_letter l D dA s hW.1 y (xs (3 * k + 1)) (xs (3 * k + 2)) _ z _ (law_w (wc := fun K h z => w_Store_letter dA y (xs (3 * k + 1)) (xs (3 * k + 2)) K h z) (fun d hw hk => fr_Store_letter d hw hk) dj0 kc)) (List.forall_mem_cons.mpr ⟨ms_k1226, List.forall_mem_cons.mpr ⟨ms_k1227, List.forall_mem_cons.mpr ⟨ms_k1228, List.forall_mem_cons.mpr ⟨ms_k1, List.forall_mem_cons.mpr ⟨ms_k1229, fun _ h => absurd h List.not_mem_nil⟩⟩⟩⟩⟩) ⟨rfl, by decide +kernel, by decide +kernel, (by decide +kernel : (parseMethodDescriptor "(II)I").map (fun d => d.parameters.length) = some 2)⟩ (hm_recv hK I rfl hy) I ⟨rfl, rfl⟩ ⟨⟨Nat.le_of_ble_eq_true rfl, Nat.le_of_ble_eq_true rfl⟩, (show cells + 0 ≤ 600000 by omega), (show slots + 0 ≤ 7302249 by omega)⟩ rfl (Nat.le_of_ble_eq_true rfl) d264_372 (fun vv h1 z1 H locs hR I9 => ?_)
  obtain ⟨v9, e1, hc2, e2, d2, e3, c2, o2⟩ := hR
  subst e3
  subst e1
  subst e2
  clear I hy fy
  have I := I9
  clear I9
  refine W.eq (g2 := F0 m 375 ls [.int v]) rfl ?_
  refine lv_aload_n hx hb d264_375 rfl (lv_at hl 1 rfl) ?_
  refine lv_aload_n hx hb d264_376 rfl (lv_at hl 3 rfl) ?_
  refine lv_iload_n hx hb d264_377 rfl (lv_at hl 0 rfl) ?_
  refine lv_iconst (v := 1) hx hb d264_378 (by decide) ?_
  refine lv_iadd hx hb d264_379 ?_
  refine ms_top (y := nI (3 * k + 1)) (by rw [show (1 : Int32) = nI 1 from rfl, nI_add]) ?_
  refine va_sld hx hb hX hbl hbA I.2.2.1 (vp_inI (i := 3 * k + 1) (by omega) (by omega)) d264_380 ?_
  refine ms_top (y := xs (3 * k + 1)) (congrArg xs (nI_clamp (by omega))) ?_
  refine lv_aload_n hx hb d264_381 rfl (lv_at hl 3 rfl) ?_
  refine lv_iload_n hx hb d264_382 rfl (lv_at hl 0 rfl) ?_
  refine lv_iconst (v := 2) hx hb d264_383 (by decide) ?_
  refine lv_iadd hx hb d264_384 ?_
  refine ms_top (y := nI (3 * k + 2)) (by rw [show (2 : Int32) = nI 2 from rfl, nI_add]) ?_
  refine va_sld hx hb hX hbl hbA I.2.2.1 (vp_inI (i := 3 * k + 2) (by omega) (by omega)) d264_385 ?_
  refine ms_top (y := xs (3 * k + 2)) (congrArg xs (nI_clamp (by omega))) ?_
  refine ht_V (C := "MarkupStoreModel") (rest := [.int v]) (as := [.int (xs (3 * k + 1)), .int (xs (3 * k + 2))]) X hl (cm_letter l D dA s hW.1 hc2 r9 M hM z1 (xs (3 * k + 1)) (xs (3 * k + 2)) st (v, st2) eg) (List.forall_mem_cons.mpr ⟨ms_k1780, List.forall_mem_cons.mpr ⟨ms_k1781, List.forall_mem_cons.mpr ⟨ms_k1782, List.forall_mem_cons.mpr ⟨ms_k7, List.forall_mem_cons.mpr ⟨ms_k1783, fun _ h => absurd h List.not_mem_nil⟩⟩⟩⟩⟩) ⟨rfl, by decide +kernel, by decide +kernel, (by decide +kernel : (parseMethodDescriptor "(II)I").map (fun d => d.parameters.length) = some 2)⟩ (hm_recv hK I rfl mm_hr) I ⟨rfl, rfl⟩ ⟨⟨Nat.le_of_ble_eq_true rfl, Nat.le_of_ble_eq_true rfl⟩, (show cells + 0 + 0 ≤ 600000 by omega), (show slots + 0 + 0 ≤ 7302249 by omega)⟩ rfl (Nat.le_of_ble_eq_true rfl) d264_386 (fun vv h1 z2 H locs hR I9 => ?_)
  obtain ⟨e1, e2, e3⟩ := hR
  subst e1
  rw [e2, e3] at I9
  refine W.eq (g2 := F0 m 389 ls [.int v, .int v]) rfl ?_
  refine lv_icmp_eq hx hb d264_389 rfl (fun _ => ?_) (fun h9 => absurd rfl h9)
  exact nx hc2 z1 st2 a2 H locs _ _ c2 m2 o2 (dj_st d2) I9 (by omega) (by omega)

set_option maxRecDepth 100000 in
set_option maxHeartbeats 16000000 in
theorem law_c12 {p : Program} {e : Env} {s : State} {m : MethodId} {below : List Frame} {meth : Method} {c : Code} (l : Launch) (D : va_G) (dA : Nat → ClassId) {b L : Nat} {xs : Nat → Int32} (hW : ms_EW D dA s) (X : ms_X D (ms_tys dA) s p s m #[Value.ref b] meth c (fun q => s.heap.size ≤ q) x code 4 ret) (hX : va_X b L xs s s.heap) (hbl : b < s.heap.size) {k : Nat} (hk : 3 * k + 3 ≤ L) (hL : L ≤ 1536) {y r9 : Nat} {M : Nat → Nat} (hM : mm_ok r9 M) {hc : hm_T} {z : hz_T} {st : mT} {a : aS} (Cc : cI dA y hc z a) (Mm : mI st a) (ok : aO a) (dj0 : dj (mm_h dA hE0 r9 M st) hc) {H : Heap} {locs : List Loc} {cells slots : Nat} {ls : Array Slot} (I : hm_I D s s (mm_h dA hc r9 M st) z H locs) (hl : lv_has ls 4 [(3, .int (nI (3 * k))), (2, .ref r9), (1, .ref y), (0, .ref b)]) (hcl : cells + 40 * bl a + 100 ≤ 600000) (hsl : slots + 2600 * bl a + 4000 ≤ 7302249) (nx : ∀ (hc2 : hm_T) (z2 : hz_T) (st2 : mT) (a2 : aS) (H2 : Heap) (locs2 : List Loc) (cells2 slots2 : Nat), cI dA y hc2 z2 a2 → mI st2 a2 → aO a2 → dj (mm_h dA hE0 r9 M st2) hc2 → hm_I D s s (mm_h dA hc2 r9 M st2) z2 H2 locs2 → cells2 + 40 * bl a2 ≤ cells + 40 * bl a + 100 → slots2 + 2600 * bl a2 ≤ slots + 2600 * bl a + 4000 → W p l e room_1 s m #[Value.ref b] below meth c H2 locs2 cells2 slots2 (lw_Z below #[Value.ref b] s) (F0 m 489 ls [])) : W p l e room_1 s m #[Value.ref b] below meth c H locs cells slots (lw_Z below #[Value.ref b] s) (F0 m 394 ls []) := by
  have hx := X.1
  have hb := X.2.1
  have hown : s.vm.findClass "MarkupStoreLaw" = some m.cls := X.2.2.2.1
  have hK := X.2.2.2.2.2.2.2.2.1
  have hbA : ¬ s.heap.size ≤ b := Nat.not_le.mpr hbl
  obtain ⟨v, a2, st2, kc, eg, m2, bc, bs⟩ := bt_label Cc Mm ok (xs (3 * k + 1)) (xs (3 * k + 2))
  obtain ⟨fy, hy⟩ := law_y dj0 Cc
  refine lv_aload_n hx hb d264_394 rfl (lv_at hl 2 rfl) ?_
  refine lv_aload_n hx hb d264_395 rfl (lv_at hl 3 rfl) ?_
  refine lv_iload_n hx hb d264_396 rfl (lv_at hl 0 rfl) ?_
  refine lv_iconst (v := 1) hx hb d264_397 (by decide) ?_
  refine lv_iadd hx hb d264_398 ?_
  refine ms_top (y := nI (3 * k + 1)) (by rw [show (1 : Int32) = nI 1 from rfl, nI_add]) ?_
  refine va_sld hx hb hX hbl hbA I.2.2.1 (vp_inI (i := 3 * k + 1) (by omega) (by omega)) d264_399 ?_
  refine ms_top (y := xs (3 * k + 1)) (congrArg xs (nI_clamp (by omega))) ?_
  refine lv_aload_n hx hb d264_400 rfl (lv_at hl 3 rfl) ?_
  refine lv_iload_n hx hb d264_401 rfl (lv_at hl 0 rfl) ?_
  refine lv_iconst (v := 2) hx hb d264_402 (by decide) ?_
  refine lv_iadd hx hb d264_403 ?_
  refine ms_top (y := nI (3 * k + 2)) (by rw [show (2 : Int32) = nI 2 from rfl, nI_add]) ?_
  refine va_sld hx hb hX hbl hbA I.2.2.1 (vp_inI (i := 3 * k + 2) (by omega) (by omega)) d264_404 ?_
  refine ms_top (y := xs (3 * k + 2)) (congrArg xs (nI_clamp (by omega))) ?_
  refine ht_V (C := "MarkupStore") (rest := []) (as := [.int (xs (3 * k + 1)), .int (xs (3 * k + 2))]) X hl (cw_Store_label l D dA s hW.1 y (xs (3 * k + 1)) (xs (3 * k + 2)) _ z _ (law_w (wc := fun K h z => w_Store_label dA y (xs (3 * k + 1)) (xs (3 * k + 2)) K h z) (fun d hw hk => fr_Store_label d hw hk) dj0 kc)) (List.forall_mem_cons.mpr ⟨ms_k1230, List.forall_mem_cons.mpr ⟨ms_k1231, List.forall_mem_cons.mpr ⟨ms_k1232, List.forall_mem_cons.mpr ⟨ms_k1, List.forall_mem_cons.mpr ⟨ms_k1233, fun _ h => absurd h List.not_mem_nil⟩⟩⟩⟩⟩) ⟨rfl, by decide +kernel, by decide +kernel, (by decide +kernel : (parseMethodDescriptor "(II)I").map (fun d => d.parameters.length) = some 2)⟩ (hm_recv hK I rfl hy) I ⟨rfl, rfl⟩ ⟨⟨Nat.le_of_ble_eq_true rfl, Nat.le_of_ble_eq_true rfl⟩, (show cells + 0 ≤ 600000 by omega), (show slots + 0 ≤ 7302249 by omega)⟩ rfl (Nat.le_of_ble_eq_true rfl) d264_405 (fun vv h1 z1 H locs hR I9 => ?_)
  obtain ⟨v9, e1, hc2, e2, d2, e3, c2, o2⟩ := hR
  subst e3
  subst e1
  subst e2
  clear I hy fy
  have I := I9
  clear I9
  refine W.eq (g2 := F0 m 408 ls [.int v]) rfl ?_
  refine lv_aload_n hx hb d264_408 rfl (lv_at hl 1 rfl) ?_
  refine lv_aload_n hx hb d264_409 rfl (lv_at hl 3 rfl) ?_
  refine lv_iload_n hx hb d264_410 rfl (lv_at hl 0 rfl) ?_
  refine lv_iconst (v := 1) hx hb d264_411 (by decide) ?_
  refine lv_iadd hx hb d264_412 ?_
  refine ms_top (y := nI (3 * k + 1)) (by rw [show (1 : Int32) = nI 1 from rfl, nI_add]) ?_
  refine va_sld hx hb hX hbl hbA I.2.2.1 (vp_inI (i := 3 * k + 1) (by omega) (by omega)) d264_413 ?_
  refine ms_top (y := xs (3 * k + 1)) (congrArg xs (nI_clamp (by omega))) ?_
  refine lv_aload_n hx hb d264_414 rfl (lv_at hl 3 rfl) ?_
  refine lv_iload_n hx hb d264_415 rfl (lv_at hl 0 rfl) ?_
  refine lv_iconst (v := 2) hx hb d264_416 (by decide) ?_
  refine lv_iadd hx hb d264_417 ?_
  refine ms_top (y := nI (3 * k + 2)) (by rw [show (2 : Int32) = nI 2 from rfl, nI_add]) ?_
  refine va_sld hx hb hX hbl hbA I.2.2.1 (vp_inI (i := 3 * k + 2) (by omega) (by omega)) d264_418 ?_
  refine ms_top (y := xs (3 * k + 2)) (congrArg xs (nI_clamp (by omega))) ?_
  refine ht_V (C := "MarkupStoreModel") (rest := [.int v]) (as := [.int (xs (3 * k + 1)), .int (xs (3 * k + 2))]) X hl (cm_label l D dA s hW.1 hc2 r9 M hM z1 (xs (3 * k + 1)) (xs (3 * k + 2)) st (v, st2) eg) (List.forall_mem_cons.mpr ⟨ms_k1784, List.forall_mem_cons.mpr ⟨ms_k1785, List.forall_mem_cons.mpr ⟨ms_k1786, List.forall_mem_cons.mpr ⟨ms_k7, List.forall_mem_cons.mpr ⟨ms_k1787, fun _ h => absurd h List.not_mem_nil⟩⟩⟩⟩⟩) ⟨rfl, by decide +kernel, by decide +kernel, (by decide +kernel : (parseMethodDescriptor "(II)I").map (fun d => d.parameters.length) = some 2)⟩ (hm_recv hK I rfl mm_hr) I ⟨rfl, rfl⟩ ⟨⟨Nat.le_of_ble_eq_true rfl, Nat.le_of_ble_eq_true rfl⟩, (show cells + 0 + 0 ≤ 600000 by omega), (show slots + 0 + 0 ≤ 7302249 by omega)⟩ rfl (Nat.le_of_ble_eq_true rfl) d264_419 (fun vv h1 z2 H locs hR I9 => ?_)
  obtain ⟨e1, e2, e3⟩ := hR
  subst e1
  rw [e2, e3] at I9
  refine W.eq (g2 := F0 m 422 ls [.int v, .int v]) rfl ?_
  refine lv_icmp_eq hx hb d264_422 rfl (fun _ => ?_) (fun h9 => absurd rfl h9)
  exact nx hc2 z1 st2 a2 H locs _ _ c2 m2 o2 (dj_st d2) I9 (by omega) (by omega)

set_option maxRecDepth 100000 in
set_option maxHeartbeats 16000000 in
theorem law_c13 {p : Program} {e : Env} {s : State} {m : MethodId} {below : List Frame} {meth : Method} {c : Code} (l : Launch) (D : va_G) (dA : Nat → ClassId) {b L : Nat} {xs : Nat → Int32} (hW : ms_EW D dA s) (X : ms_X D (ms_tys dA) s p s m #[Value.ref b] meth c (fun q => s.heap.size ≤ q) x code 4 ret) (hX : va_X b L xs s s.heap) (hbl : b < s.heap.size) {k : Nat} (hk : 3 * k + 3 ≤ L) (hL : L ≤ 1536) {y r9 : Nat} {M : Nat → Nat} (hM : mm_ok r9 M) {hc : hm_T} {z : hz_T} {st : mT} {a : aS} (Cc : cI dA y hc z a) (Mm : mI st a) (ok : aO a) (dj0 : dj (mm_h dA hE0 r9 M st) hc) {H : Heap} {locs : List Loc} {cells slots : Nat} {ls : Array Slot} (I : hm_I D s s (mm_h dA hc r9 M st) z H locs) (hl : lv_has ls 4 [(3, .int (nI (3 * k))), (2, .ref r9), (1, .ref y), (0, .ref b)]) (hcl : cells + 40 * bl a + 100 ≤ 600000) (hsl : slots + 2600 * bl a + 4000 ≤ 7302249) (nx : ∀ (hc2 : hm_T) (z2 : hz_T) (st2 : mT) (a2 : aS) (H2 : Heap) (locs2 : List Loc) (cells2 slots2 : Nat), cI dA y hc2 z2 a2 → mI st2 a2 → aO a2 → dj (mm_h dA hE0 r9 M st2) hc2 → hm_I D s s (mm_h dA hc2 r9 M st2) z2 H2 locs2 → cells2 + 40 * bl a2 ≤ cells + 40 * bl a + 100 → slots2 + 2600 * bl a2 ≤ slots + 2600 * bl a + 4000 → W p l e room_1 s m #[Value.ref b] below meth c H2 locs2 cells2 slots2 (lw_Z below #[Value.ref b] s) (F0 m 489 ls [])) : W p l e room_1 s m #[Value.ref b] below meth c H locs cells slots (lw_Z below #[Value.ref b] s) (F0 m 427 ls []) := by
  have hx := X.1
  have hb := X.2.1
  have hown : s.vm.findClass "MarkupStoreLaw" = some m.cls := X.2.2.2.1
  have hK := X.2.2.2.2.2.2.2.2.1
  have hbA : ¬ s.heap.size ≤ b := Nat.not_le.mpr hbl
  obtain ⟨v, a2, st2, kc, eg, m2, bc, bs⟩ := bt_root Cc Mm ok
  obtain ⟨fy, hy⟩ := law_y dj0 Cc
  refine lv_aload_n hx hb d264_427 rfl (lv_at hl 2 rfl) ?_
  refine ht_V (C := "MarkupStore") (rest := []) (as := []) X hl (cw_Store_root l D dA s hW.1 y _ z _ (law_w (wc := fun K h z => w_Store_root dA y K h z) (fun d hw hk => fr_Store_root d hw hk) dj0 kc)) (List.forall_mem_cons.mpr ⟨ms_k1234, List.forall_mem_cons.mpr ⟨ms_k1235, List.forall_mem_cons.mpr ⟨ms_k1236, List.forall_mem_cons.mpr ⟨ms_k1, List.forall_mem_cons.mpr ⟨ms_k1237, fun _ h => absurd h List.not_mem_nil⟩⟩⟩⟩⟩) ⟨rfl, by decide +kernel, by decide +kernel, (by decide +kernel : (parseMethodDescriptor "()I").map (fun d => d.parameters.length) = some 0)⟩ (hm_recv hK I rfl hy) I ⟨rfl, rfl⟩ ⟨⟨Nat.le_of_ble_eq_true rfl, Nat.le_of_ble_eq_true rfl⟩, (show cells + 0 ≤ 600000 by omega), (show slots + 0 ≤ 7302249 by omega)⟩ rfl (Nat.le_of_ble_eq_true rfl) d264_428 (fun vv h1 z1 H locs hR I9 => ?_)
  obtain ⟨v9, e1, hc2, e2, d2, e3, c2, o2⟩ := hR
  subst e3
  subst e1
  subst e2
  clear I hy fy
  have I := I9
  clear I9
  refine W.eq (g2 := F0 m 431 ls [.int v]) rfl ?_
  refine lv_aload_n hx hb d264_431 rfl (lv_at hl 1 rfl) ?_
  refine ht_V (C := "MarkupStoreModel") (rest := [.int v]) (as := []) X hl (cm_root l D dA s hW.1 hc2 r9 M hM z1 st (v, st2) eg) (List.forall_mem_cons.mpr ⟨ms_k1788, List.forall_mem_cons.mpr ⟨ms_k1789, List.forall_mem_cons.mpr ⟨ms_k1790, List.forall_mem_cons.mpr ⟨ms_k7, List.forall_mem_cons.mpr ⟨ms_k1791, fun _ h => absurd h List.not_mem_nil⟩⟩⟩⟩⟩) ⟨rfl, by decide +kernel, by decide +kernel, (by decide +kernel : (parseMethodDescriptor "()I").map (fun d => d.parameters.length) = some 0)⟩ (hm_recv hK I rfl mm_hr) I ⟨rfl, rfl⟩ ⟨⟨Nat.le_of_ble_eq_true rfl, Nat.le_of_ble_eq_true rfl⟩, (show cells + 0 + 0 ≤ 600000 by omega), (show slots + 0 + 0 ≤ 7302249 by omega)⟩ rfl (Nat.le_of_ble_eq_true rfl) d264_432 (fun vv h1 z2 H locs hR I9 => ?_)
  obtain ⟨e1, e2, e3⟩ := hR
  subst e1
  rw [e2, e3] at I9
  refine W.eq (g2 := F0 m 435 ls [.int v, .int v]) rfl ?_
  refine lv_icmp_eq hx hb d264_435 rfl (fun _ => ?_) (fun h9 => absurd rfl h9)
  exact nx hc2 z1 st2 a2 H locs _ _ c2 m2 o2 (dj_st d2) I9 (by omega) (by omega)

set_option maxRecDepth 100000 in
set_option maxHeartbeats 16000000 in
theorem law_c14 {p : Program} {e : Env} {s : State} {m : MethodId} {below : List Frame} {meth : Method} {c : Code} (l : Launch) (D : va_G) (dA : Nat → ClassId) {b L : Nat} {xs : Nat → Int32} (hW : ms_EW D dA s) (X : ms_X D (ms_tys dA) s p s m #[Value.ref b] meth c (fun q => s.heap.size ≤ q) x code 4 ret) (hX : va_X b L xs s s.heap) (hbl : b < s.heap.size) {k : Nat} (hk : 3 * k + 3 ≤ L) (hL : L ≤ 1536) {y r9 : Nat} {M : Nat → Nat} (hM : mm_ok r9 M) {hc : hm_T} {z : hz_T} {st : mT} {a : aS} (Cc : cI dA y hc z a) (Mm : mI st a) (ok : aO a) (dj0 : dj (mm_h dA hE0 r9 M st) hc) {H : Heap} {locs : List Loc} {cells slots : Nat} {ls : Array Slot} (I : hm_I D s s (mm_h dA hc r9 M st) z H locs) (hl : lv_has ls 4 [(3, .int (nI (3 * k))), (2, .ref r9), (1, .ref y), (0, .ref b)]) (hcl : cells + 40 * bl a + 100 ≤ 600000) (hsl : slots + 2600 * bl a + 4000 ≤ 7302249) (nx : ∀ (hc2 : hm_T) (z2 : hz_T) (st2 : mT) (a2 : aS) (H2 : Heap) (locs2 : List Loc) (cells2 slots2 : Nat), cI dA y hc2 z2 a2 → mI st2 a2 → aO a2 → dj (mm_h dA hE0 r9 M st2) hc2 → hm_I D s s (mm_h dA hc2 r9 M st2) z2 H2 locs2 → cells2 + 40 * bl a2 ≤ cells + 40 * bl a + 100 → slots2 + 2600 * bl a2 ≤ slots + 2600 * bl a + 4000 → W p l e room_1 s m #[Value.ref b] below meth c H2 locs2 cells2 slots2 (lw_Z below #[Value.ref b] s) (F0 m 489 ls [])) : W p l e room_1 s m #[Value.ref b] below meth c H locs cells slots (lw_Z below #[Value.ref b] s) (F0 m 440 ls []) := by
  have hx := X.1
  have hb := X.2.1
  have hown : s.vm.findClass "MarkupStoreLaw" = some m.cls := X.2.2.2.1
  have hK := X.2.2.2.2.2.2.2.2.1
  have hbA : ¬ s.heap.size ≤ b := Nat.not_le.mpr hbl
  obtain ⟨v, a2, st2, kc, eg, m2, bc, bs⟩ := bt_nodes Cc Mm ok
  obtain ⟨fy, hy⟩ := law_y dj0 Cc
  refine lv_aload_n hx hb d264_440 rfl (lv_at hl 2 rfl) ?_
  refine ht_V (C := "MarkupStore") (rest := []) (as := []) X hl (cw_Store_nodes l D dA s hW.1 y _ z _ (law_w (wc := fun K h z => w_Store_nodes dA y K h z) (fun d hw hk => fr_Store_nodes d hw hk) dj0 kc)) (List.forall_mem_cons.mpr ⟨ms_k1238, List.forall_mem_cons.mpr ⟨ms_k1239, List.forall_mem_cons.mpr ⟨ms_k1240, List.forall_mem_cons.mpr ⟨ms_k1, List.forall_mem_cons.mpr ⟨ms_k1241, fun _ h => absurd h List.not_mem_nil⟩⟩⟩⟩⟩) ⟨rfl, by decide +kernel, by decide +kernel, (by decide +kernel : (parseMethodDescriptor "()I").map (fun d => d.parameters.length) = some 0)⟩ (hm_recv hK I rfl hy) I ⟨rfl, rfl⟩ ⟨⟨Nat.le_of_ble_eq_true rfl, Nat.le_of_ble_eq_true rfl⟩, (show cells + 0 ≤ 600000 by omega), (show slots + 0 ≤ 7302249 by omega)⟩ rfl (Nat.le_of_ble_eq_true rfl) d264_441 (fun vv h1 z1 H locs hR I9 => ?_)
  obtain ⟨v9, e1, hc2, e2, d2, e3, c2, o2⟩ := hR
  subst e3
  subst e1
  subst e2
  clear I hy fy
  have I := I9
  clear I9
  refine W.eq (g2 := F0 m 444 ls [.int v]) rfl ?_
  refine lv_aload_n hx hb d264_444 rfl (lv_at hl 1 rfl) ?_
  refine ht_V (C := "MarkupStoreModel") (rest := [.int v]) (as := []) X hl (cm_nodes l D dA s hW.1 hc2 r9 M hM z1 st (v, st2) eg) (List.forall_mem_cons.mpr ⟨ms_k1792, List.forall_mem_cons.mpr ⟨ms_k1793, List.forall_mem_cons.mpr ⟨ms_k1794, List.forall_mem_cons.mpr ⟨ms_k7, List.forall_mem_cons.mpr ⟨ms_k1795, fun _ h => absurd h List.not_mem_nil⟩⟩⟩⟩⟩) ⟨rfl, by decide +kernel, by decide +kernel, (by decide +kernel : (parseMethodDescriptor "()I").map (fun d => d.parameters.length) = some 0)⟩ (hm_recv hK I rfl mm_hr) I ⟨rfl, rfl⟩ ⟨⟨Nat.le_of_ble_eq_true rfl, Nat.le_of_ble_eq_true rfl⟩, (show cells + 0 + 0 ≤ 600000 by omega), (show slots + 0 + 0 ≤ 7302249 by omega)⟩ rfl (Nat.le_of_ble_eq_true rfl) d264_445 (fun vv h1 z2 H locs hR I9 => ?_)
  obtain ⟨e1, e2, e3⟩ := hR
  subst e1
  rw [e2, e3] at I9
  refine W.eq (g2 := F0 m 448 ls [.int v, .int v]) rfl ?_
  refine lv_icmp_eq hx hb d264_448 rfl (fun _ => ?_) (fun h9 => absurd rfl h9)
  exact nx hc2 z1 st2 a2 H locs _ _ c2 m2 o2 (dj_st d2) I9 (by omega) (by omega)

set_option maxRecDepth 100000 in
set_option maxHeartbeats 16000000 in
theorem law_c15 {p : Program} {e : Env} {s : State} {m : MethodId} {below : List Frame} {meth : Method} {c : Code} (l : Launch) (D : va_G) (dA : Nat → ClassId) {b L : Nat} {xs : Nat → Int32} (hW : ms_EW D dA s) (X : ms_X D (ms_tys dA) s p s m #[Value.ref b] meth c (fun q => s.heap.size ≤ q) x code 4 ret) (hX : va_X b L xs s s.heap) (hbl : b < s.heap.size) {k : Nat} (hk : 3 * k + 3 ≤ L) (hL : L ≤ 1536) {y r9 : Nat} {M : Nat → Nat} (hM : mm_ok r9 M) {hc : hm_T} {z : hz_T} {st : mT} {a : aS} (Cc : cI dA y hc z a) (Mm : mI st a) (ok : aO a) (dj0 : dj (mm_h dA hE0 r9 M st) hc) {H : Heap} {locs : List Loc} {cells slots : Nat} {ls : Array Slot} (I : hm_I D s s (mm_h dA hc r9 M st) z H locs) (hl : lv_has ls 4 [(3, .int (nI (3 * k))), (2, .ref r9), (1, .ref y), (0, .ref b)]) (hcl : cells + 40 * bl a + 100 ≤ 600000) (hsl : slots + 2600 * bl a + 4000 ≤ 7302249) (nx : ∀ (hc2 : hm_T) (z2 : hz_T) (st2 : mT) (a2 : aS) (H2 : Heap) (locs2 : List Loc) (cells2 slots2 : Nat), cI dA y hc2 z2 a2 → mI st2 a2 → aO a2 → dj (mm_h dA hE0 r9 M st2) hc2 → hm_I D s s (mm_h dA hc2 r9 M st2) z2 H2 locs2 → cells2 + 40 * bl a2 ≤ cells + 40 * bl a + 100 → slots2 + 2600 * bl a2 ≤ slots + 2600 * bl a + 4000 → W p l e room_1 s m #[Value.ref b] below meth c H2 locs2 cells2 slots2 (lw_Z below #[Value.ref b] s) (F0 m 489 ls [])) : W p l e room_1 s m #[Value.ref b] below meth c H locs cells slots (lw_Z below #[Value.ref b] s) (F0 m 453 ls []) := by
  have hx := X.1
  have hb := X.2.1
  have hown : s.vm.findClass "MarkupStoreLaw" = some m.cls := X.2.2.2.1
  have hK := X.2.2.2.2.2.2.2.2.1
  have hbA : ¬ s.heap.size ≤ b := Nat.not_le.mpr hbl
  obtain ⟨v, a2, st2, kc, eg, m2, bc, bs⟩ := bt_length Cc Mm ok
  obtain ⟨fy, hy⟩ := law_y dj0 Cc
  refine lv_aload_n hx hb d264_453 rfl (lv_at hl 2 rfl) ?_
  refine ht_V (C := "MarkupStore") (rest := []) (as := []) X hl (cw_Store_length l D dA s hW y 1 3 _ z _ (law_w (wc := fun K h z => w_Store_length dA y 1 3 K h z) (fun d hw hk => fr_Store_length d hw hk) dj0 kc)) (List.forall_mem_cons.mpr ⟨ms_k1242, List.forall_mem_cons.mpr ⟨ms_k1243, List.forall_mem_cons.mpr ⟨ms_k1244, List.forall_mem_cons.mpr ⟨ms_k1, List.forall_mem_cons.mpr ⟨ms_k1245, fun _ h => absurd h List.not_mem_nil⟩⟩⟩⟩⟩) ⟨rfl, by decide +kernel, by decide +kernel, (by decide +kernel : (parseMethodDescriptor "()I").map (fun d => d.parameters.length) = some 0)⟩ (hm_recv hK I rfl hy) I ⟨rfl, rfl⟩ ⟨⟨Nat.le_of_ble_eq_true rfl, Nat.le_of_ble_eq_true rfl⟩, (show cells + 1 ≤ 600000 by omega), (show slots + 3 ≤ 7302249 by omega)⟩ rfl (Nat.le_of_ble_eq_true rfl) d264_454 (fun vv h1 z1 H locs hR I9 => ?_)
  obtain ⟨v9, e1, hc2, e2, d2, e3, c2, o2⟩ := hR
  subst e3
  subst e1
  subst e2
  clear I hy fy
  have I := I9
  clear I9
  refine W.eq (g2 := F0 m 457 ls [.int v]) rfl ?_
  refine lv_aload_n hx hb d264_457 rfl (lv_at hl 1 rfl) ?_
  refine ht_V (C := "MarkupStoreModel") (rest := [.int v]) (as := []) X hl (cm_length l D dA s hW.1 hc2 r9 M hM z1 st (v, st2) eg) (List.forall_mem_cons.mpr ⟨ms_k1796, List.forall_mem_cons.mpr ⟨ms_k1797, List.forall_mem_cons.mpr ⟨ms_k1798, List.forall_mem_cons.mpr ⟨ms_k7, List.forall_mem_cons.mpr ⟨ms_k1799, fun _ h => absurd h List.not_mem_nil⟩⟩⟩⟩⟩) ⟨rfl, by decide +kernel, by decide +kernel, (by decide +kernel : (parseMethodDescriptor "()I").map (fun d => d.parameters.length) = some 0)⟩ (hm_recv hK I rfl mm_hr) I ⟨rfl, rfl⟩ ⟨⟨Nat.le_of_ble_eq_true rfl, Nat.le_of_ble_eq_true rfl⟩, (show cells + 1 + 0 ≤ 600000 by omega), (show slots + 3 + 0 ≤ 7302249 by omega)⟩ rfl (Nat.le_of_ble_eq_true rfl) d264_458 (fun vv h1 z2 H locs hR I9 => ?_)
  obtain ⟨e1, e2, e3⟩ := hR
  subst e1
  rw [e2, e3] at I9
  refine W.eq (g2 := F0 m 461 ls [.int v, .int v]) rfl ?_
  refine lv_icmp_eq hx hb d264_461 rfl (fun _ => ?_) (fun h9 => absurd rfl h9)
  exact nx hc2 z1 st2 a2 H locs _ _ c2 m2 o2 (dj_st d2) I9 (by omega) (by omega)

set_option maxRecDepth 100000 in
set_option maxHeartbeats 16000000 in
theorem law_c16 {p : Program} {e : Env} {s : State} {m : MethodId} {below : List Frame} {meth : Method} {c : Code} (l : Launch) (D : va_G) (dA : Nat → ClassId) {b L : Nat} {xs : Nat → Int32} (hW : ms_EW D dA s) (X : ms_X D (ms_tys dA) s p s m #[Value.ref b] meth c (fun q => s.heap.size ≤ q) x code 4 ret) (hX : va_X b L xs s s.heap) (hbl : b < s.heap.size) {k : Nat} (hk : 3 * k + 3 ≤ L) (hL : L ≤ 1536) {y r9 : Nat} {M : Nat → Nat} (hM : mm_ok r9 M) {hc : hm_T} {z : hz_T} {st : mT} {a : aS} (Cc : cI dA y hc z a) (Mm : mI st a) (ok : aO a) (dj0 : dj (mm_h dA hE0 r9 M st) hc) {H : Heap} {locs : List Loc} {cells slots : Nat} {ls : Array Slot} (I : hm_I D s s (mm_h dA hc r9 M st) z H locs) (hl : lv_has ls 4 [(3, .int (nI (3 * k))), (2, .ref r9), (1, .ref y), (0, .ref b)]) (hcl : cells + 40 * bl a + 100 ≤ 600000) (hsl : slots + 2600 * bl a + 4000 ≤ 7302249) (nx : ∀ (hc2 : hm_T) (z2 : hz_T) (st2 : mT) (a2 : aS) (H2 : Heap) (locs2 : List Loc) (cells2 slots2 : Nat), cI dA y hc2 z2 a2 → mI st2 a2 → aO a2 → dj (mm_h dA hE0 r9 M st2) hc2 → hm_I D s s (mm_h dA hc2 r9 M st2) z2 H2 locs2 → cells2 + 40 * bl a2 ≤ cells + 40 * bl a + 100 → slots2 + 2600 * bl a2 ≤ slots + 2600 * bl a + 4000 → W p l e room_1 s m #[Value.ref b] below meth c H2 locs2 cells2 slots2 (lw_Z below #[Value.ref b] s) (F0 m 489 ls [])) : W p l e room_1 s m #[Value.ref b] below meth c H locs cells slots (lw_Z below #[Value.ref b] s) (F0 m 466 ls []) := by
  have hx := X.1
  have hb := X.2.1
  have hown : s.vm.findClass "MarkupStoreLaw" = some m.cls := X.2.2.2.1
  have hK := X.2.2.2.2.2.2.2.2.1
  have hbA : ¬ s.heap.size ≤ b := Nat.not_le.mpr hbl
  obtain ⟨v, a2, st2, kc, eg, m2, bc, bs⟩ := bt_written Cc Mm ok (xs (3 * k + 1))
  obtain ⟨fy, hy⟩ := law_y dj0 Cc
  refine lv_aload_n hx hb d264_466 rfl (lv_at hl 2 rfl) ?_
  refine lv_aload_n hx hb d264_467 rfl (lv_at hl 3 rfl) ?_
  refine lv_iload_n hx hb d264_468 rfl (lv_at hl 0 rfl) ?_
  refine lv_iconst (v := 1) hx hb d264_469 (by decide) ?_
  refine lv_iadd hx hb d264_470 ?_
  refine ms_top (y := nI (3 * k + 1)) (by rw [show (1 : Int32) = nI 1 from rfl, nI_add]) ?_
  refine va_sld hx hb hX hbl hbA I.2.2.1 (vp_inI (i := 3 * k + 1) (by omega) (by omega)) d264_471 ?_
  refine ms_top (y := xs (3 * k + 1)) (congrArg xs (nI_clamp (by omega))) ?_
  refine ht_V (C := "MarkupStore") (rest := []) (as := [.int (xs (3 * k + 1))]) X hl (cw_Store_written l D dA s hW y (xs (3 * k + 1)) 1 3 _ z _ (law_w (wc := fun K h z => w_Store_written dA y (xs (3 * k + 1)) 1 3 K h z) (fun d hw hk => fr_Store_written d hw hk) dj0 kc)) (List.forall_mem_cons.mpr ⟨ms_k1306, List.forall_mem_cons.mpr ⟨ms_k1307, List.forall_mem_cons.mpr ⟨ms_k1308, List.forall_mem_cons.mpr ⟨ms_k1, List.forall_mem_cons.mpr ⟨ms_k1309, fun _ h => absurd h List.not_mem_nil⟩⟩⟩⟩⟩) ⟨rfl, by decide +kernel, by decide +kernel, (by decide +kernel : (parseMethodDescriptor "(I)I").map (fun d => d.parameters.length) = some 1)⟩ (hm_recv hK I rfl hy) I ⟨rfl, rfl⟩ ⟨⟨Nat.le_of_ble_eq_true rfl, Nat.le_of_ble_eq_true rfl⟩, (show cells + 1 ≤ 600000 by omega), (show slots + 3 ≤ 7302249 by omega)⟩ rfl (Nat.le_of_ble_eq_true rfl) d264_472 (fun vv h1 z1 H locs hR I9 => ?_)
  obtain ⟨v9, e1, hc2, e2, d2, e3, c2, o2⟩ := hR
  subst e3
  subst e1
  subst e2
  clear I hy fy
  have I := I9
  clear I9
  refine W.eq (g2 := F0 m 475 ls [.int v]) rfl ?_
  refine lv_aload_n hx hb d264_475 rfl (lv_at hl 1 rfl) ?_
  refine lv_aload_n hx hb d264_476 rfl (lv_at hl 3 rfl) ?_
  refine lv_iload_n hx hb d264_477 rfl (lv_at hl 0 rfl) ?_
  refine lv_iconst (v := 1) hx hb d264_478 (by decide) ?_
  refine lv_iadd hx hb d264_479 ?_
  refine ms_top (y := nI (3 * k + 1)) (by rw [show (1 : Int32) = nI 1 from rfl, nI_add]) ?_
  refine va_sld hx hb hX hbl hbA I.2.2.1 (vp_inI (i := 3 * k + 1) (by omega) (by omega)) d264_480 ?_
  refine ms_top (y := xs (3 * k + 1)) (congrArg xs (nI_clamp (by omega))) ?_
  refine ht_V (C := "MarkupStoreModel") (rest := [.int v]) (as := [.int (xs (3 * k + 1))]) X hl (cm_written l D dA s hW.1 hc2 r9 M hM z1 (xs (3 * k + 1)) st (v, st2) eg) (List.forall_mem_cons.mpr ⟨ms_k1828, List.forall_mem_cons.mpr ⟨ms_k1829, List.forall_mem_cons.mpr ⟨ms_k1830, List.forall_mem_cons.mpr ⟨ms_k7, List.forall_mem_cons.mpr ⟨ms_k1831, fun _ h => absurd h List.not_mem_nil⟩⟩⟩⟩⟩) ⟨rfl, by decide +kernel, by decide +kernel, (by decide +kernel : (parseMethodDescriptor "(I)I").map (fun d => d.parameters.length) = some 1)⟩ (hm_recv hK I rfl mm_hr) I ⟨rfl, rfl⟩ ⟨⟨Nat.le_of_ble_eq_true rfl, Nat.le_of_ble_eq_true rfl⟩, (show cells + 1 + 0 ≤ 600000 by omega), (show slots + 3 + 0 ≤ 7302249 by omega)⟩ rfl (Nat.le_of_ble_eq_true rfl) d264_481 (fun vv h1 z2 H locs hR I9 => ?_)
  obtain ⟨e1, e2, e3⟩ := hR
  subst e1
  rw [e2, e3] at I9
  refine W.eq (g2 := F0 m 484 ls [.int v, .int v]) rfl ?_
  refine lv_icmp_eq hx hb d264_484 rfl (fun _ => ?_) (fun h9 => absurd rfl h9)
  exact nx hc2 z1 st2 a2 H locs _ _ c2 m2 o2 (dj_st d2) I9 (by omega) (by omega)
