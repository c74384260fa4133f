theorem kn0 : ∀ a, a < 6 → ∀ b, b < 6 → a ≠ b → (kT0 a).2.1 ≠ (kT0 b).2.1 := by decide +kernel
theorem kp0 : ∀ k, k < 6 → parseFieldDescriptor (kT0 k).2.2.1 = some (kt0 k) := by decide +kernel
theorem ku0 : ∀ w ∈ u_ws kR0 kT0 6, w ∈ ms_tb := List.forall_mem_cons.mpr ⟨ms_k111, List.forall_mem_cons.mpr ⟨ms_k113, List.forall_mem_cons.mpr ⟨ms_k115, List.forall_mem_cons.mpr ⟨ms_k117, List.forall_mem_cons.mpr ⟨ms_k119, List.forall_mem_cons.mpr ⟨ms_k121, fun _ h => absurd h List.not_mem_nil⟩⟩⟩⟩⟩⟩
theorem kz0 : ∀ j, j < 6 → defaultValue (kt0 j) = vp_V [.null, .null, .null, .null, .int 0, .int 0] j := by
  intro j hj
  rcases (show j = 0 ∨ j = 1 ∨ j = 2 ∨ j = 3 ∨ j = 4 ∨ j = 5 by omega) with rfl | rfl | rfl | rfl | rfl | rfl <;> rfl
theorem kn1 : ∀ a, a < 6 → ∀ b, b < 6 → a ≠ b → (kT1 a).2.1 ≠ (kT1 b).2.1 := by decide +kernel
theorem kp1 : ∀ k, k < 6 → parseFieldDescriptor (kT1 k).2.2.1 = some (kt1 k) := by decide +kernel
theorem ku1 : ∀ w ∈ u_ws kR1 kT1 6, w ∈ ms_tb := List.forall_mem_cons.mpr ⟨ms_k92, List.forall_mem_cons.mpr ⟨ms_k94, List.forall_mem_cons.mpr ⟨ms_k96, List.forall_mem_cons.mpr ⟨ms_k98, List.forall_mem_cons.mpr ⟨ms_k100, List.forall_mem_cons.mpr ⟨ms_k102, fun _ h => absurd h List.not_mem_nil⟩⟩⟩⟩⟩⟩
theorem kz1 : ∀ j, j < 6 → defaultValue (kt1 j) = vp_V [.null, .int 0, .null, .int 0, .null, .int 0] j := by
  intro j hj
  rcases (show j = 0 ∨ j = 1 ∨ j = 2 ∨ j = 3 ∨ j = 4 ∨ j = 5 by omega) with rfl | rfl | rfl | rfl | rfl | rfl <;> rfl
theorem kn2 : ∀ a, a < 60 → ∀ b, b < 60 → a ≠ b → (kT2 a).2.1 ≠ (kT2 b).2.1 := by decide +kernel
theorem kp2 : ∀ k, k < 60 → parseFieldDescriptor (kT2 k).2.2.1 = some (kt2 k) := by decide +kernel
theorem ku2 : ∀ w ∈ u_ws kR2 kT2 60, w ∈ ms_tb := List.forall_mem_cons.mpr ⟨ms_k1376, List.forall_mem_cons.mpr ⟨ms_k1378, List.forall_mem_cons.mpr ⟨ms_k1380, List.forall_mem_cons.mpr ⟨ms_k1382, List.forall_mem_cons.mpr ⟨ms_k1384, List.forall_mem_cons.mpr ⟨ms_k1386, List.forall_mem_cons.mpr ⟨ms_k1388, List.forall_mem_cons.mpr ⟨ms_k1390, List.forall_mem_cons.mpr ⟨ms_k1392, List.forall_mem_cons.mpr ⟨ms_k1394, List.forall_mem_cons.mpr ⟨ms_k1396, List.forall_mem_cons.mpr ⟨ms_k1398, List.forall_mem_cons.mpr ⟨ms_k1400, List.forall_mem_cons.mpr ⟨ms_k1402, List.forall_mem_cons.mpr ⟨ms_k1404, List.forall_mem_cons.mpr ⟨ms_k1406, List.forall_mem_cons.mpr ⟨ms_k1408, List.forall_mem_cons.mpr ⟨ms_k1410, List.forall_mem_cons.mpr ⟨ms_k1412, List.forall_mem_cons.mpr ⟨ms_k1414, List.forall_mem_cons.mpr ⟨ms_k1416, List.forall_mem_cons.mpr ⟨ms_k1418, List.forall_mem_cons.mpr ⟨ms_k1420, List.forall_mem_cons.mpr ⟨ms_k1422, List.forall_mem_cons.mpr ⟨ms_k1424, List.forall_mem_cons.mpr ⟨ms_k1426, List.forall_mem_cons.mpr ⟨ms_k1428, List.forall_mem_cons.mpr ⟨ms_k1430, List.forall_mem_cons.mpr ⟨ms_k1432, List.forall_mem_cons.mpr ⟨ms_k1434, List.forall_mem_cons.mpr ⟨ms_k1436, List.forall_mem_cons.mpr ⟨ms_k1438, List.forall_mem_cons.mpr ⟨ms_k1440, List.forall_mem_cons.mpr ⟨ms_k1442, List.forall_mem_cons.mpr ⟨ms_k1444, List.forall_mem_cons.mpr ⟨ms_k1446, List.forall_mem_cons.mpr ⟨ms_k1448, List.forall_mem_cons.mpr ⟨ms_k1450, List.forall_mem_cons.mpr ⟨ms_k1452, List.forall_mem_cons.mpr ⟨ms_k1454, List.forall_mem_cons.mpr ⟨ms_k1456, List.forall_mem_cons.mpr ⟨ms_k1458, List.forall_mem_cons.mpr ⟨ms_k1460, List.forall_mem_cons.mpr ⟨ms_k1462, List.forall_mem_cons.mpr ⟨ms_k1464, List.forall_mem_cons.mpr ⟨ms_k1466, List.forall_mem_cons.mpr ⟨ms_k1468, List.forall_mem_cons.mpr ⟨ms_k1470, List.forall_mem_cons.mpr ⟨ms_k1472, List.forall_mem_cons.mpr ⟨ms_k1474, List.forall_mem_cons.mpr ⟨ms_k1476, List.forall_mem_cons.mpr ⟨ms_k1478, List.forall_mem_cons.mpr ⟨ms_k1480, List.forall_mem_cons.mpr ⟨ms_k1482, List.forall_mem_cons.mpr ⟨ms_k1484, List.forall_mem_cons.mpr ⟨ms_k1486, List.forall_mem_cons.mpr ⟨ms_k1488, List.forall_mem_cons.mpr ⟨ms_k1490, List.forall_mem_cons.mpr ⟨ms_k1492, List.forall_mem_cons.mpr ⟨ms_k1494, fun _ h => absurd h List.not_mem_nil⟩⟩⟩⟩⟩⟩⟩⟩⟩⟩⟩⟩⟩⟩⟩⟩⟩⟩⟩⟩⟩⟩⟩⟩⟩⟩⟩⟩⟩⟩⟩⟩⟩⟩⟩⟩⟩⟩⟩⟩⟩⟩⟩⟩⟩⟩⟩⟩⟩⟩⟩⟩⟩⟩⟩⟩⟩⟩⟩⟩
theorem kz2 : ∀ j, j < 60 → defaultValue (kt2 j) = vp_V [.null, .null, .null, .null, .int 0, .int 0, .null, .int 0, .int 0, .int 0, .int 0, .int 0, .int 0, .int 0, .int 0, .null, .null, .null, .int 0, .int 0, .null, .null, .null, .int 0, .int 0, .null, .null, .null, .null, .null, .null, .int 0, .null, .null, .null, .null, .null, .null, .null, .null, .null, .null, .null, .int 0, .null, .int 0, .int 0, .int 0, .int 0, .int 0, .null, .null, .null, .int 0, .null, .int 0, .null, .int 0, .int 0, .int 0] j := by
  intro j hj
  rcases (show j = 0 ∨ j = 1 ∨ j = 2 ∨ j = 3 ∨ j = 4 ∨ j = 5 ∨ j = 6 ∨ j = 7 ∨ j = 8 ∨ j = 9 ∨ j = 10 ∨ j = 11 ∨ j = 12 ∨ j = 13 ∨ j = 14 ∨ j = 15 ∨ j = 16 ∨ j = 17 ∨ j = 18 ∨ j = 19 ∨ j = 20 ∨ j = 21 ∨ j = 22 ∨ j = 23 ∨ j = 24 ∨ j = 25 ∨ j = 26 ∨ j = 27 ∨ j = 28 ∨ j = 29 ∨ j = 30 ∨ j = 31 ∨ j = 32 ∨ j = 33 ∨ j = 34 ∨ j = 35 ∨ j = 36 ∨ j = 37 ∨ j = 38 ∨ j = 39 ∨ j = 40 ∨ j = 41 ∨ j = 42 ∨ j = 43 ∨ j = 44 ∨ j = 45 ∨ j = 46 ∨ j = 47 ∨ j = 48 ∨ j = 49 ∨ j = 50 ∨ j = 51 ∨ j = 52 ∨ j = 53 ∨ j = 54 ∨ j = 55 ∨ j = 56 ∨ j = 57 ∨ j = 58 ∨ j = 59 by omega) with rfl | rfl | rfl | rfl | rfl | rfl | rfl | rfl | rfl | rfl | rfl | rfl | rfl | rfl | rfl | rfl | rfl | rfl | rfl | rfl | rfl | rfl | rfl | rfl | rfl | rfl | rfl | rfl | rfl | rfl | rfl | rfl | rfl | rfl | rfl | rfl | rfl | rfl | rfl | rfl | rfl | rfl | rfl | rfl | rfl | rfl | rfl | rfl | rfl | rfl | rfl | rfl | rfl | rfl | rfl | rfl | rfl | rfl | rfl | rfl <;> rfl
theorem kn3 : ∀ a, a < 4 → ∀ b, b < 4 → a ≠ b → (kT3 a).2.1 ≠ (kT3 b).2.1 := by decide +kernel
theorem kp3 : ∀ k, k < 4 → parseFieldDescriptor (kT3 k).2.2.1 = some (kt3 k) := by decide +kernel
theorem ku3 : ∀ w ∈ u_ws kR3 kT3 4, w ∈ ms_tb := List.forall_mem_cons.mpr ⟨ms_k62, List.forall_mem_cons.mpr ⟨ms_k64, List.forall_mem_cons.mpr ⟨ms_k66, List.forall_mem_cons.mpr ⟨ms_k68, fun _ h => absurd h List.not_mem_nil⟩⟩⟩⟩
theorem kz3 : ∀ j, j < 4 → defaultValue (kt3 j) = vp_V [.null, .int 0, .int 0, .int 0] j := by
  intro j hj
  rcases (show j = 0 ∨ j = 1 ∨ j = 2 ∨ j = 3 by omega) with rfl | rfl | rfl | rfl <;> rfl
theorem kn4 : ∀ a, a < 3 → ∀ b, b < 3 → a ≠ b → (kT4 a).2.1 ≠ (kT4 b).2.1 := by decide +kernel
theorem kp4 : ∀ k, k < 3 → parseFieldDescriptor (kT4 k).2.2.1 = some (kt4 k) := by decide +kernel
theorem ku4 : ∀ w ∈ u_ws kR4 kT4 3, w ∈ ms_tb := List.forall_mem_cons.mpr ⟨ms_k345, List.forall_mem_cons.mpr ⟨ms_k341, List.forall_mem_cons.mpr ⟨ms_k343, fun _ h => absurd h List.not_mem_nil⟩⟩⟩
theorem kz4 : ∀ j, j < 3 → defaultValue (kt4 j) = vp_V [.int 0, .null, .int 0] j := by
  intro j hj
  rcases (show j = 0 ∨ j = 1 ∨ j = 2 by omega) with rfl | rfl | rfl <;> rfl
theorem kn5 : ∀ a, a < 4 → ∀ b, b < 4 → a ≠ b → (kT5 a).2.1 ≠ (kT5 b).2.1 := by decide +kernel
theorem kp5 : ∀ k, k < 4 → parseFieldDescriptor (kT5 k).2.2.1 = some (kt5 k) := by decide +kernel
theorem ku5 : ∀ w ∈ u_ws kR5 kT5 4, w ∈ ms_tb := List.forall_mem_cons.mpr ⟨ms_k286, List.forall_mem_cons.mpr ⟨ms_k288, List.forall_mem_cons.mpr ⟨ms_k290, List.forall_mem_cons.mpr ⟨ms_k292, fun _ h => absurd h List.not_mem_nil⟩⟩⟩⟩
theorem kz5 : ∀ j, j < 4 → defaultValue (kt5 j) = vp_V [.null, .int 0, .int 0, .int 0] j := by
  intro j hj
  rcases (show j = 0 ∨ j = 1 ∨ j = 2 ∨ j = 3 by omega) with rfl | rfl | rfl | rfl <;> rfl
theorem kn6 : ∀ a, a < 6 → ∀ b, b < 6 → a ≠ b → (kT6 a).2.1 ≠ (kT6 b).2.1 := by decide +kernel
theorem kp6 : ∀ k, k < 6 → parseFieldDescriptor (kT6 k).2.2.1 = some (kt6 k) := by decide +kernel
theorem ku6 : ∀ w ∈ u_ws kR6 kT6 6, w ∈ ms_tb := List.forall_mem_cons.mpr ⟨ms_k373, List.forall_mem_cons.mpr ⟨ms_k375, List.forall_mem_cons.mpr ⟨ms_k377, List.forall_mem_cons.mpr ⟨ms_k367, List.forall_mem_cons.mpr ⟨ms_k369, List.forall_mem_cons.mpr ⟨ms_k371, fun _ h => absurd h List.not_mem_nil⟩⟩⟩⟩⟩⟩
theorem kz6 : ∀ j, j < 6 → defaultValue (kt6 j) = vp_V [.null, .int 0, .int 0, .null, .null, .int 0] j := by
  intro j hj
  rcases (show j = 0 ∨ j = 1 ∨ j = 2 ∨ j = 3 ∨ j = 4 ∨ j = 5 by omega) with rfl | rfl | rfl | rfl | rfl | rfl <;> rfl
theorem kn7 : ∀ a, a < 3 → ∀ b, b < 3 → a ≠ b → (kT7 a).2.1 ≠ (kT7 b).2.1 := by decide +kernel
theorem kp7 : ∀ k, k < 3 → parseFieldDescriptor (kT7 k).2.2.1 = some (kt7 k) := by decide +kernel
theorem ku7 : ∀ w ∈ u_ws kR7 kT7 3, w ∈ ms_tb := List.forall_mem_cons.mpr ⟨ms_k1257, List.forall_mem_cons.mpr ⟨ms_k1259, List.forall_mem_cons.mpr ⟨ms_k1261, fun _ h => absurd h List.not_mem_nil⟩⟩⟩
theorem kz7 : ∀ j, j < 3 → defaultValue (kt7 j) = vp_V [.int 0, .int 0, .int 0] j := by
  intro j hj
  rcases (show j = 0 ∨ j = 1 ∨ j = 2 by omega) with rfl | rfl | rfl <;> rfl
abbrev bM0 : ByteArray := prog_28_method_1_code
def yM0 : MethodName := ⟨"java/util/AbstractCollection", "<init>", "()V"⟩
abbrev bM1 : ByteArray := prog_29_method_1_code
def yM1 : MethodName := ⟨"java/util/AbstractList", "<init>", "()V"⟩
abbrev bM2 : ByteArray := prog_30_method_2_code
def yM2 : MethodName := ⟨"java/util/ArrayList", "<init>", "()V"⟩
abbrev bM3 : ByteArray := prog_16_method_2_code
def yM3 : MethodName := ⟨"java/lang/AbstractStringBuilder", "<init>", "(I)V"⟩
abbrev bM4 : ByteArray := prog_24_method_1_code
def yM4 : MethodName := ⟨"java/lang/StringBuilder", "<init>", "()V"⟩
abbrev bM5 : ByteArray := prog_16_method_6_code
def yM5 : MethodName := ⟨"java/lang/AbstractStringBuilder", "length", "()I"⟩
abbrev bM6 : ByteArray := prog_24_method_93_code
def yM6 : MethodName := ⟨"java/lang/StringBuilder", "length", "()I"⟩
abbrev bM7 : ByteArray := prog_16_method_68_code
def yM7 : MethodName := ⟨"java/lang/AbstractStringBuilder", "isLatin1", "()Z"⟩
abbrev bM8 : ByteArray := prog_16_method_64_code
def yM8 : MethodName := ⟨"java/lang/AbstractStringBuilder", "getValue", "()[B"⟩
abbrev bM9 : ByteArray := prog_25_method_3_code
def yM9 : MethodName := ⟨"java/lang/StringLatin1", "canEncode", "(C)Z"⟩
abbrev bM10 : ByteArray := prog_16_method_9_code
def yM10 : MethodName := ⟨"java/lang/AbstractStringBuilder", "ensureCapacityInternal", "(I)V"⟩
abbrev bM11 : ByteArray := prog_16_method_13_code
def yM11 : MethodName := ⟨"java/lang/AbstractStringBuilder", "setLength", "(I)V"⟩
abbrev bM12 : ByteArray := prog_24_method_89_code
def yM12 : MethodName := ⟨"java/lang/StringBuilder", "setLength", "(I)V"⟩
abbrev bM13 : ByteArray := prog_16_method_31_code
def yM13 : MethodName := ⟨"java/lang/AbstractStringBuilder", "append", "(C)Ljava/lang/AbstractStringBuilder;"⟩
abbrev bM14 : ByteArray := prog_24_method_14_code
def yM14 : MethodName := ⟨"java/lang/StringBuilder", "append", "(C)Ljava/lang/StringBuilder;"⟩
abbrev bM15 : ByteArray := prog_31_method_131_code
def yM15 : MethodName := ⟨"java/util/Arrays", "checkLength", "(II)V"⟩
abbrev bM16 : ByteArray := prog_31_method_133_code
def yM16 : MethodName := ⟨"java/util/Arrays", "copyOfRangeByte", "([BII)[B"⟩
abbrev bM17 : ByteArray := prog_31_method_132_code
def yM17 : MethodName := ⟨"java/util/Arrays", "copyOfRange", "([BII)[B"⟩
abbrev bM18 : ByteArray := prog_23_method_150_code
def yM18 : MethodName := ⟨"java/lang/String", "<init>", "(Ljava/lang/AbstractStringBuilder;Ljava/lang/Void;)V"⟩
abbrev bM19 : ByteArray := prog_23_method_53_code
def yM19 : MethodName := ⟨"java/lang/String", "<init>", "(Ljava/lang/StringBuilder;)V"⟩
abbrev bM20 : ByteArray := prog_24_method_42_code
def yM20 : MethodName := ⟨"java/lang/StringBuilder", "toString", "()Ljava/lang/String;"⟩
abbrev bM21 : ByteArray := prog_23_method_152_code
def yM21 : MethodName := ⟨"java/lang/String", "coder", "()B"⟩
abbrev bM22 : ByteArray := prog_23_method_54_code
def yM22 : MethodName := ⟨"java/lang/String", "length", "()I"⟩
abbrev bM23 : ByteArray := prog_11_method_1_code
def yM23 : MethodName := ⟨"MarkupStore$Tree", "<init>", "()V"⟩
abbrev bM24 : ByteArray := prog_11_method_2_code
def yM24 : MethodName := ⟨"MarkupStore$Tree", "find", "(I)LMarkupStore$Node;"⟩
abbrev bM25 : ByteArray := prog_11_method_11_code
def yM25 : MethodName := ⟨"MarkupStore$Tree", "keep", "()V"⟩
abbrev bM26 : ByteArray := prog_11_method_13_code
def yM26 : MethodName := ⟨"MarkupStore$Tree", "setPlaces", "()V"⟩
abbrev bM27 : ByteArray := prog_11_method_9_code
def yM27 : MethodName := ⟨"MarkupStore$Tree", "takeOut", "(II)V"⟩
abbrev bM28 : ByteArray := prog_11_method_10_code
def yM28 : MethodName := ⟨"MarkupStore$Tree", "clear", "()V"⟩
abbrev bM29 : ByteArray := prog_11_method_12_code
def yM29 : MethodName := ⟨"MarkupStore$Tree", "giveBack", "()V"⟩
abbrev bM30 : ByteArray := prog_10_method_1_code
def yM30 : MethodName := ⟨"MarkupStore$TextReader", "<init>", "(Ljava/lang/String;)V"⟩
abbrev bM31 : ByteArray := prog_3_method_1_code
def yM31 : MethodName := ⟨"MarkupStore$MarkupReader", "<init>", "(Ljava/lang/String;Ljava/lang/StringBuilder;)V"⟩
abbrev bM32 : ByteArray := prog_10_method_4_code
def yM32 : MethodName := ⟨"MarkupStore$TextReader", "seen", "(I)C"⟩
abbrev bM33 : ByteArray := prog_10_method_3_code
def yM33 : MethodName := ⟨"MarkupStore$TextReader", "failAt", "(I)Z"⟩
abbrev bM34 : ByteArray := prog_10_method_2_code
def yM34 : MethodName := ⟨"MarkupStore$TextReader", "failed", "()Z"⟩
abbrev bM35 : ByteArray := prog_3_method_5_code
def yM35 : MethodName := ⟨"MarkupStore$MarkupReader", "readDocument", "()Z"⟩
abbrev bM36 : ByteArray := prog_8_method_1_code
def yM36 : MethodName := ⟨"MarkupStore$Scribe", "<init>", "(I)V"⟩
abbrev bM37 : ByteArray := prog_8_method_3_code
def yM37 : MethodName := ⟨"MarkupStore$Scribe", "closeUpTo", "(LMarkupStore$Node;LMarkupStore$Node;)V"⟩
abbrev bM38 : ByteArray := prog_8_method_2_code
def yM38 : MethodName := ⟨"MarkupStore$Scribe", "write", "(LMarkupStore$Tree;)V"⟩
abbrev bM39 : ByteArray := prog_1_method_1_code
def yM39 : MethodName := ⟨"MarkupStore", "<init>", "()V"⟩
abbrev bM40 : ByteArray := prog_1_method_19_code
def yM40 : MethodName := ⟨"MarkupStore", "useBuffer", "()Ljava/lang/String;"⟩
abbrev bM41 : ByteArray := prog_1_method_20_code
def yM41 : MethodName := ⟨"MarkupStore", "beginBatch", "()V"⟩
abbrev bM42 : ByteArray := prog_1_method_2_code
def yM42 : MethodName := ⟨"MarkupStore", "type", "(C)Z"⟩
abbrev bM43 : ByteArray := prog_1_method_3_code
def yM43 : MethodName := ⟨"MarkupStore", "load", "()I"⟩
abbrev bM44 : ByteArray := prog_1_method_4_code
def yM44 : MethodName := ⟨"MarkupStore", "insert", "(II)I"⟩
abbrev bM45 : ByteArray := prog_1_method_5_code
def yM45 : MethodName := ⟨"MarkupStore", "remove", "(I)I"⟩
abbrev bM46 : ByteArray := prog_1_method_6_code
def yM46 : MethodName := ⟨"MarkupStore", "replace", "(I)Z"⟩
abbrev bM47 : ByteArray := prog_1_method_7_code
def yM47 : MethodName := ⟨"MarkupStore", "query", "(I)I"⟩
abbrev bM48 : ByteArray := prog_1_method_8_code
def yM48 : MethodName := ⟨"MarkupStore", "result", "(I)I"⟩
abbrev bM49 : ByteArray := prog_1_method_9_code
def yM49 : MethodName := ⟨"MarkupStore", "commit", "()I"⟩
abbrev bM50 : ByteArray := prog_1_method_10_code
def yM50 : MethodName := ⟨"MarkupStore", "crash", "()I"⟩
abbrev bM51 : ByteArray := prog_1_method_11_code
def yM51 : MethodName := ⟨"MarkupStore", "kind", "(I)I"⟩
abbrev bM52 : ByteArray := prog_1_method_12_code
def yM52 : MethodName := ⟨"MarkupStore", "node", "(II)I"⟩
abbrev bM53 : ByteArray := prog_1_method_13_code
def yM53 : MethodName := ⟨"MarkupStore", "letter", "(II)I"⟩
abbrev bM54 : ByteArray := prog_1_method_14_code
def yM54 : MethodName := ⟨"MarkupStore", "label", "(II)I"⟩
abbrev bM55 : ByteArray := prog_1_method_15_code
def yM55 : MethodName := ⟨"MarkupStore", "root", "()I"⟩
abbrev bM56 : ByteArray := prog_1_method_16_code
def yM56 : MethodName := ⟨"MarkupStore", "nodes", "()I"⟩
abbrev bM57 : ByteArray := prog_1_method_17_code
def yM57 : MethodName := ⟨"MarkupStore", "length", "()I"⟩
abbrev bM58 : ByteArray := prog_1_method_18_code
def yM58 : MethodName := ⟨"MarkupStore", "written", "(I)I"⟩
abbrev bM59 : ByteArray := prog_14_method_1_code
def yM59 : MethodName := ⟨"MarkupStoreModel", "<init>", "()V"⟩
abbrev bM60 : ByteArray := prog_14_method_4_code
def yM60 : MethodName := ⟨"MarkupStoreModel", "count", "()I"⟩
abbrev bM61 : ByteArray := prog_14_method_6_code
def yM61 : MethodName := ⟨"MarkupStoreModel", "place", "(I)I"⟩
abbrev bM62 : ByteArray := prog_14_method_36_code
def yM62 : MethodName := ⟨"MarkupStoreModel", "type", "(C)Z"⟩
abbrev bM63 : ByteArray := prog_14_method_15_code
def yM63 : MethodName := ⟨"MarkupStoreModel", "error", "(I)V"⟩
abbrev bM64 : ByteArray := prog_14_method_28_code
def yM64 : MethodName := ⟨"MarkupStoreModel", "parse", "(ZI)V"⟩
abbrev bM65 : ByteArray := prog_14_method_37_code
def yM65 : MethodName := ⟨"MarkupStoreModel", "loaded", "()I"⟩
abbrev bM66 : ByteArray := prog_14_method_38_code
def yM66 : MethodName := ⟨"MarkupStoreModel", "load", "()I"⟩
abbrev bM67 : ByteArray := prog_14_method_41_code
def yM67 : MethodName := ⟨"MarkupStoreModel", "insert", "(II)I"⟩
abbrev bM68 : ByteArray := prog_14_method_43_code
def yM68 : MethodName := ⟨"MarkupStoreModel", "remove", "(I)I"⟩
abbrev bM69 : ByteArray := prog_14_method_44_code
def yM69 : MethodName := ⟨"MarkupStoreModel", "replace", "(I)Z"⟩
abbrev bM70 : ByteArray := prog_14_method_66_code
def yM70 : MethodName := ⟨"MarkupStoreModel", "query", "(I)I"⟩
abbrev bM71 : ByteArray := prog_14_method_70_code
def yM71 : MethodName := ⟨"MarkupStoreModel", "kind", "(I)I"⟩
abbrev bM72 : ByteArray := prog_14_method_72_code
def yM72 : MethodName := ⟨"MarkupStoreModel", "node", "(II)I"⟩
abbrev bM73 : ByteArray := prog_14_method_73_code
def yM73 : MethodName := ⟨"MarkupStoreModel", "letter", "(II)I"⟩
abbrev bM74 : ByteArray := prog_14_method_74_code
def yM74 : MethodName := ⟨"MarkupStoreModel", "label", "(II)I"⟩
abbrev bM75 : ByteArray := prog_14_method_67_code
def yM75 : MethodName := ⟨"MarkupStoreModel", "result", "(I)I"⟩
abbrev bM76 : ByteArray := prog_14_method_75_code
def yM76 : MethodName := ⟨"MarkupStoreModel", "root", "()I"⟩
abbrev bM77 : ByteArray := prog_14_method_76_code
def yM77 : MethodName := ⟨"MarkupStoreModel", "nodes", "()I"⟩
abbrev bM78 : ByteArray := prog_14_method_83_code
def yM78 : MethodName := ⟨"MarkupStoreModel", "write", "(I)V"⟩
abbrev bM79 : ByteArray := prog_14_method_84_code
def yM79 : MethodName := ⟨"MarkupStoreModel", "length", "()I"⟩
abbrev bM80 : ByteArray := prog_14_method_85_code
def yM80 : MethodName := ⟨"MarkupStoreModel", "written", "(I)I"⟩
abbrev bM81 : ByteArray := prog_14_method_35_code
def yM81 : MethodName := ⟨"MarkupStoreModel", "save", "()V"⟩
abbrev bM82 : ByteArray := prog_14_method_68_code
def yM82 : MethodName := ⟨"MarkupStoreModel", "commit", "()I"⟩
abbrev bM83 : ByteArray := prog_14_method_69_code
def yM83 : MethodName := ⟨"MarkupStoreModel", "crash", "()I"⟩
